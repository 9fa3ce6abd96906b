/-! ===== the world: the machine's cells that the abstract heap stands for (mine) ===== -/
/-- what the words 'given' say: the classes, the array classes, where the cells begin, the script and the two texts, a static that is only carried -/
abbrev Gl : Type := (Nat → ClassId) × (Nat → Nat → Nat) × (Nat → ClassId) × Nat × (Nat → Nat) × Value
def gl_D (g : Gl) : va_G := (g.1, g.2.1)
def gl_cy (g : Gl) : Nat → ClassId := g.2.2.1
def gl_b (g : Gl) : Nat := g.2.2.2.1
def gl_r (g : Gl) : Nat → Nat := g.2.2.2.2.1
def gl_f (g : Gl) : Value := g.2.2.2.2.2
def gl_A (g : Gl) : Nat → Prop := fun q => gl_b g ≤ q
def gl_ad (g : Gl) (a : Nat) : Nat := if a < 5 then gl_r g a else gl_b g + (a - 5)
def gl_cv (g : Gl) : Value → Value
  | .ref a => .ref (gl_ad g a)
  | .float _ => gl_f g
  | v => v
def gl_lv (g : Gl) (q : Nat × Value) : Nat × Value := (q.1, gl_cv g q.2)
def ab_fv (g : Gl) (h : Hp) (a k t : Nat) : Value := match t with
  | 1 => .long (ab_J h a k)
  | 2 => va_rf ((ab_R h a k).map (gl_ad g))
  | _ => .int (ab_I h a k)
def ab_fl (g : Gl) (h : Hp) (a : Nat) (ts : List Nat) : List Value := (List.range ts.length).map (fun k => ab_fv g h a k (ts.getD k 0))
def ab_ar (c : ClassId) (n : Nat) (f : Nat → Option Nat) : va_E := .inl (c, n, .inr (.inr (.inr (.inr f))))
def ab_ce (g : Gl) (h : Hp) (a : Nat) : va_E := match ab_K h a with
  | 13 => .inl (gl_cy g 0, ab_L h a, .inl (ab_I h a))
  | 14 => .inl (gl_cy g 1, ab_L h a, .inr (.inl (ab_J h a)))
  | 15 => .inl (gl_cy g 2, ab_L h a, .inl (ab_I h a))
  | 16 => ab_ar (gl_cy g 3) (ab_L h a) (fun k => (ab_R h a k).map (gl_ad g))
  | 17 => ab_ar (gl_cy g 4) (ab_L h a) (fun k => (ab_R h a k).map (gl_ad g))
  | 18 => ab_ar (gl_cy g 5) (ab_L h a) (fun k => (ab_R h a k).map (gl_ad g))
  | c => .inr (c, ab_fl g h a (ab_fts.getD c []))
def ab_ws (g : Gl) (h : Hp) : va_W := (List.range (ab_N h - 5)).map (fun i => (gl_b g + i, ab_ce g h (i + 5)))
def ab_tys (g : Gl) : List (ClassId × FieldType) := [(gl_cy g 0, .int), (gl_cy g 1, .long), (gl_cy g 2, .boolean), (gl_cy g 3, .object RX1), (gl_cy g 4, .object RX9), (gl_cy g 5, .array .int)]
def ab_b0 : List Int32 := [112, 97, 99, 101, 115, 32, 100, 114, 105, 101, 115, 32, 115, 104, 101, 100, 115, 32, 104, 111, 114, 115, 101, 32, 112, 105, 101, 99, 101, 32, 112, 101, 103, 32, 115, 111, 99, 107, 32, 115, 116, 97, 114, 116, 32, 119, 105, 110, 100, 32, 104, 111, 117, 114, 32, 115, 117, 110, 32, 104, 105, 110, 103, 101, 115, 32, 108, 111, 97, 100, 32, 99, 101, 108, 108, 32, 119, 104, 111, 32, 115, 116, 117, 102, 102, 32, 119, 101, 105, 103, 104, 116, 32, 119, 101, 116, 32, 97, 116, 32, 116, 111, 32, 111, 110, 32, 105, 102, 32, 116, 104, 101, 110, 32, 101, 108, 115, 101, 32, 101, 110, 100, 32, 111, 114, 32, 97, 110, 100, 32, 110, 111, 116, 32, 116, 101, 110, 116, 104, 32, 119, 105, 110, 100, 115, 32]
def ab_b1 : List Int32 := [60, 62, 61, 35, 43, 45, 42, 47, 40, 41, 59]
/-- the heap at the law's entry: the script, the two texts and their bytes -/
def ab_h0 (L : Nat) (xs : Nat → Int32) : Hp :=
  (fun a => [19, 20, 21, 20, 21].getD a 22, fun a => [L, 0, ab_b0.length, 0, ab_b1.length].getD a 0,
   fun a => match a with
     | 0 => xs
     | 2 => fun k => ab_b0.getD k 0
     | 4 => fun k => ab_b1.getD k 0
     | _ => fun _ => 0,
   fun _ _ => 0,
   fun a k => match a, k with
     | 1, 0 => some 2
     | 3, 0 => some 4
     | _, _ => none,
   5)
/-- the first five cells are as they were, what isn't made has kind 22 -/
def ab_wf (L : Nat) (xs : Nat → Int32) (h : Hp) : Prop := 5 ≤ ab_N h ∧ (∀ a, a < 5 → ab_K h a = ab_K (ab_h0 L xs) a ∧ ab_L h a = ab_L (ab_h0 L xs) a ∧ ab_I h a = ab_I (ab_h0 L xs) a ∧ ab_R h a = ab_R (ab_h0 L xs) a) ∧ ∀ a, ab_N h ≤ a → ab_K h a = 22
def ab_rel (g : Gl) (L : Nat) (xs : Nat → Int32) (h : Hp) (H : Heap) : Prop := va_P (gl_D g) vwCl (ab_ws g h) H ∧ H.size = gl_b g + (ab_N h - 5) ∧ ab_wf L xs h
theorem ab_k0 {L : Nat} {xs : Nat → Int32} {h : Hp} (hw : ab_wf L xs h) {a : Nat} (hk : ab_K h a ≤ 18) : 5 ≤ a ∧ a < ab_N h := by
  refine ⟨?_, ?_⟩
  · refine Nat.le_of_not_lt fun q => ?_
    have e := (hw.2.1 a q).1
    rw [e] at hk
    rcases (show a = 0 ∨ a = 1 ∨ a = 2 ∨ a = 3 ∨ a = 4 by omega) with rfl | rfl | rfl | rfl | rfl <;> first | exact absurd (show (19 : Nat) ≤ 18 from hk) (by decide) | exact absurd (show (20 : Nat) ≤ 18 from hk) (by decide) | exact absurd (show (21 : Nat) ≤ 18 from hk) (by decide)
  · refine Nat.lt_of_not_le fun q => ?_
    have e := hw.2.2 a q
    rw [e] at hk
    exact absurd hk (by decide)
theorem ab_ad5 (g : Gl) {a : Nat} (h : 5 ≤ a) : gl_ad g a = gl_b g + (a - 5) := by
  unfold gl_ad
  rw [if_neg (by omega)]
theorem ab_at (g : Gl) (h : Hp) {a : Nat} (h5 : 5 ≤ a) (hn : a < ab_N h) : (ab_ws g h)[a - 5]? = some (gl_ad g a, ab_ce g h a) := by
  unfold ab_ws
  rw [List.getElem?_map, List.getElem?_range (by omega), ab_ad5 g h5]
  show some (gl_b g + (a - 5), ab_ce g h (a - 5 + 5)) = _
  rw [show a - 5 + 5 = a by omega]
theorem ab_len (g : Gl) (h : Hp) : (ab_ws g h).length = ab_N h - 5 := by
  unfold ab_ws
  rw [List.length_map, List.length_range]
theorem ab_D (g : Gl) (h : Hp) : va_D (gl_A g) (ab_ws g h) := by
  have key : ∀ (k : Nat) (q : Nat × va_E), (ab_ws g h)[k]? = some q → q.1 = gl_b g + k := by
    intro k q hk
    unfold ab_ws at hk
    rw [List.getElem?_map] at hk
    cases hr : (List.range (ab_N h - 5))[k]? with
    | none => rw [hr] at hk; cases hk
    | some i =>
      rw [hr] at hk
      have hi := List.getElem?_eq_some_iff.mp hr
      obtain ⟨h1, h2⟩ := hi
      rw [List.getElem_range] at h2
      subst h2
      cases hk
      rfl
  refine ⟨fun i j p q hi hj e => ?_, fun k q hk => ?_⟩
  · have e1 := key i p hi
    have e2 := key j q hj
    omega
  · show gl_b g ≤ q.1
    rw [key k q hk]
    exact Nat.le_add_right _ _
/-- a cell is written: the others stand -/
theorem ab_set (g : Gl) {h h' : Hp} {a : Nat} (h5 : 5 ≤ a) (hn : a < ab_N h) (hN : ab_N h' = ab_N h) (ho : ∀ b, b ≠ a → ab_ce g h' b = ab_ce g h b) : (ab_ws g h).set (a - 5) (gl_ad g a, ab_ce g h' a) = ab_ws g h' := by
  apply List.ext_getElem?
  intro k
  by_cases hk : k = a - 5
  · subst hk
    rw [List.getElem?_set_self (by rw [ab_len]; omega), ab_at g h' h5 (by rw [hN]; exact hn)]
  · rw [List.getElem?_set_ne (Ne.symm hk)]
    unfold ab_ws
    rw [hN, List.getElem?_map, List.getElem?_map]
    cases hr : (List.range (ab_N h - 5))[k]? with
    | none => rfl
    | some i =>
      obtain ⟨h1, h2⟩ := List.getElem?_eq_some_iff.mp hr
      rw [List.getElem_range] at h2
      subst h2
      show some (gl_b g + k, ab_ce g h (k + 5)) = some (gl_b g + k, ab_ce g h' (k + 5))
      rw [ho (k + 5) (by omega)]
/-- a cell is made: the others stand -/
theorem ab_psh (g : Gl) {h h' : Hp} (h5 : 5 ≤ ab_N h) (hN : ab_N h' = ab_N h + 1) (ho : ∀ b, b < ab_N h → ab_ce g h' b = ab_ce g h b) : ab_ws g h ++ [(gl_b g + (ab_N h - 5), ab_ce g h' (ab_N h))] = ab_ws g h' := by
  unfold ab_ws
  rw [hN, show ab_N h + 1 - 5 = (ab_N h - 5) + 1 by omega, List.range_succ, List.map_append]
  congr 1
  · apply List.map_congr_left
    intro i hi
    rw [ho (i + 5) (by have := List.mem_range.mp hi; omega)]
  · show [_] = [(gl_b g + (ab_N h - 5), ab_ce g h' (ab_N h - 5 + 5))]
    rw [show ab_N h - 5 + 5 = ab_N h by omega]
