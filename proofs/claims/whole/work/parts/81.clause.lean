/-! ===== clauses and texts: what both readers do (mine) ===== -/
abbrev CK : Type := Nat × List Nat
abbrev LW : Type := Nat → Option (Nat × List (Nat × Nat) × Nat × List Nat)
/-- a fault, the token come to, the clause, its code on both sides -/
abbrev CR1 : Type := Nat × Nat × CK × List (Nat × Nat) × List Nat
def cl1 (T V : Nat → Nat) (cnt : Nat) (lws : LW) (a i : Nat) : CR1 :=
  if 9 < T i then (1, i, (0, []), [], [])
  else if T i < 3 ∧ (lws (T i)).isSome = true then (4, i, (0, []), [], [])
  else if 24 ≤ cnt then (6, i, (0, []), [], [])
  else if T i < 3 then (if (ps T V (T i) 4000 3 0 a (i + 1)).1 ≠ 0 then ((ps T V (T i) 4000 3 0 a (i + 1)).1, (ps T V (T i) 4000 3 0 a (i + 1)).2.1, (0, []), [], []) else if T (ps T V (T i) 4000 3 0 a (i + 1)).2.1 ≠ 59 then (1, (ps T V (T i) 4000 3 0 a (i + 1)).2.1, (0, []), [], []) else (0, (ps T V (T i) 4000 3 0 a (i + 1)).2.1 + 1, (T i, []), (ps T V (T i) 4000 3 0 a (i + 1)).2.2.1, (ps T V (T i) 4000 3 0 a (i + 1)).2.2.2))
  else (if (rdA T V (deedL (srt (T i))) (i + 1) []).1 ≠ 0 then ((rdA T V (deedL (srt (T i))) (i + 1) []).1, (rdA T V (deedL (srt (T i))) (i + 1) []).2.1, (0, []), [], []) else if T (rdA T V (deedL (srt (T i))) (i + 1) []).2.1 ≠ 59 then (1, (rdA T V (deedL (srt (T i))) (i + 1) []).2.1, (0, []), [], []) else (0, (rdA T V (deedL (srt (T i))) (i + 1) []).2.1 + 1, (srt (T i), (rdA T V (deedL (srt (T i))) (i + 1) []).2.2), [], []))
def lwU (lws : LW) (k w : Nat) (r : List (Nat × Nat)) (a : Nat) (c : List Nat) : LW := if k < 3 then fun j => if j = k then some (w, r, a, c) else lws j else lws
/-- a fault, the token come to, the clauses, the laws, how much is written on both sides -/
abbrev TR1 : Type := Nat × Nat × List CK × LW × Nat × Nat
def txL (T V : Nat → Nat) : Nat → List CK → LW → Nat → Nat → Nat → TR1
  | 0, cls, lws, w, a, i => (9, i, cls, lws, w, a)
  | s + 1, cls, lws, w, a, i => if T i = 131 then (0, i, cls, lws, w, a) else if (cl1 T V cls.length lws a i).1 ≠ 0 then ((cl1 T V cls.length lws a i).1, (cl1 T V cls.length lws a i).2.1, cls, lws, w, a) else txL T V s (cls ++ [(cl1 T V cls.length lws a i).2.2.1]) (lwU lws (T i) w (cl1 T V cls.length lws a i).2.2.2.1 a (cl1 T V cls.length lws a i).2.2.2.2) (w + (cl1 T V cls.length lws a i).2.2.2.1.length) (a + (cl1 T V cls.length lws a i).2.2.2.2.length) (cl1 T V cls.length lws a i).2.1
section CE
variable (T V : Nat → Nat) (cnt : Nat) (lws : LW) (a i : Nat)
theorem cq_1 (h : 9 < T i) : cl1 T V cnt lws a i = (1, i, (0, []), [], []) := if_pos h
theorem cq_4 (h : ¬ 9 < T i) (h2 : T i < 3 ∧ (lws (T i)).isSome = true) : cl1 T V cnt lws a i = (4, i, (0, []), [], []) := (if_neg h).trans (if_pos h2)
theorem cq_6 (h : ¬ 9 < T i) (h2 : ¬ (T i < 3 ∧ (lws (T i)).isSome = true)) (h3 : 24 ≤ cnt) : cl1 T V cnt lws a i = (6, i, (0, []), [], []) := (if_neg h).trans ((if_neg h2).trans (if_pos h3))
theorem cq_l (h2 : ¬ (T i < 3 ∧ (lws (T i)).isSome = true)) (h3 : ¬ 24 ≤ cnt) (h4 : T i < 3) {y : PO} (ey : ps T V (T i) 4000 3 0 a (i + 1) = y) : cl1 T V cnt lws a i = if y.1 ≠ 0 then (y.1, y.2.1, (0, []), [], []) else if T y.2.1 ≠ 59 then (1, y.2.1, (0, []), [], []) else (0, y.2.1 + 1, (T i, []), y.2.2.1, y.2.2.2) := by
  subst ey
  exact (if_neg (show ¬ 9 < T i by omega)).trans ((if_neg h2).trans ((if_neg h3).trans (if_pos h4)))
theorem cq_d (h : ¬ 9 < T i) (h3 : ¬ 24 ≤ cnt) (h4 : ¬ T i < 3) {y : Nat × Nat × List Nat} (ey : rdA T V (deedL (srt (T i))) (i + 1) [] = y) : cl1 T V cnt lws a i = if y.1 ≠ 0 then (y.1, y.2.1, (0, []), [], []) else if T y.2.1 ≠ 59 then (1, y.2.1, (0, []), [], []) else (0, y.2.1 + 1, (srt (T i), y.2.2), [], []) := by
  subst ey
  exact (if_neg h).trans ((if_neg (show ¬ (T i < 3 ∧ (lws (T i)).isSome = true) from fun z => h4 z.1)).trans ((if_neg h3).trans (if_neg h4)))
end CE
theorem rdA_b {T V : Nat → Nat} {L : Nat} (hT : ∀ i, T i = 131 ↔ L ≤ i) : ∀ (l : List (Nat × Nat × Nat)) (i : Nat) (acc : List Nat), (∀ s, s ∈ l → s.1 ≠ 0 → s.2.1 ≠ 131) → i ≤ L → i ≤ (rdA T V l i acc).2.1 ∧ (rdA T V l i acc).2.1 ≤ L ∧ (rdA T V l i acc).1 ≤ 2 := by
  intro l
  induction l with
  | nil => intro i acc _ h; exact ⟨Nat.le_refl _, h, Nat.zero_le _⟩
  | cons s l ih =>
    intro i acc hs hi
    have ih := ih (i + 1)
    show i ≤ (if s.1 = 0 then (if T i ≠ 130 then (1, i, acc) else if ¬ (s.2.1 ≤ V i ∧ V i ≤ s.2.2) then (2, i, acc) else rdA T V l (i + 1) (acc ++ [V i])) else (if T i ≠ s.2.1 then (1, i, acc) else rdA T V l (i + 1) acc)).2.1 ∧ (if s.1 = 0 then (if T i ≠ 130 then (1, i, acc) else if ¬ (s.2.1 ≤ V i ∧ V i ≤ s.2.2) then (2, i, acc) else rdA T V l (i + 1) (acc ++ [V i])) else (if T i ≠ s.2.1 then (1, i, acc) else rdA T V l (i + 1) acc)).2.1 ≤ L ∧ (if s.1 = 0 then (if T i ≠ 130 then (1, i, acc) else if ¬ (s.2.1 ≤ V i ∧ V i ≤ s.2.2) then (2, i, acc) else rdA T V l (i + 1) (acc ++ [V i])) else (if T i ≠ s.2.1 then (1, i, acc) else rdA T V l (i + 1) acc)).1 ≤ 2
    have lt : T i ≠ 131 → i < L := fun e => Nat.lt_of_not_le (fun w => e ((hT i).mpr w))
    by_cases c : s.1 = 0
    · rw [if_pos c]
      by_cases c1 : T i ≠ 130
      · rw [if_pos c1]; exact ⟨Nat.le_refl _, hi, by show 1 ≤ 2; omega⟩
      · rw [if_neg c1]
        by_cases c2 : ¬ (s.2.1 ≤ V i ∧ V i ≤ s.2.2)
        · rw [if_pos c2]; exact ⟨Nat.le_refl _, hi, Nat.le_refl _⟩
        · rw [if_neg c2]
          have il := lt (by omega)
          have := ih (acc ++ [V i]) (fun s hs' => hs s (List.mem_cons_of_mem _ hs')) (by omega)
          omega
    · rw [if_neg c]
      by_cases c1 : T i ≠ s.2.1
      · rw [if_pos c1]; exact ⟨Nat.le_refl _, hi, by show 1 ≤ 2; omega⟩
      · rw [if_neg c1]
        have il := lt (by have := hs s (List.mem_cons_self ..) c; omega)
        have := ih acc (fun s hs' => hs s (List.mem_cons_of_mem _ hs')) (by omega)
        omega
theorem deedL_ok : ∀ k, k < 10 → ∀ s, s ∈ deedL k → s.1 ≠ 0 → s.2.1 ≠ 131 := by decide +kernel
theorem srt_ok : ∀ t, t ≤ 9 → ¬ t < 3 → 3 ≤ srt t ∧ srt t ≤ 9 ∧ kc (srt t) = t := by decide +kernel
/-- a clause that is read lies within bounds -/
theorem cq_b {T V : Nat → Nat} {L : Nat} (hT : ∀ i, T i = 131 ↔ L ≤ i) (hL : L ≤ 300) (cnt : Nat) (lws : LW) (a i : Nat) (hi : i ≤ L) : ((cl1 T V cnt lws a i).1 = 0 → i < (cl1 T V cnt lws a i).2.1 ∧ (cl1 T V cnt lws a i).2.1 ≤ L ∧ (cl1 T V cnt lws a i).2.2.2.1.length + i < (cl1 T V cnt lws a i).2.1 ∧ (cl1 T V cnt lws a i).2.2.2.2.length + 2 * i < 2 * (cl1 T V cnt lws a i).2.1) ∧ ((cl1 T V cnt lws a i).1 ≠ 0 → (cl1 T V cnt lws a i).1 ≤ 6 ∧ (cl1 T V cnt lws a i).2.1 ≤ L) := by
  have lt : ∀ i, T i ≠ 131 → i < L := fun i e => Nat.lt_of_not_le (fun w => e ((hT i).mpr w))
  by_cases h : 9 < T i
  · rw [cq_1 _ _ _ _ _ _ h]
    exact ⟨fun z => absurd z (by show ¬ (1 : Nat) = 0; omega), fun _ => ⟨by show 1 ≤ 6; omega, hi⟩⟩
  · by_cases h2 : T i < 3 ∧ (lws (T i)).isSome = true
    · rw [cq_4 _ _ _ _ _ _ h h2]
      exact ⟨fun z => absurd z (by show ¬ (4 : Nat) = 0; omega), fun _ => ⟨by show 4 ≤ 6; omega, hi⟩⟩
    · by_cases h3 : 24 ≤ cnt
      · rw [cq_6 _ _ _ _ _ _ h h2 h3]
        exact ⟨fun z => absurd z (by show ¬ (6 : Nat) = 0; omega), fun _ => ⟨Nat.le_refl _, hi⟩⟩
      · have il := lt i (by omega)
        by_cases h4 : T i < 3
        · have A := ps_b (V := V) (lw := T i) hT 4000 3 0 a (i + 1) (by omega) (by show 10 * (L - (i + 1)) + 2 < 4000; omega)
          obtain ⟨y, ey⟩ : ∃ y, ps T V (T i) 4000 3 0 a (i + 1) = y := ⟨_, rfl⟩
          rw [cq_l _ _ _ _ _ _ h2 h3 h4 ey]
          rw [ey] at A
          by_cases z : y.1 = 0
          · rw [if_neg (fun w => w z)]
            obtain ⟨g1, g2, g3, g4⟩ := A.1.1 z
            have g5 := A.2 (by omega) z
            by_cases c : T y.2.1 = 59
            · rw [if_neg (fun w => w c)]
              have := lt y.2.1 (by omega)
              refine ⟨fun _ => ?_, fun w => absurd rfl w⟩
              show i < y.2.1 + 1 ∧ y.2.1 + 1 ≤ L ∧ y.2.2.1.length + i < y.2.1 + 1 ∧ y.2.2.2.length + 2 * i < 2 * (y.2.1 + 1)
              omega
            · rw [if_pos c]
              exact ⟨fun z => absurd z (by show ¬ (1 : Nat) = 0; omega), fun _ => ⟨by show 1 ≤ 6; omega, g2⟩⟩
          · rw [if_pos z]
            obtain ⟨g1, g2, g3⟩ := A.1.2 z
            exact ⟨fun w => absurd w z, fun _ => ⟨g1, g3⟩⟩
        · have sk := srt_ok (T i) (by omega) h4
          have A := rdA_b (V := V) hT (deedL (srt (T i))) (i + 1) [] (deedL_ok _ (by omega)) (by omega)
          obtain ⟨y, ey⟩ : ∃ y, rdA T V (deedL (srt (T i))) (i + 1) [] = y := ⟨_, rfl⟩
          rw [cq_d _ _ _ _ _ _ h h3 h4 ey]
          rw [ey] at A
          by_cases z : y.1 = 0
          · rw [if_neg (fun w => w z)]
            by_cases c : T y.2.1 = 59
            · rw [if_neg (fun w => w c)]
              have := lt y.2.1 (by omega)
              refine ⟨fun _ => ?_, fun w => absurd rfl w⟩
              show i < y.2.1 + 1 ∧ y.2.1 + 1 ≤ L ∧ 0 + i < y.2.1 + 1 ∧ 0 + 2 * i < 2 * (y.2.1 + 1)
              omega
            · rw [if_pos c]
              exact ⟨fun z => absurd z (by show ¬ (1 : Nat) = 0; omega), fun _ => ⟨by show 1 ≤ 6; omega, A.2.1⟩⟩
          · rw [if_pos z]
            exact ⟨fun w => absurd w z, fun _ => ⟨by show y.1 ≤ 6; omega, A.2.1⟩⟩
