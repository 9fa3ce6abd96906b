/-! ===== words: the class's search among the letters finds what the code says (mine) ===== -/
theorem fwr_all (p : Nat → Bool) (b : Nat → Nat) (n : Nat) : ∀ r k, n - k ≤ r → (∀ j, k ≤ j → j < fwr p b n r k → j < n ∧ p (b j) = true) ∧ ¬ (fwr p b n r k < n ∧ p (b (fwr p b n r k)) = true) := by
  intro r
  induction r with
  | zero =>
    intro k h
    refine ⟨fun j h1 h2 => ?_, fun z => ?_⟩
    · have h2 : j < k := h2; omega
    · have := z.1
      have : k < n := this
      omega
  | succ r ih =>
    intro k h
    have e : fwr p b n (r + 1) k = if k < n ∧ p (b k) = true then fwr p b n r (k + 1) else k := rfl
    by_cases c : k < n ∧ p (b k) = true
    · rw [if_pos c] at e
      rw [e]
      obtain ⟨a1, a2⟩ := ih (k + 1) (by omega)
      refine ⟨fun j h1 h2 => ?_, a2⟩
      by_cases ej : j = k
      · rw [ej]; exact c
      · exact a1 j (by omega) h2
    · rw [if_neg c] at e
      rw [e]
      exact ⟨fun j h1 h2 => by omega, c⟩
theorem fw_all (p : Nat → Bool) (b : Nat → Nat) (n k : Nat) : (∀ j, k ≤ j → j < fw p b n k → j < n ∧ p (b j) = true) ∧ ¬ (fw p b n k < n ∧ p (b (fw p b n k)) = true) := fwr_all p b n (n - k) k (Nat.le_refl _)
def usL (b : Nat → Nat) : Nat → Nat → List Nat
  | _, 0 => []
  | k, len + 1 => b k :: usL b (k + 1) len
def fs (w x : Nat) : Nat := if w / 281474976710656 ≠ 0 then 1152921504606846976 else w * 256 + x
theorem wdr_us (b : Nat → Nat) (n : Nat) : ∀ len r k w0, len ≤ r → (∀ j, j < len → k + j < n ∧ isL (b (k + j)) = true) → ¬ (k + len < n ∧ isL (b (k + len)) = true) → wdr b n r k w0 = (usL b k len).foldl fs w0 := by
  intro len
  induction len with
  | zero =>
    intro r k w0 _ _ h
    exact isL_0 b n h
  | succ len ih =>
    intro r k w0 hr h1 h2
    cases r with
    | zero => omega
    | succ r =>
      show (if k < n ∧ isL (b k) = true then wdr b n r (k + 1) (fs w0 (b k)) else w0) = (usL b (k + 1) len).foldl fs (fs w0 (b k))
      rw [if_pos (show k < n ∧ isL (b k) = true from h1 0 (by omega))]
      refine ih r (k + 1) _ (by omega) (fun j hj => ?_) ?_
      · have := h1 (j + 1) (by omega)
        rw [show k + (j + 1) = k + 1 + j by omega] at this
        exact this
      · rw [show k + 1 + len = k + (len + 1) by omega]
        exact h2
def mB (b : Nat → Nat) (n fr : Nat) : Nat → List Nat → Bool
  | _, [] => true
  | m, c :: w => (bA b n (fr + m) == c) && mB b n fr (m + 1) w
theorem woL_w (b : Nat → Nat) (n fr len : Nat) (rest : List Nat) : ∀ (w : List Nat) (wd m : Nat) (s : Bool), (∀ c, c ∈ w → c ≠ 32) → woL b n fr len (w ++ 32 :: rest) wd m s = if (s && mB b n fr m w) = true ∧ m + w.length = len then wd else woL b n fr len rest (wd + 1) 0 true := by
  intro w
  induction w with
  | nil =>
    intro wd m s _
    show (if (32 : Nat) = 32 then (if s = true ∧ m = len then wd else woL b n fr len rest (wd + 1) 0 true) else _) = _
    rw [if_pos rfl]
    show _ = if (s && true) = true ∧ m + 0 = len then wd else _
    rw [Bool.and_true]
    rfl
  | cons c w ih =>
    intro wd m s h
    show (if c = 32 then (if s = true ∧ m = len then wd else woL b n fr len (w ++ 32 :: rest) (wd + 1) 0 true) else woL b n fr len (w ++ 32 :: rest) wd (m + 1) (s && (bA b n (fr + m) == c))) = _
    rw [if_neg (h c (List.mem_cons_self ..)), ih wd (m + 1) _ (fun x hx => h x (List.mem_cons_of_mem _ hx))]
    show _ = if (s && ((bA b n (fr + m) == c) && mB b n fr (m + 1) w)) = true ∧ m + (w.length + 1) = len then wd else _
    rw [Bool.and_assoc, show m + (w.length + 1) = m + 1 + w.length by omega]
theorem woL_f (b : Nat → Nat) (n fr len c : Nat) : ∀ (ws : List (List Nat)) (wd : Nat), (∀ w, w ∈ ws → (∀ x, x ∈ w → x ≠ 32) ∧ ((mB b n fr 0 w = true ∧ w.length = len) ↔ c = cod w)) → woL b n fr len ((ws.map (fun w => w ++ [32])).flatten) wd 0 true = fnd c (ws.map cod) wd := by
  intro ws
  induction ws with
  | nil => intro wd _; rfl
  | cons w ws ih =>
    intro wd h
    obtain ⟨h1, h2⟩ := h w (List.mem_cons_self ..)
    have e : ((w :: ws).map (fun w => w ++ [32])).flatten = w ++ 32 :: (ws.map (fun w => w ++ [32])).flatten := by
      rw [List.map_cons, List.flatten_cons, List.append_assoc]
      rfl
    rw [e, woL_w b n fr len _ w wd 0 true h1, ih (wd + 1) (fun w hw => h w (List.mem_cons_of_mem _ hw))]
    show _ = if c = cod w then wd else fnd c (ws.map cod) (wd + 1)
    rw [Bool.true_and, Nat.zero_add]
    by_cases z : c = cod w
    · rw [if_pos z, if_pos (h2.mpr z)]
    · rw [if_neg z, if_neg (fun y => z (h2.mp y))]
theorem mB_us (b : Nat → Nat) (n fr : Nat) : ∀ (w : List Nat) (m : Nat), fr + m + w.length ≤ n → (mB b n fr m w = true ↔ usL b (fr + m) w.length = w) := by
  intro w
  induction w with
  | nil => intro m _; exact ⟨fun _ => rfl, fun _ => rfl⟩
  | cons c w ih =>
    intro m h
    rw [List.length_cons] at h ⊢
    show ((bA b n (fr + m) == c) && mB b n fr (m + 1) w) = true ↔ b (fr + m) :: usL b (fr + m + 1) w.length = c :: w
    rw [Bool.and_eq_true, beq_iff_eq, List.cons.injEq, ih (m + 1) (by omega)]
    unfold bA
    rw [if_pos (by omega), show fr + (m + 1) = fr + m + 1 by omega]
def lts (w : List Nat) : Prop := ∀ x, x ∈ w → 65 ≤ x ∧ x ≤ 122
theorem us_lts {b : Nat → Nat} : ∀ len k, (∀ j, j < len → isL (b (k + j)) = true) → lts (usL b k len) := by
  intro len
  induction len with
  | zero => intro k _ x hx; exact absurd hx (List.not_mem_nil)
  | succ len ih =>
    intro k h x hx
    rcases List.mem_cons.mp hx with e | e
    · have := (isL_i _).mp (h 0 (by omega))
      rw [Nat.add_zero] at this
      rw [e]
      omega
    · refine ih (k + 1) (fun j hj => ?_) x e
      have := h (j + 1) (by omega)
      rw [show k + (j + 1) = k + 1 + j by omega] at this
      exact this
theorem cod_inj : ∀ k (w u : List Nat), w.length = k → lts w → lts u → cod w < 281474976710656 → u.foldl fs 0 = cod w → u = w := by
  intro k
  induction k with
  | zero =>
    intro w u hk hw hu hc he
    have e : w = [] := List.eq_nil_of_length_eq_zero hk
    subst e
    rcases List.eq_nil_or_concat u with z | ⟨u', x, z⟩
    · exact z
    · rw [List.concat_eq_append] at z
      subst z
      rw [List.foldl_append] at he
      have he : fs (u'.foldl fs 0) x = 0 := he
      have := hu x (List.mem_append_right _ (List.mem_singleton.mpr rfl))
      unfold fs at he
      split at he <;> omega
  | succ k ih =>
    intro w u hk hw hu hc he
    rcases List.eq_nil_or_concat w with z | ⟨w', y, z⟩
    · rw [z] at hk; exact absurd hk (by show ¬ 0 = k + 1; omega)
    · rw [List.concat_eq_append] at z
      subst z
      have cw : cod (w' ++ [y]) = cod w' * 256 + y := by unfold cod; rw [List.foldl_append]; rfl
      rw [cw] at hc he
      have yb := hw y (List.mem_append_right _ (List.mem_singleton.mpr rfl))
      rcases List.eq_nil_or_concat u with z | ⟨u', x, z⟩
      · subst z
        have he : 0 = cod w' * 256 + y := he
        omega
      · rw [List.concat_eq_append] at z
        subst z
        rw [List.foldl_append] at he
        have he : fs (u'.foldl fs 0) x = cod w' * 256 + y := he
        have xb := hu x (List.mem_append_right _ (List.mem_singleton.mpr rfl))
        obtain ⟨A, eA⟩ : ∃ A, A = u'.foldl fs 0 := ⟨_, rfl⟩
        rw [← eA] at he
        unfold fs at he
        split at he
        · omega
        · have e1 : u'.foldl fs 0 = cod w' := by rw [← eA]; omega
          have e2 : x = y := by omega
          rw [List.length_append] at hk
          have hk : w'.length + 1 = k + 1 := hk
          rw [ih w' u' (by omega) (fun x hx => hw x (List.mem_append_left _ hx)) (fun x hx => hu x (List.mem_append_left _ hx)) (by omega) e1, e2]
theorem wls_ok : ∀ w, w ∈ wls → (∀ x, x ∈ w → 65 ≤ x ∧ x ≤ 122) ∧ cod w < 281474976710656 ∧ w.foldl fs 0 = cod w := by decide +kernel
theorem us_len (b : Nat → Nat) : ∀ len k, (usL b k len).length = len := by
  intro len
  induction len with
  | zero => intro k; rfl
  | succ len ih => intro k; show (usL b (k + 1) len).length + 1 = len + 1; rw [ih]
/-- what the class finds is what the code says -/
theorem wo_tok (b : Nat → Nat) {n k : Nat} (hk : k < n) : woL b n k (fw isL b n k - k) sb0 0 0 true = tokW (wdr b n (n - k) k 0) := by
  obtain ⟨a1, a2⟩ := fw_all isL b n k
  have a3 := fw_b isL b (show k ≤ n by omega)
  obtain ⟨len, el⟩ : ∃ len, len = fw isL b n k - k := ⟨_, rfl⟩
  have ef : fw isL b n k = k + len := by omega
  rw [ef] at a1 a2 a3
  rw [← el]
  have lt : ∀ j, j < len → k + j < n ∧ isL (b (k + j)) = true := fun j hj => a1 (k + j) (by omega) (by omega)
  rw [wdr_us b n len (n - k) k 0 (by omega) lt a2]
  have ul := us_lts len k (fun j hj => (lt j hj).2)
  unfold tokW sb0
  rw [← wcs_cod]
  refine woL_f b n k len _ wls 0 (fun w hw => ?_)
  obtain ⟨o1, o2, o3⟩ := wls_ok w hw
  refine ⟨fun x hx => by have := o1 x hx; omega, ?_⟩
  constructor
  · intro z
    have := (mB_us b n k w 0 (by rw [z.2]; omega)).mp z.1
    rw [z.2, Nat.add_zero] at this
    rw [this]
    exact o3
  · intro z
    have := cod_inj w.length w _ rfl o1 ul o2 z
    have wl : w.length = len := by rw [← this]; exact us_len b len k
    refine ⟨?_, wl⟩
    rw [mB_us b n k w 0 (by rw [wl]; omega), wl, Nat.add_zero]
    exact this
