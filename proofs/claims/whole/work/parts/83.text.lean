/-! ===== texts: what is read, pure facts; the reference reads a text (mine) ===== -/
/-- clauses and laws that belong together -/
def PDI (cls : List CK) (lws : LW) : Prop := (∀ j, j < cls.length → (cls.getD j (0, [])).1 ≤ 9 ∧ (cls.getD j (0, [])).2.length = ar (cls.getD j (0, [])).1 ∧ ∀ u, u < (cls.getD j (0, [])).2.length → (cls.getD j (0, [])).2.getD u 0 ≤ 60) ∧ (∀ k, k < 3 → lws k = none → ∀ j, j < cls.length → (cls.getD j (0, [])).1 ≠ k) ∧ (∀ j j', j < cls.length → j' < cls.length → (cls.getD j (0, [])).1 = (cls.getD j' (0, [])).1 → (cls.getD j (0, [])).1 < 3 → j = j') ∧ (∀ k, k < 3 → ∀ w r a c, lws k = some (w, r, a, c) → ∃ m v, EX (nbL k) 0 a r c m v ∧ m ≤ 62)
theorem rdA_v (T V : Nat → Nat) : ∀ (l : List (Nat × Nat × Nat)) (i : Nat) (acc : List Nat), (∀ s, s ∈ l → s.2.2 ≤ 60) → (∀ u, u < acc.length → acc.getD u 0 ≤ 60) → (rdA T V l i acc).1 = 0 → (rdA T V l i acc).2.2.length = acc.length + cnz l ∧ ∀ u, u < (rdA T V l i acc).2.2.length → (rdA T V l i acc).2.2.getD u 0 ≤ 60 := by
  intro l
  induction l with
  | nil => intro i acc _ h _; exact ⟨rfl, h⟩
  | cons s l ih =>
    intro i acc hs h h0
    have e : rdA T V (s :: l) i acc = if s.1 = 0 then (if T i ≠ 130 then (1, i, acc) else if ¬ (s.2.1 ≤ V i ∧ V i ≤ s.2.2) then (2, i, acc) else rdA T V l (i + 1) (acc ++ [V i])) else (if T i ≠ s.2.1 then (1, i, acc) else rdA T V l (i + 1) acc) := rfl
    have en : cnz (s :: l) = (if s.1 = 0 then 1 else 0) + cnz l := rfl
    rw [e] at h0 ⊢
    rw [en]
    have hs' : ∀ s, s ∈ l → s.2.2 ≤ 60 := fun s hs' => hs s (List.mem_cons_of_mem _ hs')
    by_cases c : s.1 = 0
    · rw [if_pos c] at h0 ⊢
      rw [if_pos c]
      by_cases c1 : T i ≠ 130
      · rw [if_pos c1] at h0; exact absurd h0 (by show ¬ (1 : Nat) = 0; omega)
      · rw [if_neg c1] at h0 ⊢
        by_cases c2 : ¬ (s.2.1 ≤ V i ∧ V i ≤ s.2.2)
        · rw [if_pos c2] at h0; exact absurd h0 (by show ¬ (2 : Nat) = 0; omega)
        · rw [if_neg c2] at h0 ⊢
          have s60 := hs s (List.mem_cons_self ..)
          have l1 : (acc ++ [V i]).length = acc.length + 1 := by rw [List.length_append]; rfl
          obtain ⟨a1, a2⟩ := ih (i + 1) (acc ++ [V i]) hs' (fun u hu => by
            rw [l1] at hu
            rw [getD_app]
            by_cases z : u < acc.length
            · rw [if_pos z]; exact h u z
            · rw [if_neg z, if_pos (by omega)]; omega) h0
          exact ⟨by rw [a1, l1]; omega, a2⟩
    · rw [if_neg c] at h0 ⊢
      rw [if_neg c]
      by_cases c1 : T i ≠ s.2.1
      · rw [if_pos c1] at h0; exact absurd h0 (by show ¬ (1 : Nat) = 0; omega)
      · rw [if_neg c1] at h0 ⊢
        obtain ⟨a1, a2⟩ := ih (i + 1) acc hs' h h0
        exact ⟨by rw [a1]; omega, a2⟩
theorem deedL_60 : ∀ k, k < 10 → (∀ s, s ∈ deedL k → s.2.2 ≤ 60) ∧ (3 ≤ k → cnz (deedL k) = ar k) := by decide +kernel
theorem cl_24 {T V : Nat → Nat} {cnt a i : Nat} {lws : LW} (h : (cl1 T V cnt lws a i).1 = 0) : cnt < 24 ∧ T i ≤ 9 ∧ ¬ (T i < 3 ∧ (lws (T i)).isSome = true) := by
  by_cases t9 : 9 < T i
  · rw [cq_1 _ _ _ _ _ _ t9] at h; exact absurd h (by show ¬ (1 : Nat) = 0; omega)
  · by_cases l : T i < 3 ∧ (lws (T i)).isSome = true
    · rw [cq_4 _ _ _ _ _ _ t9 l] at h; exact absurd h (by show ¬ (4 : Nat) = 0; omega)
    · by_cases c : 24 ≤ cnt
      · rw [cq_6 _ _ _ _ _ _ t9 l c] at h; exact absurd h (by show ¬ (6 : Nat) = 0; omega)
      · exact ⟨by omega, by omega, l⟩
theorem PDI_st {T V : Nat → Nat} {cls : List CK} {lws : LW} {a i : Nat} (w : Nat) (P : PDI cls lws) (h : (cl1 T V cls.length lws a i).1 = 0) : PDI (cls ++ [(cl1 T V cls.length lws a i).2.2.1]) (lwU lws (T i) w (cl1 T V cls.length lws a i).2.2.2.1 a (cl1 T V cls.length lws a i).2.2.2.2) := by
  obtain ⟨h24, t9, nol⟩ := cl_24 h
  obtain ⟨p1, p2, p3, p4⟩ := P
  -- the new clause and its law
  have key : ∃ ck r c, (cl1 T V cls.length lws a i).2.2.1 = ck ∧ (cl1 T V cls.length lws a i).2.2.2.1 = r ∧ (cl1 T V cls.length lws a i).2.2.2.2 = c ∧ ck.1 ≤ 9 ∧ ck.2.length = ar ck.1 ∧ (∀ u, u < ck.2.length → ck.2.getD u 0 ≤ 60) ∧ (T i < 3 → ck.1 = T i ∧ ∃ m v, EX (nbL (T i)) 0 a r c m v ∧ m ≤ 62) ∧ (¬ T i < 3 → 3 ≤ ck.1) := by
    by_cases l3 : T i < 3
    · obtain ⟨y, ey⟩ : ∃ y, ps T V (T i) 4000 3 0 a (i + 1) = y := ⟨_, rfl⟩
      have e := cq_l T V cls.length lws a i nol (by omega) l3 ey
      rw [e] at h ⊢
      by_cases z : y.1 = 0
      · rw [if_neg (fun w => w z)] at h ⊢
        by_cases z2 : T y.2.1 = 59
        · rw [if_neg (fun w => w z2)]
          refine ⟨_, _, _, rfl, rfl, rfl, by show T i ≤ 9; omega, ?_, fun u hu => absurd hu (Nat.not_lt_zero _), fun _ => ⟨rfl, ?_⟩, fun w => absurd l3 w⟩
          · show 0 = ar (T i)
            unfold ar
            rw [if_neg (by omega), if_neg (by omega), if_neg (by omega)]
          · have E := (ps_EX (T := T) (V := V) (lw := T i) 4000 3 0 a (i + 1) (by omega) (by rw [ey]; exact z)).1 (by omega)
            rw [ey] at E
            obtain ⟨m, v, E, hm⟩ := E
            exact ⟨m, v, E, by have : bdm 3 = 3 := rfl; omega⟩
        · rw [if_pos z2] at h; exact absurd h (by show ¬ (1 : Nat) = 0; omega)
      · rw [if_pos z] at h; exact absurd h z
    · obtain ⟨y, ey⟩ : ∃ y, rdA T V (deedL (srt (T i))) (i + 1) [] = y := ⟨_, rfl⟩
      have e := cq_d T V cls.length lws a i (by omega) (by omega) l3 ey
      have sk := srt_ok (T i) t9 l3
      rw [e] at h ⊢
      by_cases z : y.1 = 0
      · rw [if_neg (fun w => w z)] at h ⊢
        by_cases z2 : T y.2.1 = 59
        · rw [if_neg (fun w => w z2)]
          have d6 := deedL_60 (srt (T i)) (by omega)
          have R := rdA_v T V (deedL (srt (T i))) (i + 1) [] d6.1 (fun u hu => absurd hu (Nat.not_lt_zero _)) (by rw [ey]; exact z)
          rw [ey] at R
          refine ⟨_, _, _, rfl, rfl, rfl, by show srt (T i) ≤ 9; omega, ?_, R.2, fun w => absurd w l3, fun _ => sk.1⟩
          show y.2.2.length = ar (srt (T i))
          rw [R.1, d6.2 sk.1]
          exact Nat.zero_add _
        · rw [if_pos z2] at h; exact absurd h (by show ¬ (1 : Nat) = 0; omega)
      · rw [if_pos z] at h; exact absurd h z
  obtain ⟨ck, r, c, e1, e2, e3, k1, k2, k3, k4, k5⟩ := key
  rw [e1, e2, e3]
  have l1 : (cls ++ [ck]).length = cls.length + 1 := by rw [List.length_append]; rfl
  have gd : ∀ j, j < cls.length + 1 → (cls ++ [ck]).getD j (0, []) = if j < cls.length then cls.getD j (0, []) else ck := by
    intro j hj
    rw [getD_app]
    by_cases z : j < cls.length
    · rw [if_pos z, if_pos z]
    · rw [if_neg z, if_neg z, if_pos (by omega)]
  have lwk : ∀ k, lwU lws (T i) w r a c k = if T i < 3 ∧ k = T i then some (w, r, a, c) else lws k := by
    intro k
    unfold lwU
    by_cases z : T i < 3
    · rw [if_pos z]
      by_cases z2 : k = T i
      · rw [if_pos z2, if_pos ⟨z, z2⟩]
      · rw [if_neg z2, if_neg (fun y => z2 y.2)]
    · rw [if_neg z, if_neg (fun y => z y.1)]
  refine ⟨fun j hj => ?_, fun k hk e j hj => ?_, fun j j' hj hj' e l => ?_, fun k hk w' r' a' c' e => ?_⟩
  · rw [l1] at hj
    rw [gd j hj]
    by_cases z : j < cls.length
    · rw [if_pos z]; exact p1 j z
    · rw [if_neg z]; exact ⟨k1, k2, k3⟩
  · rw [l1] at hj
    rw [gd j hj]
    rw [lwk] at e
    by_cases z : T i < 3 ∧ k = T i
    · rw [if_pos z] at e; cases e
    · rw [if_neg z] at e
      by_cases z2 : j < cls.length
      · rw [if_pos z2]; exact p2 k hk e j z2
      · rw [if_neg z2]
        intro y
        by_cases l3 : T i < 3
        · exact z ⟨l3, by rw [← y]; exact (k4 l3).1⟩
        · have := k5 l3; omega
  · rw [l1] at hj hj'
    rw [gd j hj, gd j' hj'] at e
    rw [gd j hj] at l
    have new : ∀ q, q < cls.length → (cls.getD q (0, [])).1 = ck.1 → ck.1 < 3 → False := by
      intro q hq eq lq
      have l3 : T i < 3 := Nat.lt_of_not_le (fun z => by have := k5 (by omega); omega)
      have n := p2 (T i) l3 (by
        cases el : lws (T i) with
        | none => rfl
        | some x => exact absurd ⟨l3, by rw [el]; rfl⟩ nol) q hq
      exact n (by rw [eq]; exact (k4 l3).1)
    by_cases z : j < cls.length
    · by_cases z' : j' < cls.length
      · rw [if_pos z, if_pos z'] at e
        rw [if_pos z] at l
        exact p3 j j' z z' e l
      · rw [if_pos z, if_neg z'] at e
        rw [if_pos z] at l
        exact absurd (new j z e (by omega)) (fun z => z)
    · by_cases z' : j' < cls.length
      · rw [if_neg z, if_pos z'] at e
        rw [if_neg z] at l
        exact absurd (new j' z' e.symm l) (fun z => z)
      · omega
  · rw [lwk] at e
    by_cases z : T i < 3 ∧ k = T i
    · rw [if_pos z] at e
      simp only [Option.some.injEq, Prod.mk.injEq] at e
      obtain ⟨_, e2, e3, e4⟩ := e
      rw [← e2, ← e3, ← e4, z.2]
      exact (k4 z.1).2
    · rw [if_neg z] at e
      exact p4 k hk w' r' a' c' e
theorem txL_P (T V : Nat → Nat) : ∀ s cls lws w a i, PDI cls lws → (txL T V s cls lws w a i).1 = 0 → PDI (txL T V s cls lws w a i).2.2.1 (txL T V s cls lws w a i).2.2.2.1 := by
  intro s
  induction s with
  | zero => intro cls lws w a i _ h; exact absurd h (by show ¬ (9 : Nat) = 0; omega)
  | succ s ih =>
    intro cls lws w a i P h
    have e : txL T V (s + 1) cls lws w a i = if T i = 131 then (0, i, cls, lws, w, a) else if (cl1 T V cls.length lws a i).1 ≠ 0 then ((cl1 T V cls.length lws a i).1, (cl1 T V cls.length lws a i).2.1, cls, lws, w, a) else txL T V s (cls ++ [(cl1 T V cls.length lws a i).2.2.1]) (lwU lws (T i) w (cl1 T V cls.length lws a i).2.2.2.1 a (cl1 T V cls.length lws a i).2.2.2.2) (w + (cl1 T V cls.length lws a i).2.2.2.1.length) (a + (cl1 T V cls.length lws a i).2.2.2.2.length) (cl1 T V cls.length lws a i).2.1 := rfl
    rw [e] at h ⊢
    by_cases z : T i = 131
    · rw [if_pos z]; exact P
    · rw [if_neg z] at h ⊢
      by_cases z2 : (cl1 T V cls.length lws a i).1 = 0
      · rw [if_neg (fun y => y z2)] at h ⊢
        exact ih _ _ _ _ _ (PDI_st w P z2) h
      · rw [if_pos z2] at h; exact absurd h z2
theorem PDI_0 : PDI [] (fun _ => none) := ⟨fun j hj => absurd hj (Nat.not_lt_zero _), fun k _ _ j hj => absurd hj (Nat.not_lt_zero _), fun j j' hj => absurd hj (Nat.not_lt_zero _), fun k _ w r a c e => by cases e⟩
