/-! ===== the grammar: bounds (mine) ===== -/
def rkm (m : Nat) : Nat := if m = 1 then 1 else if m = 3 then 2 else if m = 5 then 3 else if m = 6 then 4 else if m = 8 then 5 else 0
/-- what is read from i on lies within bounds -/
def Gd (L i : Nat) (x : PO) : Prop := (x.1 = 0 → i ≤ x.2.1 ∧ x.2.1 ≤ L ∧ x.2.2.1.length + i ≤ x.2.1 ∧ x.2.2.2.length + 2 * i ≤ 2 * x.2.1) ∧ (x.1 ≠ 0 → x.1 ≤ 6 ∧ i ≤ x.2.1 ∧ x.2.1 ≤ L)
theorem Gd_er {L i f : Nat} (h : i ≤ L) (hf : f ≤ 6) (h0 : f ≠ 0) : Gd L i (er f i) := ⟨fun z => absurd z h0, fun _ => ⟨hf, Nat.le_refl _, h⟩⟩
theorem Gd_e0 {L i : Nat} (h : i ≤ L) : Gd L i (em i [] []) := ⟨fun _ => ⟨Nat.le_refl _, h, by show 0 + i ≤ i; omega, by show 0 + 2 * i ≤ 2 * i; omega⟩, fun z => absurd rfl z⟩
theorem Gd_sq {L i : Nat} {x : PO} {k : Nat → Nat → PO} (h : Gd L i x) (hk : x.1 = 0 → Gd L x.2.1 (k x.2.1 x.2.2.2.length)) : Gd L i (sq x k) := by
  by_cases z : x.1 = 0
  · obtain ⟨a1, a2, a3, a4⟩ := h.1 z
    obtain ⟨b1, b2⟩ := hk z
    rw [sq_s z]
    refine ⟨fun y => ?_, fun y => ?_⟩
    · obtain ⟨c1, c2, c3, c4⟩ := b1 y
      show i ≤ (k x.2.1 x.2.2.2.length).2.1 ∧ (k x.2.1 x.2.2.2.length).2.1 ≤ L ∧ (x.2.2.1 ++ (k x.2.1 x.2.2.2.length).2.2.1).length + i ≤ (k x.2.1 x.2.2.2.length).2.1 ∧ (x.2.2.2 ++ (k x.2.1 x.2.2.2.length).2.2.2).length + 2 * i ≤ 2 * (k x.2.1 x.2.2.2.length).2.1
      rw [List.length_append, List.length_append]
      omega
    · obtain ⟨c1, c2, c3⟩ := b2 y
      exact ⟨c1, by show i ≤ (k x.2.1 x.2.2.2.length).2.1; omega, c3⟩
  · rw [sq_f z]
    exact h
/-- a token more, ahead; a code more, behind -/
theorem Gd_op {L i : Nat} {x : PO} {p : Nat × Nat} {t : Nat} (h : Gd L (i + 1) x) : Gd L i (sq x (fun i1 _ => em i1 [p] [t])) := by
  by_cases z : x.1 = 0
  · obtain ⟨a1, a2, a3, a4⟩ := h.1 z
    rw [sq_s z]
    refine ⟨fun y => ?_, fun y => absurd rfl y⟩
    show i ≤ x.2.1 ∧ x.2.1 ≤ L ∧ (x.2.2.1 ++ [p]).length + i ≤ x.2.1 ∧ (x.2.2.2 ++ [t]).length + 2 * i ≤ 2 * x.2.1
    rw [List.length_append, List.length_append]
    show i ≤ x.2.1 ∧ x.2.1 ≤ L ∧ x.2.2.1.length + 1 + i ≤ x.2.1 ∧ x.2.2.2.length + 1 + 2 * i ≤ 2 * x.2.1
    omega
  · rw [sq_f z]
    obtain ⟨c1, c2, c3⟩ := h.2 z
    exact ⟨fun y => absurd y z, fun _ => ⟨c1, by omega, c3⟩⟩
theorem Gd_wk {L i : Nat} {x : PO} (h : Gd L (i + 1) x) : Gd L i x := ⟨fun z => by have := h.1 z; omega, fun z => by have := h.2 z; omega⟩
theorem sq_0 {x : PO} {k : Nat → Nat → PO} (h : (sq x k).1 = 0) : x.1 = 0 ∧ (k x.2.1 x.2.2.2.length).1 = 0 ∧ (sq x k).2.1 = (k x.2.1 x.2.2.2.length).2.1 := by
  by_cases z : x.1 = 0
  · rw [sq_s z] at h ⊢
    exact ⟨z, h, rfl⟩
  · rw [sq_f z] at h
    exact absurd h z
theorem ps_b {T V : Nat → Nat} {lw L : Nat} (hT : ∀ i, T i = 131 ↔ L ≤ i) : ∀ q m o a i, i ≤ L → 10 * (L - i) + rkm m < q → Gd L i (ps T V lw q m o a i) ∧ ((m = 0 ∨ m = 1 ∨ m = 3 ∨ m = 5 ∨ m = 6 ∨ m = 8) → (ps T V lw q m o a i).1 = 0 → i < (ps T V lw q m o a i).2.1) := by
  have lt : ∀ i, i ≤ L → T i ≠ 131 → i < L := fun i _ h2 => Nat.lt_of_not_le (fun z => h2 ((hT i).mpr z))
  intro q
  induction q with
  | zero => intro m o a i _ h; omega
  | succ q ih =>
    have r0 : rkm 0 = 0 := rfl
    have r1 : rkm 1 = 1 := rfl
    have r2 : rkm 2 = 0 := rfl
    have r3 : rkm 3 = 2 := rfl
    have r4 : rkm 4 = 0 := rfl
    have r5 : rkm 5 = 3 := rfl
    have r6 : rkm 6 = 4 := rfl
    have r7 : rkm 7 = 0 := rfl
    have r8 : rkm 8 = 5 := rfl
    have r9 : rkm 9 = 0 := rfl
    -- a level and its tail
    have lev : ∀ m0 m1 o a i, rkm m1 = 0 → (m0 = 0 ∨ m0 = 1 ∨ m0 = 3 ∨ m0 = 5 ∨ m0 = 6 ∨ m0 = 8) → i ≤ L → 10 * (L - i) + rkm m0 < q → Gd L i (sq (ps T V lw q m0 o a i) (fun i1 l => ps T V lw q m1 o (a + l) i1)) ∧ ((sq (ps T V lw q m0 o a i) (fun i1 l => ps T V lw q m1 o (a + l) i1)).1 = 0 → i < (sq (ps T V lw q m0 o a i) (fun i1 l => ps T V lw q m1 o (a + l) i1)).2.1) := by
      intro m0 m1 o a i hr hm hi hf
      have A := ih m0 o a i hi hf
      have K : (ps T V lw q m0 o a i).1 = 0 → Gd L (ps T V lw q m0 o a i).2.1 (ps T V lw q m1 o (a + (ps T V lw q m0 o a i).2.2.2.length) (ps T V lw q m0 o a i).2.1) := by
        intro z
        have := A.1.1 z
        have := A.2 hm z
        exact (ih m1 o _ _ (by omega) (by omega)).1
      refine ⟨Gd_sq A.1 K, fun z => ?_⟩
      obtain ⟨z1, z2, z3⟩ := sq_0 z
      rw [z3]
      have := (K z1).1 z2
      have := A.2 hm z1
      omega
    have tl : ∀ m0 m1 o a i p t, rkm m1 = 0 → rkm m0 ≤ 5 → i < L → 10 * (L - i) < q + 1 → Gd L i (sq (sq (ps T V lw q m0 o a (i + 1)) (fun i1 _ => em i1 [p] [t])) (fun i1 l => ps T V lw q m1 o (a + l) i1)) := by
      intro m0 m1 o a i p t hr hm hi hf
      have A := ih m0 o a (i + 1) (by omega) (by omega)
      refine Gd_sq (Gd_op A.1) (fun z => ?_)
      obtain ⟨z1, z2, z3⟩ := sq_0 z
      have := A.1.1 z1
      have e : (sq (ps T V lw q m0 o a (i + 1)) (fun i1 _ => em i1 [p] [t])).2.1 = (ps T V lw q m0 o a (i + 1)).2.1 := z3
      rw [e]
      exact (ih m1 o _ _ (by omega) (by omega)).1
    intro m o a i hi hf
    by_cases m0 : m = 0
    · subst m0
      rw [r0] at hf
      by_cases t1 : T i = 130
      · have il := lt i hi (by omega)
        rw [ps_0n T V lw q o a i t1]
        split
        · exact ⟨Gd_er hi (by omega) (by omega), fun _ z => absurd z (by show ¬ (2 : Nat) = 0; omega)⟩
        · refine ⟨⟨fun _ => ?_, fun z => absurd rfl z⟩, fun _ _ => ?_⟩
          · show i ≤ i + 1 ∧ i + 1 ≤ L ∧ 1 + i ≤ i + 1 ∧ 2 + 2 * i ≤ 2 * (i + 1)
            omega
          · show i < i + 1; omega
      · by_cases t2 : 8 ≤ T i ∧ T i ≤ 17
        · have il := lt i hi (by omega)
          rw [ps_0m T V lw q o a i t2]
          split
          · exact ⟨Gd_er hi (by omega) (by omega), fun _ z => absurd z (by show ¬ (5 : Nat) = 0; omega)⟩
          · refine ⟨⟨fun _ => ?_, fun z => absurd rfl z⟩, fun _ _ => ?_⟩
            · show i ≤ i + 1 ∧ i + 1 ≤ L ∧ 1 + i ≤ i + 1 ∧ 1 + 2 * i ≤ 2 * (i + 1)
              omega
            · show i < i + 1; omega
        · by_cases t3 : isO (T i)
          · have il := lt i hi (by unfold isO at t3; omega)
            by_cases ho : 8 ≤ o
            · rw [ps_0d T V lw q o a i t3 ho]
              exact ⟨Gd_er hi (by omega) (by omega), fun _ z => absurd z (by show ¬ (3 : Nat) = 0; omega)⟩
            · by_cases t4 : T i = 40
              · rw [ps_0p T V lw q o a i t4 ho]
                have A := ih 3 (o + 1) a (i + 1) (by omega) (by omega)
                have K : (ps T V lw q 3 (o + 1) a (i + 1)).1 = 0 → Gd L (ps T V lw q 3 (o + 1) a (i + 1)).2.1 (if T (ps T V lw q 3 (o + 1) a (i + 1)).2.1 = 41 then em ((ps T V lw q 3 (o + 1) a (i + 1)).2.1 + 1) [] [] else er 1 (ps T V lw q 3 (o + 1) a (i + 1)).2.1) := by
                  intro z
                  have := A.1.1 z
                  split
                  · rename_i y
                    have := lt (ps T V lw q 3 (o + 1) a (i + 1)).2.1 (by omega) (by rw [y]; decide)
                    refine ⟨fun _ => ?_, fun z => absurd rfl z⟩
                    show (ps T V lw q 3 (o + 1) a (i + 1)).2.1 ≤ (ps T V lw q 3 (o + 1) a (i + 1)).2.1 + 1 ∧ (ps T V lw q 3 (o + 1) a (i + 1)).2.1 + 1 ≤ L ∧ 0 + (ps T V lw q 3 (o + 1) a (i + 1)).2.1 ≤ (ps T V lw q 3 (o + 1) a (i + 1)).2.1 + 1 ∧ 0 + 2 * (ps T V lw q 3 (o + 1) a (i + 1)).2.1 ≤ 2 * ((ps T V lw q 3 (o + 1) a (i + 1)).2.1 + 1)
                    omega
                  · exact Gd_er (by omega) (by omega) (by omega)
                have G : Gd L i (sq (ps T V lw q 3 (o + 1) a (i + 1)) (fun i1 _ => if T i1 = 41 then em (i1 + 1) [] [] else er 1 i1)) := Gd_sq (Gd_wk A.1) K
                refine ⟨G, fun _ z => ?_⟩
                obtain ⟨z1, z2, z3⟩ := sq_0 z
                rw [z3]
                have := (K z1).1 z2
                have := A.1.1 z1
                have : (ps T V lw q 3 (o + 1) a (i + 1)).2.1 ≤ (if T (ps T V lw q 3 (o + 1) a (i + 1)).2.1 = 41 then em ((ps T V lw q 3 (o + 1) a (i + 1)).2.1 + 1) [] [] else er 1 (ps T V lw q 3 (o + 1) a (i + 1)).2.1).2.1 := this.1 |> fun _ => ((K z1).1 z2).1
                omega
              · by_cases t5 : T i = 21
                · rw [ps_0i T V lw q o a i t5 ho rfl rfl rfl]
                  have A := ih 8 (o + 1) a (i + 1) (by omega) (by omega)
                  obtain ⟨x0, e0⟩ : ∃ x0, x0 = ps T V lw q 8 (o + 1) a (i + 1) := ⟨_, rfl⟩
                  rw [← e0] at A ⊢
                  clear e0
                  by_cases z0 : x0.1 = 0
                  · rw [if_neg (fun y => y z0)]
                    obtain ⟨a1, a2, a3, a4⟩ := A.1.1 z0
                    by_cases y0 : T x0.2.1 = 22
                    · rw [if_neg (fun y => y y0)]
                      have l0 := lt _ a2 (by omega)
                      have A1 := ih 3 (o + 1) (a + x0.2.2.2.length + 2) (x0.2.1 + 1) (by omega) (by omega)
                      obtain ⟨x1, e1⟩ : ∃ x1, x1 = ps T V lw q 3 (o + 1) (a + x0.2.2.2.length + 2) (x0.2.1 + 1) := ⟨_, rfl⟩
                      rw [← e1] at A1 ⊢
                      clear e1
                      by_cases z1 : x1.1 = 0
                      · rw [if_neg (fun y => y z1)]
                        obtain ⟨b1, b2, b3, b4⟩ := A1.1.1 z1
                        by_cases y1 : T x1.2.1 = 23
                        · rw [if_neg (fun y => y y1)]
                          have l1 := lt _ b2 (by omega)
                          have A2 := ih 3 (o + 1) (a + x0.2.2.2.length + 2 + x1.2.2.2.length + 2) (x1.2.1 + 1) (by omega) (by omega)
                          obtain ⟨x2, e2⟩ : ∃ x2, x2 = ps T V lw q 3 (o + 1) (a + x0.2.2.2.length + 2 + x1.2.2.2.length + 2) (x1.2.1 + 1) := ⟨_, rfl⟩
                          rw [← e2] at A2 ⊢
                          clear e2
                          by_cases z2 : x2.1 = 0
                          · rw [if_neg (fun y => y z2)]
                            obtain ⟨c1, c2, c3, c4⟩ := A2.1.1 z2
                            by_cases y2 : T x2.2.1 = 24
                            · rw [if_neg (fun y => y y2)]
                              have l2 := lt _ c2 (by omega)
                              refine ⟨⟨fun _ => ?_, fun z => absurd rfl z⟩, fun _ _ => ?_⟩
                              · show i ≤ x2.2.1 + 1 ∧ x2.2.1 + 1 ≤ L ∧ (x0.2.2.1 ++ x1.2.2.1 ++ x2.2.2.1 ++ [(3, 0)]).length + i ≤ x2.2.1 + 1 ∧ (x0.2.2.2 ++ [22, a + x0.2.2.2.length + 2 + x1.2.2.2.length + 2] ++ x1.2.2.2 ++ [23, a + x0.2.2.2.length + 2 + x1.2.2.2.length + 2 + x2.2.2.2.length] ++ x2.2.2.2).length + 2 * i ≤ 2 * (x2.2.1 + 1)
                                simp only [List.length_append, List.length_cons, List.length_nil]
                                omega
                              · show i < x2.2.1 + 1; omega
                            · rw [if_pos y2]
                              exact ⟨⟨fun z => absurd z (by show ¬ (1 : Nat) = 0; omega), fun _ => ⟨by show 1 ≤ 6; omega, by show i ≤ x2.2.1; omega, c2⟩⟩, fun _ z => absurd z (by show ¬ (1 : Nat) = 0; omega)⟩
                          · rw [if_pos z2]
                            have := A2.1.2 z2
                            exact ⟨⟨fun z => absurd z z2, fun _ => ⟨this.1, by omega, this.2.2⟩⟩, fun _ z => absurd z z2⟩
                        · rw [if_pos y1]
                          exact ⟨⟨fun z => absurd z (by show ¬ (1 : Nat) = 0; omega), fun _ => ⟨by show 1 ≤ 6; omega, by show i ≤ x1.2.1; omega, b2⟩⟩, fun _ z => absurd z (by show ¬ (1 : Nat) = 0; omega)⟩
                      · rw [if_pos z1]
                        have := A1.1.2 z1
                        exact ⟨⟨fun z => absurd z z1, fun _ => ⟨this.1, by omega, this.2.2⟩⟩, fun _ z => absurd z z1⟩
                    · rw [if_pos y0]
                      exact ⟨⟨fun z => absurd z (by show ¬ (1 : Nat) = 0; omega), fun _ => ⟨by show 1 ≤ 6; omega, by show i ≤ x0.2.1; omega, a2⟩⟩, fun _ z => absurd z (by show ¬ (1 : Nat) = 0; omega)⟩
                  · rw [if_pos z0]
                    have := A.1.2 z0
                    exact ⟨⟨fun z => absurd z z0, fun _ => ⟨this.1, by omega, this.2.2⟩⟩, fun _ z => absurd z z0⟩
                · rw [ps_0u T V lw q o a i (by unfold isO at t3; omega) ho]
                  have A := ih 0 (o + 1) a (i + 1) (by omega) (by omega)
                  refine ⟨Gd_op A.1, fun _ z => ?_⟩
                  obtain ⟨z1, z2, z3⟩ := sq_0 z
                  rw [z3]
                  have := A.1.1 z1
                  show i < (ps T V lw q 0 (o + 1) a (i + 1)).2.1
                  omega
          · rw [ps_0e T V lw q o a i t1 t2 t3]
            exact ⟨Gd_er hi (by omega) (by omega), fun _ z => absurd z (by show ¬ (1 : Nat) = 0; omega)⟩
    · by_cases m1 : m = 1
      · subst m1
        rw [r1] at hf
        rw [ps_1]
        have := lev 0 2 o a i rfl (by omega) hi (by omega)
        exact ⟨this.1, fun _ => this.2⟩
      · by_cases m2 : m = 2
        · subst m2
          rw [r2] at hf
          rw [ps_2]
          refine ⟨?_, fun z => by omega⟩
          split
          · rename_i t
            exact tl 0 2 o a i _ _ rfl (by omega) (lt i hi (by omega)) (by omega)
          · exact Gd_e0 hi
        · by_cases m3 : m = 3
          · subst m3
            rw [r3] at hf
            rw [ps_3]
            have := lev 1 4 o a i rfl (by omega) hi (by omega)
            exact ⟨this.1, fun _ => this.2⟩
          · by_cases m4 : m = 4
            · subst m4
              rw [r4] at hf
              rw [ps_4]
              refine ⟨?_, fun z => by omega⟩
              split
              · rename_i t
                exact tl 1 4 o a i _ _ rfl (by omega) (lt i hi (by omega)) (by omega)
              · exact Gd_e0 hi
            · by_cases m5 : m = 5
              · subst m5
                rw [r5] at hf
                rw [ps_5]
                by_cases t1 : T i = 27
                · rw [if_pos t1]
                  have il := lt i hi (by omega)
                  by_cases ho : 8 ≤ o
                  · rw [if_pos ho]
                    exact ⟨Gd_er hi (by omega) (by omega), fun _ z => absurd z (by show ¬ (3 : Nat) = 0; omega)⟩
                  · rw [if_neg ho]
                    have A := ih 5 (o + 1) a (i + 1) (by omega) (by omega)
                    refine ⟨Gd_op A.1, fun _ z => ?_⟩
                    obtain ⟨z1, z2, z3⟩ := sq_0 z
                    rw [z3]
                    have := A.1.1 z1
                    show i < (ps T V lw q 5 (o + 1) a (i + 1)).2.1
                    omega
                · rw [if_neg t1]
                  have A := ih 3 o a i hi (by omega)
                  obtain ⟨x, ex⟩ : ∃ x, x = ps T V lw q 3 o a i := ⟨_, rfl⟩
                  rw [← ex] at A ⊢
                  have K : x.1 = 0 → Gd L x.2.1 (if isC (T x.2.1) then sq (ps T V lw q 3 o (a + x.2.2.2.length) (x.2.1 + 1)) (fun i2 _ => em i2 [(opM (T x.2.1), 0)] [T x.2.1]) else er 1 x.2.1) := by
                    intro z
                    have := A.1.1 z
                    have := A.2 (by omega) z
                    split
                    · rename_i y
                      have l1 := lt x.2.1 (by omega) (by unfold isC at y; omega)
                      exact Gd_op (ih 3 o _ (x.2.1 + 1) (by omega) (by omega)).1
                    · exact Gd_er (by omega) (by omega) (by omega)
                  refine ⟨Gd_sq A.1 K, fun _ z => ?_⟩
                  obtain ⟨z1, z2, z3⟩ := sq_0 z
                  rw [z3]
                  have a1 := ((K z1).1 z2).1
                  have a2 := A.2 (by omega) z1
                  exact Nat.lt_of_lt_of_le a2 a1
              · by_cases m6 : m = 6
                · subst m6
                  rw [r6] at hf
                  rw [ps_6]
                  have := lev 5 7 o a i rfl (by omega) hi (by omega)
                  exact ⟨this.1, fun _ => this.2⟩
                · by_cases m7 : m = 7
                  · subst m7
                    rw [r7] at hf
                    rw [ps_7]
                    refine ⟨?_, fun z => by omega⟩
                    split
                    · rename_i t
                      exact tl 5 7 o a i _ _ rfl (by omega) (lt i hi (by omega)) (by omega)
                    · exact Gd_e0 hi
                  · by_cases m8 : m = 8
                    · subst m8
                      rw [r8] at hf
                      rw [ps_8]
                      have := lev 6 9 o a i rfl (by omega) hi (by omega)
                      exact ⟨this.1, fun _ => this.2⟩
                    · have e : ps T V lw (q + 1) m o a i = if T i = 25 then sq (sq (ps T V lw q 6 o a (i + 1)) (fun i1 _ => em i1 [(22, 0)] [25])) (fun i1 l => ps T V lw q 9 o (a + l) i1) else em i [] [] := (if_neg m0).trans ((if_neg m1).trans ((if_neg m2).trans ((if_neg m3).trans ((if_neg m4).trans ((if_neg m5).trans ((if_neg m6).trans ((if_neg m7).trans (if_neg m8))))))))
                      rw [e]
                      refine ⟨?_, fun z => by omega⟩
                      split
                      · rename_i t
                        exact tl 6 9 o a i _ _ rfl (by omega) (lt i hi (by omega)) (by omega)
                      · exact Gd_e0 hi
