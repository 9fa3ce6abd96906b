/-! ===== the law from its entry (mine) ===== -/
theorem ckR_m {a k b : Nat} {l : List (Nat × Nat)} (ck : ckR a l = true) (e : tR a k = some b) : (k, b) ∈ l := by
  have hk : k < 32 := by
    rcases Nat.lt_or_ge k 32 with z | z
    · exact z
    · rw [tR_hi _ _ z] at e; cases e
  have q := List.all_eq_true.mp ck k (List.mem_range.mpr hk)
  rw [e] at q
  obtain ⟨p, hp, q⟩ := List.any_eq_true.mp q
  obtain ⟨q1, q2⟩ := Bool.and_eq_true_iff.mp q
  rw [← Nat.eq_of_beq_eq_true q1, ← Nat.eq_of_beq_eq_true q2]
  exact hp
theorem h0_K (L : Nat) (xs : Nat → Int32) (a : Nat) (ha : a < 5) : ab_K (ab_h0 L xs) a = tK a ∧ (1 ≤ a → ab_L (ab_h0 L xs) a = tL a) ∧ ∀ k b, tR a k = some b → ab_R (ab_h0 L xs) a k = some b := by
  rcases (show a = 0 ∨ a = 1 ∨ a = 2 ∨ a = 3 ∨ a = 4 by omega) with rfl | rfl | rfl | rfl | rfl
  · refine ⟨rfl, fun z => absurd z (by decide), fun k b e => ?_⟩
    have q := ckR_m (l := []) (by decide +kernel) e
    cases q
  · refine ⟨rfl, fun _ => rfl, fun k b e => ?_⟩
    have q := ckR_m (l := [(0, 2)]) (by decide +kernel) e
    obtain ⟨rfl, rfl⟩ := Prod.mk.inj (List.mem_singleton.mp q)
    rfl
  · refine ⟨rfl, fun _ => rfl, fun k b e => ?_⟩
    have q := ckR_m (l := []) (by decide +kernel) e
    cases q
  · refine ⟨rfl, fun _ => rfl, fun k b e => ?_⟩
    have q := ckR_m (l := [(0, 4)]) (by decide +kernel) e
    obtain ⟨rfl, rfl⟩ := Prod.mk.inj (List.mem_singleton.mp q)
    rfl
  · refine ⟨rfl, fun _ => rfl, fun k b e => ?_⟩
    have q := ckR_m (l := []) (by decide +kernel) e
    cases q
theorem WF_0 : WF s0 := by
  exact ⟨by decide +kernel, ⟨by decide +kernel, by decide +kernel, by decide +kernel, by decide +kernel, by decide +kernel, by decide +kernel, fun i hi => absurd hi (Nat.not_lt_zero i)⟩, by decide +kernel, by decide +kernel, by decide +kernel, ⟨by decide +kernel, by decide +kernel, by decide +kernel⟩, ⟨by decide +kernel, fun k hk => absurd hk (Nat.not_lt_zero k), by decide +kernel⟩, fun j hj => absurd hj (Nat.not_lt_zero j)⟩
set_option maxRecDepth 100000 in
set_option maxHeartbeats 4000000 in
theorem law_ok {L : Nat} {xs : Nat → Int32} (hL : L ≤ 3072) : ab_Ok 1001 n_L_law [.ref 0] (ab_h0 L xs) (fun r _ => r = some (.int 1)) := by
  have Z0 := h0_K L xs
  have n0 : ab_N (ab_h0 L xs) = 5 := rfl
  have l0 : ab_L (ab_h0 L xs) 0 = L := rfl
  have i0 : ab_I (ab_h0 L xs) 0 = xs := rfl
  have s0' : SS (ab_h0 L xs) := ⟨fun _ => rfl, fun _ => rfl, rfl, rfl⟩
  obtain ⟨h0, e0⟩ : ∃ q, q = ab_h0 L xs := ⟨_, rfl⟩
  rw [← e0] at Z0 n0 l0 i0 s0'
  rw [← e0]
  clear e0
  refine ab_go mr_L_law rfl (by omega) (fun call W hc hW => ?_); (conv => whnf)
  refine ⟨by decide, by decide, ?_⟩
  obtain ⟨h1, e1⟩ : ∃ q, q = ab_nw h0 11 0 (fun _ => 0) := ⟨_, rfl⟩
  have M1 : MK h0 h1 11 := by rw [e1]; exact MK_nw _ _
  rw [← e1]
  clear e1
  rw [n0]
  (conv => whnf)
  obtain ⟨x1, x2, x3, x4, x5⟩ := M1
  rw [n0] at x1 x2 x3 x4 x5
  refine ⟨by decide, by decide, ?_⟩
  refine hc _ _ _ _ (ok_init11 (by omega) x2 x3 x1 (fun h2 B2 C2 D2 r13 r285 y3 y1 y2 => ?_))
  (conv => whnf)
  refine ⟨by decide, by decide, ?_⟩
  obtain ⟨h3, e3⟩ : ∃ q, q = ab_nw h2 12 0 (fun _ => 0) := ⟨_, rfl⟩
  have M3 : MK h2 h3 12 := by rw [e3]; exact MK_nw _ _
  rw [← e3]
  clear e3
  rw [B2.1]
  (conv => whnf)
  obtain ⟨z1, z2, z3, z4, z5⟩ := M3
  rw [B2.1] at z1 z2 z3 z4 z5
  refine ⟨by decide, by decide, ?_⟩
  refine hc _ _ _ _ (ok_init12 (by omega) z2 z3 z4 z1 (fun h4 B4 m1 m2 j4 j5 j6 j23 => ?_))
  (conv => whnf)
  have f4 : ∀ x, x < 580 → ab_K h4 x = ab_K h2 x ∧ ab_L h4 x = ab_L h2 x ∧ ab_I h4 x = ab_I h2 x ∧ ab_R h4 x = ab_R h2 x := fun x hx => by
    obtain ⟨a1, a2, a3, a4⟩ := B4.2.1 x hx
    obtain ⟨b1, b2, b3, b4⟩ := z5 x hx
    exact ⟨a1.trans b1, a2.trans b2, a3.trans b3, a4.trans b4⟩
  have f0 : ∀ x, x < 5 → ab_K h4 x = ab_K h0 x ∧ ab_L h4 x = ab_L h0 x ∧ ab_I h4 x = ab_I h0 x ∧ ab_R h4 x = ab_R h0 x := fun x hx => by
    obtain ⟨c1, c2, c3, c4⟩ := f4 x (by omega)
    obtain ⟨a1, a2, a3, a4⟩ := B2.2.1 x hx
    obtain ⟨b1, b2, b3, b4⟩ := x5 x hx
    exact ⟨c1.trans (a1.trans b1), c2.trans (a2.trans b2), c3.trans (a3.trans b3), c4.trans (a4.trans b4)⟩
  have sh : ∀ a, 5 ≤ a → a < 594 → shA h4 a := fun a h1 h2 => by
    rcases Nat.lt_or_ge a 580 with y | y
    · obtain ⟨c1, c2, _, c4⟩ := f4 a y
      exact shA_c (B2.2.2 a h1 y) c1 c2 c4
    · exact B4.2.2 a y h2
  have S4 : Sh h4 := by
    refine ⟨fun a ha => ?_, fun a ha => ?_, fun a k b e => ?_⟩
    · rcases Nat.lt_or_ge a 5 with y | y
      · exact (f0 a y).1.trans (Z0 a y).1
      · exact (sh a y ha).1
    · rcases Nat.lt_or_ge a 5 with y | y
      · exact (f0 a y).2.1.trans ((Z0 a y).2.1 ha.2)
      · exact (sh a y ha.1).2.1
    · rcases Nat.lt_or_ge a 5 with y | y
      · rw [(f0 a y).2.2.2]
        exact (Z0 a y).2.2 k b e
      · rcases Nat.lt_or_ge a 594 with z | z
        · exact (sh a y z).2.2 k b e
        · rw [tR_out a k z] at e
          cases e
  have g0 : ∀ x k, x < 5 → ab_I h4 x k = ab_I h0 x k := fun x k hx => congrFun (f0 x hx).2.2.1 k
  have g4 : ∀ x k, x < 580 → ab_I h4 x k = ab_I h2 x k := fun x k hx => congrFun (f4 x hx).2.2.1 k
  have BB : BS h4 L xs := ⟨S4, ⟨fun k => (g0 2 k (by decide)).trans (s0'.1 k), fun k => (g0 4 k (by decide)).trans (s0'.2.1 k), (g0 1 1 (by decide)).trans s0'.2.2.1, (g0 3 1 (by decide)).trans s0'.2.2.2⟩, by rw [B4.1]; exact Nat.le_refl _, (f0 0 (by decide)).2.1.trans l0, (f0 0 (by decide)).2.2.1.trans i0⟩
  have n2 : ∀ t, ¬ t < s0 18 2 := fun t => Nat.not_lt_zero t
  have k13 : RK h4 13 := fun k c _ e => by
    rw [(f4 13 (by decide)).2.2.2, r13 k] at e
    cases e
  have k285 : RK h4 285 := fun k c _ e => by
    rw [(f4 285 (by decide)).2.2.2, r285 k] at e
    cases e
  have CC : CS h4 s0 s0 (fun _ => (0, fun _ _ => 0, fun _ => none)) 0 (fun _ => 0) (-1) (-1) := ⟨CR_I C2 (fun a k z => g4 a k (by omega)), CR_I D2 (fun a k z => g4 a k (by omega)), ⟨fun t ht => absurd ht (n2 t), fun t ht => absurd ht (n2 t)⟩, ⟨k13, k285⟩, ⟨(g4 550 2 (by decide)).trans y3, fun k hk => absurd hk (Nat.not_lt_zero _)⟩, (g4 549 9 (by decide)).trans y1, (g4 549 10 (by decide)).trans y2⟩
  have RR : RSM h4 s0 s0 (fun _ => (0, fun _ _ => 0, fun _ => none)) 0 (fun _ => 0) (-1) (-1) := ⟨m1, m2, fun t ht => absurd ht (n2 t), ⟨j4, fun k hk => absurd hk (Nat.not_lt_zero _)⟩, j5, j6, j23⟩
  exact lw_loop hL hc hW (fun _ => rfl) 513 0 h4 _ _ (by decide) (by omega) (by decide) (by decide) ⟨s0, s0, _, 0, _, -1, -1, BB, CC, RR, WF_0, WF_0, Nat.le_refl _, by decide⟩
