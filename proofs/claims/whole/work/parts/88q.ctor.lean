/-! ===== contracts: the constructors of rows (mine) ===== -/
section CTR
variable {d : Nat} {h : Hp} {Q : Option Value → Hp → Prop} {o : Nat}
theorem ok_init3 (hd : 1 ≤ d) (hK : ab_K h o = 3) (hL : ab_L h o = 0) (hI : ab_I h o = fun _ => 0) (hN : ab_N h = o + 1) (ck : ckP o 3 (fun _ _ => none) [(0, 13, 10), (1, 13, 10), (2, 13, 10)] = true) (hq : ∀ h', NB h h' o (o + 4) → Q none h') : ab_Ok d n_X3_init [.ref o] h Q := by
  have P0 : PR h o (fun _ _ => none) [] (fun _ => 0) h := PR_0 hN hI
  refine ab_go mr_X3_init rfl (by omega) (fun call W hc hW => ?_); (conv => whnf)
  refine ⟨by decide, by decide, (by first | decide | (rw [nI_clamp (by omega)]; decide)), ?_⟩
  rw [nI_clamp (by omega)]
  (conv => whnf)
  refine ⟨PR_K P0 hK hN, ?_⟩
  obtain ⟨h1, e1⟩ : ∃ q, q = ct_n h o 0 13 10 := ⟨_, rfl⟩
  have P1 := PR_n (k := 0) (kd := 13) (len := 10) P0 hN (fun _ => rfl) (by decide)
  rw [← e1] at P1
  rw [show ab_sR (ab_nw h 13 10 (fun _ => 0)) o 0 (some (ab_N h)) = h1 from e1.symm]
  clear e1
  (conv => whnf)
  refine ⟨by decide, by decide, (by first | decide | (rw [nI_clamp (by omega)]; decide)), ?_⟩
  rw [nI_clamp (by omega)]
  (conv => whnf)
  refine ⟨PR_K P1 hK hN, ?_⟩
  obtain ⟨h2, e2⟩ : ∃ q, q = ct_n h1 o 1 13 10 := ⟨_, rfl⟩
  have P2 := PR_n (k := 1) (kd := 13) (len := 10) P1 hN (fun _ => rfl) (by decide)
  rw [← e2] at P2
  rw [show ab_sR (ab_nw h1 13 10 (fun _ => 0)) o 1 (some (ab_N h1)) = h2 from e2.symm]
  clear e2
  (conv => whnf)
  refine ⟨by decide, by decide, (by first | decide | (rw [nI_clamp (by omega)]; decide)), ?_⟩
  rw [nI_clamp (by omega)]
  (conv => whnf)
  refine ⟨PR_K P2 hK hN, ?_⟩
  obtain ⟨h3, e3⟩ : ∃ q, q = ct_n h2 o 2 13 10 := ⟨_, rfl⟩
  have P3 := PR_n (k := 2) (kd := 13) (len := 10) P2 hN (fun _ => rfl) (by decide)
  rw [← e3] at P3
  rw [show ab_sR (ab_nw h2 13 10 (fun _ => 0)) o 2 (some (ab_N h2)) = h3 from e3.symm]
  clear e3
  (conv => whnf)
  exact hq _ (PR_NB P3 hN hK hL ck rfl)
theorem ok_init4 (hd : 1 ≤ d) (hK : ab_K h o = 4) (hL : ab_L h o = 0) (hI : ab_I h o = fun _ => 0) (hN : ab_N h = o + 1) (ck : ckP o 4 (fun _ _ => none) [(0, 13, 8), (1, 13, 5), (2, 13, 8), (5, 13, 8)] = true) (hq : ∀ h', NB h h' o (o + 5) → Q none h') : ab_Ok d n_X4_init [.ref o] h Q := by
  have P0 : PR h o (fun _ _ => none) [] (fun _ => 0) h := PR_0 hN hI
  refine ab_go mr_X4_init rfl (by omega) (fun call W hc hW => ?_); (conv => whnf)
  refine ⟨by decide, by decide, (by first | decide | (rw [nI_clamp (by omega)]; decide)), ?_⟩
  rw [nI_clamp (by omega)]
  (conv => whnf)
  refine ⟨PR_K P0 hK hN, ?_⟩
  obtain ⟨h1, e1⟩ : ∃ q, q = ct_n h o 0 13 8 := ⟨_, rfl⟩
  have P1 := PR_n (k := 0) (kd := 13) (len := 8) P0 hN (fun _ => rfl) (by decide)
  rw [← e1] at P1
  rw [show ab_sR (ab_nw h 13 8 (fun _ => 0)) o 0 (some (ab_N h)) = h1 from e1.symm]
  clear e1
  (conv => whnf)
  refine ⟨by decide, by decide, (by first | decide | (rw [nI_clamp (by omega)]; decide)), ?_⟩
  rw [nI_clamp (by omega)]
  (conv => whnf)
  refine ⟨PR_K P1 hK hN, ?_⟩
  obtain ⟨h2, e2⟩ : ∃ q, q = ct_n h1 o 1 13 5 := ⟨_, rfl⟩
  have P2 := PR_n (k := 1) (kd := 13) (len := 5) P1 hN (fun _ => rfl) (by decide)
  rw [← e2] at P2
  rw [show ab_sR (ab_nw h1 13 5 (fun _ => 0)) o 1 (some (ab_N h1)) = h2 from e2.symm]
  clear e2
  (conv => whnf)
  refine ⟨by decide, by decide, (by first | decide | (rw [nI_clamp (by omega)]; decide)), ?_⟩
  rw [nI_clamp (by omega)]
  (conv => whnf)
  refine ⟨PR_K P2 hK hN, ?_⟩
  obtain ⟨h3, e3⟩ : ∃ q, q = ct_n h2 o 2 13 8 := ⟨_, rfl⟩
  have P3 := PR_n (k := 2) (kd := 13) (len := 8) P2 hN (fun _ => rfl) (by decide)
  rw [← e3] at P3
  rw [show ab_sR (ab_nw h2 13 8 (fun _ => 0)) o 2 (some (ab_N h2)) = h3 from e3.symm]
  clear e3
  (conv => whnf)
  refine ⟨by decide, by decide, (by first | decide | (rw [nI_clamp (by omega)]; decide)), ?_⟩
  rw [nI_clamp (by omega)]
  (conv => whnf)
  refine ⟨PR_K P3 hK hN, ?_⟩
  obtain ⟨h4, e4⟩ : ∃ q, q = ct_n h3 o 5 13 8 := ⟨_, rfl⟩
  have P4 := PR_n (k := 5) (kd := 13) (len := 8) P3 hN (fun _ => rfl) (by decide)
  rw [← e4] at P4
  rw [show ab_sR (ab_nw h3 13 8 (fun _ => 0)) o 5 (some (ab_N h3)) = h4 from e4.symm]
  clear e4
  (conv => whnf)
  exact hq _ (PR_NB P4 hN hK hL ck rfl)
theorem ok_init5 (hd : 1 ≤ d) (hK : ab_K h o = 5) (hL : ab_L h o = 0) (hI : ab_I h o = fun _ => 0) (hN : ab_N h = o + 1) (ck : ckP o 5 (fun _ _ => none) [(0, 13, 5), (2, 13, 5)] = true) (hq : ∀ h', NB h h' o (o + 3) → Q none h') : ab_Ok d n_X5_init [.ref o] h Q := by
  have P0 : PR h o (fun _ _ => none) [] (fun _ => 0) h := PR_0 hN hI
  refine ab_go mr_X5_init rfl (by omega) (fun call W hc hW => ?_); (conv => whnf)
  refine ⟨by decide, by decide, (by first | decide | (rw [nI_clamp (by omega)]; decide)), ?_⟩
  rw [nI_clamp (by omega)]
  (conv => whnf)
  refine ⟨PR_K P0 hK hN, ?_⟩
  obtain ⟨h1, e1⟩ : ∃ q, q = ct_n h o 0 13 5 := ⟨_, rfl⟩
  have P1 := PR_n (k := 0) (kd := 13) (len := 5) P0 hN (fun _ => rfl) (by decide)
  rw [← e1] at P1
  rw [show ab_sR (ab_nw h 13 5 (fun _ => 0)) o 0 (some (ab_N h)) = h1 from e1.symm]
  clear e1
  (conv => whnf)
  refine ⟨by decide, by decide, (by first | decide | (rw [nI_clamp (by omega)]; decide)), ?_⟩
  rw [nI_clamp (by omega)]
  (conv => whnf)
  refine ⟨PR_K P1 hK hN, ?_⟩
  obtain ⟨h2, e2⟩ : ∃ q, q = ct_n h1 o 2 13 5 := ⟨_, rfl⟩
  have P2 := PR_n (k := 2) (kd := 13) (len := 5) P1 hN (fun _ => rfl) (by decide)
  rw [← e2] at P2
  rw [show ab_sR (ab_nw h1 13 5 (fun _ => 0)) o 2 (some (ab_N h1)) = h2 from e2.symm]
  clear e2
  (conv => whnf)
  exact hq _ (PR_NB P2 hN hK hL ck rfl)
theorem ok_init8 (hd : 1 ≤ d) (hK : ab_K h o = 8) (hL : ab_L h o = 0) (hI : ab_I h o = fun _ => 0) (hN : ab_N h = o + 1) (ck : ckP o 8 (fun _ _ => none) [(0, 13, 300), (3, 13, 301), (4, 13, 301), (5, 13, 301)] = true) (hq : ∀ h', NB h h' o (o + 5) → (∀ k, ab_I h' o k = 0) → Q none h') : ab_Ok d n_X8_init [.ref o] h Q := by
  have P0 : PR h o (fun _ _ => none) [] (fun _ => 0) h := PR_0 hN hI
  refine ab_go mr_X8_init rfl (by omega) (fun call W hc hW => ?_); (conv => whnf)
  refine ⟨by decide, by decide, (by first | decide | (rw [nI_clamp (by omega)]; decide)), ?_⟩
  rw [nI_clamp (by omega)]
  (conv => whnf)
  refine ⟨PR_K P0 hK hN, ?_⟩
  obtain ⟨h1, e1⟩ : ∃ q, q = ct_n h o 0 13 300 := ⟨_, rfl⟩
  have P1 := PR_n (k := 0) (kd := 13) (len := 300) P0 hN (fun _ => rfl) (by decide)
  rw [← e1] at P1
  rw [show ab_sR (ab_nw h 13 300 (fun _ => 0)) o 0 (some (ab_N h)) = h1 from e1.symm]
  clear e1
  (conv => whnf)
  refine ⟨by decide, by decide, (by first | decide | (rw [nI_clamp (by omega)]; decide)), ?_⟩
  rw [nI_clamp (by omega)]
  (conv => whnf)
  refine ⟨PR_K P1 hK hN, ?_⟩
  obtain ⟨h2, e2⟩ : ∃ q, q = ct_n h1 o 3 13 301 := ⟨_, rfl⟩
  have P2 := PR_n (k := 3) (kd := 13) (len := 301) P1 hN (fun _ => rfl) (by decide)
  rw [← e2] at P2
  rw [show ab_sR (ab_nw h1 13 301 (fun _ => 0)) o 3 (some (ab_N h1)) = h2 from e2.symm]
  clear e2
  (conv => whnf)
  refine ⟨by decide, by decide, (by first | decide | (rw [nI_clamp (by omega)]; decide)), ?_⟩
  rw [nI_clamp (by omega)]
  (conv => whnf)
  refine ⟨PR_K P2 hK hN, ?_⟩
  obtain ⟨h3, e3⟩ : ∃ q, q = ct_n h2 o 4 13 301 := ⟨_, rfl⟩
  have P3 := PR_n (k := 4) (kd := 13) (len := 301) P2 hN (fun _ => rfl) (by decide)
  rw [← e3] at P3
  rw [show ab_sR (ab_nw h2 13 301 (fun _ => 0)) o 4 (some (ab_N h2)) = h3 from e3.symm]
  clear e3
  (conv => whnf)
  refine ⟨by decide, by decide, (by first | decide | (rw [nI_clamp (by omega)]; decide)), ?_⟩
  rw [nI_clamp (by omega)]
  (conv => whnf)
  refine ⟨PR_K P3 hK hN, ?_⟩
  obtain ⟨h4, e4⟩ : ∃ q, q = ct_n h3 o 5 13 301 := ⟨_, rfl⟩
  have P4 := PR_n (k := 5) (kd := 13) (len := 301) P3 hN (fun _ => rfl) (by decide)
  rw [← e4] at P4
  rw [show ab_sR (ab_nw h3 13 301 (fun _ => 0)) o 5 (some (ab_N h3)) = h4 from e4.symm]
  clear e4
  (conv => whnf)
  exact hq _ (PR_NB P4 hN hK hL ck rfl) (fun k => congrFun P4.2.2.1.2.2 k)
theorem ok_init10 (hd : 2 ≤ d) (hK : ab_K h o = 10) (hL : ab_L h o = 0) (hI : ab_I h o = fun _ => 0) (hN : ab_N h = o + 1) (ck : ckP o 10 (fun _ _ => none) [(1, 13, 5), (3, 13, 10), (4, 13, 10), (5, 13, 10), (6, 13, 12), (8, 17, 4)] = true) (hq : ∀ h', NB h h' o (o + 7) → TR h' o s0 → (∀ k, ab_R h' (o + 6) k = none) → Q none h') : ab_Ok d n_X10_init [.ref o] h Q := by
  have P0 : PR h o (fun _ _ => none) [] (fun _ => 0) h := PR_0 hN hI
  refine ab_go mr_X10_init rfl (by omega) (fun call W hc hW => ?_); (conv => whnf)
  refine ⟨by decide, by decide, (by first | decide | (rw [nI_clamp (by omega)]; decide)), ?_⟩
  rw [nI_clamp (by omega)]
  (conv => whnf)
  refine ⟨PR_K P0 hK hN, ?_⟩
  obtain ⟨h1, e1⟩ : ∃ q, q = ct_n h o 1 13 5 := ⟨_, rfl⟩
  have P1 := PR_n (k := 1) (kd := 13) (len := 5) P0 hN (fun _ => rfl) (by decide)
  rw [← e1] at P1
  rw [show ab_sR (ab_nw h 13 5 (fun _ => 0)) o 1 (some (ab_N h)) = h1 from e1.symm]
  clear e1
  (conv => whnf)
  refine ⟨by decide, by decide, (by first | decide | (rw [nI_clamp (by omega)]; decide)), ?_⟩
  rw [nI_clamp (by omega)]
  (conv => whnf)
  refine ⟨PR_K P1 hK hN, ?_⟩
  obtain ⟨h2, e2⟩ : ∃ q, q = ct_n h1 o 3 13 10 := ⟨_, rfl⟩
  have P2 := PR_n (k := 3) (kd := 13) (len := 10) P1 hN (fun _ => rfl) (by decide)
  rw [← e2] at P2
  rw [show ab_sR (ab_nw h1 13 10 (fun _ => 0)) o 3 (some (ab_N h1)) = h2 from e2.symm]
  clear e2
  (conv => whnf)
  refine ⟨by decide, by decide, (by first | decide | (rw [nI_clamp (by omega)]; decide)), ?_⟩
  rw [nI_clamp (by omega)]
  (conv => whnf)
  refine ⟨PR_K P2 hK hN, ?_⟩
  obtain ⟨h3, e3⟩ : ∃ q, q = ct_n h2 o 4 13 10 := ⟨_, rfl⟩
  have P3 := PR_n (k := 4) (kd := 13) (len := 10) P2 hN (fun _ => rfl) (by decide)
  rw [← e3] at P3
  rw [show ab_sR (ab_nw h2 13 10 (fun _ => 0)) o 4 (some (ab_N h2)) = h3 from e3.symm]
  clear e3
  (conv => whnf)
  refine ⟨by decide, by decide, (by first | decide | (rw [nI_clamp (by omega)]; decide)), ?_⟩
  rw [nI_clamp (by omega)]
  (conv => whnf)
  refine ⟨PR_K P3 hK hN, ?_⟩
  obtain ⟨h4, e4⟩ : ∃ q, q = ct_n h3 o 5 13 10 := ⟨_, rfl⟩
  have P4 := PR_n (k := 5) (kd := 13) (len := 10) P3 hN (fun _ => rfl) (by decide)
  rw [← e4] at P4
  rw [show ab_sR (ab_nw h3 13 10 (fun _ => 0)) o 5 (some (ab_N h3)) = h4 from e4.symm]
  clear e4
  (conv => whnf)
  refine ⟨by decide, by decide, (by first | decide | (rw [nI_clamp (by omega)]; decide)), ?_⟩
  rw [nI_clamp (by omega)]
  (conv => whnf)
  refine ⟨PR_K P4 hK hN, ?_⟩
  obtain ⟨h5, e5⟩ : ∃ q, q = ct_n h4 o 6 13 12 := ⟨_, rfl⟩
  have P5 := PR_n (k := 6) (kd := 13) (len := 12) P4 hN (fun _ => rfl) (by decide)
  rw [← e5] at P5
  rw [show ab_sR (ab_nw h4 13 12 (fun _ => 0)) o 6 (some (ab_N h4)) = h5 from e5.symm]
  clear e5
  (conv => whnf)
  refine ⟨by decide, by decide, (by first | decide | (rw [nI_clamp (by omega)]; decide)), ?_⟩
  rw [nI_clamp (by omega)]
  (conv => whnf)
  refine ⟨PR_K P5 hK hN, ?_⟩
  obtain ⟨h6, e6⟩ : ∃ q, q = ct_n h5 o 8 17 4 := ⟨_, rfl⟩
  have P6 := PR_n (k := 8) (kd := 17) (len := 4) P5 hN (fun _ => rfl) (by decide)
  rw [← e6] at P6
  rw [show ab_sR (ab_nw h5 17 4 (fun _ => 0)) o 8 (some (ab_N h5)) = h6 from e6.symm]
  clear e6
  (conv => whnf)
  refine ⟨P6.2.2.1.1.trans hK, ?_⟩
  obtain ⟨h7, e7⟩ : ∃ q, q = ab_sI h6 o 9 (-1) := ⟨_, rfl⟩
  have P7 := PR_I (k := 9) (x := (-1)) P6 hN
  rw [← e7] at P7
  rw [← e7]
  clear e7
  (conv => whnf)
  have fc := P7.2.2.2.2 4 _ rfl
  refine ⟨P7.2.2.1.1.trans hK, ab_N h + 4, fc.2.2.2 (by decide), ?_⟩
  (conv => whnf)
  refine hc _ _ _ _ (ok_fill (by omega) _ fc.1 fc.2.1 (by decide) ?_)
  (conv => whnf)
  have B := NB_A (f := fa_fill (fun _ => nI 4) (ab_I h7 (ab_N h + 4)) 12) (PR_NB (m := o + 7) P7 hN hK hL ck rfl) (show o ≤ ab_N h + 4 by omega)
  have io : ∀ k, ab_I (ab_sA h7 (ab_N h + 4) (fa_fill (fun _ => nI 4) (ab_I h7 (ab_N h + 4)) 12)) o k = upd (fun _ => 0) 9 (-1) k := fun k => (congrFun (rA_a _ _ (by omega)) k).trans (congrFun P7.2.2.1.2.2 k)
  have ij : ∀ j q, [(1, 13, 5), (3, 13, 10), (4, 13, 10), (5, 13, 10), (6, 13, 12), (8, 17, 4)][j]? = some q → j ≠ 4 → ∀ k, ab_I (ab_sA h7 (ab_N h + 4) (fa_fill (fun _ => nI 4) (ab_I h7 (ab_N h + 4)) 12)) (o + (1 + j)) k = 0 := fun j q e hj k => by
    rw [rA_a _ _ (by omega), show o + (1 + j) = ab_N h + j by omega]
    exact (P7.2.2.2.2 j q e).2.2.1 k
  refine hq _ B ⟨⟨io 0, io 2, io 7, (io 9).trans (by decide)⟩, fun k hk => ij 0 _ rfl (by decide) k, fun p hp => ⟨ij 1 _ rfl (by decide) p, ij 2 _ rfl (by decide) p, ij 3 _ rfl (by decide) p⟩, fun k hk => ?_⟩ (fun k => P7.2.2.2.1 (o + 6) k (by omega) (by rw [P7.1, hN]; show o + 6 < o + 1 + 6; omega))
  rw [show o + 5 = ab_N h + 4 by omega, rA_s]
  exact fa_fill_in hk
theorem ok_init1 (hd : 2 ≤ d) (hK : ab_K h o = 1) (hL : ab_L h o = 0) (hI : ab_I h o = fun _ => 0) (hN : ab_N h = o + 1) (ck : ckP o 1 (fun _ _ => none) [(0, 13, 5), (1, 13, 5), (2, 13, 10), (3, 13, 10), (9, 13, 30), (10, 13, 30), (11, 13, 30)] = true) (hq : ∀ h', NB h h' o (o + 8) → GR h' o 0 s0 0 → Q none h') : ab_Ok d n_X1_init [.ref o] h Q := by
  have P0 : PR h o (fun _ _ => none) [] (fun _ => 0) h := PR_0 hN hI
  refine ab_go mr_X1_init rfl (by omega) (fun call W hc hW => ?_); (conv => whnf)
  refine ⟨by decide, by decide, (by first | decide | (rw [nI_clamp (by omega)]; decide)), ?_⟩
  rw [nI_clamp (by omega)]
  (conv => whnf)
  refine ⟨PR_K P0 hK hN, ?_⟩
  obtain ⟨h1, e1⟩ : ∃ q, q = ct_n h o 0 13 5 := ⟨_, rfl⟩
  have P1 := PR_n (k := 0) (kd := 13) (len := 5) P0 hN (fun _ => rfl) (by decide)
  rw [← e1] at P1
  rw [show ab_sR (ab_nw h 13 5 (fun _ => 0)) o 0 (some (ab_N h)) = h1 from e1.symm]
  clear e1
  (conv => whnf)
  refine ⟨by decide, by decide, (by first | decide | (rw [nI_clamp (by omega)]; decide)), ?_⟩
  rw [nI_clamp (by omega)]
  (conv => whnf)
  refine ⟨PR_K P1 hK hN, ?_⟩
  obtain ⟨h2, e2⟩ : ∃ q, q = ct_n h1 o 1 13 5 := ⟨_, rfl⟩
  have P2 := PR_n (k := 1) (kd := 13) (len := 5) P1 hN (fun _ => rfl) (by decide)
  rw [← e2] at P2
  rw [show ab_sR (ab_nw h1 13 5 (fun _ => 0)) o 1 (some (ab_N h1)) = h2 from e2.symm]
  clear e2
  (conv => whnf)
  refine ⟨by decide, by decide, (by first | decide | (rw [nI_clamp (by omega)]; decide)), ?_⟩
  rw [nI_clamp (by omega)]
  (conv => whnf)
  refine ⟨PR_K P2 hK hN, ?_⟩
  obtain ⟨h3, e3⟩ : ∃ q, q = ct_n h2 o 2 13 10 := ⟨_, rfl⟩
  have P3 := PR_n (k := 2) (kd := 13) (len := 10) P2 hN (fun _ => rfl) (by decide)
  rw [← e3] at P3
  rw [show ab_sR (ab_nw h2 13 10 (fun _ => 0)) o 2 (some (ab_N h2)) = h3 from e3.symm]
  clear e3
  (conv => whnf)
  refine ⟨by decide, by decide, (by first | decide | (rw [nI_clamp (by omega)]; decide)), ?_⟩
  rw [nI_clamp (by omega)]
  (conv => whnf)
  refine ⟨PR_K P3 hK hN, ?_⟩
  obtain ⟨h4, e4⟩ : ∃ q, q = ct_n h3 o 3 13 10 := ⟨_, rfl⟩
  have P4 := PR_n (k := 3) (kd := 13) (len := 10) P3 hN (fun _ => rfl) (by decide)
  rw [← e4] at P4
  rw [show ab_sR (ab_nw h3 13 10 (fun _ => 0)) o 3 (some (ab_N h3)) = h4 from e4.symm]
  clear e4
  (conv => whnf)
  refine ⟨P4.2.2.1.1.trans hK, ?_⟩
  obtain ⟨h5, e5⟩ : ∃ q, q = ab_sI h4 o 7 (nI 277) := ⟨_, rfl⟩
  have P5 := PR_I (k := 7) (x := (nI 277)) P4 hN
  rw [← e5] at P5
  rw [← e5]
  clear e5
  (conv => whnf)
  refine ⟨by decide, by decide, (by first | decide | (rw [nI_clamp (by omega)]; decide)), ?_⟩
  rw [nI_clamp (by omega)]
  (conv => whnf)
  refine ⟨PR_K P5 hK hN, ?_⟩
  obtain ⟨h6, e6⟩ : ∃ q, q = ct_n h5 o 9 13 30 := ⟨_, rfl⟩
  have P6 := PR_n (k := 9) (kd := 13) (len := 30) P5 hN (fun _ => rfl) (by decide)
  rw [← e6] at P6
  rw [show ab_sR (ab_nw h5 13 30 (fun _ => 0)) o 9 (some (ab_N h5)) = h6 from e6.symm]
  clear e6
  (conv => whnf)
  refine ⟨by decide, by decide, (by first | decide | (rw [nI_clamp (by omega)]; decide)), ?_⟩
  rw [nI_clamp (by omega)]
  (conv => whnf)
  refine ⟨PR_K P6 hK hN, ?_⟩
  obtain ⟨h7, e7⟩ : ∃ q, q = ct_n h6 o 10 13 30 := ⟨_, rfl⟩
  have P7 := PR_n (k := 10) (kd := 13) (len := 30) P6 hN (fun _ => rfl) (by decide)
  rw [← e7] at P7
  rw [show ab_sR (ab_nw h6 13 30 (fun _ => 0)) o 10 (some (ab_N h6)) = h7 from e7.symm]
  clear e7
  (conv => whnf)
  refine ⟨by decide, by decide, (by first | decide | (rw [nI_clamp (by omega)]; decide)), ?_⟩
  rw [nI_clamp (by omega)]
  (conv => whnf)
  refine ⟨PR_K P7 hK hN, ?_⟩
  obtain ⟨h8, e8⟩ : ∃ q, q = ct_n h7 o 11 13 30 := ⟨_, rfl⟩
  have P8 := PR_n (k := 11) (kd := 13) (len := 30) P7 hN (fun _ => rfl) (by decide)
  rw [← e8] at P8
  rw [show ab_sR (ab_nw h7 13 30 (fun _ => 0)) o 11 (some (ab_N h7)) = h8 from e8.symm]
  clear e8
  (conv => whnf)
  have fc := P8.2.2.2.2 3 _ rfl
  refine ⟨P8.2.2.1.1.trans hK, ab_N h + 3, fc.2.2.2 (by decide), ?_⟩
  (conv => whnf)
  refine hc _ _ _ _ (ok_fill (by omega) _ fc.1 fc.2.1 (by decide) ?_)
  (conv => whnf)
  have B := NB_A (f := fa_fill (fun _ => -1) (ab_I h8 (ab_N h + 3)) 10) (PR_NB (m := o + 8) P8 hN hK hL ck rfl) (show o ≤ ab_N h + 3 by omega)
  have io : ∀ k, ab_I (ab_sA h8 (ab_N h + 3) (fa_fill (fun _ => -1) (ab_I h8 (ab_N h + 3)) 10)) o k = upd (fun _ => 0) 7 (nI 277) k := fun k => (congrFun (rA_a _ _ (by omega)) k).trans (congrFun P8.2.2.1.2.2 k)
  have ij : ∀ j q, [(0, 13, 5), (1, 13, 5), (2, 13, 10), (3, 13, 10), (9, 13, 30), (10, 13, 30), (11, 13, 30)][j]? = some q → j ≠ 3 → ∀ k, ab_I (ab_sA h8 (ab_N h + 3) (fa_fill (fun _ => -1) (ab_I h8 (ab_N h + 3)) 10)) (o + (1 + j)) k = 0 := fun j q e hj k => by
    rw [rA_a _ _ (by omega), show o + (1 + j) = ab_N h + j by omega]
    exact (P8.2.2.2.2 j q e).2.2.1 k
  refine hq _ B ⟨⟨io 4, io 5, io 6, io 7, io 8, by decide⟩, fun k hk => ⟨ij 0 _ rfl (by decide) k, ij 1 _ rfl (by decide) k⟩, fun p hp => ⟨ij 2 _ rfl (by decide) p, ?_⟩, fun i hi => absurd hi (by show ¬ i < 0; omega)⟩
  rw [show o + 4 = ab_N h + 3 by omega, rA_s]
  exact (fa_fill_in hp).trans (show (-1 : Int32) = nI 0 - 1 by decide)
theorem ok_init2 (hd : 2 ≤ d) (hK : ab_K h o = 2) (hL : ab_L h o = 0) (hI : ab_I h o = fun _ => 0) (hN : ab_N h = o + 1) (ck : ckP o 2 (fun x k => if x = o + 2 then (if k < 5 then some (o + 3 + k) else none) else none) [(0, 13, 5), (1, 18, 5), (100, 13, 5), (100, 13, 5), (100, 13, 5), (100, 13, 5), (100, 13, 5), (2, 13, 5), (4, 13, 6), (5, 13, 6), (7, 13, 8), (8, 13, 8)] = true) (hq : ∀ h', NB h h' o (o + 13) → HR h' o s0 → Q none h') : ab_Ok d n_X2_init [.ref o] h Q := by
  have P0 : PR h o (fun x k => if x = o + 2 then (if k < 5 then some (o + 3 + k) else none) else none) [] (fun _ => 0) h := PR_0 hN hI
  refine ab_go mr_X2_init rfl (by omega) (fun call W hc hW => ?_); (conv => whnf)
  refine ⟨by decide, by decide, (by first | decide | (rw [nI_clamp (by omega)]; decide)), ?_⟩
  rw [nI_clamp (by omega)]
  (conv => whnf)
  refine ⟨PR_K P0 hK hN, ?_⟩
  obtain ⟨h1, e1⟩ : ∃ q, q = ct_n h o 0 13 5 := ⟨_, rfl⟩
  have P1 := PR_n (k := 0) (kd := 13) (len := 5) P0 hN (fun j => if_neg (by rw [P0.1, hN]; simp only [List.length_append, List.length_cons, List.length_nil, List.length_replicate]; omega)) (by decide)
  rw [← e1] at P1
  rw [show ab_sR (ab_nw h 13 5 (fun _ => 0)) o 0 (some (ab_N h)) = h1 from e1.symm]
  clear e1
  (conv => whnf)
  refine ⟨by decide, by decide, by first | decide | (rw [nI_clamp (by omega)]; decide), by first | decide | (rw [nI_clamp (by omega)]; decide), ?_⟩
  rw [nI_clamp (by omega)]
  (conv => whnf)
  have n1 : ab_N h1 = o + 2 := by rw [P1.1, hN]; rfl
  refine ⟨(mn_lo h1 5 5 (show o < ab_N h1 by omega)).1.trans (P1.2.2.1.1.trans hK), ?_⟩
  obtain ⟨h2, e2⟩ : ∃ q, q = ab_sR (ab_mn h1 5 5) o 1 (some (ab_N h1)) := ⟨_, rfl⟩
  have P2 := PR_m (k := 1) (n := 5) (m := 5) P1 hN (fun j => by rw [n1, if_pos rfl]) (fun x j h1 h2 => if_neg (by omega)) (by decide) (by decide)
  rw [← e2] at P2
  rw [← e2]
  clear e2
  (conv => whnf)
  refine ⟨by decide, by decide, (by first | decide | (rw [nI_clamp (by omega)]; decide)), ?_⟩
  rw [nI_clamp (by omega)]
  (conv => whnf)
  refine ⟨PR_K P2 hK hN, ?_⟩
  obtain ⟨h3, e3⟩ : ∃ q, q = ct_n h2 o 2 13 5 := ⟨_, rfl⟩
  have P3 := PR_n (k := 2) (kd := 13) (len := 5) P2 hN (fun j => if_neg (by rw [P2.1, hN]; simp only [List.length_append, List.length_cons, List.length_nil, List.length_replicate]; omega)) (by decide)
  rw [← e3] at P3
  rw [show ab_sR (ab_nw h2 13 5 (fun _ => 0)) o 2 (some (ab_N h2)) = h3 from e3.symm]
  clear e3
  (conv => whnf)
  refine ⟨by decide, by decide, (by first | decide | (rw [nI_clamp (by omega)]; decide)), ?_⟩
  rw [nI_clamp (by omega)]
  (conv => whnf)
  refine ⟨PR_K P3 hK hN, ?_⟩
  obtain ⟨h4, e4⟩ : ∃ q, q = ct_n h3 o 4 13 6 := ⟨_, rfl⟩
  have P4 := PR_n (k := 4) (kd := 13) (len := 6) P3 hN (fun j => if_neg (by rw [P3.1, hN]; simp only [List.length_append, List.length_cons, List.length_nil, List.length_replicate]; omega)) (by decide)
  rw [← e4] at P4
  rw [show ab_sR (ab_nw h3 13 6 (fun _ => 0)) o 4 (some (ab_N h3)) = h4 from e4.symm]
  clear e4
  (conv => whnf)
  refine ⟨by decide, by decide, (by first | decide | (rw [nI_clamp (by omega)]; decide)), ?_⟩
  rw [nI_clamp (by omega)]
  (conv => whnf)
  refine ⟨PR_K P4 hK hN, ?_⟩
  obtain ⟨h5, e5⟩ : ∃ q, q = ct_n h4 o 5 13 6 := ⟨_, rfl⟩
  have P5 := PR_n (k := 5) (kd := 13) (len := 6) P4 hN (fun j => if_neg (by rw [P4.1, hN]; simp only [List.length_append, List.length_cons, List.length_nil, List.length_replicate]; omega)) (by decide)
  rw [← e5] at P5
  rw [show ab_sR (ab_nw h4 13 6 (fun _ => 0)) o 5 (some (ab_N h4)) = h5 from e5.symm]
  clear e5
  (conv => whnf)
  refine ⟨by decide, by decide, (by first | decide | (rw [nI_clamp (by omega)]; decide)), ?_⟩
  rw [nI_clamp (by omega)]
  (conv => whnf)
  refine ⟨PR_K P5 hK hN, ?_⟩
  obtain ⟨h6, e6⟩ : ∃ q, q = ct_n h5 o 7 13 8 := ⟨_, rfl⟩
  have P6 := PR_n (k := 7) (kd := 13) (len := 8) P5 hN (fun j => if_neg (by rw [P5.1, hN]; simp only [List.length_append, List.length_cons, List.length_nil, List.length_replicate]; omega)) (by decide)
  rw [← e6] at P6
  rw [show ab_sR (ab_nw h5 13 8 (fun _ => 0)) o 7 (some (ab_N h5)) = h6 from e6.symm]
  clear e6
  (conv => whnf)
  refine ⟨by decide, by decide, (by first | decide | (rw [nI_clamp (by omega)]; decide)), ?_⟩
  rw [nI_clamp (by omega)]
  (conv => whnf)
  refine ⟨PR_K P6 hK hN, ?_⟩
  obtain ⟨h7, e7⟩ : ∃ q, q = ct_n h6 o 8 13 8 := ⟨_, rfl⟩
  have P7 := PR_n (k := 8) (kd := 13) (len := 8) P6 hN (fun j => if_neg (by rw [P6.1, hN]; simp only [List.length_append, List.length_cons, List.length_nil, List.length_replicate]; omega)) (by decide)
  rw [← e7] at P7
  rw [show ab_sR (ab_nw h6 13 8 (fun _ => 0)) o 8 (some (ab_N h6)) = h7 from e7.symm]
  clear e7
  (conv => whnf)
  have fa := P7.2.2.2.2 0 _ rfl
  have fb := P7.2.2.2.2 7 _ rfl
  have B := PR_NB (m := o + 13) P7 hN hK hL ck rfl
  refine ⟨P7.2.2.1.1.trans hK, ab_N h + 0, fa.2.2.2 (by decide), ?_⟩
  (conv => whnf)
  refine hc _ _ _ _ (ok_fill (by omega) _ fa.1 fa.2.1 (by decide) ?_)
  obtain ⟨hA, eA⟩ : ∃ q, q = ab_sA h7 (ab_N h + 0) (fa_fill (fun _ => nI 3) (ab_I h7 (ab_N h + 0)) 5) := ⟨_, rfl⟩
  rw [← eA]
  have KA : ab_K hA = ab_K h7 ∧ ab_L hA = ab_L h7 ∧ ab_R hA = ab_R h7 := by rw [eA]; exact ⟨rfl, rfl, rfl⟩
  have IA : ∀ x, x ≠ o + 1 → ab_I hA x = ab_I h7 x := fun x hx => by rw [eA]; exact rA_a _ _ (by omega)
  have IB : ∀ k, k < 5 → ab_I hA (o + 1) k = nI 3 := fun k hk => by
    rw [eA, show o + 1 = ab_N h + 0 by omega, rA_s]
    exact fa_fill_in hk
  have BA : NB h hA o (o + 13) := by rw [eA]; exact NB_A B (by omega)
  clear eA
  (conv => whnf)
  refine ⟨by rw [KA.1]; exact P7.2.2.1.1.trans hK, ab_N h + 7, by rw [KA.2.2]; exact fb.2.2.2 (by decide), ?_⟩
  (conv => whnf)
  refine hc _ _ _ _ (ok_fill (n := 5) (by omega) _ (by rw [KA.1]; exact fb.1) (by rw [KA.2.1]; exact fb.2.1) (by decide) ?_)
  obtain ⟨hB, eB⟩ : ∃ q, q = ab_sA hA (ab_N h + 7) (fa_fill (fun _ => nI 1) (ab_I hA (ab_N h + 7)) 5) := ⟨_, rfl⟩
  rw [← eB]
  have IC : ∀ x, x ≠ o + 8 → ab_I hB x = ab_I hA x := fun x hx => by rw [eB]; exact rA_a _ _ (by omega)
  have ID : ∀ k, k < 5 → ab_I hB (o + 8) k = nI 1 := fun k hk => by
    rw [eB, show o + 8 = ab_N h + 7 by omega, rA_s]
    exact fa_fill_in hk
  have BB : NB h hB o (o + 13) := by rw [eB]; exact NB_A BA (by omega)
  clear eB
  (conv => whnf)
  have io : ∀ k, ab_I hB o k = 0 := fun k => by rw [IC _ (by omega), IA _ (by omega)]; exact congrFun P7.2.2.1.2.2 k
  have ij : ∀ j q, [(0, 13, 5), (1, 18, 5), (100, 13, 5), (100, 13, 5), (100, 13, 5), (100, 13, 5), (100, 13, 5), (2, 13, 5), (4, 13, 6), (5, 13, 6), (7, 13, 8), (8, 13, 8)][j]? = some q → j ≠ 0 → j ≠ 7 → ∀ k, ab_I hB (o + (1 + j)) k = 0 := fun j q e h0 h7 k => by
    rw [IC _ (by omega), IA _ (by omega), show o + (1 + j) = ab_N h + j by omega]
    exact (P7.2.2.2.2 j q e).2.2.1 k
  refine hq _ BB ⟨⟨io 3, io 6⟩, fun k hk => ⟨by rw [IC _ (by omega)]; exact IB k hk, ID k hk⟩, fun a c ha hc => ?_, fun k hk => ⟨ij 8 _ rfl (by decide) (by decide) k, ij 9 _ rfl (by decide) (by decide) k⟩, fun k hk => ⟨ij 10 _ rfl (by decide) (by decide) k, ij 11 _ rfl (by decide) (by decide) k⟩⟩
  have e0 : s0 12 (5 * a + c) = 0 := rfl
  rw [e0, show o + 3 + a = o + (1 + (2 + a)) by omega]
  rcases (show a = 0 ∨ a = 1 ∨ a = 2 ∨ a = 3 ∨ a = 4 by omega) with rfl | rfl | rfl | rfl | rfl
  · exact ij 2 _ rfl (by decide) (by decide) c
  · exact ij 3 _ rfl (by decide) (by decide) c
  · exact ij 4 _ rfl (by decide) (by decide) c
  · exact ij 5 _ rfl (by decide) (by decide) c
  · exact ij 6 _ rfl (by decide) (by decide) c
end CTR
