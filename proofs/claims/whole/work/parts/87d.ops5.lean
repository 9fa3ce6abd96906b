/-! ===== one call on both sides: a text is read (mine) ===== -/
theorem WF_tx {s : Sv} (W : WF s) (h4 : s 18 2 < 4) : WF (st2 s 18 2 (s 18 2 + 1)) := by
  obtain ⟨G, H⟩ := (WF_iff s).mp W
  obtain ⟨⟨a1, a2, a3, a4, a5, a6⟩, b', c', e, f⟩ := G
  have o : ∀ x j, ¬ (x = 18 ∧ j = 2) → st2 s 18 2 (s 18 2 + 1) x j = s x j := fun x j z => s2_o s z
  refine (WF_iff _).mpr ⟨⟨⟨by rw [o _ _ (by omega)]; exact a1, by rw [o _ _ (by omega)]; exact a2, by rw [o _ _ (by omega)]; exact GW_c (fun x j h1 _ => o _ _ (by omega)) a3, fun k hk => by rw [o _ _ (by omega)]; exact a4 k hk, fun p hp => by rw [o _ _ (by omega), o _ _ (by omega), o _ _ (by omega)]; exact a5 p hp, fun c hc => by rw [o _ _ (by omega)]; exact a6 c hc⟩, by rw [o _ _ (by omega)]; exact b', fun j hj => ?_, by rw [s2_s]; omega, by rw [s2_s, o _ _ (by omega)]; omega⟩, WHg H (fun x k z => o _ _ (by omega)) (by rw [o _ _ (by omega)]; exact Nat.le_refl _)⟩
  rw [o _ _ (by omega)] at hj
  obtain ⟨c1, c2⟩ := c' j hj
  rw [o _ _ (by omega), o _ _ (by omega), o _ _ (by omega)]
  exact ⟨c1, GW_c (fun x j h1 _ => o _ _ (by omega)) c2⟩
section LTX
variable {d : Nat} {h : Hp} {Q : Option Value → Hp → Prop} {L : Nat} {X : Nat → Int32}
theorem lp_text (hd : 200 ≤ d) (I : INV h L X) (K : ∀ v h1, Kt d n_X12_text [.ref 580] L X (.int v) h1 → Q (some (.int v)) h1) : ab_Ok d n_X11_text [.ref 5] h Q := by
  obtain ⟨s, si, tx, n, b, f, p, B, C, R, W, Wi, hsi, hn3⟩ := I; have I0 : INV h L X := ⟨s, si, tx, n, b, f, p, B, C, R, W, Wi, hsi, hn3⟩; have S := B.1; have w2 := W.1.2.2.1
  obtain ⟨c1, c2, c3, c4, c5, c6, c7⟩ := C
  obtain ⟨vf, hv⟩ := tx_vf b n
  have l5 : ∀ a k, fTa a k → a < 594 := fun a k z => by unfold fTa at z; omega
  refine oc_text (by omega) S B.2.1 hn3 c1 w2 c5 B.2.2.1 vf hv (fun e4 => ?_) (fun l z h1 C1 T1 r1 r2 r3 g9 g10 g2 N1 F1 => ?_) (fun l z h1 C1 g9 g10 g2 F1 => ?_)
  · exact K _ h ⟨B, fun Q2 q2 => om_text (by omega) S hn3 R.1 w2 R.2.2.2.1 vf hv (fun _ => q2 h I0) (fun l => absurd e4 (by omega)) (fun l => absurd e4 (by omega))⟩
  · have B1 := BS_C F1 (fun a k z => by unfold fTa at z; omega) B
    have R1 : RSM h1 s si tx n b f p := RSM_C F1 B.2.2.1 (fun a k z => by unfold fTa at z; omega) R
    have gI : ∀ a k, a < 594 → ¬ fTa a k → ab_I h1 a k = ab_I h a k := fun a k h1 h2 => (F1.2 a (by have := B.2.2.1; omega)).2.2.2 k h2
    obtain ⟨tx', etx⟩ : ∃ tx' : Nat → Tx, tx' = fun t => if t = s 18 2 then txOf (txF b n).2.2.1 (txF b n).2.2.2.1 vf else tx t := ⟨_, rfl⟩
    have e1 : tx' (s 18 2) = txOf (txF b n).2.2.1 (txF b n).2.2.2.1 vf := by rw [etx]; exact if_pos rfl
    have e2 : ∀ t, t < s 18 2 → tx' t = tx t := fun t ht => by rw [etx]; exact if_neg (by omega)
    have T13 : TXI h1 13 (st2 s 18 2 (s 18 2 + 1)) tx' := fun t ht => by
      rw [s2_s] at ht
      rcases Nat.lt_or_ge t (s 18 2) with y | y
      · exact TXI_C2 F1 l5 e2 (fun t ht => r2 t (by omega)) c3.1 t y
      · obtain rfl : t = s 18 2 := by omega
        rw [e1]
        exact ⟨ab_N h, r1, by omega, T1⟩
    have T285 : TXI h1 285 si tx' := TXI_C2 F1 l5 (fun t ht => e2 t (by omega)) (fun t _ => by rw [r3]) c3.2
    have K13 : RK h1 13 := fun k c hk e => by
      by_cases y : k = s 18 2
      · rw [y, r1] at e
        obtain rfl : ab_N h = c := Option.some.inj e
        obtain ⟨len, O, _⟩ := T1
        exact ⟨O.2.1, by omega⟩
      · rw [r2 k y] at e
        obtain ⟨q1, q2⟩ := c4.1 k c hk e
        exact ⟨(F1.2 c q2).1.trans q1, by omega⟩
    have K285 : RK h1 285 := fun k c hk e => by
      rw [r3] at e
      obtain ⟨q1, q2⟩ := c4.2 k c hk e
      exact ⟨(F1.2 c q2).1.trans q1, by omega⟩
    have D1 : CS h1 (st2 s 18 2 (s 18 2 + 1)) si tx' 0 b (nI 0) (-1) := ⟨C1, CR_I c2 (fun a k ha => gI a k (by omega) (fun z => by unfold fTa at z; omega)), ⟨T13, T285⟩, ⟨K13, K285⟩, ⟨g2, fun k hk => absurd hk (Nat.not_lt_zero _)⟩, g9, g10⟩
    refine K _ h1 ⟨B1, fun Q2 q2 => om_text (by omega) B1.1 hn3 R1.1 w2 R1.2.2.2.1 vf hv (fun e4 => absurd e4 (by omega)) (fun _ _ h2 M2 T2 j5 j6 j4 F2 => ?_) (fun _ zz => absurd z zz)⟩
    have g2 : ∀ a k, ¬ fTx (s 18 2) a k → ab_I h2 a k = ab_I h1 a k := F2.2.2.2.2
    obtain ⟨_, d2, d3, d4, _, _, d7⟩ := R1
    refine q2 h2 ⟨st2 s 18 2 (s 18 2 + 1), si, tx', 0, b, nI 0, -1, BS_fr F2 (fun a k z => by unfold fTx at z; omega) B1, CS_fr F2 (fun a k z => by unfold fTx at z; omega) D1, ⟨M2, MS_c d2 (fun k _ => g2 _ k (fun z => by unfold fTx at z; omega)), fun t ht => ?_, ⟨j4, fun k hk => absurd hk (Nat.not_lt_zero _)⟩, j5, j6, (g2 _ _ (fun z => by unfold fTx at z; omega)).trans d7⟩, WF_tx W l, Wi, by rw [s2_s]; omega, Nat.zero_le _⟩
    rw [s2_s] at ht
    rcases Nat.lt_or_ge t (s 18 2) with y | y
    · rw [e2 t y]
      exact TM_c (fun k _ hk => g2 _ _ (fun z => by unfold fTx at z; omega)) (d3 t y)
    · obtain rfl : t = s 18 2 := by omega
      rw [e1]
      exact T2
  · have B1 := BS_fr F1 (fun a k z => by unfold fTa at z; omega) B
    have R1 : RSM h1 s si tx n b f p := RSM_fr F1 (fun a k z => by unfold fTa at z; omega) R
    have D1 : CS h1 s si tx 0 b (nI (txF b n).1) (nI (stP b n (txF b n).2.1)) := ⟨C1, CR_I c2 (fun a k ha => F1.2.2.2.2 a k (fun z => by unfold fTa at z; omega)), ⟨TXI_fr F1 l5 c3.1 rfl, TXI_fr F1 l5 c3.2 rfl⟩, ⟨RK_fr F1 c4.1, RK_fr F1 c4.2⟩, ⟨g2, fun k hk => absurd hk (Nat.not_lt_zero _)⟩, g9, g10⟩
    refine K _ h1 ⟨B1, fun Q2 q2 => om_text (by omega) B1.1 hn3 R1.1 w2 R1.2.2.2.1 vf hv (fun e4 => absurd e4 (by omega)) (fun _ zz => absurd zz z) (fun _ _ h2 M2 j5 j6 j4 F2 => ?_)⟩
    have g2 : ∀ a k, ¬ fTx (s 18 2) a k → ab_I h2 a k = ab_I h1 a k := F2.2.2.2.2
    obtain ⟨_, d2, d3, d4, _, _, d7⟩ := R1
    refine q2 h2 ⟨s, si, tx, 0, b, nI (txF b n).1, nI (stP b n (txF b n).2.1), BS_fr F2 (fun a k z => by unfold fTx at z; omega) B1, CS_fr F2 (fun a k z => by unfold fTx at z; omega) D1, ⟨M2, MS_c d2 (fun k _ => g2 _ k (fun z => by unfold fTx at z; omega)), fun t ht => ?_, ⟨j4, fun k hk => absurd hk (Nat.not_lt_zero _)⟩, j5, j6, (g2 _ _ (fun z => by unfold fTx at z; omega)).trans d7⟩, W, Wi, hsi, Nat.zero_le _⟩
    exact TM_c (fun k _ hk => g2 _ _ (fun z => by unfold fTx at z; omega)) (d3 t ht)
end LTX
