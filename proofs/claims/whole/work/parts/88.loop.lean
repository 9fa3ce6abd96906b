/-! ===== the law's loop (mine) ===== -/
theorem lw_lt : ∀ L, L < 6 → ∀ i, i < 6 → nI L - nI 6 < nI i := by decide
set_option maxRecDepth 100000 in
set_option maxHeartbeats 8000000 in
theorem lw_loop {L : Nat} {X : Nat → Int32} {Q : Option Value → Hp → Prop} {call : CallT} {W : Nat → List Value → Hp → Nat → Nat → Prop} (hL : L ≤ 3072) (hc : ∀ i args h Q, ab_Ok 1000 i args h Q → call i args h Q) (hW : ∀ pc vs h nc ns, ab_hd call n_L_law mr_L_law Q W pc vs h nc ns → W pc vs h nc ns) (hQ : ∀ h, Q (some (.int (nI 1))) h) : ∀ r q h nc ns, q + r = 513 → 6 * q ≤ L → nc ≤ 589 + 6 * q → ns ≤ 19081 + 1811 * q → INV h L X → W 18 [.ref 0, .ref 5, .ref 580, .int (nI (6 * q))] h nc ns := by
  intro r
  induction r with
  | zero => intro q h nc ns e1 e2; omega
  | succ r ih =>
    intro q h nc ns e1 e2 e3 e4 I
    have nx : ∀ h2 nc2 ns2, nc2 ≤ nc + 6 → ns2 ≤ ns + 1811 → 6 * q + 6 ≤ L → INV h2 L X → W 18 [.ref 0, .ref 5, .ref 580, .int (nI (6 * q + 6))] h2 nc2 ns2 := fun h2 nc2 ns2 g1 g2 g3 I2 => by
      rw [show 6 * q + 6 = 6 * (q + 1) by omega]
      exact ih (q + 1) h2 nc2 ns2 (by omega) (by omega) (by omega) (by omega) I2
    clear ih
    obtain ⟨B, _⟩ : BS h L X ∧ True := by
      obtain ⟨s, si, tx, n, b, f, p, B, _⟩ := I
      exact ⟨B, trivial⟩
    refine hW _ _ _ _ _ ?_
    (conv => whnf)
    refine ⟨B.1.1 0 (by decide), ?_⟩
    (conv => whnf)
    rw [B.2.2.2.1, ofN]
    refine ⟨fun f => ?_, fun f => ?_⟩
    · (conv => whnf)
      exact ⟨Or.inr rfl, rtI (Mc := 3661) (Ms := 946313) (nc := nc) (ns := ns) (by omega) (by omega) (hQ h)⟩
    have hi : 6 * q + 6 ≤ L := by
      rcases Nat.lt_or_ge L 6 with z | z
      · exact absurd (lw_lt L z (6 * q) (by omega)) f
      · rw [pk_sub z] at f
        have f : ¬ (nI (L - 6) < nI (6 * q)) := f
        rw [nI_ltI (by omega) (by omega)] at f
        omega
    clear f
    have q5 : q < 512 := by omega
    (conv => whnf)
    refine ⟨B.1.1 0 (by decide), vin _ B.2.2.2.1 (by omega) (by omega), ?_⟩
    (conv => whnf)
    refine ⟨fun _ => ?_, fun _ => ?_⟩
    · (conv => whnf)
      rw [nI_add]
      refine ⟨B.1.1 0 (by decide), vin _ B.2.2.2.1 (by omega) (by omega), ?_⟩
      (conv => whnf)
      rw [nI_clamp (by omega)]
      try rw [B.2.2.2.2]
      refine ⟨B.1.1 5 (by decide), ?_⟩
      refine rtI (Mc := 3661) (Ms := 946313) (by omega) (by omega) ?_
      refine hc _ _ _ _ (lp_horse (by omega) I _ (fun v h1 K1 => ?_))
      obtain ⟨B1, K1⟩ := K1
      (conv => whnf)
      rw [nI_add]
      refine ⟨B1.1.1 0 (by decide), vin _ B1.2.2.2.1 (by omega) (by omega), ?_⟩
      (conv => whnf)
      rw [nI_clamp (by omega)]
      try rw [B1.2.2.2.2]
      refine ⟨B1.1.1 580 (by decide), ?_⟩
      refine rtI (Mc := 3661) (Ms := 946313) (by omega) (by omega) ?_
      refine hc _ _ _ _ (K1 _ (fun h2 I2 => ?_))
      (conv => whnf)
      refine bT rfl ?_
      (conv => whnf)
      rw [nI_add]
      exact nx h2 _ _ (by omega) (by omega) hi I2
    (conv => whnf)
    refine ⟨fun _ => ?_, fun _ => ?_⟩
    · (conv => whnf)
      rw [nI_add]
      refine ⟨B.1.1 0 (by decide), vin _ B.2.2.2.1 (by omega) (by omega), ?_⟩
      (conv => whnf)
      rw [nI_clamp (by omega)]
      try rw [B.2.2.2.2]
      rw [nI_add]
      refine ⟨B.1.1 0 (by decide), vin _ B.2.2.2.1 (by omega) (by omega), ?_⟩
      (conv => whnf)
      rw [nI_clamp (by omega)]
      try rw [B.2.2.2.2]
      rw [nI_add]
      refine ⟨B.1.1 0 (by decide), vin _ B.2.2.2.1 (by omega) (by omega), ?_⟩
      (conv => whnf)
      rw [nI_clamp (by omega)]
      try rw [B.2.2.2.2]
      refine ⟨B.1.1 5 (by decide), ?_⟩
      refine rtI (Mc := 3661) (Ms := 946313) (by omega) (by omega) ?_
      refine hc _ _ _ _ (lp_piece (by omega) I _ _ _ (fun v h1 K1 => ?_))
      obtain ⟨B1, K1⟩ := K1
      (conv => whnf)
      rw [nI_add]
      refine ⟨B1.1.1 0 (by decide), vin _ B1.2.2.2.1 (by omega) (by omega), ?_⟩
      (conv => whnf)
      rw [nI_clamp (by omega)]
      try rw [B1.2.2.2.2]
      rw [nI_add]
      refine ⟨B1.1.1 0 (by decide), vin _ B1.2.2.2.1 (by omega) (by omega), ?_⟩
      (conv => whnf)
      rw [nI_clamp (by omega)]
      try rw [B1.2.2.2.2]
      rw [nI_add]
      refine ⟨B1.1.1 0 (by decide), vin _ B1.2.2.2.1 (by omega) (by omega), ?_⟩
      (conv => whnf)
      rw [nI_clamp (by omega)]
      try rw [B1.2.2.2.2]
      refine ⟨B1.1.1 580 (by decide), ?_⟩
      refine rtI (Mc := 3661) (Ms := 946313) (by omega) (by omega) ?_
      refine hc _ _ _ _ (K1 _ (fun h2 I2 => ?_))
      (conv => whnf)
      refine bT rfl ?_
      (conv => whnf)
      rw [nI_add]
      exact nx h2 _ _ (by omega) (by omega) hi I2
    (conv => whnf)
    refine ⟨fun _ => ?_, fun _ => ?_⟩
    · (conv => whnf)
      rw [nI_add]
      refine ⟨B.1.1 0 (by decide), vin _ B.2.2.2.1 (by omega) (by omega), ?_⟩
      (conv => whnf)
      rw [nI_clamp (by omega)]
      try rw [B.2.2.2.2]
      rw [nI_add]
      refine ⟨B.1.1 0 (by decide), vin _ B.2.2.2.1 (by omega) (by omega), ?_⟩
      (conv => whnf)
      rw [nI_clamp (by omega)]
      try rw [B.2.2.2.2]
      refine ⟨B.1.1 5 (by decide), ?_⟩
      refine rtI (Mc := 3661) (Ms := 946313) (by omega) (by omega) ?_
      refine hc _ _ _ _ (lp_wind (by omega) I _ _ (fun v h1 K1 => ?_))
      obtain ⟨B1, K1⟩ := K1
      (conv => whnf)
      rw [nI_add]
      refine ⟨B1.1.1 0 (by decide), vin _ B1.2.2.2.1 (by omega) (by omega), ?_⟩
      (conv => whnf)
      rw [nI_clamp (by omega)]
      try rw [B1.2.2.2.2]
      rw [nI_add]
      refine ⟨B1.1.1 0 (by decide), vin _ B1.2.2.2.1 (by omega) (by omega), ?_⟩
      (conv => whnf)
      rw [nI_clamp (by omega)]
      try rw [B1.2.2.2.2]
      refine ⟨B1.1.1 580 (by decide), ?_⟩
      refine rtI (Mc := 3661) (Ms := 946313) (by omega) (by omega) ?_
      refine hc _ _ _ _ (K1 _ (fun h2 I2 => ?_))
      (conv => whnf)
      refine bT rfl ?_
      (conv => whnf)
      rw [nI_add]
      exact nx h2 _ _ (by omega) (by omega) hi I2
    (conv => whnf)
    refine ⟨fun _ => ?_, fun _ => ?_⟩
    · (conv => whnf)
      rw [nI_add]
      refine ⟨B.1.1 0 (by decide), vin _ B.2.2.2.1 (by omega) (by omega), ?_⟩
      (conv => whnf)
      rw [nI_clamp (by omega)]
      try rw [B.2.2.2.2]
      rw [nI_add]
      refine ⟨B.1.1 0 (by decide), vin _ B.2.2.2.1 (by omega) (by omega), ?_⟩
      (conv => whnf)
      rw [nI_clamp (by omega)]
      try rw [B.2.2.2.2]
      rw [nI_add]
      refine ⟨B.1.1 0 (by decide), vin _ B.2.2.2.1 (by omega) (by omega), ?_⟩
      (conv => whnf)
      rw [nI_clamp (by omega)]
      try rw [B.2.2.2.2]
      rw [nI_add]
      refine ⟨B.1.1 0 (by decide), vin _ B.2.2.2.1 (by omega) (by omega), ?_⟩
      (conv => whnf)
      rw [nI_clamp (by omega)]
      try rw [B.2.2.2.2]
      rw [nI_add]
      refine ⟨B.1.1 0 (by decide), vin _ B.2.2.2.1 (by omega) (by omega), ?_⟩
      (conv => whnf)
      rw [nI_clamp (by omega)]
      try rw [B.2.2.2.2]
      refine ⟨B.1.1 5 (by decide), ?_⟩
      refine rtI (Mc := 3661) (Ms := 946313) (by omega) (by omega) ?_
      refine hc _ _ _ _ (lp_feed (by omega) I _ _ _ _ _ (fun v h1 K1 => ?_))
      obtain ⟨B1, K1⟩ := K1
      (conv => whnf)
      rw [nI_add]
      refine ⟨B1.1.1 0 (by decide), vin _ B1.2.2.2.1 (by omega) (by omega), ?_⟩
      (conv => whnf)
      rw [nI_clamp (by omega)]
      try rw [B1.2.2.2.2]
      rw [nI_add]
      refine ⟨B1.1.1 0 (by decide), vin _ B1.2.2.2.1 (by omega) (by omega), ?_⟩
      (conv => whnf)
      rw [nI_clamp (by omega)]
      try rw [B1.2.2.2.2]
      rw [nI_add]
      refine ⟨B1.1.1 0 (by decide), vin _ B1.2.2.2.1 (by omega) (by omega), ?_⟩
      (conv => whnf)
      rw [nI_clamp (by omega)]
      try rw [B1.2.2.2.2]
      rw [nI_add]
      refine ⟨B1.1.1 0 (by decide), vin _ B1.2.2.2.1 (by omega) (by omega), ?_⟩
      (conv => whnf)
      rw [nI_clamp (by omega)]
      try rw [B1.2.2.2.2]
      rw [nI_add]
      refine ⟨B1.1.1 0 (by decide), vin _ B1.2.2.2.1 (by omega) (by omega), ?_⟩
      (conv => whnf)
      rw [nI_clamp (by omega)]
      try rw [B1.2.2.2.2]
      refine ⟨B1.1.1 580 (by decide), ?_⟩
      refine rtI (Mc := 3661) (Ms := 946313) (by omega) (by omega) ?_
      refine hc _ _ _ _ (K1 _ (fun h2 I2 => ?_))
      (conv => whnf)
      refine bT rfl ?_
      (conv => whnf)
      rw [nI_add]
      exact nx h2 _ _ (by omega) (by omega) hi I2
    (conv => whnf)
    refine ⟨fun _ => ?_, fun _ => ?_⟩
    · (conv => whnf)
      rw [nI_add]
      refine ⟨B.1.1 0 (by decide), vin _ B.2.2.2.1 (by omega) (by omega), ?_⟩
      (conv => whnf)
      rw [nI_clamp (by omega)]
      try rw [B.2.2.2.2]
      refine ⟨B.1.1 5 (by decide), ?_⟩
      refine rtI (Mc := 3661) (Ms := 946313) (by omega) (by omega) ?_
      refine hc _ _ _ _ (lp_end (by omega) I _ (fun v h1 K1 => ?_))
      obtain ⟨B1, K1⟩ := K1
      (conv => whnf)
      rw [nI_add]
      refine ⟨B1.1.1 0 (by decide), vin _ B1.2.2.2.1 (by omega) (by omega), ?_⟩
      (conv => whnf)
      rw [nI_clamp (by omega)]
      try rw [B1.2.2.2.2]
      refine ⟨B1.1.1 580 (by decide), ?_⟩
      refine rtI (Mc := 3661) (Ms := 946313) (by omega) (by omega) ?_
      refine hc _ _ _ _ (K1 _ (fun h2 I2 => ?_))
      (conv => whnf)
      refine bT rfl ?_
      (conv => whnf)
      rw [nI_add]
      exact nx h2 _ _ (by omega) (by omega) hi I2
    (conv => whnf)
    refine ⟨fun _ => ?_, fun _ => ?_⟩
    · (conv => whnf)
      refine ⟨B.1.1 5 (by decide), ?_⟩
      refine ⟨by show nc + 6 ≤ 3661; omega, by show ns + 1811 ≤ 946313; omega, ?_⟩
      refine hc _ _ _ _ (lp_text (by omega) I (fun v h1 K1 => ?_))
      obtain ⟨B1, K1⟩ := K1
      (conv => whnf)
      refine ⟨B1.1.1 580 (by decide), ?_⟩
      refine rtI (Mc := 3661) (Ms := 946313) (by omega) (by omega) ?_
      refine hc _ _ _ _ (K1 _ (fun h2 I2 => ?_))
      (conv => whnf)
      refine bT rfl ?_
      (conv => whnf)
      rw [nI_add]
      exact nx h2 _ _ (by omega) (by omega) hi I2
    (conv => whnf)
    refine ⟨fun _ => ?_, fun _ => ?_⟩
    · (conv => whnf)
      rw [nI_add]
      refine ⟨B.1.1 0 (by decide), vin _ B.2.2.2.1 (by omega) (by omega), ?_⟩
      (conv => whnf)
      rw [nI_clamp (by omega)]
      try rw [B.2.2.2.2]
      refine ⟨B.1.1 5 (by decide), ?_⟩
      refine rtI (Mc := 3661) (Ms := 946313) (by omega) (by omega) ?_
      refine hc _ _ _ _ (lp_fault (by omega) I _ (fun v h1 K1 => ?_))
      obtain ⟨B1, K1⟩ := K1
      (conv => whnf)
      rw [nI_add]
      refine ⟨B1.1.1 0 (by decide), vin _ B1.2.2.2.1 (by omega) (by omega), ?_⟩
      (conv => whnf)
      rw [nI_clamp (by omega)]
      try rw [B1.2.2.2.2]
      refine ⟨B1.1.1 580 (by decide), ?_⟩
      refine rtI (Mc := 3661) (Ms := 946313) (by omega) (by omega) ?_
      refine hc _ _ _ _ (K1 _ (fun h2 I2 => ?_))
      (conv => whnf)
      refine bT rfl ?_
      (conv => whnf)
      rw [nI_add]
      exact nx h2 _ _ (by omega) (by omega) hi I2
    (conv => whnf)
    refine ⟨fun _ => ?_, fun _ => ?_⟩
    · (conv => whnf)
      rw [nI_add]
      refine ⟨B.1.1 0 (by decide), vin _ B.2.2.2.1 (by omega) (by omega), ?_⟩
      (conv => whnf)
      rw [nI_clamp (by omega)]
      try rw [B.2.2.2.2]
      refine ⟨B.1.1 5 (by decide), ?_⟩
      refine rtI (Mc := 3661) (Ms := 946313) (by omega) (by omega) ?_
      refine hc _ _ _ _ (lp_by (by omega) I _ (fun v h1 K1 => ?_))
      obtain ⟨B1, K1⟩ := K1
      (conv => whnf)
      rw [nI_add]
      refine ⟨B1.1.1 0 (by decide), vin _ B1.2.2.2.1 (by omega) (by omega), ?_⟩
      (conv => whnf)
      rw [nI_clamp (by omega)]
      try rw [B1.2.2.2.2]
      refine ⟨B1.1.1 580 (by decide), ?_⟩
      refine rtI (Mc := 3661) (Ms := 946313) (by omega) (by omega) ?_
      refine hc _ _ _ _ (K1 _ (fun h2 I2 => ?_))
      (conv => whnf)
      refine bT rfl ?_
      (conv => whnf)
      rw [nI_add]
      exact nx h2 _ _ (by omega) (by omega) hi I2
    (conv => whnf)
    refine ⟨fun _ => ?_, fun _ => ?_⟩
    · (conv => whnf)
      rw [nI_add]
      refine ⟨B.1.1 0 (by decide), vin _ B.2.2.2.1 (by omega) (by omega), ?_⟩
      (conv => whnf)
      rw [nI_clamp (by omega)]
      try rw [B.2.2.2.2]
      rw [nI_add]
      refine ⟨B.1.1 0 (by decide), vin _ B.2.2.2.1 (by omega) (by omega), ?_⟩
      (conv => whnf)
      rw [nI_clamp (by omega)]
      try rw [B.2.2.2.2]
      refine ⟨B.1.1 5 (by decide), ?_⟩
      refine rtI (Mc := 3661) (Ms := 946313) (by omega) (by omega) ?_
      refine hc _ _ _ _ (lp_peg (by omega) I _ _ (fun v h1 K1 => ?_))
      obtain ⟨B1, K1⟩ := K1
      (conv => whnf)
      rw [nI_add]
      refine ⟨B1.1.1 0 (by decide), vin _ B1.2.2.2.1 (by omega) (by omega), ?_⟩
      (conv => whnf)
      rw [nI_clamp (by omega)]
      try rw [B1.2.2.2.2]
      rw [nI_add]
      refine ⟨B1.1.1 0 (by decide), vin _ B1.2.2.2.1 (by omega) (by omega), ?_⟩
      (conv => whnf)
      rw [nI_clamp (by omega)]
      try rw [B1.2.2.2.2]
      refine ⟨B1.1.1 580 (by decide), ?_⟩
      refine rtI (Mc := 3661) (Ms := 946313) (by omega) (by omega) ?_
      refine hc _ _ _ _ (K1 _ (fun h2 I2 => ?_))
      (conv => whnf)
      refine bT rfl ?_
      (conv => whnf)
      rw [nI_add]
      exact nx h2 _ _ (by omega) (by omega) hi I2
    (conv => whnf)
    refine ⟨fun _ => ?_, fun _ => ?_⟩
    · (conv => whnf)
      rw [nI_add]
      refine ⟨B.1.1 0 (by decide), vin _ B.2.2.2.1 (by omega) (by omega), ?_⟩
      (conv => whnf)
      rw [nI_clamp (by omega)]
      try rw [B.2.2.2.2]
      rw [nI_add]
      refine ⟨B.1.1 0 (by decide), vin _ B.2.2.2.1 (by omega) (by omega), ?_⟩
      (conv => whnf)
      rw [nI_clamp (by omega)]
      try rw [B.2.2.2.2]
      refine ⟨B.1.1 5 (by decide), ?_⟩
      refine rtI (Mc := 3661) (Ms := 946313) (by omega) (by omega) ?_
      refine hc _ _ _ _ (lp_sock (by omega) I _ _ (fun v h1 K1 => ?_))
      obtain ⟨B1, K1⟩ := K1
      (conv => whnf)
      rw [nI_add]
      refine ⟨B1.1.1 0 (by decide), vin _ B1.2.2.2.1 (by omega) (by omega), ?_⟩
      (conv => whnf)
      rw [nI_clamp (by omega)]
      try rw [B1.2.2.2.2]
      rw [nI_add]
      refine ⟨B1.1.1 0 (by decide), vin _ B1.2.2.2.1 (by omega) (by omega), ?_⟩
      (conv => whnf)
      rw [nI_clamp (by omega)]
      try rw [B1.2.2.2.2]
      refine ⟨B1.1.1 580 (by decide), ?_⟩
      refine rtI (Mc := 3661) (Ms := 946313) (by omega) (by omega) ?_
      refine hc _ _ _ _ (K1 _ (fun h2 I2 => ?_))
      (conv => whnf)
      refine bT rfl ?_
      (conv => whnf)
      rw [nI_add]
      exact nx h2 _ _ (by omega) (by omega) hi I2
    (conv => whnf)
    refine ⟨fun _ => ?_, fun _ => ?_⟩
    · (conv => whnf)
      refine ⟨B.1.1 5 (by decide), ?_⟩
      refine rtI (Mc := 3661) (Ms := 946313) (by omega) (by omega) ?_
      refine hc _ _ _ _ (lp_start (by omega) I (fun v h1 K1 => ?_))
      obtain ⟨B1, K1⟩ := K1
      (conv => whnf)
      refine ⟨B1.1.1 580 (by decide), ?_⟩
      refine rtI (Mc := 3661) (Ms := 946313) (by omega) (by omega) ?_
      refine hc _ _ _ _ (K1 _ (fun h2 I2 => ?_))
      (conv => whnf)
      refine bT rfl ?_
      (conv => whnf)
      rw [nI_add]
      exact nx h2 _ _ (by omega) (by omega) hi I2
    (conv => whnf)
    refine ⟨fun _ => ?_, fun _ => ?_⟩
    · (conv => whnf)
      rw [nI_add]
      refine ⟨B.1.1 0 (by decide), vin _ B.2.2.2.1 (by omega) (by omega), ?_⟩
      (conv => whnf)
      rw [nI_clamp (by omega)]
      try rw [B.2.2.2.2]
      refine ⟨B.1.1 5 (by decide), ?_⟩
      refine rtI (Mc := 3661) (Ms := 946313) (by omega) (by omega) ?_
      refine hc _ _ _ _ (lp_hour (by omega) I _ (fun v h1 K1 => ?_))
      obtain ⟨B1, K1⟩ := K1
      (conv => whnf)
      rw [nI_add]
      refine ⟨B1.1.1 0 (by decide), vin _ B1.2.2.2.1 (by omega) (by omega), ?_⟩
      (conv => whnf)
      rw [nI_clamp (by omega)]
      try rw [B1.2.2.2.2]
      refine ⟨B1.1.1 580 (by decide), ?_⟩
      refine rtI (Mc := 3661) (Ms := 946313) (by omega) (by omega) ?_
      refine hc _ _ _ _ (K1 _ (fun h2 I2 => ?_))
      (conv => whnf)
      refine bT rfl ?_
      (conv => whnf)
      rw [nI_add]
      exact nx h2 _ _ (by omega) (by omega) hi I2
    (conv => whnf)
    refine ⟨fun _ => ?_, fun _ => ?_⟩
    · (conv => whnf)
      rw [nI_add]
      refine ⟨B.1.1 0 (by decide), vin _ B.2.2.2.1 (by omega) (by omega), ?_⟩
      (conv => whnf)
      rw [nI_clamp (by omega)]
      try rw [B.2.2.2.2]
      refine ⟨B.1.1 5 (by decide), ?_⟩
      refine rtI (Mc := 3661) (Ms := 946313) (by omega) (by omega) ?_
      refine hc _ _ _ _ (lp_played (by omega) I _ (fun v h1 K1 => ?_))
      obtain ⟨B1, K1⟩ := K1
      (conv => whnf)
      rw [nI_add]
      refine ⟨B1.1.1 0 (by decide), vin _ B1.2.2.2.1 (by omega) (by omega), ?_⟩
      (conv => whnf)
      rw [nI_clamp (by omega)]
      try rw [B1.2.2.2.2]
      refine ⟨B1.1.1 580 (by decide), ?_⟩
      refine rtI (Mc := 3661) (Ms := 946313) (by omega) (by omega) ?_
      refine hc _ _ _ _ (K1 _ (fun h2 I2 => ?_))
      (conv => whnf)
      refine bT rfl ?_
      (conv => whnf)
      rw [nI_add]
      exact nx h2 _ _ (by omega) (by omega) hi I2
    (conv => whnf)
    refine ⟨fun _ => ?_, fun _ => ?_⟩
    · (conv => whnf)
      rw [nI_add]
      refine ⟨B.1.1 0 (by decide), vin _ B.2.2.2.1 (by omega) (by omega), ?_⟩
      (conv => whnf)
      rw [nI_clamp (by omega)]
      try rw [B.2.2.2.2]
      rw [nI_add]
      refine ⟨B.1.1 0 (by decide), vin _ B.2.2.2.1 (by omega) (by omega), ?_⟩
      (conv => whnf)
      rw [nI_clamp (by omega)]
      try rw [B.2.2.2.2]
      refine ⟨B.1.1 5 (by decide), ?_⟩
      refine rtI (Mc := 3661) (Ms := 946313) (by omega) (by omega) ?_
      refine hc _ _ _ _ (lp_years (by omega) I _ _ (fun v h1 K1 => ?_))
      obtain ⟨B1, K1⟩ := K1
      (conv => whnf)
      rw [nI_add]
      refine ⟨B1.1.1 0 (by decide), vin _ B1.2.2.2.1 (by omega) (by omega), ?_⟩
      (conv => whnf)
      rw [nI_clamp (by omega)]
      try rw [B1.2.2.2.2]
      rw [nI_add]
      refine ⟨B1.1.1 0 (by decide), vin _ B1.2.2.2.1 (by omega) (by omega), ?_⟩
      (conv => whnf)
      rw [nI_clamp (by omega)]
      try rw [B1.2.2.2.2]
      refine ⟨B1.1.1 580 (by decide), ?_⟩
      refine rtI (Mc := 3661) (Ms := 946313) (by omega) (by omega) ?_
      refine hc _ _ _ _ (K1 _ (fun h2 I2 => ?_))
      (conv => whnf)
      refine bT rfl ?_
      (conv => whnf)
      rw [nI_add]
      exact nx h2 _ _ (by omega) (by omega) hi I2
    (conv => whnf)
    refine ⟨fun _ => ?_, fun _ => ?_⟩
    · (conv => whnf)
      refine ⟨B.1.1 5 (by decide), ?_⟩
      refine rtI (Mc := 3661) (Ms := 946313) (by omega) (by omega) ?_
      refine hc _ _ _ _ (lp_undo (by omega) I (fun v h1 K1 => ?_))
      obtain ⟨B1, K1⟩ := K1
      (conv => whnf)
      refine ⟨B1.1.1 580 (by decide), ?_⟩
      refine rtI (Mc := 3661) (Ms := 946313) (by omega) (by omega) ?_
      refine hc _ _ _ _ (K1 _ (fun h2 I2 => ?_))
      (conv => whnf)
      refine bT rfl ?_
      (conv => whnf)
      rw [nI_add]
      exact nx h2 _ _ (by omega) (by omega) hi I2
    (conv => whnf)
    refine ⟨fun _ => ?_, fun _ => ?_⟩
    · (conv => whnf)
      rw [nI_add]
      refine ⟨B.1.1 0 (by decide), vin _ B.2.2.2.1 (by omega) (by omega), ?_⟩
      (conv => whnf)
      rw [nI_clamp (by omega)]
      try rw [B.2.2.2.2]
      rw [nI_add]
      refine ⟨B.1.1 0 (by decide), vin _ B.2.2.2.1 (by omega) (by omega), ?_⟩
      (conv => whnf)
      rw [nI_clamp (by omega)]
      try rw [B.2.2.2.2]
      refine ⟨B.1.1 5 (by decide), ?_⟩
      refine rtI (Mc := 3661) (Ms := 946313) (by omega) (by omega) ?_
      refine hc _ _ _ _ (lp_of (by omega) I _ _ (fun v h1 K1 => ?_))
      obtain ⟨B1, K1⟩ := K1
      (conv => whnf)
      rw [nI_add]
      refine ⟨B1.1.1 0 (by decide), vin _ B1.2.2.2.1 (by omega) (by omega), ?_⟩
      (conv => whnf)
      rw [nI_clamp (by omega)]
      try rw [B1.2.2.2.2]
      rw [nI_add]
      refine ⟨B1.1.1 0 (by decide), vin _ B1.2.2.2.1 (by omega) (by omega), ?_⟩
      (conv => whnf)
      rw [nI_clamp (by omega)]
      try rw [B1.2.2.2.2]
      refine ⟨B1.1.1 580 (by decide), ?_⟩
      refine rtI (Mc := 3661) (Ms := 946313) (by omega) (by omega) ?_
      refine hc _ _ _ _ (K1 _ (fun h2 I2 => ?_))
      (conv => whnf)
      refine bT rfl ?_
      (conv => whnf)
      rw [nI_add]
      exact nx h2 _ _ (by omega) (by omega) hi I2
    (conv => whnf)
    refine ⟨fun _ => ?_, fun _ => ?_⟩
    · (conv => whnf)
      rw [nI_add]
      refine ⟨B.1.1 0 (by decide), vin _ B.2.2.2.1 (by omega) (by omega), ?_⟩
      (conv => whnf)
      rw [nI_clamp (by omega)]
      try rw [B.2.2.2.2]
      rw [nI_add]
      refine ⟨B.1.1 0 (by decide), vin _ B.2.2.2.1 (by omega) (by omega), ?_⟩
      (conv => whnf)
      rw [nI_clamp (by omega)]
      try rw [B.2.2.2.2]
      refine ⟨B.1.1 5 (by decide), ?_⟩
      refine rtI (Mc := 3661) (Ms := 946313) (by omega) (by omega) ?_
      refine hc _ _ _ _ (lp_ofPiece (by omega) I _ _ (fun v h1 K1 => ?_))
      obtain ⟨B1, K1⟩ := K1
      (conv => whnf)
      rw [nI_add]
      refine ⟨B1.1.1 0 (by decide), vin _ B1.2.2.2.1 (by omega) (by omega), ?_⟩
      (conv => whnf)
      rw [nI_clamp (by omega)]
      try rw [B1.2.2.2.2]
      rw [nI_add]
      refine ⟨B1.1.1 0 (by decide), vin _ B1.2.2.2.1 (by omega) (by omega), ?_⟩
      (conv => whnf)
      rw [nI_clamp (by omega)]
      try rw [B1.2.2.2.2]
      refine ⟨B1.1.1 580 (by decide), ?_⟩
      refine rtI (Mc := 3661) (Ms := 946313) (by omega) (by omega) ?_
      refine hc _ _ _ _ (K1 _ (fun h2 I2 => ?_))
      (conv => whnf)
      refine bT rfl ?_
      (conv => whnf)
      rw [nI_add]
      exact nx h2 _ _ (by omega) (by omega) hi I2
    (conv => whnf)
    refine ⟨fun _ => ?_, fun _ => ?_⟩
    · (conv => whnf)
      rw [nI_add]
      refine ⟨B.1.1 0 (by decide), vin _ B.2.2.2.1 (by omega) (by omega), ?_⟩
      (conv => whnf)
      rw [nI_clamp (by omega)]
      try rw [B.2.2.2.2]
      refine ⟨B.1.1 5 (by decide), ?_⟩
      refine rtI (Mc := 3661) (Ms := 946313) (by omega) (by omega) ?_
      refine hc _ _ _ _ (lp_is (by omega) I _ (fun v h1 K1 => ?_))
      obtain ⟨B1, K1⟩ := K1
      (conv => whnf)
      rw [nI_add]
      refine ⟨B1.1.1 0 (by decide), vin _ B1.2.2.2.1 (by omega) (by omega), ?_⟩
      (conv => whnf)
      rw [nI_clamp (by omega)]
      try rw [B1.2.2.2.2]
      refine ⟨B1.1.1 580 (by decide), ?_⟩
      refine rtI (Mc := 3661) (Ms := 946313) (by omega) (by omega) ?_
      refine hc _ _ _ _ (K1 _ (fun h2 I2 => ?_))
      (conv => whnf)
      refine bT rfl ?_
      (conv => whnf)
      rw [nI_add]
      exact nx h2 _ _ (by omega) (by omega) hi I2
    (conv => whnf)
    refine ⟨fun _ => ?_, fun _ => ?_⟩
    · (conv => whnf)
      rw [nI_add]
      refine ⟨B.1.1 0 (by decide), vin _ B.2.2.2.1 (by omega) (by omega), ?_⟩
      (conv => whnf)
      rw [nI_clamp (by omega)]
      try rw [B.2.2.2.2]
      refine ⟨B.1.1 5 (by decide), ?_⟩
      refine rtI (Mc := 3661) (Ms := 946313) (by omega) (by omega) ?_
      refine hc _ _ _ _ (lp_windAt (by omega) I _ (fun v h1 K1 => ?_))
      obtain ⟨B1, K1⟩ := K1
      (conv => whnf)
      rw [nI_add]
      refine ⟨B1.1.1 0 (by decide), vin _ B1.2.2.2.1 (by omega) (by omega), ?_⟩
      (conv => whnf)
      rw [nI_clamp (by omega)]
      try rw [B1.2.2.2.2]
      refine ⟨B1.1.1 580 (by decide), ?_⟩
      refine rtI (Mc := 3661) (Ms := 946313) (by omega) (by omega) ?_
      refine hc _ _ _ _ (K1 _ (fun h2 I2 => ?_))
      (conv => whnf)
      refine bT rfl ?_
      (conv => whnf)
      rw [nI_add]
      exact nx h2 _ _ (by omega) (by omega) hi I2
    (conv => whnf)
    refine ⟨fun _ => ?_, fun _ => ?_⟩
    · (conv => whnf)
      rw [nI_add]
      refine ⟨B.1.1 0 (by decide), vin _ B.2.2.2.1 (by omega) (by omega), ?_⟩
      (conv => whnf)
      rw [nI_clamp (by omega)]
      try rw [B.2.2.2.2]
      rw [nI_add]
      refine ⟨B.1.1 0 (by decide), vin _ B.2.2.2.1 (by omega) (by omega), ?_⟩
      (conv => whnf)
      rw [nI_clamp (by omega)]
      try rw [B.2.2.2.2]
      refine ⟨B.1.1 5 (by decide), ?_⟩
      refine rtI (Mc := 3661) (Ms := 946313) (by omega) (by omega) ?_
      refine hc _ _ _ _ (lp_book (by omega) I _ _ (fun v h1 K1 => ?_))
      obtain ⟨B1, K1⟩ := K1
      (conv => whnf)
      rw [nI_add]
      refine ⟨B1.1.1 0 (by decide), vin _ B1.2.2.2.1 (by omega) (by omega), ?_⟩
      (conv => whnf)
      rw [nI_clamp (by omega)]
      try rw [B1.2.2.2.2]
      rw [nI_add]
      refine ⟨B1.1.1 0 (by decide), vin _ B1.2.2.2.1 (by omega) (by omega), ?_⟩
      (conv => whnf)
      rw [nI_clamp (by omega)]
      try rw [B1.2.2.2.2]
      refine ⟨B1.1.1 580 (by decide), ?_⟩
      refine rtI (Mc := 3661) (Ms := 946313) (by omega) (by omega) ?_
      refine hc _ _ _ _ (K1 _ (fun h2 I2 => ?_))
      (conv => whnf)
      refine bT rfl ?_
      (conv => whnf)
      rw [nI_add]
      exact nx h2 _ _ (by omega) (by omega) hi I2
    (conv => whnf)
    refine ⟨fun _ => ?_, fun _ => ?_⟩
    · (conv => whnf)
      rw [nI_add]
      refine ⟨B.1.1 0 (by decide), vin _ B.2.2.2.1 (by omega) (by omega), ?_⟩
      (conv => whnf)
      rw [nI_clamp (by omega)]
      try rw [B.2.2.2.2]
      rw [nI_add]
      refine ⟨B.1.1 0 (by decide), vin _ B.2.2.2.1 (by omega) (by omega), ?_⟩
      (conv => whnf)
      rw [nI_clamp (by omega)]
      try rw [B.2.2.2.2]
      rw [nI_add]
      refine ⟨B.1.1 0 (by decide), vin _ B.2.2.2.1 (by omega) (by omega), ?_⟩
      (conv => whnf)
      rw [nI_clamp (by omega)]
      try rw [B.2.2.2.2]
      refine ⟨B.1.1 5 (by decide), ?_⟩
      refine rtI (Mc := 3661) (Ms := 946313) (by omega) (by omega) ?_
      refine hc _ _ _ _ (lp_foretold (by omega) I _ _ _ (fun v h1 K1 => ?_))
      obtain ⟨B1, K1⟩ := K1
      (conv => whnf)
      rw [nI_add]
      refine ⟨B1.1.1 0 (by decide), vin _ B1.2.2.2.1 (by omega) (by omega), ?_⟩
      (conv => whnf)
      rw [nI_clamp (by omega)]
      try rw [B1.2.2.2.2]
      rw [nI_add]
      refine ⟨B1.1.1 0 (by decide), vin _ B1.2.2.2.1 (by omega) (by omega), ?_⟩
      (conv => whnf)
      rw [nI_clamp (by omega)]
      try rw [B1.2.2.2.2]
      rw [nI_add]
      refine ⟨B1.1.1 0 (by decide), vin _ B1.2.2.2.1 (by omega) (by omega), ?_⟩
      (conv => whnf)
      rw [nI_clamp (by omega)]
      try rw [B1.2.2.2.2]
      refine ⟨B1.1.1 580 (by decide), ?_⟩
      refine rtI (Mc := 3661) (Ms := 946313) (by omega) (by omega) ?_
      refine hc _ _ _ _ (K1 _ (fun h2 I2 => ?_))
      (conv => whnf)
      refine bT rfl ?_
      (conv => whnf)
      rw [nI_add]
      exact nx h2 _ _ (by omega) (by omega) hi I2
    (conv => whnf)
    refine ⟨fun _ => ?_, fun _ => ?_⟩
    · (conv => whnf)
      refine ⟨B.1.1 5 (by decide), ?_⟩
      refine rtI (Mc := 3661) (Ms := 946313) (by omega) (by omega) ?_
      refine hc _ _ _ _ (lp_winner (by omega) I (fun v h1 K1 => ?_))
      obtain ⟨B1, K1⟩ := K1
      (conv => whnf)
      refine ⟨B1.1.1 580 (by decide), ?_⟩
      refine rtI (Mc := 3661) (Ms := 946313) (by omega) (by omega) ?_
      refine hc _ _ _ _ (K1 _ (fun h2 I2 => ?_))
      (conv => whnf)
      refine bT rfl ?_
      (conv => whnf)
      rw [nI_add]
      exact nx h2 _ _ (by omega) (by omega) hi I2
    (conv => whnf)
    refine ⟨fun _ => ?_, fun _ => ?_⟩
    · (conv => whnf)
      rw [nI_add]
      refine ⟨B.1.1 0 (by decide), vin _ B.2.2.2.1 (by omega) (by omega), ?_⟩
      (conv => whnf)
      rw [nI_clamp (by omega)]
      try rw [B.2.2.2.2]
      rw [nI_add]
      refine ⟨B.1.1 0 (by decide), vin _ B.2.2.2.1 (by omega) (by omega), ?_⟩
      (conv => whnf)
      rw [nI_clamp (by omega)]
      try rw [B.2.2.2.2]
      refine ⟨B.1.1 5 (by decide), ?_⟩
      refine rtI (Mc := 3661) (Ms := 946313) (by omega) (by omega) ?_
      refine hc _ _ _ _ (lp_pack (by omega) I _ _ (fun v h1 K1 => ?_))
      obtain ⟨B1, K1⟩ := K1
      (conv => whnf)
      rw [nI_add]
      refine ⟨B1.1.1 0 (by decide), vin _ B1.2.2.2.1 (by omega) (by omega), ?_⟩
      (conv => whnf)
      rw [nI_clamp (by omega)]
      try rw [B1.2.2.2.2]
      rw [nI_add]
      refine ⟨B1.1.1 0 (by decide), vin _ B1.2.2.2.1 (by omega) (by omega), ?_⟩
      (conv => whnf)
      rw [nI_clamp (by omega)]
      try rw [B1.2.2.2.2]
      refine ⟨B1.1.1 580 (by decide), ?_⟩
      refine rtI (Mc := 3661) (Ms := 946313) (by omega) (by omega) ?_
      refine hc _ _ _ _ (K1 _ (fun h2 I2 => ?_))
      (conv => whnf)
      refine bT rfl ?_
      (conv => whnf)
      rw [nI_add]
      exact nx h2 _ _ (by omega) (by omega) hi I2
    (conv => whnf)
    refine ⟨fun _ => ?_, fun _ => ?_⟩
    · (conv => whnf)
      rw [nI_add]
      refine ⟨B.1.1 0 (by decide), vin _ B.2.2.2.1 (by omega) (by omega), ?_⟩
      (conv => whnf)
      rw [nI_clamp (by omega)]
      try rw [B.2.2.2.2]
      rw [nI_add]
      refine ⟨B.1.1 0 (by decide), vin _ B.2.2.2.1 (by omega) (by omega), ?_⟩
      (conv => whnf)
      rw [nI_clamp (by omega)]
      try rw [B.2.2.2.2]
      refine ⟨B.1.1 5 (by decide), ?_⟩
      refine rtI (Mc := 3661) (Ms := 946313) (by omega) (by omega) ?_
      refine hc _ _ _ _ (lp_odds (by omega) I _ _ (fun v h1 K1 => ?_))
      obtain ⟨B1, K1⟩ := K1
      (conv => whnf)
      rw [nI_add]
      refine ⟨B1.1.1 0 (by decide), vin _ B1.2.2.2.1 (by omega) (by omega), ?_⟩
      (conv => whnf)
      rw [nI_clamp (by omega)]
      try rw [B1.2.2.2.2]
      rw [nI_add]
      refine ⟨B1.1.1 0 (by decide), vin _ B1.2.2.2.1 (by omega) (by omega), ?_⟩
      (conv => whnf)
      rw [nI_clamp (by omega)]
      try rw [B1.2.2.2.2]
      refine ⟨B1.1.1 580 (by decide), ?_⟩
      refine rtI (Mc := 3661) (Ms := 946313) (by omega) (by omega) ?_
      refine hc _ _ _ _ (K1 _ (fun h2 I2 => ?_))
      (conv => whnf)
      refine bT rfl ?_
      (conv => whnf)
      rw [nI_add]
      exact nx h2 _ _ (by omega) (by omega) hi I2
    (conv => whnf)
    refine ⟨fun _ => ?_, fun _ => ?_⟩
    · (conv => whnf)
      rw [nI_add]
      refine ⟨B.1.1 0 (by decide), vin _ B.2.2.2.1 (by omega) (by omega), ?_⟩
      (conv => whnf)
      rw [nI_clamp (by omega)]
      try rw [B.2.2.2.2]
      rw [nI_add]
      refine ⟨B.1.1 0 (by decide), vin _ B.2.2.2.1 (by omega) (by omega), ?_⟩
      (conv => whnf)
      rw [nI_clamp (by omega)]
      try rw [B.2.2.2.2]
      refine ⟨B.1.1 5 (by decide), ?_⟩
      refine rtI (Mc := 3661) (Ms := 946313) (by omega) (by omega) ?_
      refine hc _ _ _ _ (lp_sure (by omega) I _ _ (fun v h1 K1 => ?_))
      obtain ⟨B1, K1⟩ := K1
      (conv => whnf)
      rw [nI_add]
      refine ⟨B1.1.1 0 (by decide), vin _ B1.2.2.2.1 (by omega) (by omega), ?_⟩
      (conv => whnf)
      rw [nI_clamp (by omega)]
      try rw [B1.2.2.2.2]
      rw [nI_add]
      refine ⟨B1.1.1 0 (by decide), vin _ B1.2.2.2.1 (by omega) (by omega), ?_⟩
      (conv => whnf)
      rw [nI_clamp (by omega)]
      try rw [B1.2.2.2.2]
      refine ⟨B1.1.1 580 (by decide), ?_⟩
      refine rtI (Mc := 3661) (Ms := 946313) (by omega) (by omega) ?_
      refine hc _ _ _ _ (K1 _ (fun h2 I2 => ?_))
      (conv => whnf)
      refine bT rfl ?_
      (conv => whnf)
      rw [nI_add]
      exact nx h2 _ _ (by omega) (by omega) hi I2
    (conv => whnf)
    refine ⟨fun _ => ?_, fun _ => ?_⟩
    · (conv => whnf)
      rw [nI_add]
      refine ⟨B.1.1 0 (by decide), vin _ B.2.2.2.1 (by omega) (by omega), ?_⟩
      (conv => whnf)
      rw [nI_clamp (by omega)]
      try rw [B.2.2.2.2]
      rw [nI_add]
      refine ⟨B.1.1 0 (by decide), vin _ B.2.2.2.1 (by omega) (by omega), ?_⟩
      (conv => whnf)
      rw [nI_clamp (by omega)]
      try rw [B.2.2.2.2]
      rw [nI_add]
      refine ⟨B.1.1 0 (by decide), vin _ B.2.2.2.1 (by omega) (by omega), ?_⟩
      (conv => whnf)
      rw [nI_clamp (by omega)]
      try rw [B.2.2.2.2]
      refine ⟨B.1.1 5 (by decide), ?_⟩
      refine rtI (Mc := 3661) (Ms := 946313) (by omega) (by omega) ?_
      refine hc _ _ _ _ (lp_beat (by omega) I _ _ _ (fun v h1 K1 => ?_))
      obtain ⟨B1, K1⟩ := K1
      (conv => whnf)
      rw [nI_add]
      refine ⟨B1.1.1 0 (by decide), vin _ B1.2.2.2.1 (by omega) (by omega), ?_⟩
      (conv => whnf)
      rw [nI_clamp (by omega)]
      try rw [B1.2.2.2.2]
      rw [nI_add]
      refine ⟨B1.1.1 0 (by decide), vin _ B1.2.2.2.1 (by omega) (by omega), ?_⟩
      (conv => whnf)
      rw [nI_clamp (by omega)]
      try rw [B1.2.2.2.2]
      rw [nI_add]
      refine ⟨B1.1.1 0 (by decide), vin _ B1.2.2.2.1 (by omega) (by omega), ?_⟩
      (conv => whnf)
      rw [nI_clamp (by omega)]
      try rw [B1.2.2.2.2]
      refine ⟨B1.1.1 580 (by decide), ?_⟩
      refine rtI (Mc := 3661) (Ms := 946313) (by omega) (by omega) ?_
      refine hc _ _ _ _ (K1 _ (fun h2 I2 => ?_))
      (conv => whnf)
      refine bT rfl ?_
      (conv => whnf)
      rw [nI_add]
      exact nx h2 _ _ (by omega) (by omega) hi I2
    (conv => whnf)
    refine ⟨fun _ => ?_, fun _ => ?_⟩
    · (conv => whnf)
      rw [nI_add]
      refine ⟨B.1.1 0 (by decide), vin _ B.2.2.2.1 (by omega) (by omega), ?_⟩
      (conv => whnf)
      rw [nI_clamp (by omega)]
      try rw [B.2.2.2.2]
      refine ⟨B.1.1 5 (by decide), ?_⟩
      refine rtI (Mc := 3661) (Ms := 946313) (by omega) (by omega) ?_
      refine hc _ _ _ _ (lp_ranking (by omega) I _ (fun v h1 K1 => ?_))
      obtain ⟨B1, K1⟩ := K1
      (conv => whnf)
      rw [nI_add]
      refine ⟨B1.1.1 0 (by decide), vin _ B1.2.2.2.1 (by omega) (by omega), ?_⟩
      (conv => whnf)
      rw [nI_clamp (by omega)]
      try rw [B1.2.2.2.2]
      refine ⟨B1.1.1 580 (by decide), ?_⟩
      refine rtI (Mc := 3661) (Ms := 946313) (by omega) (by omega) ?_
      refine hc _ _ _ _ (K1 _ (fun h2 I2 => ?_))
      (conv => whnf)
      refine bT rfl ?_
      (conv => whnf)
      rw [nI_add]
      exact nx h2 _ _ (by omega) (by omega) hi I2
    (conv => whnf)
    refine ⟨fun _ => ?_, fun _ => ?_⟩
    · (conv => whnf)
      refine ⟨B.1.1 5 (by decide), ?_⟩
      refine rtI (Mc := 3661) (Ms := 946313) (by omega) (by omega) ?_
      refine hc _ _ _ _ (lp_kings (by omega) I (fun v h1 K1 => ?_))
      obtain ⟨B1, K1⟩ := K1
      (conv => whnf)
      refine ⟨B1.1.1 580 (by decide), ?_⟩
      refine rtI (Mc := 3661) (Ms := 946313) (by omega) (by omega) ?_
      refine hc _ _ _ _ (K1 _ (fun h2 I2 => ?_))
      (conv => whnf)
      refine bT rfl ?_
      (conv => whnf)
      rw [nI_add]
      exact nx h2 _ _ (by omega) (by omega) hi I2
    (conv => whnf)
    refine ⟨fun _ => ?_, fun _ => ?_⟩
    · (conv => whnf)
      refine ⟨B.1.1 5 (by decide), ?_⟩
      refine rtI (Mc := 3661) (Ms := 946313) (by omega) (by omega) ?_
      refine hc _ _ _ _ (lp_rings (by omega) I (fun v h1 K1 => ?_))
      obtain ⟨B1, K1⟩ := K1
      (conv => whnf)
      refine ⟨B1.1.1 580 (by decide), ?_⟩
      refine rtI (Mc := 3661) (Ms := 946313) (by omega) (by omega) ?_
      refine hc _ _ _ _ (K1 _ (fun h2 I2 => ?_))
      (conv => whnf)
      refine bT rfl ?_
      (conv => whnf)
      rw [nI_add]
      exact nx h2 _ _ (by omega) (by omega) hi I2
    (conv => whnf)
    refine ⟨fun _ => ?_, fun _ => ?_⟩
    · (conv => whnf)
      rw [nI_add]
      refine ⟨B.1.1 0 (by decide), vin _ B.2.2.2.1 (by omega) (by omega), ?_⟩
      (conv => whnf)
      rw [nI_clamp (by omega)]
      try rw [B.2.2.2.2]
      rw [nI_add]
      refine ⟨B.1.1 0 (by decide), vin _ B.2.2.2.1 (by omega) (by omega), ?_⟩
      (conv => whnf)
      rw [nI_clamp (by omega)]
      try rw [B.2.2.2.2]
      refine ⟨B.1.1 5 (by decide), ?_⟩
      refine rtI (Mc := 3661) (Ms := 946313) (by omega) (by omega) ?_
      refine hc _ _ _ _ (lp_heats (by omega) I _ _ (fun v h1 K1 => ?_))
      obtain ⟨B1, K1⟩ := K1
      (conv => whnf)
      rw [nI_add]
      refine ⟨B1.1.1 0 (by decide), vin _ B1.2.2.2.1 (by omega) (by omega), ?_⟩
      (conv => whnf)
      rw [nI_clamp (by omega)]
      try rw [B1.2.2.2.2]
      rw [nI_add]
      refine ⟨B1.1.1 0 (by decide), vin _ B1.2.2.2.1 (by omega) (by omega), ?_⟩
      (conv => whnf)
      rw [nI_clamp (by omega)]
      try rw [B1.2.2.2.2]
      refine ⟨B1.1.1 580 (by decide), ?_⟩
      refine rtI (Mc := 3661) (Ms := 946313) (by omega) (by omega) ?_
      refine hc _ _ _ _ (K1 _ (fun h2 I2 => ?_))
      (conv => whnf)
      refine bT rfl ?_
      (conv => whnf)
      rw [nI_add]
      exact nx h2 _ _ (by omega) (by omega) hi I2
    (conv => whnf)
    refine ⟨fun _ => ?_, fun _ => ?_⟩
    · (conv => whnf)
      rw [nI_add]
      refine ⟨B.1.1 0 (by decide), vin _ B.2.2.2.1 (by omega) (by omega), ?_⟩
      (conv => whnf)
      rw [nI_clamp (by omega)]
      try rw [B.2.2.2.2]
      rw [nI_add]
      refine ⟨B.1.1 0 (by decide), vin _ B.2.2.2.1 (by omega) (by omega), ?_⟩
      (conv => whnf)
      rw [nI_clamp (by omega)]
      try rw [B.2.2.2.2]
      refine ⟨B.1.1 5 (by decide), ?_⟩
      refine rtI (Mc := 3661) (Ms := 946313) (by omega) (by omega) ?_
      refine hc _ _ _ _ (lp_strength (by omega) I _ _ (fun v h1 K1 => ?_))
      obtain ⟨B1, K1⟩ := K1
      (conv => whnf)
      rw [nI_add]
      refine ⟨B1.1.1 0 (by decide), vin _ B1.2.2.2.1 (by omega) (by omega), ?_⟩
      (conv => whnf)
      rw [nI_clamp (by omega)]
      try rw [B1.2.2.2.2]
      rw [nI_add]
      refine ⟨B1.1.1 0 (by decide), vin _ B1.2.2.2.1 (by omega) (by omega), ?_⟩
      (conv => whnf)
      rw [nI_clamp (by omega)]
      try rw [B1.2.2.2.2]
      refine ⟨B1.1.1 580 (by decide), ?_⟩
      refine rtI (Mc := 3661) (Ms := 946313) (by omega) (by omega) ?_
      refine hc _ _ _ _ (K1 _ (fun h2 I2 => ?_))
      (conv => whnf)
      refine bT rfl ?_
      (conv => whnf)
      rw [nI_add]
      exact nx h2 _ _ (by omega) (by omega) hi I2
    (conv => whnf)
    refine ⟨fun _ => ?_, fun _ => ?_⟩
    · (conv => whnf)
      rw [nI_add]
      refine ⟨B.1.1 0 (by decide), vin _ B.2.2.2.1 (by omega) (by omega), ?_⟩
      (conv => whnf)
      rw [nI_clamp (by omega)]
      try rw [B.2.2.2.2]
      rw [nI_add]
      refine ⟨B.1.1 0 (by decide), vin _ B.2.2.2.1 (by omega) (by omega), ?_⟩
      (conv => whnf)
      rw [nI_clamp (by omega)]
      try rw [B.2.2.2.2]
      refine ⟨fun z => ?_, fun z => ?_⟩
      · (conv => whnf)
        refine ⟨B.1.1 5 (by decide), ?_⟩
        refine rtI (Mc := 3661) (Ms := 946313) (by omega) (by omega) ?_
        refine hc _ _ _ _ (lp_first (by omega) I _ _ (Or.inl rfl) (fun v h1 K1 => ?_))
        obtain ⟨B1, K1⟩ := K1
        (conv => whnf)
        rw [nI_add]
        refine ⟨B1.1.1 0 (by decide), vin _ B1.2.2.2.1 (by omega) (by omega), ?_⟩
        (conv => whnf)
        rw [nI_clamp (by omega)]
        try rw [B1.2.2.2.2]
        rw [nI_add]
        refine ⟨B1.1.1 0 (by decide), vin _ B1.2.2.2.1 (by omega) (by omega), ?_⟩
        (conv => whnf)
        rw [nI_clamp (by omega)]
        try rw [B1.2.2.2.2]
        refine bT z ?_
        (conv => whnf)
        refine ⟨B1.1.1 580 (by decide), ?_⟩
        refine rtI (Mc := 3661) (Ms := 946313) (by omega) (by omega) ?_
        refine hc _ _ _ _ (K1 _ (fun h2 I2 => ?_))
        (conv => whnf)
        refine bT rfl ?_
        (conv => whnf)
        rw [nI_add]
        exact nx h2 _ _ (by omega) (by omega) hi I2
      · (conv => whnf)
        refine ⟨B.1.1 5 (by decide), ?_⟩
        refine rtI (Mc := 3661) (Ms := 946313) (by omega) (by omega) ?_
        refine hc _ _ _ _ (lp_first (by omega) I _ _ (Or.inr rfl) (fun v h1 K1 => ?_))
        obtain ⟨B1, K1⟩ := K1
        (conv => whnf)
        rw [nI_add]
        refine ⟨B1.1.1 0 (by decide), vin _ B1.2.2.2.1 (by omega) (by omega), ?_⟩
        (conv => whnf)
        rw [nI_clamp (by omega)]
        try rw [B1.2.2.2.2]
        rw [nI_add]
        refine ⟨B1.1.1 0 (by decide), vin _ B1.2.2.2.1 (by omega) (by omega), ?_⟩
        (conv => whnf)
        rw [nI_clamp (by omega)]
        try rw [B1.2.2.2.2]
        refine bF z ?_
        (conv => whnf)
        refine ⟨B1.1.1 580 (by decide), ?_⟩
        refine rtI (Mc := 3661) (Ms := 946313) (by omega) (by omega) ?_
        refine hc _ _ _ _ (K1 _ (fun h2 I2 => ?_))
        (conv => whnf)
        refine bT rfl ?_
        (conv => whnf)
        rw [nI_add]
        exact nx h2 _ _ (by omega) (by omega) hi I2
    (conv => whnf)
    refine ⟨fun _ => ?_, fun _ => ?_⟩
    · (conv => whnf)
      rw [nI_add]
      refine ⟨B.1.1 0 (by decide), vin _ B.2.2.2.1 (by omega) (by omega), ?_⟩
      (conv => whnf)
      rw [nI_clamp (by omega)]
      try rw [B.2.2.2.2]
      rw [nI_add]
      refine ⟨B.1.1 0 (by decide), vin _ B.2.2.2.1 (by omega) (by omega), ?_⟩
      (conv => whnf)
      rw [nI_clamp (by omega)]
      try rw [B.2.2.2.2]
      rw [nI_add]
      refine ⟨B.1.1 0 (by decide), vin _ B.2.2.2.1 (by omega) (by omega), ?_⟩
      (conv => whnf)
      rw [nI_clamp (by omega)]
      try rw [B.2.2.2.2]
      refine ⟨fun z => ?_, fun z => ?_⟩
      · (conv => whnf)
        refine ⟨B.1.1 5 (by decide), ?_⟩
        refine rtI (Mc := 3661) (Ms := 946313) (by omega) (by omega) ?_
        refine hc _ _ _ _ (lp_order (by omega) I _ _ _ (Or.inl rfl) (fun v h1 K1 => ?_))
        obtain ⟨B1, K1⟩ := K1
        (conv => whnf)
        rw [nI_add]
        refine ⟨B1.1.1 0 (by decide), vin _ B1.2.2.2.1 (by omega) (by omega), ?_⟩
        (conv => whnf)
        rw [nI_clamp (by omega)]
        try rw [B1.2.2.2.2]
        rw [nI_add]
        refine ⟨B1.1.1 0 (by decide), vin _ B1.2.2.2.1 (by omega) (by omega), ?_⟩
        (conv => whnf)
        rw [nI_clamp (by omega)]
        try rw [B1.2.2.2.2]
        rw [nI_add]
        refine ⟨B1.1.1 0 (by decide), vin _ B1.2.2.2.1 (by omega) (by omega), ?_⟩
        (conv => whnf)
        rw [nI_clamp (by omega)]
        try rw [B1.2.2.2.2]
        refine bT z ?_
        (conv => whnf)
        refine ⟨B1.1.1 580 (by decide), ?_⟩
        refine rtI (Mc := 3661) (Ms := 946313) (by omega) (by omega) ?_
        refine hc _ _ _ _ (K1 _ (fun h2 I2 => ?_))
        (conv => whnf)
        refine bT rfl ?_
        (conv => whnf)
        rw [nI_add]
        exact nx h2 _ _ (by omega) (by omega) hi I2
      · (conv => whnf)
        refine ⟨B.1.1 5 (by decide), ?_⟩
        refine rtI (Mc := 3661) (Ms := 946313) (by omega) (by omega) ?_
        refine hc _ _ _ _ (lp_order (by omega) I _ _ _ (Or.inr rfl) (fun v h1 K1 => ?_))
        obtain ⟨B1, K1⟩ := K1
        (conv => whnf)
        rw [nI_add]
        refine ⟨B1.1.1 0 (by decide), vin _ B1.2.2.2.1 (by omega) (by omega), ?_⟩
        (conv => whnf)
        rw [nI_clamp (by omega)]
        try rw [B1.2.2.2.2]
        rw [nI_add]
        refine ⟨B1.1.1 0 (by decide), vin _ B1.2.2.2.1 (by omega) (by omega), ?_⟩
        (conv => whnf)
        rw [nI_clamp (by omega)]
        try rw [B1.2.2.2.2]
        rw [nI_add]
        refine ⟨B1.1.1 0 (by decide), vin _ B1.2.2.2.1 (by omega) (by omega), ?_⟩
        (conv => whnf)
        rw [nI_clamp (by omega)]
        try rw [B1.2.2.2.2]
        refine bF z ?_
        (conv => whnf)
        refine ⟨B1.1.1 580 (by decide), ?_⟩
        refine rtI (Mc := 3661) (Ms := 946313) (by omega) (by omega) ?_
        refine hc _ _ _ _ (K1 _ (fun h2 I2 => ?_))
        (conv => whnf)
        refine bT rfl ?_
        (conv => whnf)
        rw [nI_add]
        exact nx h2 _ _ (by omega) (by omega) hi I2
    (conv => whnf)
    refine ⟨fun _ => ?_, fun _ => ?_⟩
    · (conv => whnf)
      rw [nI_add]
      refine ⟨B.1.1 0 (by decide), vin _ B.2.2.2.1 (by omega) (by omega), ?_⟩
      (conv => whnf)
      rw [nI_clamp (by omega)]
      try rw [B.2.2.2.2]
      rw [nI_add]
      refine ⟨B.1.1 0 (by decide), vin _ B.2.2.2.1 (by omega) (by omega), ?_⟩
      (conv => whnf)
      rw [nI_clamp (by omega)]
      try rw [B.2.2.2.2]
      refine ⟨fun z => ?_, fun z => ?_⟩
      · (conv => whnf)
        refine ⟨B.1.1 5 (by decide), ?_⟩
        refine rtI (Mc := 3661) (Ms := 946313) (by omega) (by omega) ?_
        refine hc _ _ _ _ (lp_two (by omega) I _ _ (Or.inl rfl) (fun v h1 K1 => ?_))
        obtain ⟨B1, K1⟩ := K1
        (conv => whnf)
        rw [nI_add]
        refine ⟨B1.1.1 0 (by decide), vin _ B1.2.2.2.1 (by omega) (by omega), ?_⟩
        (conv => whnf)
        rw [nI_clamp (by omega)]
        try rw [B1.2.2.2.2]
        rw [nI_add]
        refine ⟨B1.1.1 0 (by decide), vin _ B1.2.2.2.1 (by omega) (by omega), ?_⟩
        (conv => whnf)
        rw [nI_clamp (by omega)]
        try rw [B1.2.2.2.2]
        refine bT z ?_
        (conv => whnf)
        refine ⟨B1.1.1 580 (by decide), ?_⟩
        refine rtI (Mc := 3661) (Ms := 946313) (by omega) (by omega) ?_
        refine hc _ _ _ _ (K1 _ (fun h2 I2 => ?_))
        (conv => whnf)
        refine bT ((lc_eq v v).mpr rfl) ?_
        (conv => whnf)
        rw [nI_add]
        exact nx h2 _ _ (by omega) (by omega) hi I2
      · (conv => whnf)
        refine ⟨B.1.1 5 (by decide), ?_⟩
        refine rtI (Mc := 3661) (Ms := 946313) (by omega) (by omega) ?_
        refine hc _ _ _ _ (lp_two (by omega) I _ _ (Or.inr rfl) (fun v h1 K1 => ?_))
        obtain ⟨B1, K1⟩ := K1
        (conv => whnf)
        rw [nI_add]
        refine ⟨B1.1.1 0 (by decide), vin _ B1.2.2.2.1 (by omega) (by omega), ?_⟩
        (conv => whnf)
        rw [nI_clamp (by omega)]
        try rw [B1.2.2.2.2]
        rw [nI_add]
        refine ⟨B1.1.1 0 (by decide), vin _ B1.2.2.2.1 (by omega) (by omega), ?_⟩
        (conv => whnf)
        rw [nI_clamp (by omega)]
        try rw [B1.2.2.2.2]
        refine bF z ?_
        (conv => whnf)
        refine ⟨B1.1.1 580 (by decide), ?_⟩
        refine rtI (Mc := 3661) (Ms := 946313) (by omega) (by omega) ?_
        refine hc _ _ _ _ (K1 _ (fun h2 I2 => ?_))
        (conv => whnf)
        refine bT ((lc_eq v v).mpr rfl) ?_
        (conv => whnf)
        rw [nI_add]
        exact nx h2 _ _ (by omega) (by omega) hi I2
    (conv => whnf)
    refine ⟨fun _ => ?_, fun _ => ?_⟩
    · (conv => whnf)
      rw [nI_add]
      refine ⟨B.1.1 0 (by decide), vin _ B.2.2.2.1 (by omega) (by omega), ?_⟩
      (conv => whnf)
      rw [nI_clamp (by omega)]
      try rw [B.2.2.2.2]
      rw [nI_add]
      refine ⟨B.1.1 0 (by decide), vin _ B.2.2.2.1 (by omega) (by omega), ?_⟩
      (conv => whnf)
      rw [nI_clamp (by omega)]
      try rw [B.2.2.2.2]
      refine ⟨B.1.1 5 (by decide), ?_⟩
      refine rtI (Mc := 3661) (Ms := 946313) (by omega) (by omega) ?_
      refine hc _ _ _ _ (lp_see (by omega) I _ _ (fun v h1 K1 => ?_))
      obtain ⟨B1, K1⟩ := K1
      (conv => whnf)
      rw [nI_add]
      refine ⟨B1.1.1 0 (by decide), vin _ B1.2.2.2.1 (by omega) (by omega), ?_⟩
      (conv => whnf)
      rw [nI_clamp (by omega)]
      try rw [B1.2.2.2.2]
      rw [nI_add]
      refine ⟨B1.1.1 0 (by decide), vin _ B1.2.2.2.1 (by omega) (by omega), ?_⟩
      (conv => whnf)
      rw [nI_clamp (by omega)]
      try rw [B1.2.2.2.2]
      refine ⟨B1.1.1 580 (by decide), ?_⟩
      refine rtI (Mc := 3661) (Ms := 946313) (by omega) (by omega) ?_
      refine hc _ _ _ _ (K1 _ (fun h2 I2 => ?_))
      (conv => whnf)
      refine bT rfl ?_
      (conv => whnf)
      rw [nI_add]
      exact nx h2 _ _ (by omega) (by omega) hi I2
    (conv => whnf)
    refine ⟨fun _ => ?_, fun _ => ?_⟩
    · (conv => whnf)
      rw [nI_add]
      refine ⟨B.1.1 0 (by decide), vin _ B.2.2.2.1 (by omega) (by omega), ?_⟩
      (conv => whnf)
      rw [nI_clamp (by omega)]
      try rw [B.2.2.2.2]
      rw [nI_add]
      refine ⟨B.1.1 0 (by decide), vin _ B.2.2.2.1 (by omega) (by omega), ?_⟩
      (conv => whnf)
      rw [nI_clamp (by omega)]
      try rw [B.2.2.2.2]
      refine ⟨B.1.1 5 (by decide), ?_⟩
      refine rtI (Mc := 3661) (Ms := 946313) (by omega) (by omega) ?_
      refine hc _ _ _ _ (lp_nobbled (by omega) I _ _ (fun v h1 K1 => ?_))
      obtain ⟨B1, K1⟩ := K1
      (conv => whnf)
      rw [nI_add]
      refine ⟨B1.1.1 0 (by decide), vin _ B1.2.2.2.1 (by omega) (by omega), ?_⟩
      (conv => whnf)
      rw [nI_clamp (by omega)]
      try rw [B1.2.2.2.2]
      rw [nI_add]
      refine ⟨B1.1.1 0 (by decide), vin _ B1.2.2.2.1 (by omega) (by omega), ?_⟩
      (conv => whnf)
      rw [nI_clamp (by omega)]
      try rw [B1.2.2.2.2]
      refine ⟨B1.1.1 580 (by decide), ?_⟩
      refine rtI (Mc := 3661) (Ms := 946313) (by omega) (by omega) ?_
      refine hc _ _ _ _ (K1 _ (fun h2 I2 => ?_))
      (conv => whnf)
      refine bT rfl ?_
      (conv => whnf)
      rw [nI_add]
      exact nx h2 _ _ (by omega) (by omega) hi I2
    (conv => whnf)
    refine ⟨fun _ => ?_, fun _ => ?_⟩
    · (conv => whnf)
      rw [nI_add]
      refine ⟨B.1.1 0 (by decide), vin _ B.2.2.2.1 (by omega) (by omega), ?_⟩
      (conv => whnf)
      rw [nI_clamp (by omega)]
      try rw [B.2.2.2.2]
      refine ⟨B.1.1 5 (by decide), ?_⟩
      refine rtI (Mc := 3661) (Ms := 946313) (by omega) (by omega) ?_
      refine hc _ _ _ _ (lp_dry (by omega) I _ (fun v h1 K1 => ?_))
      obtain ⟨B1, K1⟩ := K1
      (conv => whnf)
      rw [nI_add]
      refine ⟨B1.1.1 0 (by decide), vin _ B1.2.2.2.1 (by omega) (by omega), ?_⟩
      (conv => whnf)
      rw [nI_clamp (by omega)]
      try rw [B1.2.2.2.2]
      refine ⟨B1.1.1 580 (by decide), ?_⟩
      refine rtI (Mc := 3661) (Ms := 946313) (by omega) (by omega) ?_
      refine hc _ _ _ _ (K1 _ (fun h2 I2 => ?_))
      (conv => whnf)
      refine bT rfl ?_
      (conv => whnf)
      rw [nI_add]
      exact nx h2 _ _ (by omega) (by omega) hi I2
    (conv => whnf)
    refine ⟨fun _ => ?_, fun _ => ?_⟩
    · (conv => whnf)
      rw [nI_add]
      refine ⟨B.1.1 0 (by decide), vin _ B.2.2.2.1 (by omega) (by omega), ?_⟩
      (conv => whnf)
      rw [nI_clamp (by omega)]
      try rw [B.2.2.2.2]
      rw [nI_add]
      refine ⟨B.1.1 0 (by decide), vin _ B.2.2.2.1 (by omega) (by omega), ?_⟩
      (conv => whnf)
      rw [nI_clamp (by omega)]
      try rw [B.2.2.2.2]
      refine ⟨B.1.1 5 (by decide), ?_⟩
      refine rtI (Mc := 3661) (Ms := 946313) (by omega) (by omega) ?_
      refine hc _ _ _ _ (lp_said (by omega) I _ _ (fun v h1 K1 => ?_))
      obtain ⟨B1, K1⟩ := K1
      (conv => whnf)
      rw [nI_add]
      refine ⟨B1.1.1 0 (by decide), vin _ B1.2.2.2.1 (by omega) (by omega), ?_⟩
      (conv => whnf)
      rw [nI_clamp (by omega)]
      try rw [B1.2.2.2.2]
      rw [nI_add]
      refine ⟨B1.1.1 0 (by decide), vin _ B1.2.2.2.1 (by omega) (by omega), ?_⟩
      (conv => whnf)
      rw [nI_clamp (by omega)]
      try rw [B1.2.2.2.2]
      refine ⟨B1.1.1 580 (by decide), ?_⟩
      refine rtI (Mc := 3661) (Ms := 946313) (by omega) (by omega) ?_
      refine hc _ _ _ _ (K1 _ (fun h2 I2 => ?_))
      (conv => whnf)
      refine bT rfl ?_
      (conv => whnf)
      rw [nI_add]
      exact nx h2 _ _ (by omega) (by omega) hi I2
    (conv => whnf)
    refine ⟨fun _ => ?_, fun _ => ?_⟩
    · (conv => whnf)
      refine ⟨B.1.1 5 (by decide), ?_⟩
      refine rtI (Mc := 3661) (Ms := 946313) (by omega) (by omega) ?_
      refine hc _ _ _ _ (lp_whose (by omega) I (fun v h1 K1 => ?_))
      obtain ⟨B1, K1⟩ := K1
      (conv => whnf)
      refine ⟨B1.1.1 580 (by decide), ?_⟩
      refine rtI (Mc := 3661) (Ms := 946313) (by omega) (by omega) ?_
      refine hc _ _ _ _ (K1 _ (fun h2 I2 => ?_))
      (conv => whnf)
      refine bT rfl ?_
      (conv => whnf)
      rw [nI_add]
      exact nx h2 _ _ (by omega) (by omega) hi I2
    (conv => whnf)
    refine ⟨fun _ => ?_, fun _ => ?_⟩
    · (conv => whnf)
      refine ⟨B.1.1 5 (by decide), ?_⟩
      refine rtI (Mc := 3661) (Ms := 946313) (by omega) (by omega) ?_
      refine hc _ _ _ _ (lp_lead (by omega) I (fun v h1 K1 => ?_))
      obtain ⟨B1, K1⟩ := K1
      (conv => whnf)
      refine ⟨B1.1.1 580 (by decide), ?_⟩
      refine rtI (Mc := 3661) (Ms := 946313) (by omega) (by omega) ?_
      refine hc _ _ _ _ (K1 _ (fun h2 I2 => ?_))
      (conv => whnf)
      refine bT rfl ?_
      (conv => whnf)
      rw [nI_add]
      exact nx h2 _ _ (by omega) (by omega) hi I2
    (conv => whnf)
    refine ⟨fun _ => ?_, fun _ => ?_⟩
    · (conv => whnf)
      refine ⟨B.1.1 5 (by decide), ?_⟩
      refine rtI (Mc := 3661) (Ms := 946313) (by omega) (by omega) ?_
      refine hc _ _ _ _ (lp_heaviest (by omega) I (fun v h1 K1 => ?_))
      obtain ⟨B1, K1⟩ := K1
      (conv => whnf)
      refine ⟨B1.1.1 580 (by decide), ?_⟩
      refine rtI (Mc := 3661) (Ms := 946313) (by omega) (by omega) ?_
      refine hc _ _ _ _ (K1 _ (fun h2 I2 => ?_))
      (conv => whnf)
      refine bT rfl ?_
      (conv => whnf)
      rw [nI_add]
      exact nx h2 _ _ (by omega) (by omega) hi I2
    (conv => whnf)
    refine ⟨fun _ => ?_, fun _ => ?_⟩
    · (conv => whnf)
      refine ⟨B.1.1 5 (by decide), ?_⟩
      refine rtI (Mc := 3661) (Ms := 946313) (by omega) (by omega) ?_
      refine hc _ _ _ _ (lp_grass (by omega) I (fun v h1 K1 => ?_))
      obtain ⟨B1, K1⟩ := K1
      (conv => whnf)
      refine ⟨B1.1.1 580 (by decide), ?_⟩
      refine rtI (Mc := 3661) (Ms := 946313) (by omega) (by omega) ?_
      refine hc _ _ _ _ (K1 _ (fun h2 I2 => ?_))
      (conv => whnf)
      refine bT rfl ?_
      (conv => whnf)
      rw [nI_add]
      exact nx h2 _ _ (by omega) (by omega) hi I2
    (conv => whnf)
    refine ⟨fun _ => ?_, fun _ => ?_⟩
    · (conv => whnf)
      refine ⟨B.1.1 5 (by decide), ?_⟩
      refine rtI (Mc := 3661) (Ms := 946313) (by omega) (by omega) ?_
      refine hc _ _ _ _ (lp_wettest (by omega) I (fun v h1 K1 => ?_))
      obtain ⟨B1, K1⟩ := K1
      (conv => whnf)
      refine ⟨B1.1.1 580 (by decide), ?_⟩
      refine rtI (Mc := 3661) (Ms := 946313) (by omega) (by omega) ?_
      refine hc _ _ _ _ (K1 _ (fun h2 I2 => ?_))
      (conv => whnf)
      refine bT rfl ?_
      (conv => whnf)
      rw [nI_add]
      exact nx h2 _ _ (by omega) (by omega) hi I2
    (conv => whnf)
    refine ⟨fun _ => ?_, fun _ => ?_⟩
    · (conv => whnf)
      rw [nI_add]
      refine ⟨B.1.1 0 (by decide), vin _ B.2.2.2.1 (by omega) (by omega), ?_⟩
      (conv => whnf)
      rw [nI_clamp (by omega)]
      try rw [B.2.2.2.2]
      refine ⟨B.1.1 5 (by decide), ?_⟩
      refine rtI (Mc := 3661) (Ms := 946313) (by omega) (by omega) ?_
      refine hc _ _ _ _ (lp_wins (by omega) I _ (fun v h1 K1 => ?_))
      obtain ⟨B1, K1⟩ := K1
      (conv => whnf)
      rw [nI_add]
      refine ⟨B1.1.1 0 (by decide), vin _ B1.2.2.2.1 (by omega) (by omega), ?_⟩
      (conv => whnf)
      rw [nI_clamp (by omega)]
      try rw [B1.2.2.2.2]
      refine ⟨B1.1.1 580 (by decide), ?_⟩
      refine rtI (Mc := 3661) (Ms := 946313) (by omega) (by omega) ?_
      refine hc _ _ _ _ (K1 _ (fun h2 I2 => ?_))
      (conv => whnf)
      refine bT rfl ?_
      (conv => whnf)
      rw [nI_add]
      exact nx h2 _ _ (by omega) (by omega) hi I2
    (conv => whnf)
    refine ⟨fun _ => ?_, fun _ => ?_⟩
    · (conv => whnf)
      rw [nI_add]
      refine ⟨B.1.1 0 (by decide), vin _ B.2.2.2.1 (by omega) (by omega), ?_⟩
      (conv => whnf)
      rw [nI_clamp (by omega)]
      try rw [B.2.2.2.2]
      refine ⟨B.1.1 5 (by decide), ?_⟩
      refine rtI (Mc := 3661) (Ms := 946313) (by omega) (by omega) ?_
      refine hc _ _ _ _ (lp_ledger (by omega) I _ (fun v h1 K1 => ?_))
      obtain ⟨B1, K1⟩ := K1
      (conv => whnf)
      rw [nI_add]
      refine ⟨B1.1.1 0 (by decide), vin _ B1.2.2.2.1 (by omega) (by omega), ?_⟩
      (conv => whnf)
      rw [nI_clamp (by omega)]
      try rw [B1.2.2.2.2]
      refine ⟨B1.1.1 580 (by decide), ?_⟩
      refine rtI (Mc := 3661) (Ms := 946313) (by omega) (by omega) ?_
      refine hc _ _ _ _ (K1 _ (fun h2 I2 => ?_))
      (conv => whnf)
      refine bT rfl ?_
      (conv => whnf)
      rw [nI_add]
      exact nx h2 _ _ (by omega) (by omega) hi I2
    (conv => whnf)
    refine ⟨fun _ => ?_, fun _ => ?_⟩
    · (conv => whnf)
      refine ⟨B.1.1 5 (by decide), ?_⟩
      refine rtI (Mc := 3661) (Ms := 946313) (by omega) (by omega) ?_
      refine hc _ _ _ _ (lp_image (by omega) I (fun v h1 K1 => ?_))
      obtain ⟨B1, K1⟩ := K1
      (conv => whnf)
      refine ⟨B1.1.1 580 (by decide), ?_⟩
      refine rtI (Mc := 3661) (Ms := 946313) (by omega) (by omega) ?_
      refine hc _ _ _ _ (K1 _ (fun h2 I2 => ?_))
      (conv => whnf)
      refine bT rfl ?_
      (conv => whnf)
      rw [nI_add]
      exact nx h2 _ _ (by omega) (by omega) hi I2
    (conv => whnf)
    refine ⟨fun _ => ?_, fun _ => ?_⟩
    · (conv => whnf)
      refine ⟨B.1.1 5 (by decide), ?_⟩
      refine rtI (Mc := 3661) (Ms := 946313) (by omega) (by omega) ?_
      refine hc _ _ _ _ (lp_back (by omega) I (fun v h1 K1 => ?_))
      obtain ⟨B1, K1⟩ := K1
      (conv => whnf)
      refine ⟨B1.1.1 580 (by decide), ?_⟩
      refine rtI (Mc := 3661) (Ms := 946313) (by omega) (by omega) ?_
      refine hc _ _ _ _ (K1 _ (fun h2 I2 => ?_))
      (conv => whnf)
      refine bT rfl ?_
      (conv => whnf)
      rw [nI_add]
      exact nx h2 _ _ (by omega) (by omega) hi I2
    (conv => whnf)
    refine ⟨fun _ => ?_, fun _ => ?_⟩
    · (conv => whnf)
      rw [nI_add]
      refine ⟨B.1.1 0 (by decide), vin _ B.2.2.2.1 (by omega) (by omega), ?_⟩
      (conv => whnf)
      rw [nI_clamp (by omega)]
      try rw [B.2.2.2.2]
      refine ⟨B.1.1 5 (by decide), ?_⟩
      refine rtI (Mc := 3661) (Ms := 946313) (by omega) (by omega) ?_
      refine hc _ _ _ _ (lp_about (by omega) I _ (fun v h1 K1 => ?_))
      obtain ⟨B1, K1⟩ := K1
      (conv => whnf)
      rw [nI_add]
      refine ⟨B1.1.1 0 (by decide), vin _ B1.2.2.2.1 (by omega) (by omega), ?_⟩
      (conv => whnf)
      rw [nI_clamp (by omega)]
      try rw [B1.2.2.2.2]
      refine ⟨B1.1.1 580 (by decide), ?_⟩
      refine rtI (Mc := 3661) (Ms := 946313) (by omega) (by omega) ?_
      refine hc _ _ _ _ (K1 _ (fun h2 I2 => ?_))
      (conv => whnf)
      refine bT rfl ?_
      (conv => whnf)
      rw [nI_add]
      exact nx h2 _ _ (by omega) (by omega) hi I2
    (conv => whnf)
    rw [nI_add]
    exact nx h _ _ (by omega) (by omega) hi I
