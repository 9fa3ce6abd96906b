/-! ===== one call on both sides: questions (mine) ===== -/
section LQ1
variable {d : Nat} {h : Hp} {Q : Option Value → Hp → Prop} {L : Nat} {X : Nat → Int32}
theorem lp_lead (hd : 200 ≤ d) (I : INV h L X) (K : ∀ v h1, Kt d n_X12_lead [.ref 580] L X (.int v) h1 → Q (some (.int v)) h1) : ab_Ok d n_X11_lead [.ref 5] h Q := by
  obtain ⟨s, si, tx, n, b, f, p, B, C, R, W, Wi, hsi, hn3⟩ := I; have I0 : INV h L X := ⟨s, si, tx, n, b, f, p, B, C, R, W, Wi, hsi, hn3⟩; have S := B.1; have G0 := ((WF_iff s).mp W).1; have XC := TXI_C C.2.2.1.1; have w0 := W.1.1; have w1 := W.1.2.1; have w2 := W.1.2.2.1; have w5 := W.1.2.2.2.2.2.1; have w6 := W.1.2.2.2.2.2.2; have bk : s 4 3 ≤ 30 := W.2.1.2.2.2.1
  refine oc_lead (by omega) S C.1 W (K _ h ⟨B, fun Q2 q2 => ?_⟩)
  refine om_lead (by omega) S R.1 W ?_
  exact q2 h I0
theorem lp_heaviest (hd : 200 ≤ d) (I : INV h L X) (K : ∀ v h1, Kt d n_X12_heaviest [.ref 580] L X (.int v) h1 → Q (some (.int v)) h1) : ab_Ok d n_X11_heaviest [.ref 5] h Q := by
  obtain ⟨s, si, tx, n, b, f, p, B, C, R, W, Wi, hsi, hn3⟩ := I; have I0 : INV h L X := ⟨s, si, tx, n, b, f, p, B, C, R, W, Wi, hsi, hn3⟩; have S := B.1; have G0 := ((WF_iff s).mp W).1; have XC := TXI_C C.2.2.1.1; have w0 := W.1.1; have w1 := W.1.2.1; have w2 := W.1.2.2.1; have w5 := W.1.2.2.2.2.2.1; have w6 := W.1.2.2.2.2.2.2; have bk : s 4 3 ≤ 30 := W.2.1.2.2.2.1
  refine oc_heaviest (by omega) S C.1 W (K _ h ⟨B, fun Q2 q2 => ?_⟩)
  refine om_heaviest (by omega) S R.1 W ?_
  exact q2 h I0
theorem lp_grass (hd : 200 ≤ d) (I : INV h L X) (K : ∀ v h1, Kt d n_X12_grass [.ref 580] L X (.int v) h1 → Q (some (.int v)) h1) : ab_Ok d n_X11_grass [.ref 5] h Q := by
  obtain ⟨s, si, tx, n, b, f, p, B, C, R, W, Wi, hsi, hn3⟩ := I; have I0 : INV h L X := ⟨s, si, tx, n, b, f, p, B, C, R, W, Wi, hsi, hn3⟩; have S := B.1; have G0 := ((WF_iff s).mp W).1; have XC := TXI_C C.2.2.1.1; have w0 := W.1.1; have w1 := W.1.2.1; have w2 := W.1.2.2.1; have w5 := W.1.2.2.2.2.2.1; have w6 := W.1.2.2.2.2.2.2; have bk : s 4 3 ≤ 30 := W.2.1.2.2.2.1
  refine oc_grass (by omega) S C.1 W (K _ h ⟨B, fun Q2 q2 => ?_⟩)
  refine om_grass (by omega) S R.1 W ?_
  exact q2 h I0
theorem lp_wettest (hd : 200 ≤ d) (I : INV h L X) (K : ∀ v h1, Kt d n_X12_wettest [.ref 580] L X (.int v) h1 → Q (some (.int v)) h1) : ab_Ok d n_X11_wettest [.ref 5] h Q := by
  obtain ⟨s, si, tx, n, b, f, p, B, C, R, W, Wi, hsi, hn3⟩ := I; have I0 : INV h L X := ⟨s, si, tx, n, b, f, p, B, C, R, W, Wi, hsi, hn3⟩; have S := B.1; have G0 := ((WF_iff s).mp W).1; have XC := TXI_C C.2.2.1.1; have w0 := W.1.1; have w1 := W.1.2.1; have w2 := W.1.2.2.1; have w5 := W.1.2.2.2.2.2.1; have w6 := W.1.2.2.2.2.2.2; have bk : s 4 3 ≤ 30 := W.2.1.2.2.2.1
  refine oc_wettest (by omega) S C.1 W (K _ h ⟨B, fun Q2 q2 => ?_⟩)
  refine om_wettest (by omega) S R.1 W ?_
  exact q2 h I0
theorem lp_kings (hd : 200 ≤ d) (I : INV h L X) (K : ∀ v h1, Kt d n_X12_kings [.ref 580] L X (.int v) h1 → Q (some (.int v)) h1) : ab_Ok d n_X11_kings [.ref 5] h Q := by
  obtain ⟨s, si, tx, n, b, f, p, B, C, R, W, Wi, hsi, hn3⟩ := I; have I0 : INV h L X := ⟨s, si, tx, n, b, f, p, B, C, R, W, Wi, hsi, hn3⟩; have S := B.1; have G0 := ((WF_iff s).mp W).1; have XC := TXI_C C.2.2.1.1; have w0 := W.1.1; have w1 := W.1.2.1; have w2 := W.1.2.2.1; have w5 := W.1.2.2.2.2.2.1; have w6 := W.1.2.2.2.2.2.2; have bk : s 4 3 ≤ 30 := W.2.1.2.2.2.1
  refine oc_kings (by omega) S C.1 W (K _ h ⟨B, fun Q2 q2 => ?_⟩)
  refine om_kings (by omega) S R.1 W ?_
  exact q2 h I0
theorem lp_rings (hd : 200 ≤ d) (I : INV h L X) (K : ∀ v h1, Kt d n_X12_rings [.ref 580] L X (.int v) h1 → Q (some (.int v)) h1) : ab_Ok d n_X11_rings [.ref 5] h Q := by
  obtain ⟨s, si, tx, n, b, f, p, B, C, R, W, Wi, hsi, hn3⟩ := I; have I0 : INV h L X := ⟨s, si, tx, n, b, f, p, B, C, R, W, Wi, hsi, hn3⟩; have S := B.1; have G0 := ((WF_iff s).mp W).1; have XC := TXI_C C.2.2.1.1; have w0 := W.1.1; have w1 := W.1.2.1; have w2 := W.1.2.2.1; have w5 := W.1.2.2.2.2.2.1; have w6 := W.1.2.2.2.2.2.2; have bk : s 4 3 ≤ 30 := W.2.1.2.2.2.1
  refine oc_rings (by omega) S C.1 W (K _ h ⟨B, fun Q2 q2 => ?_⟩)
  rw [rc_rm s w0] at q2
  refine om_rings (by omega) S R.1 W ?_
  exact q2 h I0
theorem lp_windAt (hd : 200 ≤ d) (I : INV h L X) (x : Int32) (K : ∀ v h1, Kt d n_X12_windAt [.ref 580, .int x] L X (.int v) h1 → Q (some (.int v)) h1) : ab_Ok d n_X11_windAt [.ref 5, .int x] h Q := by
  obtain ⟨s, si, tx, n, b, f, p, B, C, R, W, Wi, hsi, hn3⟩ := I; have I0 : INV h L X := ⟨s, si, tx, n, b, f, p, B, C, R, W, Wi, hsi, hn3⟩; have S := B.1; have G0 := ((WF_iff s).mp W).1; have XC := TXI_C C.2.2.1.1; have w0 := W.1.1; have w1 := W.1.2.1; have w2 := W.1.2.2.1; have w5 := W.1.2.2.2.2.2.1; have w6 := W.1.2.2.2.2.2.2; have bk : s 4 3 ≤ 30 := W.2.1.2.2.2.1
  refine oc_windAt (by omega) S C.1  x (fun k k1 e => ?_) (fun z => ?_)
  · refine K _ h ⟨B, fun Q2 q2 => ?_⟩
    refine om_windAt (by omega) B.1 R.1  x (fun k' k1' e' => ?_) (fun z' => ?_)
    · obtain rfl := nJ (by omega) (by omega) e e'
      exact q2 _ I0
    · exact absurd e (z' k k1)
  · refine K _ h ⟨B, fun Q2 q2 => ?_⟩
    refine om_windAt (by omega) B.1 R.1  x (fun k' k1' e' => ?_) (fun z' => ?_)
    · exact absurd e' (z k' k1')
    · exact q2 _ I0
theorem lp_wins (hd : 200 ≤ d) (I : INV h L X) (x : Int32) (K : ∀ v h1, Kt d n_X12_wins [.ref 580, .int x] L X (.int v) h1 → Q (some (.int v)) h1) : ab_Ok d n_X11_wins [.ref 5, .int x] h Q := by
  obtain ⟨s, si, tx, n, b, f, p, B, C, R, W, Wi, hsi, hn3⟩ := I; have I0 : INV h L X := ⟨s, si, tx, n, b, f, p, B, C, R, W, Wi, hsi, hn3⟩; have S := B.1; have G0 := ((WF_iff s).mp W).1; have XC := TXI_C C.2.2.1.1; have w0 := W.1.1; have w1 := W.1.2.1; have w2 := W.1.2.2.1; have w5 := W.1.2.2.2.2.2.1; have w6 := W.1.2.2.2.2.2.2; have bk : s 4 3 ≤ 30 := W.2.1.2.2.2.1
  refine oc_wins (by omega) S C.1 W x (fun k k1 e => ?_) (fun z => ?_)
  · refine K _ h ⟨B, fun Q2 q2 => ?_⟩
    refine om_wins (by omega) B.1 R.1 W x (fun k' k1' e' => ?_) (fun z' => ?_)
    · obtain rfl := nJ (by omega) (by omega) e e'
      exact q2 _ I0
    · exact absurd e (z' k k1)
  · refine K _ h ⟨B, fun Q2 q2 => ?_⟩
    refine om_wins (by omega) B.1 R.1 W x (fun k' k1' e' => ?_) (fun z' => ?_)
    · exact absurd e' (z k' k1')
    · exact q2 _ I0
theorem lp_ledger (hd : 200 ≤ d) (I : INV h L X) (x : Int32) (K : ∀ v h1, Kt d n_X12_ledger [.ref 580, .int x] L X (.int v) h1 → Q (some (.int v)) h1) : ab_Ok d n_X11_ledger [.ref 5, .int x] h Q := by
  obtain ⟨s, si, tx, n, b, f, p, B, C, R, W, Wi, hsi, hn3⟩ := I; have I0 : INV h L X := ⟨s, si, tx, n, b, f, p, B, C, R, W, Wi, hsi, hn3⟩; have S := B.1; have G0 := ((WF_iff s).mp W).1; have XC := TXI_C C.2.2.1.1; have w0 := W.1.1; have w1 := W.1.2.1; have w2 := W.1.2.2.1; have w5 := W.1.2.2.2.2.2.1; have w6 := W.1.2.2.2.2.2.2; have bk : s 4 3 ≤ 30 := W.2.1.2.2.2.1
  refine oc_ledger (by omega) S C.1 W x (fun e0 => ?_) (fun k k1 e => ?_) (fun z0 z => ?_)
  · refine K _ h ⟨B, fun Q2 q2 => ?_⟩
    refine om_ledger (by omega) B.1 R.1 W x (fun e0' => ?_) (fun k' k1' e' => ?_) (fun z0' z' => ?_)
    · exact q2 _ I0
    · exact absurd (e'.symm.trans e0) (nI_m1 (by omega))
    · exact absurd e0 z0'
  · refine K _ h ⟨B, fun Q2 q2 => ?_⟩
    refine om_ledger (by omega) B.1 R.1 W x (fun e0' => ?_) (fun k' k1' e' => ?_) (fun z0' z' => ?_)
    · exact absurd (e.symm.trans e0') (nI_m1 (by omega))
    · obtain rfl := nJ (by omega) (by omega) e e'
      exact q2 _ I0
    · exact absurd e (z' k k1)
  · refine K _ h ⟨B, fun Q2 q2 => ?_⟩
    refine om_ledger (by omega) B.1 R.1 W x (fun e0' => ?_) (fun k' k1' e' => ?_) (fun z0' z' => ?_)
    · exact absurd e0' z0
    · exact absurd e' (z k' k1')
    · exact q2 _ I0
theorem lp_book (hd : 200 ≤ d) (I : INV h L X) (x y : Int32) (K : ∀ v h1, Kt d n_X12_book [.ref 580, .int x, .int y] L X (.int v) h1 → Q (some (.int v)) h1) : ab_Ok d n_X11_book [.ref 5, .int x, .int y] h Q := by
  obtain ⟨s, si, tx, n, b, f, p, B, C, R, W, Wi, hsi, hn3⟩ := I; have I0 : INV h L X := ⟨s, si, tx, n, b, f, p, B, C, R, W, Wi, hsi, hn3⟩; have S := B.1; have G0 := ((WF_iff s).mp W).1; have XC := TXI_C C.2.2.1.1; have w0 := W.1.1; have w1 := W.1.2.1; have w2 := W.1.2.2.1; have w5 := W.1.2.2.2.2.2.1; have w6 := W.1.2.2.2.2.2.2; have bk : s 4 3 ≤ 30 := W.2.1.2.2.2.1
  refine oc_book (by omega) S C.1 W x y (fun e0 => ?_) (fun k w k1 w1 e g => ?_) (fun z0 z => ?_)
  · refine K _ h ⟨B, fun Q2 q2 => ?_⟩
    refine om_book (by omega) B.1 R.1 W x y (fun e0' => ?_) (fun k' w' k1' w1' e' g' => ?_) (fun z0' z' => ?_)
    · exact q2 _ I0
    · exact absurd (e'.symm.trans e0) (nI_m1 (by omega))
    · exact absurd e0 z0'
  · refine K _ h ⟨B, fun Q2 q2 => ?_⟩
    refine om_book (by omega) B.1 R.1 W x y (fun e0' => ?_) (fun k' w' k1' w1' e' g' => ?_) (fun z0' z' => ?_)
    · exact absurd (e.symm.trans e0') (nI_m1 (by omega))
    · obtain rfl := nJ (by omega) (by omega) e e'
      obtain rfl := nJ (by omega) (by omega) g g'
      exact q2 _ I0
    · exact absurd g (z' k w k1 w1 e)
  · refine K _ h ⟨B, fun Q2 q2 => ?_⟩
    refine om_book (by omega) B.1 R.1 W x y (fun e0' => ?_) (fun k' w' k1' w1' e' g' => ?_) (fun z0' z' => ?_)
    · exact absurd e0' z0
    · exact absurd g' (z k' w' k1' w1' e')
    · exact q2 _ I0
theorem lp_about (hd : 200 ≤ d) (I : INV h L X) (x : Int32) (K : ∀ v h1, Kt d n_X12_about [.ref 580, .int x] L X (.int v) h1 → Q (some (.int v)) h1) : ab_Ok d n_X11_about [.ref 5, .int x] h Q := by
  obtain ⟨s, si, tx, n, b, f, p, B, C, R, W, Wi, hsi, hn3⟩ := I; have I0 : INV h L X := ⟨s, si, tx, n, b, f, p, B, C, R, W, Wi, hsi, hn3⟩; have S := B.1; have G0 := ((WF_iff s).mp W).1; have XC := TXI_C C.2.2.1.1; have w0 := W.1.1; have w1 := W.1.2.1; have w2 := W.1.2.2.1; have w5 := W.1.2.2.2.2.2.1; have w6 := W.1.2.2.2.2.2.2; have bk : s 4 3 ≤ 30 := W.2.1.2.2.2.1
  refine oc_about (by omega) S C.1 C.2.2.2.2.1.1 x (fun k k1 e => ?_) (fun e7 => ?_) (fun z => ?_)
  · refine K _ h ⟨B, fun Q2 q2 => ?_⟩
    refine om_about (by omega) B.1 R.1 R.2.2.2.1.1 x (fun k' k1' e' => ?_) (fun e7' => ?_) (fun z' => ?_)
    · obtain rfl := nJ (by omega) (by omega) e e'
      exact q2 _ I0
    · exact absurd (nJ (by omega) (by omega) e e7') (by omega)
    · exact absurd e (z' k (by omega))
  · refine K _ h ⟨B, fun Q2 q2 => ?_⟩
    refine om_about (by omega) B.1 R.1 R.2.2.2.1.1 x (fun k' k1' e' => ?_) (fun e7' => ?_) (fun z' => ?_)
    · exact absurd (nJ (by omega) (by omega) e' e7) (by omega)
    · exact q2 _ I0
    · exact absurd e7 (z' 7 (by omega))
  · refine K _ h ⟨B, fun Q2 q2 => ?_⟩
    refine om_about (by omega) B.1 R.1 R.2.2.2.1.1 x (fun k' k1' e' => ?_) (fun e7' => ?_) (fun z' => ?_)
    · exact absurd e' (z k' (by omega))
    · exact absurd e7' (z 7 (by omega))
    · exact q2 _ I0
theorem lp_is (hd : 200 ≤ d) (I : INV h L X) (x : Int32) (K : ∀ v h1, Kt d n_X12_is [.ref 580, .int x] L X (.int v) h1 → Q (some (.int v)) h1) : ab_Ok d n_X11_is [.ref 5, .int x] h Q := by
  obtain ⟨s, si, tx, n, b, f, p, B, C, R, W, Wi, hsi, hn3⟩ := I; have I0 : INV h L X := ⟨s, si, tx, n, b, f, p, B, C, R, W, Wi, hsi, hn3⟩; have S := B.1; have G0 := ((WF_iff s).mp W).1; have XC := TXI_C C.2.2.1.1; have w0 := W.1.1; have w1 := W.1.2.1; have w2 := W.1.2.2.1; have w5 := W.1.2.2.2.2.2.1; have w6 := W.1.2.2.2.2.2.2; have bk : s 4 3 ≤ 30 := W.2.1.2.2.2.1
  refine oc_is (by omega) S C.1 (fun k hk => (W.2.1.2.2.2.2.1 k hk).2.1) x (fun q0 => ?_) (fun q1 => ?_) (fun q2 => ?_) (fun q3 => ?_) (fun z => ?_)
  · refine K _ h ⟨B, fun Q2 qq => ?_⟩
    refine om_is (by omega) B.1 R.1 G0.1 x (fun q0' => ?_) (fun q1' => ?_) (fun q2' => ?_) (fun q3' => ?_) (fun z' => ?_)
    · exact qq _ I0
    · exact absurd (nJ (by omega) (by omega) q0 q1') (by omega)
    · exact absurd (nJ (by omega) (by omega) q0 q2') (by omega)
    · exact absurd (nJ (by omega) (by omega) q0 q3') (by omega)
    · exact absurd q0 (z' 0 (by omega))
  · refine K _ h ⟨B, fun Q2 qq => ?_⟩
    refine om_is (by omega) B.1 R.1 G0.1 x (fun q0' => ?_) (fun q1' => ?_) (fun q2' => ?_) (fun q3' => ?_) (fun z' => ?_)
    · exact absurd (nJ (by omega) (by omega) q0' q1) (by omega)
    · exact qq _ I0
    · exact absurd (nJ (by omega) (by omega) q1 q2') (by omega)
    · exact absurd (nJ (by omega) (by omega) q1 q3') (by omega)
    · exact absurd q1 (z' 1 (by omega))
  · refine K _ h ⟨B, fun Q2 qq => ?_⟩
    refine om_is (by omega) B.1 R.1 G0.1 x (fun q0' => ?_) (fun q1' => ?_) (fun q2' => ?_) (fun q3' => ?_) (fun z' => ?_)
    · exact absurd (nJ (by omega) (by omega) q0' q2) (by omega)
    · exact absurd (nJ (by omega) (by omega) q1' q2) (by omega)
    · exact qq _ I0
    · exact absurd (nJ (by omega) (by omega) q2 q3') (by omega)
    · exact absurd q2 (z' 2 (by omega))
  · refine K _ h ⟨B, fun Q2 qq => ?_⟩
    refine om_is (by omega) B.1 R.1 G0.1 x (fun q0' => ?_) (fun q1' => ?_) (fun q2' => ?_) (fun q3' => ?_) (fun z' => ?_)
    · exact absurd (nJ (by omega) (by omega) q0' q3) (by omega)
    · exact absurd (nJ (by omega) (by omega) q1' q3) (by omega)
    · exact absurd (nJ (by omega) (by omega) q2' q3) (by omega)
    · exact qq _ I0
    · exact absurd q3 (z' 3 (by omega))
  · refine K _ h ⟨B, fun Q2 qq => ?_⟩
    refine om_is (by omega) B.1 R.1 G0.1 x (fun q0' => ?_) (fun q1' => ?_) (fun q2' => ?_) (fun q3' => ?_) (fun z' => ?_)
    · exact absurd q0' (z 0 (by omega))
    · exact absurd q1' (z 1 (by omega))
    · exact absurd q2' (z 2 (by omega))
    · exact absurd q3' (z 3 (by omega))
    · exact qq _ I0
theorem lp_sure (hd : 200 ≤ d) (I : INV h L X) (x y : Int32) (K : ∀ v h1, Kt d n_X12_sure [.ref 580, .int x, .int y] L X (.int v) h1 → Q (some (.int v)) h1) : ab_Ok d n_X11_sure [.ref 5, .int x, .int y] h Q := by
  obtain ⟨s, si, tx, n, b, f, p, B, C, R, W, Wi, hsi, hn3⟩ := I; have I0 : INV h L X := ⟨s, si, tx, n, b, f, p, B, C, R, W, Wi, hsi, hn3⟩; have S := B.1; have G0 := ((WF_iff s).mp W).1; have XC := TXI_C C.2.2.1.1; have w0 := W.1.1; have w1 := W.1.2.1; have w2 := W.1.2.2.1; have w5 := W.1.2.2.2.2.2.1; have w6 := W.1.2.2.2.2.2.2; have bk : s 4 3 ≤ 30 := W.2.1.2.2.2.1
  refine oc_sure (by omega) S C.1 W x y (fun g q g1 g2 e s0 q1 e2 => ?_) (fun z => ?_)
  · refine K _ h ⟨B, fun Q2 q2 => ?_⟩
    refine om_sure (by omega) B.1 R.1 W x y (fun g' q' g1' g2' e' s0' q1' e2' => ?_) (fun z' => ?_)
    · obtain rfl := nJ (by omega) (by omega) e e'
      obtain rfl := nJ1 (by omega) (by omega) e2 e2'
      exact q2 _ I0
    · exact absurd e2 (z' g q g1 g2 e s0 q1)
  · refine K _ h ⟨B, fun Q2 q2 => ?_⟩
    refine om_sure (by omega) B.1 R.1 W x y (fun g' q' g1' g2' e' s0' q1' e2' => ?_) (fun z' => ?_)
    · exact absurd e2' (z g' q' g1' g2' e' s0' q1')
    · exact q2 _ I0
theorem lp_first (hd : 200 ≤ d) (I : INV h L X) (x w : Int32) (hw : w = 0 ∨ w = 1) (K : ∀ v h1, Kt d n_X12_first [.ref 580, .int x, .int w] L X (.int v) h1 → Q (some (.int v)) h1) : ab_Ok d n_X11_first [.ref 5, .int x, .int w] h Q := by
  obtain ⟨s, si, tx, n, b, f, p, B, C, R, W, Wi, hsi, hn3⟩ := I; have I0 : INV h L X := ⟨s, si, tx, n, b, f, p, B, C, R, W, Wi, hsi, hn3⟩; have S := B.1; have G0 := ((WF_iff s).mp W).1; have XC := TXI_C C.2.2.1.1; have w0 := W.1.1; have w1 := W.1.2.1; have w2 := W.1.2.2.1; have w5 := W.1.2.2.2.2.2.1; have w6 := W.1.2.2.2.2.2.2; have bk : s 4 3 ≤ 30 := W.2.1.2.2.2.1
  refine oc_first (by omega) S C.1 W x w hw (fun k k1 e => ?_) (fun z => ?_)
  · refine K _ h ⟨B, fun Q2 q2 => ?_⟩
    refine om_first (by omega) B.1 R.1 W x w hw (fun k' k1' e' => ?_) (fun z' => ?_)
    · obtain rfl := nJ (by omega) (by omega) e e'
      exact q2 _ I0
    · exact absurd e (z' k k1)
  · refine K _ h ⟨B, fun Q2 q2 => ?_⟩
    refine om_first (by omega) B.1 R.1 W x w hw (fun k' k1' e' => ?_) (fun z' => ?_)
    · exact absurd e' (z k' k1')
    · exact q2 _ I0
theorem lp_order (hd : 200 ≤ d) (I : INV h L X) (x y w : Int32) (hw : w = 0 ∨ w = 1) (K : ∀ v h1, Kt d n_X12_order [.ref 580, .int x, .int y, .int w] L X (.int v) h1 → Q (some (.int v)) h1) : ab_Ok d n_X11_order [.ref 5, .int x, .int y, .int w] h Q := by
  obtain ⟨s, si, tx, n, b, f, p, B, C, R, W, Wi, hsi, hn3⟩ := I; have I0 : INV h L X := ⟨s, si, tx, n, b, f, p, B, C, R, W, Wi, hsi, hn3⟩; have S := B.1; have G0 := ((WF_iff s).mp W).1; have XC := TXI_C C.2.2.1.1; have w0 := W.1.1; have w1 := W.1.2.1; have w2 := W.1.2.2.1; have w5 := W.1.2.2.2.2.2.1; have w6 := W.1.2.2.2.2.2.2; have bk : s 4 3 ≤ 30 := W.2.1.2.2.2.1
  refine oc_order (by omega) S C.1 W x y w hw (fun k l k1 l1 kl e g => ?_) (fun z => ?_)
  · refine K _ h ⟨B, fun Q2 q2 => ?_⟩
    refine om_order (by omega) B.1 R.1 W x y w hw (fun k' l' k1' l1' kl' e' g' => ?_) (fun z' => ?_)
    · obtain rfl := nJ (by omega) (by omega) e e'
      obtain rfl := nJ (by omega) (by omega) g g'
      exact q2 _ I0
    · exact absurd g (z' k l k1 l1 kl e)
  · refine K _ h ⟨B, fun Q2 q2 => ?_⟩
    refine om_order (by omega) B.1 R.1 W x y w hw (fun k' l' k1' l1' kl' e' g' => ?_) (fun z' => ?_)
    · exact absurd g' (z k' l' k1' l1' kl' e')
    · exact q2 _ I0
theorem lp_two (hd : 200 ≤ d) (I : INV h L X) (x w : Int32) (hw : w = 0 ∨ w = 1) (K : ∀ v h1, Kt d n_X12_two [.ref 580, .int x, .int w] L X (.long v) h1 → Q (some (.long v)) h1) : ab_Ok d n_X11_two [.ref 5, .int x, .int w] h Q := by
  obtain ⟨s, si, tx, n, b, f, p, B, C, R, W, Wi, hsi, hn3⟩ := I; have I0 : INV h L X := ⟨s, si, tx, n, b, f, p, B, C, R, W, Wi, hsi, hn3⟩; have S := B.1; have G0 := ((WF_iff s).mp W).1; have XC := TXI_C C.2.2.1.1; have w0 := W.1.1; have w1 := W.1.2.1; have w2 := W.1.2.2.1; have w5 := W.1.2.2.2.2.2.1; have w6 := W.1.2.2.2.2.2.2; have bk : s 4 3 ≤ 30 := W.2.1.2.2.2.1
  refine oc_two (by omega) S C.1 W x w hw (fun k k1 e k2 => ?_) (fun z => ?_)
  · refine K _ h ⟨B, fun Q2 q2 => ?_⟩
    refine om_two (by omega) B.1 R.1 W x w hw (fun k' k1' e' k2' => ?_) (fun z' => ?_)
    · obtain rfl := nJ (by omega) (by omega) e e'
      exact q2 _ I0
    · exact absurd (z' k k1 e) (by omega)
  · refine K _ h ⟨B, fun Q2 q2 => ?_⟩
    refine om_two (by omega) B.1 R.1 W x w hw (fun k' k1' e' k2' => ?_) (fun z' => ?_)
    · exact absurd (z k' k1' e') (by omega)
    · exact q2 _ I0
theorem lp_fault (hd : 200 ≤ d) (I : INV h L X) (x : Int32) (K : ∀ v h1, Kt d n_X12_fault [.ref 580, .int x] L X (.int v) h1 → Q (some (.int v)) h1) : ab_Ok d n_X11_fault [.ref 5, .int x] h Q := by
  obtain ⟨s, si, tx, n, b, f, p, B, C, R, W, Wi, hsi, hn3⟩ := I; have I0 : INV h L X := ⟨s, si, tx, n, b, f, p, B, C, R, W, Wi, hsi, hn3⟩; have S := B.1; have G0 := ((WF_iff s).mp W).1; have XC := TXI_C C.2.2.1.1; have w0 := W.1.1; have w1 := W.1.2.1; have w2 := W.1.2.2.1; have w5 := W.1.2.2.2.2.2.1; have w6 := W.1.2.2.2.2.2.2; have bk : s 4 3 ≤ 30 := W.2.1.2.2.2.1
  refine oc_fault (by omega) S C.2.2.2.2.2.1 C.2.2.2.2.2.2  x (fun e0 => ?_) (fun e1 => ?_) (fun z0 z1 => ?_)
  · refine K _ h ⟨B, fun Q2 q2 => ?_⟩
    refine om_fault (by omega) B.1 R.2.2.2.2.1 R.2.2.2.2.2.1  x (fun e0' => ?_) (fun e1' => ?_) (fun z0' z1' => ?_)
    · exact q2 _ I0
    · exact absurd (nJ (by omega) (by omega) e0 e1') (by omega)
    · exact absurd e0 z0'
  · refine K _ h ⟨B, fun Q2 q2 => ?_⟩
    refine om_fault (by omega) B.1 R.2.2.2.2.1 R.2.2.2.2.2.1  x (fun e0' => ?_) (fun e1' => ?_) (fun z0' z1' => ?_)
    · exact absurd (nJ (by omega) (by omega) e0' e1) (by omega)
    · exact q2 _ I0
    · exact absurd e1 z1'
  · refine K _ h ⟨B, fun Q2 q2 => ?_⟩
    refine om_fault (by omega) B.1 R.2.2.2.2.1 R.2.2.2.2.2.1  x (fun e0' => ?_) (fun e1' => ?_) (fun z0' z1' => ?_)
    · exact absurd e0' z0
    · exact absurd e1' z1
    · exact q2 _ I0
end LQ1
