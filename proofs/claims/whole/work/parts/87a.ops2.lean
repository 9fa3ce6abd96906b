/-! ===== one call on both sides: questions that use scratch cells (mine) ===== -/
section LQ2
variable {d : Nat} {h : Hp} {Q : Option Value → Hp → Prop} {L : Nat} {X : Nat → Int32}
theorem lp_of (hd : 200 ≤ d) (I : INV h L X) (x y : Int32) (K : ∀ v h1, Kt d n_X12_of [.ref 580, .int x, .int y] L X (.int v) h1 → Q (some (.int v)) h1) : ab_Ok d n_X11_of [.ref 5, .int x, .int y] h Q := by
  obtain ⟨s, si, tx, n, b, f, p, B, C, R, W, Wi, hsi, hn3⟩ := I; have I0 : INV h L X := ⟨s, si, tx, n, b, f, p, B, C, R, W, Wi, hsi, hn3⟩; have S := B.1; have G0 := ((WF_iff s).mp W).1; have XC := TXI_C C.2.2.1.1; have w0 := W.1.1; have w1 := W.1.2.1; have w2 := W.1.2.2.1; have w5 := W.1.2.2.2.2.2.1; have w6 := W.1.2.2.2.2.2.2; have bk : s 4 3 ≤ 30 := W.2.1.2.2.2.1
  refine oc_of (by omega) S C.1 W XC x y (fun k w k1 w1 e g h1 C1 F1 => ?_) (fun z => ?_)
  · obtain ⟨B1, D1, R1⟩ := mid B C R F1 C1 rfl
    refine K _ h1 ⟨B1, fun Q2 q2 => ?_⟩
    refine om_of (by omega) B1.1 R1.1 W R1.2.2.1 x y (fun k' w' k1' w1' e' g' h2 M2 F2 => ?_) (fun z' => ?_)
    · obtain rfl := nJ (by omega) (by omega) e e'
      obtain rfl := nJ (by omega) (by omega) g g'
      exact q2 _ (finG B1 D1 R1 F2 M2 rfl W Wi hsi hn3)
    · exact absurd g (z' k w k1 w1 e)
  · refine K _ h ⟨B, fun Q2 q2 => ?_⟩
    refine om_of (by omega) B.1 R.1 W R.2.2.1 x y (fun k' w' k1' w1' e' g' h2 M2 F2 => ?_) (fun z' => ?_)
    · exact absurd g' (z k' w' k1' w1' e')
    · exact q2 _ I0
theorem lp_ofPiece (hd : 200 ≤ d) (I : INV h L X) (x y : Int32) (K : ∀ v h1, Kt d n_X12_ofPiece [.ref 580, .int x, .int y] L X (.int v) h1 → Q (some (.int v)) h1) : ab_Ok d n_X11_ofPiece [.ref 5, .int x, .int y] h Q := by
  obtain ⟨s, si, tx, n, b, f, p, B, C, R, W, Wi, hsi, hn3⟩ := I; have I0 : INV h L X := ⟨s, si, tx, n, b, f, p, B, C, R, W, Wi, hsi, hn3⟩; have S := B.1; have G0 := ((WF_iff s).mp W).1; have XC := TXI_C C.2.2.1.1; have w0 := W.1.1; have w1 := W.1.2.1; have w2 := W.1.2.2.1; have w5 := W.1.2.2.2.2.2.1; have w6 := W.1.2.2.2.2.2.2; have bk : s 4 3 ≤ 30 := W.2.1.2.2.2.1
  refine oc_ofPiece (by omega) S C.1 W XC x y (fun k w k1 w1 e g h1 C1 F1 => ?_) (fun z => ?_)
  · obtain ⟨B1, D1, R1⟩ := mid B C R F1 C1 rfl
    refine K _ h1 ⟨B1, fun Q2 q2 => ?_⟩
    refine om_ofPiece (by omega) B1.1 R1.1 W R1.2.2.1 x y (fun k' w' k1' w1' e' g' h2 M2 F2 => ?_) (fun z' => ?_)
    · obtain rfl := nJ (by omega) (by omega) e e'
      obtain rfl := nJ (by omega) (by omega) g g'
      exact q2 _ (finG B1 D1 R1 F2 M2 rfl W Wi hsi hn3)
    · exact absurd g (z' k w k1 w1 e)
  · refine K _ h ⟨B, fun Q2 q2 => ?_⟩
    refine om_ofPiece (by omega) B.1 R.1 W R.2.2.1 x y (fun k' w' k1' w1' e' g' h2 M2 F2 => ?_) (fun z' => ?_)
    · exact absurd g' (z k' w' k1' w1' e')
    · exact q2 _ I0
theorem lp_dry (hd : 200 ≤ d) (I : INV h L X) (x : Int32) (K : ∀ v h1, Kt d n_X12_dry [.ref 580, .int x] L X (.int v) h1 → Q (some (.int v)) h1) : ab_Ok d n_X11_dry [.ref 5, .int x] h Q := by
  obtain ⟨s, si, tx, n, b, f, p, B, C, R, W, Wi, hsi, hn3⟩ := I; have I0 : INV h L X := ⟨s, si, tx, n, b, f, p, B, C, R, W, Wi, hsi, hn3⟩; have S := B.1; have G0 := ((WF_iff s).mp W).1; have XC := TXI_C C.2.2.1.1; have w0 := W.1.1; have w1 := W.1.2.1; have w2 := W.1.2.2.1; have w5 := W.1.2.2.2.2.2.1; have w6 := W.1.2.2.2.2.2.2; have bk : s 4 3 ≤ 30 := W.2.1.2.2.2.1
  refine oc_dry (by omega) S C.1 G0 XC x (fun k k1 e h1 C1 F1 => ?_) (fun z => ?_)
  · obtain ⟨B1, D1, R1⟩ := mid B C R F1 C1 rfl
    refine K _ h1 ⟨B1, fun Q2 q2 => ?_⟩
    refine om_dry (by omega) B1.1 R1.1 G0 R1.2.2.1 x (fun k' k1' e' h2 M2 g23 F2 => ?_) (fun z' => ?_)
    · obtain rfl := nJ (by omega) (by omega) e e'
      exact q2 _ (fin B1 D1 R1 F2 mQ_A M2 g23 rfl W Wi hsi hn3)
    · exact absurd e (z' k k1)
  · refine K _ h ⟨B, fun Q2 q2 => ?_⟩
    refine om_dry (by omega) B.1 R.1 G0 R.2.2.1 x (fun k' k1' e' h2 M2 g23 F2 => ?_) (fun z' => ?_)
    · exact absurd e' (z k' k1')
    · exact q2 _ I0
theorem lp_nobbled (hd : 200 ≤ d) (I : INV h L X) (x y : Int32) (K : ∀ v h1, Kt d n_X12_nobbled [.ref 580, .int x, .int y] L X (.int v) h1 → Q (some (.int v)) h1) : ab_Ok d n_X11_nobbled [.ref 5, .int x, .int y] h Q := by
  obtain ⟨s, si, tx, n, b, f, p, B, C, R, W, Wi, hsi, hn3⟩ := I; have I0 : INV h L X := ⟨s, si, tx, n, b, f, p, B, C, R, W, Wi, hsi, hn3⟩; have S := B.1; have G0 := ((WF_iff s).mp W).1; have XC := TXI_C C.2.2.1.1; have w0 := W.1.1; have w1 := W.1.2.1; have w2 := W.1.2.2.1; have w5 := W.1.2.2.2.2.2.1; have w6 := W.1.2.2.2.2.2.2; have bk : s 4 3 ≤ 30 := W.2.1.2.2.2.1
  refine oc_nobbled (by omega) S C.1 W XC x y (fun k w k1 w1 e g h1 C1 F1 => ?_) (fun z => ?_)
  · obtain ⟨B1, D1, R1⟩ := mid B C R F1 C1 rfl
    refine K _ h1 ⟨B1, fun Q2 q2 => ?_⟩
    refine om_nobbled (by omega) B1.1 R1.1 W R1.2.2.1 R1.2.2.2.2.2.2 x y (fun k' w' k1' w1' e' g' h2 M2 g23 F2 => ?_) (fun z' => ?_)
    · obtain rfl := nJ (by omega) (by omega) e e'
      obtain rfl := nJ (by omega) (by omega) g g'
      exact q2 _ (fin B1 D1 R1 F2 mQ_A M2 g23 rfl W Wi hsi hn3)
    · exact absurd g (z' k w k1 w1 e)
  · refine K _ h ⟨B, fun Q2 q2 => ?_⟩
    refine om_nobbled (by omega) B.1 R.1 W R.2.2.1 R.2.2.2.2.2.2 x y (fun k' w' k1' w1' e' g' h2 M2 g23 F2 => ?_) (fun z' => ?_)
    · exact absurd g' (z k' w' k1' w1' e')
    · exact q2 _ I0
theorem lp_foretold (hd : 200 ≤ d) (I : INV h L X) (x y z : Int32) (K : ∀ v h1, Kt d n_X12_foretold [.ref 580, .int x, .int y, .int z] L X (.int v) h1 → Q (some (.int v)) h1) : ab_Ok d n_X11_foretold [.ref 5, .int x, .int y, .int z] h Q := by
  obtain ⟨s, si, tx, n, b, f, p, B, C, R, W, Wi, hsi, hn3⟩ := I; have I0 : INV h L X := ⟨s, si, tx, n, b, f, p, B, C, R, W, Wi, hsi, hn3⟩; have S := B.1; have G0 := ((WF_iff s).mp W).1; have XC := TXI_C C.2.2.1.1; have w0 := W.1.1; have w1 := W.1.2.1; have w2 := W.1.2.2.1; have w5 := W.1.2.2.2.2.2.1; have w6 := W.1.2.2.2.2.2.2; have bk : s 4 3 ≤ 30 := W.2.1.2.2.2.1
  refine oc_foretold (by omega) S C.1 G0 XC x y z (fun n0 w k n1 n2 w1 k1 e g i h1 C1 F1 => ?_) (fun zz => ?_)
  · obtain ⟨B1, D1, R1⟩ := mid B C R F1 C1 rfl
    refine K _ h1 ⟨B1, fun Q2 q2 => ?_⟩
    refine om_foretold (by omega) B1.1 R1.1 G0 R1.2.2.1 x y z (fun n0' w' k' n1' n2' w1' k1' e' g' i' h2 M2 g23 F2 => ?_) (fun zz' => ?_)
    · obtain rfl := nJ (by omega) (by omega) e e'
      obtain rfl := nJ (by omega) (by omega) g g'
      have hif : (if w = 1 then s 18 1 else s 18 0) ≤ 10 := by split <;> omega
      obtain rfl := nJ (by omega) (by omega) i i'
      rw [show ftV (fts true tx s n0) w k = ftV (fts false tx s n0) w k from by unfold ftV; rw [AG_fts tx s n0 0 k (by omega) (by omega), AG_fts tx s n0 1 k (by omega) (by omega), AG_fts tx s n0 2 k (by omega) (by omega)]] at *
      exact q2 _ (fin B1 D1 R1 F2 mQ_A M2 g23 rfl W Wi hsi hn3)
    · exact absurd i (zz' n0 w k n1 n2 w1 k1 e g)
  · refine K _ h ⟨B, fun Q2 q2 => ?_⟩
    refine om_foretold (by omega) B.1 R.1 G0 R.2.2.1 x y z (fun n0' w' k' n1' n2' w1' k1' e' g' i' h2 M2 g23 F2 => ?_) (fun zz' => ?_)
    · exact absurd i' (zz n0' w' k' n1' n2' w1' k1' e' g')
    · exact q2 _ I0
theorem lp_winner (hd : 200 ≤ d) (I : INV h L X) (K : ∀ v h1, Kt d n_X12_winner [.ref 580] L X (.int v) h1 → Q (some (.int v)) h1) : ab_Ok d n_X11_winner [.ref 5] h Q := by
  obtain ⟨s, si, tx, n, b, f, p, B, C, R, W, Wi, hsi, hn3⟩ := I; have I0 : INV h L X := ⟨s, si, tx, n, b, f, p, B, C, R, W, Wi, hsi, hn3⟩; have S := B.1; have G0 := ((WF_iff s).mp W).1; have XC := TXI_C C.2.2.1.1; have w0 := W.1.1; have w1 := W.1.2.1; have w2 := W.1.2.2.1; have w5 := W.1.2.2.2.2.2.1; have w6 := W.1.2.2.2.2.2.2; have bk : s 4 3 ≤ 30 := W.2.1.2.2.2.1
  refine oc_winner (by omega) S C.1 G0 XC (fun h1 C1 F1 => ?_)
  obtain ⟨B1, D1, R1⟩ := mid B C R F1 C1 rfl
  refine K _ h1 ⟨B1, fun Q2 q2 => ?_⟩
  refine om_winner (by omega) B1.1 R1.1 G0 R1.2.2.1 (fun h2 M2 g23 F2 => ?_)
  rw [← f1_cg (s := wns true tx s 60) (fun j => AG_wns tx s 60 1 j (by omega) (by omega))]
  exact q2 _ (fin B1 D1 R1 F2 mQ_A M2 g23 rfl W Wi hsi hn3)
theorem lp_whose (hd : 200 ≤ d) (I : INV h L X) (K : ∀ v h1, Kt d n_X12_whose [.ref 580] L X (.int v) h1 → Q (some (.int v)) h1) : ab_Ok d n_X11_whose [.ref 5] h Q := by
  obtain ⟨s, si, tx, n, b, f, p, B, C, R, W, Wi, hsi, hn3⟩ := I; have I0 : INV h L X := ⟨s, si, tx, n, b, f, p, B, C, R, W, Wi, hsi, hn3⟩; have S := B.1; have G0 := ((WF_iff s).mp W).1; have XC := TXI_C C.2.2.1.1; have w0 := W.1.1; have w1 := W.1.2.1; have w2 := W.1.2.2.1; have w5 := W.1.2.2.2.2.2.1; have w6 := W.1.2.2.2.2.2.2; have bk : s 4 3 ≤ 30 := W.2.1.2.2.2.1
  refine oc_whose (by omega) S C.1 W XC (fun h1 C1 F1 => ?_)
  obtain ⟨B1, D1, R1⟩ := mid B C R F1 C1 rfl
  refine K _ h1 ⟨B1, fun Q2 q2 => ?_⟩
  refine om_whose (by omega) B1.1 R1.1 W R1.2.2.1 (fun h2 M2 F2 => ?_)
  exact q2 _ (finG B1 D1 R1 F2 M2 rfl W Wi hsi hn3)
theorem lp_heats (hd : 200 ≤ d) (I : INV h L X) (x y : Int32) (K : ∀ v h1, Kt d n_X12_heats [.ref 580, .int x, .int y] L X (.int v) h1 → Q (some (.int v)) h1) : ab_Ok d n_X11_heats [.ref 5, .int x, .int y] h Q := by
  obtain ⟨s, si, tx, n, b, f, p, B, C, R, W, Wi, hsi, hn3⟩ := I; have I0 : INV h L X := ⟨s, si, tx, n, b, f, p, B, C, R, W, Wi, hsi, hn3⟩; have S := B.1; have G0 := ((WF_iff s).mp W).1; have XC := TXI_C C.2.2.1.1; have w0 := W.1.1; have w1 := W.1.2.1; have w2 := W.1.2.2.1; have w5 := W.1.2.2.2.2.2.1; have w6 := W.1.2.2.2.2.2.2; have bk : s 4 3 ≤ 30 := W.2.1.2.2.2.1
  refine oc_heats (by omega) S C.1 W x y (fun u q u1 u2 u3 e q1 g h1 C1 F1 => ?_) (fun u u1 u2 u3 e y1 h1 C1 F1 => ?_) (fun z => ?_)
  · obtain ⟨B1, D1, R1⟩ := mid B C R F1 C1 rfl
    refine K _ h1 ⟨B1, fun Q2 q2 => ?_⟩
    refine om_heats (by omega) B1.1 R1.1 W x y (fun u' q' u1' u2' u3' e' q1' g' h2 F2 => ?_) (fun u' u1' u2' u3' e' y1' h2 F2 => ?_) (fun z' => ?_)
    · obtain rfl := nJ (by omega) (by omega) e e'
      have a2 : htC u (s 18 0) ≤ stC u (2 ^ s 18 0) := lsC_le _ _ _
      have a3 := stC_b (s 18 0) (by omega) u (by omega) u1
      obtain rfl := nJ1 (by omega) (by omega) g g'
      exact q2 _ (finN B1 D1 R1 F2 (fun a k z => by unfold fJ at z; omega) W Wi hsi hn3)
    · obtain rfl := nJ (by omega) (by omega) e e'
      exact absurd g (y1' q q1)
    · exact absurd e (z' u u1 u2 u3)
  · obtain ⟨B1, D1, R1⟩ := mid B C R F1 C1 rfl
    refine K _ h1 ⟨B1, fun Q2 q2 => ?_⟩
    refine om_heats (by omega) B1.1 R1.1 W x y (fun u' q' u1' u2' u3' e' q1' g' h2 F2 => ?_) (fun u' u1' u2' u3' e' y1' h2 F2 => ?_) (fun z' => ?_)
    · obtain rfl := nJ (by omega) (by omega) e' e
      exact absurd g' (y1 q' q1')
    · exact q2 _ (finN B1 D1 R1 F2 (fun a k z => by unfold fJ at z; omega) W Wi hsi hn3)
    · exact absurd e (z' u u1 u2 u3)
  · refine K _ h ⟨B, fun Q2 q2 => ?_⟩
    refine om_heats (by omega) B.1 R.1 W x y (fun u' q' u1' u2' u3' e' q1' g' h2 F2 => ?_) (fun u' u1' u2' u3' e' y1' h2 F2 => ?_) (fun z' => ?_)
    · exact absurd e' (z u' u1' u2' u3')
    · exact absurd e' (z u' u1' u2' u3')
    · exact q2 _ I0
theorem lp_ranking (hd : 200 ≤ d) (I : INV h L X) (x : Int32) (K : ∀ v h1, Kt d n_X12_ranking [.ref 580, .int x] L X (.int v) h1 → Q (some (.int v)) h1) : ab_Ok d n_X11_ranking [.ref 5, .int x] h Q := by
  obtain ⟨s, si, tx, n, b, f, p, B, C, R, W, Wi, hsi, hn3⟩ := I; have I0 : INV h L X := ⟨s, si, tx, n, b, f, p, B, C, R, W, Wi, hsi, hn3⟩; have S := B.1; have G0 := ((WF_iff s).mp W).1; have XC := TXI_C C.2.2.1.1; have w0 := W.1.1; have w1 := W.1.2.1; have w2 := W.1.2.2.1; have w5 := W.1.2.2.2.2.2.1; have w6 := W.1.2.2.2.2.2.2; have bk : s 4 3 ≤ 30 := W.2.1.2.2.2.1
  refine oc_ranking (by omega) S C.1 W x (fun q q1 e h1 C1 F1 => ?_) (fun z => ?_)
  · obtain ⟨B1, D1, R1⟩ := mid B C R F1 C1 rfl
    refine K _ h1 ⟨B1, fun Q2 q2 => ?_⟩
    refine om_ranking (by omega) B1.1 R1.1 W x (fun q' q1' e' h2 F2 => ?_) (fun z' => ?_)
    · obtain rfl := nJ1 (by omega) (by omega) e e'
      exact q2 _ (finN B1 D1 R1 F2 (fun a k z => by unfold fW at z; omega) W Wi hsi hn3)
    · exact absurd e (z' q q1)
  · refine K _ h ⟨B, fun Q2 q2 => ?_⟩
    refine om_ranking (by omega) B.1 R.1 W x (fun q' q1' e' h2 F2 => ?_) (fun z' => ?_)
    · exact absurd e' (z q' q1')
    · exact q2 _ I0
theorem lp_pack (hd : 200 ≤ d) (I : INV h L X) (x y : Int32) (K : ∀ v h1, Kt d n_X12_pack [.ref 580, .int x, .int y] L X (.int v) h1 → Q (some (.int v)) h1) : ab_Ok d n_X11_pack [.ref 5, .int x, .int y] h Q := by
  obtain ⟨s, si, tx, n, b, f, p, B, C, R, W, Wi, hsi, hn3⟩ := I; have I0 : INV h L X := ⟨s, si, tx, n, b, f, p, B, C, R, W, Wi, hsi, hn3⟩; have S := B.1; have G0 := ((WF_iff s).mp W).1; have XC := TXI_C C.2.2.1.1; have w0 := W.1.1; have w1 := W.1.2.1; have w2 := W.1.2.2.1; have w5 := W.1.2.2.2.2.2.1; have w6 := W.1.2.2.2.2.2.2; have bk : s 4 3 ≤ 30 := W.2.1.2.2.2.1
  refine oc_pack (by omega) S C.1 W x y (fun u q u1 u2 u3 e q1 g h1 C1 F1 => ?_) (fun z => ?_)
  · obtain ⟨B1, D1, R1⟩ := mid B C R F1 C1 rfl
    refine K _ h1 ⟨B1, fun Q2 q2 => ?_⟩
    refine om_pack (by omega) B1.1 R1.1 W x y (fun u' q' u1' u2' u3' e' q1' g' h2 F2 => ?_) (fun z' => ?_)
    · obtain rfl := nJ (by omega) (by omega) e e'
      obtain rfl := nJ1 (by omega) (by omega) g g'
      exact q2 _ (finN B1 D1 R1 F2 (fun a k z => by unfold fV at z; omega) W Wi hsi hn3)
    · exact absurd ⟨u, q, u1, u2, u3, e, q1, g⟩ z'
  · refine K _ h ⟨B, fun Q2 q2 => ?_⟩
    refine om_pack (by omega) B.1 R.1 W x y (fun u' q' u1' u2' u3' e' q1' g' h2 F2 => ?_) (fun z' => ?_)
    · exact absurd ⟨u', q', u1', u2', u3', e', q1', g'⟩ z
    · exact q2 _ I0
end LQ2
