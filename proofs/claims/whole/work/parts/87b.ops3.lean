/-! ===== one call on both sides: what changes the state (mine) ===== -/
theorem WF_of {s s' : Sv} (W : WF s) (G : WG s') (o : ∀ a k, (11 ≤ a ∧ a ≤ 17) ∨ (a = 18 ∧ (k = 5 ∨ k = 6)) → s' a k = s a k) (h1 : s' 18 1 = s 18 1) : WF s' := (WF_iff _).mpr ⟨G, WHg ((WF_iff s).mp W).2 o (by rw [h1]; exact Nat.le_refl _)⟩
theorem WF_peg {s : Sv} (W : WF s) {p k : Nat} (h2 : k < s 18 0) : WF (st2 (kp s) 3 p (k + 1)) := by
  have W2 := kp_W ((WF_iff s).mp W).1
  have k0 : kp s 18 0 = s 18 0 := kp_o s (by omega) (by omega)
  exact WF_of W (WG_up W2 (fun a k ha => by rw [s2_if, if_neg (by omega)]) (GB_up W2.1 (by omega) (by omega) (by omega) (by omega) (by omega) (by omega) (by omega) (by omega) (by omega) (by omega))) (fun a j z => by rw [s2_if, if_neg (by omega), kp_o _ (by omega) (by omega)]) (by rw [s2_if, if_neg (by omega), kp_o _ (by omega) (by omega)])
theorem WF_sock {s : Sv} (W : WF s) {p w : Nat} : WF (st2 (kp s) 2 p (min 20 w)) := by
  have W2 := kp_W ((WF_iff s).mp W).1
  exact WF_of W (WG_up W2 (fun a k ha => by rw [s2_if, if_neg (by omega)]) (GB_up W2.1 (by omega) (by omega) (by omega) (by omega) (by omega) (by omega) (by omega) (by omega) (by omega) (by omega))) (fun a j z => by rw [s2_if, if_neg (by omega), kp_o _ (by omega) (by omega)]) (by rw [s2_if, if_neg (by omega), kp_o _ (by omega) (by omega)])
theorem lu_o (s : Sv) {a : Nat} (ha : 6 ≤ a) (k : Nat) : lu s a k = s a k := by unfold lu; rw [if_neg (by omega)]
theorem WF_start {s : Sv} (W : WF s) : WF (lu (kp s)) := WF_of W (lu_W (kp_W ((WF_iff s).mp W).1)) (fun a j z => by rw [lu_o _ (by omega), kp_o _ (by omega) (by omega)]) (by rw [lu_o _ (by omega), kp_o _ (by omega) (by omega)])
theorem WF_hrs {s : Sv} (W : WF s) (tx : Nat → Tx) {n : Nat} (h9 : s 4 0 + n ≤ 9999) : WF (hrs tx s n) := WF_of W (hrs_W ((WF_iff s).mp W).1 h9) (fun a j z => hrs_o _ _ _ (by omega) (by omega) (by omega)) (hrs_o _ _ _ (by omega) (by omega) (by omega))
theorem WF_yrs {s : Sv} (W : WF s) (tx : Nat → Tx) {sd n : Nat} (h9 : sd ≤ 9999) : WF (yrs tx (st2 (kp s) 4 1 (sd * 2 + 277)) n) := by
  have W2 := kp_W ((WF_iff s).mp W).1
  exact WF_of W (yrs_W (WG_up W2 (fun a k ha => by rw [s2_if, if_neg (by omega)]) (GB_up W2.1 (by omega) (by omega) (by omega) (by omega) (by omega) (by omega) (by omega) (by omega) (by omega) (by omega))) n) (fun a j z => by rw [yrs_o _ _ _ (by omega), s2_if, if_neg (by omega), kp_o _ (by omega) (by omega)]) (by rw [yrs_o _ _ _ (by omega), s2_if, if_neg (by omega), kp_o _ (by omega) (by omega)])
theorem WF_und {s : Sv} (W : WF s) (h0 : 0 < s 18 4) : WF (und s) := WF_of W (und_W ((WF_iff s).mp W).1 h0) (fun a j z => und_o _ (by omega) (by omega)) (und_o _ (by omega) (by omega))
theorem plr_2 {tx : Nat → Tx} {T : Tx} : ∀ r i s, (plr tx T r i s).2 18 2 = s 18 2 := by
  intro r
  induction r with
  | zero => intro i s; rfl
  | succ r ih =>
    intro i s
    show (if (pcl tx T s i).1 then plr tx T r (i + 1) (pcl tx T s i).2 else (nI i, (pcl tx T s i).2)).2 18 2 = s 18 2
    split
    · rw [ih]; exact pcl_o _ _ _ _ (by omega)
    · exact pcl_o _ _ _ _ (by omega)
section LU
variable {d : Nat} {h : Hp} {Q : Option Value → Hp → Prop} {L : Nat} {X : Nat → Int32}
theorem lp_horse (hd : 200 ≤ d) (I : INV h L X) (x : Int32) (K : ∀ v h1, Kt d n_X12_horse [.ref 580, .int x] L X (.int v) h1 → Q (some (.int v)) h1) : ab_Ok d n_X11_horse [.ref 5, .int x] h Q := by
  obtain ⟨s, si, tx, n, b, f, p, B, C, R, W, Wi, hsi, hn3⟩ := I; have I0 : INV h L X := ⟨s, si, tx, n, b, f, p, B, C, R, W, Wi, hsi, hn3⟩; have S := B.1; have G0 := ((WF_iff s).mp W).1; have XC := TXI_C C.2.2.1.1; have w0 := W.1.1; have w1 := W.1.2.1; have w2 := W.1.2.2.1; have w5 := W.1.2.2.2.2.2.1; have w6 := W.1.2.2.2.2.2.2; have bk : s 4 3 ≤ 30 := W.2.1.2.2.2.1
  refine oc_horse (by omega) S C.1 w0 x (fun k k1 k2 e l h1 C1 F1 => ?_) (fun z => ?_)
  · obtain ⟨B1, D1, R1⟩ := mid B C R F1 C1 (by simp [s2_if])
    refine K _ h1 ⟨B1, fun Q2 q2 => ?_⟩
    refine om_horse (by omega) B1.1 R1.1 w0 x (fun k' k1' k2' e' l' h2 M2 F2 => ?_) (fun z' => ?_)
    · obtain rfl := nJ (by omega) (by omega) e e'
      exact q2 _ (finG B1 D1 R1 F2 M2 (by simp [s2_if]) (WF_ho W (by omega) (by omega)) Wi hsi hn3)
    · exact absurd (z' k k1 k2 e) (by omega)
  · refine K _ h ⟨B, fun Q2 q2 => ?_⟩
    refine om_horse (by omega) B.1 R.1 w0 x (fun k' k1' k2' e' l' h2 M2 F2 => ?_) (fun z' => ?_)
    · exact absurd (z k' k1' k2' e') (by omega)
    · exact q2 _ I0
theorem lp_piece (hd : 200 ≤ d) (I : INV h L X) (x y z : Int32) (K : ∀ v h1, Kt d n_X12_piece [.ref 580, .int x, .int y, .int z] L X (.int v) h1 → Q (some (.int v)) h1) : ab_Ok d n_X11_piece [.ref 5, .int x, .int y, .int z] h Q := by
  obtain ⟨s, si, tx, n, b, f, p, B, C, R, W, Wi, hsi, hn3⟩ := I; have I0 : INV h L X := ⟨s, si, tx, n, b, f, p, B, C, R, W, Wi, hsi, hn3⟩; have S := B.1; have G0 := ((WF_iff s).mp W).1; have XC := TXI_C C.2.2.1.1; have w0 := W.1.1; have w1 := W.1.2.1; have w2 := W.1.2.2.1; have w5 := W.1.2.2.2.2.2.1; have w6 := W.1.2.2.2.2.2.2; have bk : s 4 3 ≤ 30 := W.2.1.2.2.2.1
  refine oc_piece (by omega) S C.1 w1 x y z (fun a b0 c a1 b1 b2 c1 e g i l h1 C1 F1 => ?_) (fun zz => ?_)
  · obtain ⟨B1, D1, R1⟩ := mid B C R F1 C1 (by simp [s2_if])
    refine K _ h1 ⟨B1, fun Q2 q2 => ?_⟩
    refine om_piece (by omega) B1.1 R1.1 w1 x y z (fun a' b0' c' a1' b1' b2' c1' e' g' i' l' h2 M2 F2 => ?_) (fun zz' => ?_)
    · obtain rfl := nJ (by omega) (by omega) e e'
      obtain rfl := nJ (by omega) (by omega) g g'
      obtain rfl := nJ (by omega) (by omega) i i'
      exact q2 _ (finG B1 D1 R1 F2 M2 (by simp [s2_if]) (WF_pi W (by omega) (by omega) (by omega) (by omega)) Wi hsi hn3)
    · exact absurd (zz' a b0 c a1 b1 b2 c1 e g i) (by omega)
  · refine K _ h ⟨B, fun Q2 q2 => ?_⟩
    refine om_piece (by omega) B.1 R.1 w1 x y z (fun a' b0' c' a1' b1' b2' c1' e' g' i' l' h2 M2 F2 => ?_) (fun zz' => ?_)
    · exact absurd (zz a' b0' c' a1' b1' b2' c1' e' g' i') (by omega)
    · exact q2 _ I0
theorem lp_wind (hd : 200 ≤ d) (I : INV h L X) (x y : Int32) (K : ∀ v h1, Kt d n_X12_wind [.ref 580, .int x, .int y] L X (.int v) h1 → Q (some (.int v)) h1) : ab_Ok d n_X11_wind [.ref 5, .int x, .int y] h Q := by
  obtain ⟨s, si, tx, n, b, f, p, B, C, R, W, Wi, hsi, hn3⟩ := I; have I0 : INV h L X := ⟨s, si, tx, n, b, f, p, B, C, R, W, Wi, hsi, hn3⟩; have S := B.1; have G0 := ((WF_iff s).mp W).1; have XC := TXI_C C.2.2.1.1; have w0 := W.1.1; have w1 := W.1.2.1; have w2 := W.1.2.2.1; have w5 := W.1.2.2.2.2.2.1; have w6 := W.1.2.2.2.2.2.2; have bk : s 4 3 ≤ 30 := W.2.1.2.2.2.1
  refine oc_wind (by omega) S C.1  x y (fun c w c1 w1 e g h1 C1 F1 => ?_) (fun z => ?_)
  · obtain ⟨B1, D1, R1⟩ := mid B C R F1 C1 (by simp [s2_if])
    refine K _ h1 ⟨B1, fun Q2 q2 => ?_⟩
    refine om_wind (by omega) B1.1 R1.1  x y (fun c' w' c1' w1' e' g' h2 M2 F2 => ?_) (fun z' => ?_)
    · obtain rfl := nJ (by omega) (by omega) e e'
      obtain rfl := nJ (by omega) (by omega) g g'
      exact q2 _ (finG B1 D1 R1 F2 M2 (by simp [s2_if]) (WF_wi W (by omega)) Wi hsi hn3)
    · exact absurd g (z' c w c1 w1 e)
  · refine K _ h ⟨B, fun Q2 q2 => ?_⟩
    refine om_wind (by omega) B.1 R.1  x y (fun c' w' c1' w1' e' g' h2 M2 F2 => ?_) (fun z' => ?_)
    · exact absurd g' (z c' w' c1' w1' e')
    · exact q2 _ I0
theorem lp_odds (hd : 200 ≤ d) (I : INV h L X) (x y : Int32) (K : ∀ v h1, Kt d n_X12_odds [.ref 580, .int x, .int y] L X (.int v) h1 → Q (some (.int v)) h1) : ab_Ok d n_X11_odds [.ref 5, .int x, .int y] h Q := by
  obtain ⟨s, si, tx, n, b, f, p, B, C, R, W, Wi, hsi, hn3⟩ := I; have I0 : INV h L X := ⟨s, si, tx, n, b, f, p, B, C, R, W, Wi, hsi, hn3⟩; have S := B.1; have G0 := ((WF_iff s).mp W).1; have XC := TXI_C C.2.2.1.1; have w0 := W.1.1; have w1 := W.1.2.1; have w2 := W.1.2.2.1; have w5 := W.1.2.2.2.2.2.1; have w6 := W.1.2.2.2.2.2.2; have bk : s 4 3 ≤ 30 := W.2.1.2.2.2.1
  refine oc_odds (by omega) S C.1  x y (fun c w c1 w1 w2 e g h1 C1 F1 => ?_) (fun z => ?_)
  · obtain ⟨B1, D1, R1⟩ := mid B C R F1 C1 (by simp [s2_if])
    refine K _ h1 ⟨B1, fun Q2 q2 => ?_⟩
    refine om_odds (by omega) B1.1 R1.1  x y (fun c' w' c1' w1' w2' e' g' h2 M2 F2 => ?_) (fun z' => ?_)
    · obtain rfl := nJ (by omega) (by omega) e e'
      obtain rfl := nJ (by omega) (by omega) g g'
      exact q2 _ (finG B1 D1 R1 F2 M2 (by simp [s2_if]) (WF_odds W (by omega) (by omega)) Wi hsi hn3)
    · exact absurd g (z' c w c1 w1 w2 e)
  · refine K _ h ⟨B, fun Q2 q2 => ?_⟩
    refine om_odds (by omega) B.1 R.1  x y (fun c' w' c1' w1' w2' e' g' h2 M2 F2 => ?_) (fun z' => ?_)
    · exact absurd g' (z c' w' c1' w1' w2' e')
    · exact q2 _ I0
theorem lp_strength (hd : 200 ≤ d) (I : INV h L X) (x y : Int32) (K : ∀ v h1, Kt d n_X12_strength [.ref 580, .int x, .int y] L X (.int v) h1 → Q (some (.int v)) h1) : ab_Ok d n_X11_strength [.ref 5, .int x, .int y] h Q := by
  obtain ⟨s, si, tx, n, b, f, p, B, C, R, W, Wi, hsi, hn3⟩ := I; have I0 : INV h L X := ⟨s, si, tx, n, b, f, p, B, C, R, W, Wi, hsi, hn3⟩; have S := B.1; have G0 := ((WF_iff s).mp W).1; have XC := TXI_C C.2.2.1.1; have w0 := W.1.1; have w1 := W.1.2.1; have w2 := W.1.2.2.1; have w5 := W.1.2.2.2.2.2.1; have w6 := W.1.2.2.2.2.2.2; have bk : s 4 3 ≤ 30 := W.2.1.2.2.2.1
  refine oc_strength (by omega) S C.1  x y (fun c w c1 w1 w2 e g h1 C1 F1 => ?_) (fun z => ?_)
  · obtain ⟨B1, D1, R1⟩ := mid B C R F1 C1 (by simp [s2_if])
    refine K _ h1 ⟨B1, fun Q2 q2 => ?_⟩
    refine om_strength (by omega) B1.1 R1.1  x y (fun c' w' c1' w1' w2' e' g' h2 M2 F2 => ?_) (fun z' => ?_)
    · obtain rfl := nJ (by omega) (by omega) e e'
      obtain rfl := nJ (by omega) (by omega) g g'
      exact q2 _ (finG B1 D1 R1 F2 M2 (by simp [s2_if]) (WF_strength W (by omega) (by omega)) Wi hsi hn3)
    · exact absurd g (z' c w c1 w1 w2 e)
  · refine K _ h ⟨B, fun Q2 q2 => ?_⟩
    refine om_strength (by omega) B.1 R.1  x y (fun c' w' c1' w1' w2' e' g' h2 M2 F2 => ?_) (fun z' => ?_)
    · exact absurd g' (z c' w' c1' w1' w2' e')
    · exact q2 _ I0
theorem lp_beat (hd : 200 ≤ d) (I : INV h L X) (x y u : Int32) (K : ∀ v h1, Kt d n_X12_beat [.ref 580, .int x, .int y, .int u] L X (.int v) h1 → Q (some (.int v)) h1) : ab_Ok d n_X11_beat [.ref 5, .int x, .int y, .int u] h Q := by
  obtain ⟨s, si, tx, n, b, f, p, B, C, R, W, Wi, hsi, hn3⟩ := I; have I0 : INV h L X := ⟨s, si, tx, n, b, f, p, B, C, R, W, Wi, hsi, hn3⟩; have S := B.1; have G0 := ((WF_iff s).mp W).1; have XC := TXI_C C.2.2.1.1; have w0 := W.1.1; have w1 := W.1.2.1; have w2 := W.1.2.2.1; have w5 := W.1.2.2.2.2.2.1; have w6 := W.1.2.2.2.2.2.2; have bk : s 4 3 ≤ 30 := W.2.1.2.2.2.1
  refine oc_beat (by omega) S C.1  x y u (fun a c w a1 c1 ac w1 e g i h1 C1 F1 => ?_) (fun z => ?_)
  · obtain ⟨B1, D1, R1⟩ := mid B C R F1 C1 (by simp [s2_if])
    refine K _ h1 ⟨B1, fun Q2 q2 => ?_⟩
    refine om_beat (by omega) B1.1 R1.1  x y u (fun a' c' w' a1' c1' ac' w1' e' g' i' h2 M2 F2 => ?_) (fun z' => ?_)
    · obtain rfl := nJ (by omega) (by omega) e e'
      obtain rfl := nJ (by omega) (by omega) g g'
      obtain rfl := nJ (by omega) (by omega) i i'
      exact q2 _ (finG B1 D1 R1 F2 M2 (by simp [s2_if]) (WF_beat W (by omega)) Wi hsi hn3)
    · exact absurd i (z' a c w a1 c1 ac w1 e g)
  · refine K _ h ⟨B, fun Q2 q2 => ?_⟩
    refine om_beat (by omega) B.1 R.1  x y u (fun a' c' w' a1' c1' ac' w1' e' g' i' h2 M2 F2 => ?_) (fun z' => ?_)
    · exact absurd i' (z a' c' w' a1' c1' ac' w1' e' g')
    · exact q2 _ I0
theorem lp_see (hd : 200 ≤ d) (I : INV h L X) (x y : Int32) (K : ∀ v h1, Kt d n_X12_see [.ref 580, .int x, .int y] L X (.int v) h1 → Q (some (.int v)) h1) : ab_Ok d n_X11_see [.ref 5, .int x, .int y] h Q := by
  obtain ⟨s, si, tx, n, b, f, p, B, C, R, W, Wi, hsi, hn3⟩ := I; have I0 : INV h L X := ⟨s, si, tx, n, b, f, p, B, C, R, W, Wi, hsi, hn3⟩; have S := B.1; have G0 := ((WF_iff s).mp W).1; have XC := TXI_C C.2.2.1.1; have w0 := W.1.1; have w1 := W.1.2.1; have w2 := W.1.2.2.1; have w5 := W.1.2.2.2.2.2.1; have w6 := W.1.2.2.2.2.2.2; have bk : s 4 3 ≤ 30 := W.2.1.2.2.2.1
  refine oc_see (by omega) S C.1 w5 x y (fun e0 h1 C1 F1 => ?_) (fun q c q1 qq c1 l e g h1 C1 F1 => ?_) (fun z0 z => ?_)
  · obtain ⟨B1, D1, R1⟩ := mid B C R F1 C1 (by simp [s2_if])
    refine K _ h1 ⟨B1, fun Q2 q2 => ?_⟩
    refine om_see (by omega) B1.1 R1.1 w5 x y (fun e0' h2 M2 F2 => ?_) (fun q' c' q1' q2' c1' l' e' g' h2 M2 F2 => ?_) (fun z0' z' => ?_)
    · exact q2 _ (finG B1 D1 R1 F2 M2 (by simp [s2_if]) (WF_see0 W) Wi hsi hn3)
    · exact absurd (e'.symm.trans e0) (nI_m1 (by omega))
    · exact absurd e0 z0'
  · obtain ⟨B1, D1, R1⟩ := mid B C R F1 C1 (by simp [s2_if])
    refine K _ h1 ⟨B1, fun Q2 q2 => ?_⟩
    refine om_see (by omega) B1.1 R1.1 w5 x y (fun e0' h2 M2 F2 => ?_) (fun q' c' q1' q2' c1' l' e' g' h2 M2 F2 => ?_) (fun z0' z' => ?_)
    · exact absurd (e.symm.trans e0') (nI_m1 (by omega))
    · obtain rfl := nJ (by omega) (by omega) e e'
      obtain rfl := nJ (by omega) (by omega) g g'
      exact q2 _ (finG B1 D1 R1 F2 M2 (by simp [s2_if]) (WF_see W (by omega) (by omega) (by omega)) Wi hsi hn3)
    · exact absurd (z' q c q1 qq c1 e g) (by omega)
  · refine K _ h ⟨B, fun Q2 q2 => ?_⟩
    refine om_see (by omega) B.1 R.1 w5 x y (fun e0' h2 M2 F2 => ?_) (fun q' c' q1' q2' c1' l' e' g' h2 M2 F2 => ?_) (fun z0' z' => ?_)
    · exact absurd e0' z0
    · exact absurd (z q' c' q1' q2' c1' e' g') (by omega)
    · exact q2 _ I0
theorem lp_said (hd : 200 ≤ d) (I : INV h L X) (x y : Int32) (K : ∀ v h1, Kt d n_X12_said [.ref 580, .int x, .int y] L X (.int v) h1 → Q (some (.int v)) h1) : ab_Ok d n_X11_said [.ref 5, .int x, .int y] h Q := by
  obtain ⟨s, si, tx, n, b, f, p, B, C, R, W, Wi, hsi, hn3⟩ := I; have I0 : INV h L X := ⟨s, si, tx, n, b, f, p, B, C, R, W, Wi, hsi, hn3⟩; have S := B.1; have G0 := ((WF_iff s).mp W).1; have XC := TXI_C C.2.2.1.1; have w0 := W.1.1; have w1 := W.1.2.1; have w2 := W.1.2.2.1; have w5 := W.1.2.2.2.2.2.1; have w6 := W.1.2.2.2.2.2.2; have bk : s 4 3 ≤ 30 := W.2.1.2.2.2.1
  refine oc_said (by omega) S C.1 w1 w6 x y (fun e0 h1 C1 F1 => ?_) (fun q c q1 c1 l e g h1 C1 F1 => ?_) (fun z0 z => ?_)
  · obtain ⟨B1, D1, R1⟩ := mid B C R F1 C1 (by simp [s2_if])
    refine K _ h1 ⟨B1, fun Q2 q2 => ?_⟩
    refine om_said (by omega) B1.1 R1.1 w1 w6 x y (fun e0' h2 M2 F2 => ?_) (fun q' c' q1' c1' l' e' g' h2 M2 F2 => ?_) (fun z0' z' => ?_)
    · exact q2 _ (finG B1 D1 R1 F2 M2 (by simp [s2_if]) (WF_said0 W) Wi hsi hn3)
    · exact absurd (e'.symm.trans e0) (nI_m1 (by omega))
    · exact absurd e0 z0'
  · obtain ⟨B1, D1, R1⟩ := mid B C R F1 C1 (by simp [s2_if])
    refine K _ h1 ⟨B1, fun Q2 q2 => ?_⟩
    refine om_said (by omega) B1.1 R1.1 w1 w6 x y (fun e0' h2 M2 F2 => ?_) (fun q' c' q1' c1' l' e' g' h2 M2 F2 => ?_) (fun z0' z' => ?_)
    · exact absurd (e.symm.trans e0') (nI_m1 (by omega))
    · obtain rfl := nJ (by omega) (by omega) e e'
      obtain rfl := nJ (by omega) (by omega) g g'
      exact q2 _ (finG B1 D1 R1 F2 M2 (by simp [s2_if]) (WF_said W (by omega) (by omega) (by omega)) Wi hsi hn3)
    · exact absurd (z' q c q1 c1 e g) (by omega)
  · refine K _ h ⟨B, fun Q2 q2 => ?_⟩
    refine om_said (by omega) B.1 R.1 w1 w6 x y (fun e0' h2 M2 F2 => ?_) (fun q' c' q1' c1' l' e' g' h2 M2 F2 => ?_) (fun z0' z' => ?_)
    · exact absurd e0' z0
    · exact absurd (z q' c' q1' c1' e' g') (by omega)
    · exact q2 _ I0
theorem lp_by (hd : 200 ≤ d) (I : INV h L X) (x : Int32) (K : ∀ v h1, Kt d n_X12_by [.ref 580, .int x] L X (.int v) h1 → Q (some (.int v)) h1) : ab_Ok d n_X11_by [.ref 5, .int x] h Q := by
  obtain ⟨s, si, tx, n, b, f, p, B, C, R, W, Wi, hsi, hn3⟩ := I; have I0 : INV h L X := ⟨s, si, tx, n, b, f, p, B, C, R, W, Wi, hsi, hn3⟩; have S := B.1; have G0 := ((WF_iff s).mp W).1; have XC := TXI_C C.2.2.1.1; have w0 := W.1.1; have w1 := W.1.2.1; have w2 := W.1.2.2.1; have w5 := W.1.2.2.2.2.2.1; have w6 := W.1.2.2.2.2.2.2; have bk : s 4 3 ≤ 30 := W.2.1.2.2.2.1
  refine oc_by (by omega) S C.1 XC w2 x (fun t t1 e h1 C1 F1 => ?_) (fun z => ?_)
  · obtain ⟨B1, D1, R1⟩ := mid B C R F1 C1 (by simp [s2_if])
    refine K _ h1 ⟨B1, fun Q2 q2 => ?_⟩
    refine om_by (by omega) B1.1 R1.1 w2 x (fun t' t1' e' h2 M2 F2 => ?_) (fun z' => ?_)
    · obtain rfl := nJ1 (by omega) (by omega) e e'
      exact q2 _ (finG B1 D1 R1 F2 M2 (by simp [s2_if]) (WF_by W (by omega)) Wi hsi hn3)
    · exact absurd e (z' t t1)
  · refine K _ h ⟨B, fun Q2 q2 => ?_⟩
    refine om_by (by omega) B.1 R.1 w2 x (fun t' t1' e' h2 M2 F2 => ?_) (fun z' => ?_)
    · exact absurd e' (z t' t1')
    · exact q2 _ I0
theorem lp_peg (hd : 200 ≤ d) (I : INV h L X) (x y : Int32) (K : ∀ v h1, Kt d n_X12_peg [.ref 580, .int x, .int y] L X (.int v) h1 → Q (some (.int v)) h1) : ab_Ok d n_X11_peg [.ref 5, .int x, .int y] h Q := by
  obtain ⟨s, si, tx, n, b, f, p, B, C, R, W, Wi, hsi, hn3⟩ := I; have I0 : INV h L X := ⟨s, si, tx, n, b, f, p, B, C, R, W, Wi, hsi, hn3⟩; have S := B.1; have G0 := ((WF_iff s).mp W).1; have XC := TXI_C C.2.2.1.1; have w0 := W.1.1; have w1 := W.1.2.1; have w2 := W.1.2.2.1; have w5 := W.1.2.2.2.2.2.1; have w6 := W.1.2.2.2.2.2.2; have bk : s 4 3 ≤ 30 := W.2.1.2.2.2.1
  refine oc_peg (by omega) S C.1 G0 x y (fun u k u1 k1 e g i j h1 C1 F1 => ?_) (fun z => ?_)
  · obtain ⟨B1, D1, R1⟩ := mid B C R F1 C1 (by rw [s2_if, if_neg (by omega), kp_o _ (by omega) (by omega)])
    refine K _ h1 ⟨B1, fun Q2 q2 => ?_⟩
    refine om_peg (by omega) B1.1 R1.1 G0 x y (fun u' k' u1' k1' e' g' i' j' h2 M2 F2 => ?_) (fun z' => ?_)
    · obtain rfl := nJ (by omega) (by omega) e e'
      obtain rfl := nJ (by omega) (by omega) g g'
      exact q2 _ (finG B1 D1 R1 F2 M2 (by rw [s2_if, if_neg (by omega), kp_o _ (by omega) (by omega)]) (WF_peg W (by omega)) Wi hsi hn3)
    · exact absurd ⟨i, j⟩ (z' u k u1 k1 e g)
  · refine K _ h ⟨B, fun Q2 q2 => ?_⟩
    refine om_peg (by omega) B.1 R.1 G0 x y (fun u' k' u1' k1' e' g' i' j' h2 M2 F2 => ?_) (fun z' => ?_)
    · exact absurd ⟨i', j'⟩ (z u' k' u1' k1' e' g')
    · exact q2 _ I0
theorem lp_sock (hd : 200 ≤ d) (I : INV h L X) (x y : Int32) (K : ∀ v h1, Kt d n_X12_sock [.ref 580, .int x, .int y] L X (.int v) h1 → Q (some (.int v)) h1) : ab_Ok d n_X11_sock [.ref 5, .int x, .int y] h Q := by
  obtain ⟨s, si, tx, n, b, f, p, B, C, R, W, Wi, hsi, hn3⟩ := I; have I0 : INV h L X := ⟨s, si, tx, n, b, f, p, B, C, R, W, Wi, hsi, hn3⟩; have S := B.1; have G0 := ((WF_iff s).mp W).1; have XC := TXI_C C.2.2.1.1; have w0 := W.1.1; have w1 := W.1.2.1; have w2 := W.1.2.2.1; have w5 := W.1.2.2.2.2.2.1; have w6 := W.1.2.2.2.2.2.2; have bk : s 4 3 ≤ 30 := W.2.1.2.2.2.1
  refine oc_sock (by omega) S C.1 G0 x y (fun u w u1 v1 v2 e g l h1 C1 F1 => ?_) (fun z => ?_)
  · obtain ⟨B1, D1, R1⟩ := mid B C R F1 C1 (by rw [s2_if, if_neg (by omega), kp_o _ (by omega) (by omega)])
    refine K _ h1 ⟨B1, fun Q2 q2 => ?_⟩
    refine om_sock (by omega) B1.1 R1.1 G0 x y (fun u' w' u1' v1' v2' e' g' l' h2 M2 F2 => ?_) (fun z' => ?_)
    · obtain rfl := nJ (by omega) (by omega) e e'
      obtain rfl := nJ (by omega) (by omega) g g'
      exact q2 _ (finG B1 D1 R1 F2 M2 (by rw [s2_if, if_neg (by omega), kp_o _ (by omega) (by omega)]) (WF_sock W) Wi hsi hn3)
    · exact absurd l (z' u w u1 v1 v2 e g)
  · refine K _ h ⟨B, fun Q2 q2 => ?_⟩
    refine om_sock (by omega) B.1 R.1 G0 x y (fun u' w' u1' v1' v2' e' g' l' h2 M2 F2 => ?_) (fun z' => ?_)
    · exact absurd l' (z u' w' u1' v1' v2' e' g')
    · exact q2 _ I0
theorem lp_start (hd : 200 ≤ d) (I : INV h L X) (K : ∀ v h1, Kt d n_X12_start [.ref 580] L X (.int v) h1 → Q (some (.int v)) h1) : ab_Ok d n_X11_start [.ref 5] h Q := by
  obtain ⟨s, si, tx, n, b, f, p, B, C, R, W, Wi, hsi, hn3⟩ := I; have I0 : INV h L X := ⟨s, si, tx, n, b, f, p, B, C, R, W, Wi, hsi, hn3⟩; have S := B.1; have G0 := ((WF_iff s).mp W).1; have XC := TXI_C C.2.2.1.1; have w0 := W.1.1; have w1 := W.1.2.1; have w2 := W.1.2.2.1; have w5 := W.1.2.2.2.2.2.1; have w6 := W.1.2.2.2.2.2.2; have bk : s 4 3 ≤ 30 := W.2.1.2.2.2.1
  refine oc_start (by omega) S C.1 G0  (fun z => ?_) (fun l h1 C1 F1 => ?_)
  · refine K _ h ⟨B, fun Q2 q2 => ?_⟩
    refine om_start (by omega) B.1 R.1 G0  (fun z' => ?_) (fun l' h2 M2 F2 => ?_)
    · exact q2 _ I0
    · exact absurd z (by omega)
  · obtain ⟨B1, D1, R1⟩ := mid B C R F1 C1 (by rw [lu_o _ (by omega), kp_o _ (by omega) (by omega)])
    refine K _ h1 ⟨B1, fun Q2 q2 => ?_⟩
    refine om_start (by omega) B1.1 R1.1 G0  (fun z' => ?_) (fun l' h2 M2 F2 => ?_)
    · exact absurd z' (by omega)
    · exact q2 _ (finG B1 D1 R1 F2 M2 (by rw [lu_o _ (by omega), kp_o _ (by omega) (by omega)]) (WF_start W) Wi hsi hn3)
theorem lp_hour (hd : 200 ≤ d) (I : INV h L X) (x : Int32) (K : ∀ v h1, Kt d n_X12_hour [.ref 580, .int x] L X (.int v) h1 → Q (some (.int v)) h1) : ab_Ok d n_X11_hour [.ref 5, .int x] h Q := by
  obtain ⟨s, si, tx, n, b, f, p, B, C, R, W, Wi, hsi, hn3⟩ := I; have I0 : INV h L X := ⟨s, si, tx, n, b, f, p, B, C, R, W, Wi, hsi, hn3⟩; have S := B.1; have G0 := ((WF_iff s).mp W).1; have XC := TXI_C C.2.2.1.1; have w0 := W.1.1; have w1 := W.1.2.1; have w2 := W.1.2.2.1; have w5 := W.1.2.2.2.2.2.1; have w6 := W.1.2.2.2.2.2.2; have bk : s 4 3 ≤ 30 := W.2.1.2.2.2.1
  refine oc_hour (by omega) S C.1 G0 XC x (fun u u1 u2 e l h1 C1 F1 => ?_) (fun z => ?_)
  · obtain ⟨B1, D1, R1⟩ := mid B C R F1 C1 (hrs_o _ _ _ (by omega) (by omega) (by omega))
    refine K _ h1 ⟨B1, fun Q2 q2 => ?_⟩
    refine om_hour (by omega) B1.1 R1.1 G0 R1.2.2.1 R1.2.2.2.2.2.2 x (fun u' u1' u2' e' l' h2 M2 F2 => ?_) (fun z' => ?_)
    · obtain rfl := nJ (by omega) (by omega) e e'
      exact q2 _ (finG B1 D1 R1 F2 M2 (hrs_o _ _ _ (by omega) (by omega) (by omega)) (WF_hrs W tx (by omega)) Wi hsi hn3)
    · exact absurd l (z' u u1 u2 e)
  · refine K _ h ⟨B, fun Q2 q2 => ?_⟩
    refine om_hour (by omega) B.1 R.1 G0 R.2.2.1 R.2.2.2.2.2.2 x (fun u' u1' u2' e' l' h2 M2 F2 => ?_) (fun z' => ?_)
    · exact absurd l' (z u' u1' u2' e')
    · exact q2 _ I0
theorem lp_played (hd : 200 ≤ d) (I : INV h L X) (x : Int32) (K : ∀ v h1, Kt d n_X12_played [.ref 580, .int x] L X (.int v) h1 → Q (some (.int v)) h1) : ab_Ok d n_X11_played [.ref 5, .int x] h Q := by
  obtain ⟨s, si, tx, n, b, f, p, B, C, R, W, Wi, hsi, hn3⟩ := I; have I0 : INV h L X := ⟨s, si, tx, n, b, f, p, B, C, R, W, Wi, hsi, hn3⟩; have S := B.1; have G0 := ((WF_iff s).mp W).1; have XC := TXI_C C.2.2.1.1; have w0 := W.1.1; have w1 := W.1.2.1; have w2 := W.1.2.2.1; have w5 := W.1.2.2.2.2.2.1; have w6 := W.1.2.2.2.2.2.2; have bk : s 4 3 ≤ 30 := W.2.1.2.2.2.1
  refine oc_played (by omega) S C.1 G0 XC (fun k k1 e h1 C1 F1 => ?_) (fun z => ?_)
  · obtain ⟨B1, D1, R1⟩ := mid B C R F1 C1 (plr_2 _ _ _)
    refine K _ h1 ⟨B1, fun Q2 q2 => ?_⟩
    refine om_played (by omega) B1.1 R1.1 G0 R1.2.2.1 R1.2.2.2.2.2.2 (fun k' k1' e' h2 M2 F2 => ?_) (fun z' => ?_)
    · obtain rfl := nJ (by omega) (by omega) e e'
      exact q2 _ (finG B1 D1 R1 F2 M2 (plr_2 _ _ _) (WF_plr _ _ _ W) Wi hsi hn3)
    · exact absurd e (z' k k1)
  · refine K _ h ⟨B, fun Q2 q2 => ?_⟩
    refine om_played (by omega) B.1 R.1 G0 R.2.2.1 R.2.2.2.2.2.2 (fun k' k1' e' h2 M2 F2 => ?_) (fun z' => ?_)
    · exact absurd e' (z k' k1')
    · exact q2 _ I0
theorem lp_years (hd : 200 ≤ d) (I : INV h L X) (x y : Int32) (K : ∀ v h1, Kt d n_X12_years [.ref 580, .int x, .int y] L X (.int v) h1 → Q (some (.int v)) h1) : ab_Ok d n_X11_years [.ref 5, .int x, .int y] h Q := by
  obtain ⟨s, si, tx, n, b, f, p, B, C, R, W, Wi, hsi, hn3⟩ := I; have I0 : INV h L X := ⟨s, si, tx, n, b, f, p, B, C, R, W, Wi, hsi, hn3⟩; have S := B.1; have G0 := ((WF_iff s).mp W).1; have XC := TXI_C C.2.2.1.1; have w0 := W.1.1; have w1 := W.1.2.1; have w2 := W.1.2.2.1; have w5 := W.1.2.2.2.2.2.1; have w6 := W.1.2.2.2.2.2.2; have bk : s 4 3 ≤ 30 := W.2.1.2.2.2.1
  refine oc_years (by omega) S C.1 G0 XC x y (fun sd u sd1 u1 u2 e g h1 C1 F1 => ?_) (fun z => ?_)
  · obtain ⟨B1, D1, R1⟩ := mid B C R F1 C1 (by rw [yrs_o _ _ _ (by omega), s2_if, if_neg (by omega), kp_o _ (by omega) (by omega)])
    refine K _ h1 ⟨B1, fun Q2 q2 => ?_⟩
    refine om_years (by omega) B1.1 R1.1 G0 R1.2.2.1 R1.2.2.2.2.2.2 x y (fun sd' u' sd1' u1' u2' e' g' h2 M2 F2 => ?_) (fun z' => ?_)
    · obtain rfl := nJ (by omega) (by omega) e e'
      obtain rfl := nJ (by omega) (by omega) g g'
      exact q2 _ (finG B1 D1 R1 F2 M2 (by rw [yrs_o _ _ _ (by omega), s2_if, if_neg (by omega), kp_o _ (by omega) (by omega)]) (WF_yrs W tx (by omega)) Wi hsi hn3)
    · exact absurd g (z' sd u sd1 u1 u2 e)
  · refine K _ h ⟨B, fun Q2 q2 => ?_⟩
    refine om_years (by omega) B.1 R.1 G0 R.2.2.1 R.2.2.2.2.2.2 x y (fun sd' u' sd1' u1' u2' e' g' h2 M2 F2 => ?_) (fun z' => ?_)
    · exact absurd g' (z sd' u' sd1' u1' u2' e')
    · exact q2 _ I0
theorem lp_undo (hd : 200 ≤ d) (I : INV h L X) (K : ∀ v h1, Kt d n_X12_undo [.ref 580] L X (.int v) h1 → Q (some (.int v)) h1) : ab_Ok d n_X11_undo [.ref 5] h Q := by
  obtain ⟨s, si, tx, n, b, f, p, B, C, R, W, Wi, hsi, hn3⟩ := I; have I0 : INV h L X := ⟨s, si, tx, n, b, f, p, B, C, R, W, Wi, hsi, hn3⟩; have S := B.1; have G0 := ((WF_iff s).mp W).1; have XC := TXI_C C.2.2.1.1; have w0 := W.1.1; have w1 := W.1.2.1; have w2 := W.1.2.2.1; have w5 := W.1.2.2.2.2.2.1; have w6 := W.1.2.2.2.2.2.2; have bk : s 4 3 ≤ 30 := W.2.1.2.2.2.1
  refine oc_undo (by omega) S C.1 W.1.2.2.2.2.1 w1 (fun j hj => (G0.2.2.1 j hj).1)  (fun z => ?_) (fun l h1 C1 F1 => ?_)
  · refine K _ h ⟨B, fun Q2 q2 => ?_⟩
    refine om_undo (by omega) B.1 R.1 G0  (fun z' => ?_) (fun l' h2 M2 F2 => ?_)
    · exact q2 _ I0
    · exact absurd z (by omega)
  · obtain ⟨B1, D1, R1⟩ := mid B C R F1 C1 (und_o _ (by omega) (by omega))
    refine K _ h1 ⟨B1, fun Q2 q2 => ?_⟩
    refine om_undo (by omega) B1.1 R1.1 G0  (fun z' => ?_) (fun l' h2 M2 F2 => ?_)
    · exact absurd z' (by omega)
    · exact q2 _ (finG B1 D1 R1 F2 M2 (und_o _ (by omega) (by omega)) (WF_und W (by omega)) Wi hsi hn3)
end LU
