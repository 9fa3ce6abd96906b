/-! ===== contracts: the reference's constructor (mine) ===== -/
/-- the reference's row at the beginning, when i winds, j odds and strengths are written -/
def v0 (i j o : Nat) : Int32 := if o = 3 then -1 else if o = 8 then nI 277 else if 76 ≤ o ∧ o < 76 + i then nI 4 else if 88 ≤ o ∧ o < 88 + j then nI 3 else if 118 ≤ o ∧ o < 118 + j then nI 1 else 0
theorem v0_s : ∀ o, o < 2131 → o ≠ 3 → v0 12 5 o = nI (s0 (ya o) (yk o)) := by decide +kernel
theorem v0_i (i o : Nat) (hi : i < 12) : v0 (i + 1) 0 o = if o = 76 + i then nI 4 else v0 i 0 o := by
  unfold v0
  by_cases e : o = 76 + i
  · rw [if_pos e, if_neg (by omega), if_neg (by omega), if_pos (by omega)]
  · rw [if_neg e]
    by_cases e3 : o = 3
    · rw [if_pos e3, if_pos e3]
    rw [if_neg e3, if_neg e3]
    by_cases e8 : o = 8
    · rw [if_pos e8, if_pos e8]
    rw [if_neg e8, if_neg e8]
    by_cases e4 : 76 ≤ o ∧ o < 76 + i
    · rw [if_pos e4, if_pos (by omega)]
    rw [if_neg e4, if_neg (by omega)]
theorem v0_j (j o : Nat) (hj : j < 5) : v0 12 (j + 1) o = if o = 118 + j then nI 1 else if o = 88 + j then nI 3 else v0 12 j o := by
  unfold v0
  by_cases e : o = 118 + j
  · rw [if_pos e, if_neg (by omega), if_neg (by omega), if_neg (by omega), if_neg (by omega), if_pos (by omega)]
  rw [if_neg e]
  by_cases f : o = 88 + j
  · rw [if_pos f, if_neg (by omega), if_neg (by omega), if_neg (by omega), if_pos (by omega)]
  rw [if_neg f]
  by_cases e3 : o = 3
  · rw [if_pos e3, if_pos e3]
  rw [if_neg e3, if_neg e3]
  by_cases e8 : o = 8
  · rw [if_pos e8, if_pos e8]
  rw [if_neg e8, if_neg e8]
  by_cases e4 : 76 ≤ o ∧ o < 76 + 12
  · rw [if_pos e4, if_pos e4]
  rw [if_neg e4, if_neg e4]
  by_cases e5 : 88 ≤ o ∧ o < 88 + j
  · rw [if_pos e5, if_pos (by omega)]
  rw [if_neg e5, if_neg (by omega)]
  by_cases e6 : 118 ≤ o ∧ o < 118 + j
  · rw [if_pos e6, if_pos (by omega)]
  rw [if_neg e6, if_neg (by omega)]
theorem sI_v {h : Hp} {a k : Nat} {x : Int32} {f : Nat → Int32} (e : ∀ o, ab_I h a o = f o) (o : Nat) : ab_I (ab_sI h a k x) a o = if o = k then x else f o := by
  by_cases y : o = k
  · rw [if_pos y, y, rI_s]
  · rw [if_neg y, rI_k _ _ _ y]
    exact e o
section CT12
variable {d : Nat} {h : Hp} {Q : Option Value → Hp → Prop}
set_option maxHeartbeats 4000000 in
theorem ok_init12 (hd : 3 ≤ d) (hK : ab_K h 580 = 12) (hL : ab_L h 580 = 0) (hI : ab_I h 580 = fun _ => 0) (hN : ab_N h = 580 + 1) (hq : ∀ h', NB h h' 580 594 → MS h' 581 s0 → MS h' 582 s0 → ab_I h' 580 4 = nI 0 → ab_I h' 580 5 = -1 → ab_I h' 580 6 = -1 → ab_I h' 580 23 = nI 1 → Q none h') : ab_Ok d n_X12_init [.ref 580] h Q := by
  have P0 : PR h 580 (fun _ _ => none) [] (fun _ => 0) h := PR_0 hN hI
  have ck : ckP 580 12 (fun _ _ => none) [(0, 13, 2131), (1, 13, 2131), (2, 13, 2820), (3, 13, 300), (15, 13, 160), (20, 13, 10), (21, 14, 330), (22, 15, 330), (25, 13, 41), (26, 13, 8), (27, 13, 8), (28, 13, 5), (29, 13, 10)] = true := by decide +kernel
  refine ab_go mr_X12_init rfl (by omega) (fun call W hc hW => ?_); (conv => whnf)
  refine ⟨by decide, by decide, (by first | decide | (rw [nI_clamp (by omega)]; decide)), ?_⟩
  rw [nI_clamp (by omega)]
  (conv => whnf)
  refine ⟨PR_K P0 hK hN, ?_⟩
  obtain ⟨h1, e1⟩ : ∃ q, q = ct_n h 580 0 13 2131 := ⟨_, rfl⟩
  have P1 := PR_n (k := 0) (kd := 13) (len := 2131) P0 hN (fun _ => rfl) (by decide)
  rw [← e1] at P1
  rw [show ab_sR (ab_nw h 13 2131 (fun _ => 0)) 580 0 (some (ab_N h)) = h1 from e1.symm]
  clear e1
  (conv => whnf)
  refine ⟨by decide, by decide, (by first | decide | (rw [nI_clamp (by omega)]; decide)), ?_⟩
  rw [nI_clamp (by omega)]
  (conv => whnf)
  refine ⟨PR_K P1 hK hN, ?_⟩
  obtain ⟨h2, e2⟩ : ∃ q, q = ct_n h1 580 1 13 2131 := ⟨_, rfl⟩
  have P2 := PR_n (k := 1) (kd := 13) (len := 2131) P1 hN (fun _ => rfl) (by decide)
  rw [← e2] at P2
  rw [show ab_sR (ab_nw h1 13 2131 (fun _ => 0)) 580 1 (some (ab_N h1)) = h2 from e2.symm]
  clear e2
  (conv => whnf)
  refine ⟨by decide, by decide, (by first | decide | (rw [nI_clamp (by omega)]; decide)), ?_⟩
  rw [nI_clamp (by omega)]
  (conv => whnf)
  refine ⟨PR_K P2 hK hN, ?_⟩
  obtain ⟨h3, e3⟩ : ∃ q, q = ct_n h2 580 2 13 2820 := ⟨_, rfl⟩
  have P3 := PR_n (k := 2) (kd := 13) (len := 2820) P2 hN (fun _ => rfl) (by decide)
  rw [← e3] at P3
  rw [show ab_sR (ab_nw h2 13 2820 (fun _ => 0)) 580 2 (some (ab_N h2)) = h3 from e3.symm]
  clear e3
  (conv => whnf)
  refine ⟨by decide, by decide, (by first | decide | (rw [nI_clamp (by omega)]; decide)), ?_⟩
  rw [nI_clamp (by omega)]
  (conv => whnf)
  refine ⟨PR_K P3 hK hN, ?_⟩
  obtain ⟨h4, e4⟩ : ∃ q, q = ct_n h3 580 3 13 300 := ⟨_, rfl⟩
  have P4 := PR_n (k := 3) (kd := 13) (len := 300) P3 hN (fun _ => rfl) (by decide)
  rw [← e4] at P4
  rw [show ab_sR (ab_nw h3 13 300 (fun _ => 0)) 580 3 (some (ab_N h3)) = h4 from e4.symm]
  clear e4
  (conv => whnf)
  refine ⟨P4.2.2.1.1.trans hK, ?_⟩
  obtain ⟨h5, e5⟩ : ∃ q, q = ab_sI h4 580 5 (-1) := ⟨_, rfl⟩
  have P5 := PR_I (k := 5) (x := (-1)) P4 hN
  rw [← e5] at P5
  rw [← e5]
  clear e5
  (conv => whnf)
  refine ⟨P5.2.2.1.1.trans hK, ?_⟩
  obtain ⟨h6, e6⟩ : ∃ q, q = ab_sI h5 580 6 (-1) := ⟨_, rfl⟩
  have P6 := PR_I (k := 6) (x := (-1)) P5 hN
  rw [← e6] at P6
  rw [← e6]
  clear e6
  (conv => whnf)
  refine ⟨by decide, by decide, (by first | decide | (rw [nI_clamp (by omega)]; decide)), ?_⟩
  rw [nI_clamp (by omega)]
  (conv => whnf)
  refine ⟨PR_K P6 hK hN, ?_⟩
  obtain ⟨h7, e7⟩ : ∃ q, q = ct_n h6 580 15 13 160 := ⟨_, rfl⟩
  have P7 := PR_n (k := 15) (kd := 13) (len := 160) P6 hN (fun _ => rfl) (by decide)
  rw [← e7] at P7
  rw [show ab_sR (ab_nw h6 13 160 (fun _ => 0)) 580 15 (some (ab_N h6)) = h7 from e7.symm]
  clear e7
  (conv => whnf)
  refine ⟨by decide, by decide, (by first | decide | (rw [nI_clamp (by omega)]; decide)), ?_⟩
  rw [nI_clamp (by omega)]
  (conv => whnf)
  refine ⟨PR_K P7 hK hN, ?_⟩
  obtain ⟨h8, e8⟩ : ∃ q, q = ct_n h7 580 20 13 10 := ⟨_, rfl⟩
  have P8 := PR_n (k := 20) (kd := 13) (len := 10) P7 hN (fun _ => rfl) (by decide)
  rw [← e8] at P8
  rw [show ab_sR (ab_nw h7 13 10 (fun _ => 0)) 580 20 (some (ab_N h7)) = h8 from e8.symm]
  clear e8
  (conv => whnf)
  refine ⟨by decide, by decide, (by first | decide | (rw [nI_clamp (by omega)]; decide)), ?_⟩
  rw [nI_clamp (by omega)]
  (conv => whnf)
  refine ⟨PR_K P8 hK hN, ?_⟩
  obtain ⟨h9, e9⟩ : ∃ q, q = ct_n h8 580 21 14 330 := ⟨_, rfl⟩
  have P9 := PR_n (k := 21) (kd := 14) (len := 330) P8 hN (fun _ => rfl) (by decide)
  rw [← e9] at P9
  rw [show ab_sR (ab_nw h8 14 330 (fun _ => 0)) 580 21 (some (ab_N h8)) = h9 from e9.symm]
  clear e9
  (conv => whnf)
  refine ⟨by decide, by decide, (by first | decide | (rw [nI_clamp (by omega)]; decide)), ?_⟩
  rw [nI_clamp (by omega)]
  (conv => whnf)
  refine ⟨PR_K P9 hK hN, ?_⟩
  obtain ⟨h10, e10⟩ : ∃ q, q = ct_n h9 580 22 15 330 := ⟨_, rfl⟩
  have P10 := PR_n (k := 22) (kd := 15) (len := 330) P9 hN (fun _ => rfl) (by decide)
  rw [← e10] at P10
  rw [show ab_sR (ab_nw h9 15 330 (fun _ => 0)) 580 22 (some (ab_N h9)) = h10 from e10.symm]
  clear e10
  (conv => whnf)
  refine ⟨P10.2.2.1.1.trans hK, Or.inr rfl, ?_⟩
  obtain ⟨h11, e11⟩ : ∃ q, q = ab_sI h10 580 23 (nI 1) := ⟨_, rfl⟩
  have P11 := PR_I (k := 23) (x := (nI 1)) P10 hN
  rw [← e11] at P11
  rw [← e11]
  clear e11
  (conv => whnf)
  refine ⟨by decide, by decide, (by first | decide | (rw [nI_clamp (by omega)]; decide)), ?_⟩
  rw [nI_clamp (by omega)]
  (conv => whnf)
  refine ⟨PR_K P11 hK hN, ?_⟩
  obtain ⟨h12, e12⟩ : ∃ q, q = ct_n h11 580 25 13 41 := ⟨_, rfl⟩
  have P12 := PR_n (k := 25) (kd := 13) (len := 41) P11 hN (fun _ => rfl) (by decide)
  rw [← e12] at P12
  rw [show ab_sR (ab_nw h11 13 41 (fun _ => 0)) 580 25 (some (ab_N h11)) = h12 from e12.symm]
  clear e12
  (conv => whnf)
  refine ⟨by decide, by decide, (by first | decide | (rw [nI_clamp (by omega)]; decide)), ?_⟩
  rw [nI_clamp (by omega)]
  (conv => whnf)
  refine ⟨PR_K P12 hK hN, ?_⟩
  obtain ⟨h13, e13⟩ : ∃ q, q = ct_n h12 580 26 13 8 := ⟨_, rfl⟩
  have P13 := PR_n (k := 26) (kd := 13) (len := 8) P12 hN (fun _ => rfl) (by decide)
  rw [← e13] at P13
  rw [show ab_sR (ab_nw h12 13 8 (fun _ => 0)) 580 26 (some (ab_N h12)) = h13 from e13.symm]
  clear e13
  (conv => whnf)
  refine ⟨by decide, by decide, (by first | decide | (rw [nI_clamp (by omega)]; decide)), ?_⟩
  rw [nI_clamp (by omega)]
  (conv => whnf)
  refine ⟨PR_K P13 hK hN, ?_⟩
  obtain ⟨h14, e14⟩ : ∃ q, q = ct_n h13 580 27 13 8 := ⟨_, rfl⟩
  have P14 := PR_n (k := 27) (kd := 13) (len := 8) P13 hN (fun _ => rfl) (by decide)
  rw [← e14] at P14
  rw [show ab_sR (ab_nw h13 13 8 (fun _ => 0)) 580 27 (some (ab_N h13)) = h14 from e14.symm]
  clear e14
  (conv => whnf)
  refine ⟨by decide, by decide, (by first | decide | (rw [nI_clamp (by omega)]; decide)), ?_⟩
  rw [nI_clamp (by omega)]
  (conv => whnf)
  refine ⟨PR_K P14 hK hN, ?_⟩
  obtain ⟨h15, e15⟩ : ∃ q, q = ct_n h14 580 28 13 5 := ⟨_, rfl⟩
  have P15 := PR_n (k := 28) (kd := 13) (len := 5) P14 hN (fun _ => rfl) (by decide)
  rw [← e15] at P15
  rw [show ab_sR (ab_nw h14 13 5 (fun _ => 0)) 580 28 (some (ab_N h14)) = h15 from e15.symm]
  clear e15
  (conv => whnf)
  refine ⟨by decide, by decide, (by first | decide | (rw [nI_clamp (by omega)]; decide)), ?_⟩
  rw [nI_clamp (by omega)]
  (conv => whnf)
  refine ⟨PR_K P15 hK hN, ?_⟩
  obtain ⟨h16, e16⟩ : ∃ q, q = ct_n h15 580 29 13 10 := ⟨_, rfl⟩
  have P16 := PR_n (k := 29) (kd := 13) (len := 10) P15 hN (fun _ => rfl) (by decide)
  rw [← e16] at P16
  rw [show ab_sR (ab_nw h15 13 10 (fun _ => 0)) 580 29 (some (ab_N h15)) = h16 from e16.symm]
  clear e16
  (conv => whnf)
  have B := PR_NB (m := 594) P16 hN hK hL ck rfl
  have io : ∀ k, ab_I h16 580 k = upd (upd (upd (fun _ => 0) 5 (-1)) 6 (-1)) 23 (nI 1) k := fun k => congrFun P16.2.2.1.2.2 k
  have q0 := P16.2.2.2.2 0 _ rfl
  have q1 := P16.2.2.2.2 1 _ rfl
  have en : ab_N h + 0 = 581 ∧ ab_N h + 1 = 582 := by omega
  rw [en.1] at q0
  rw [en.2] at q1
  have r0 := q0.2.2.2 (by decide)
  have r1 := q1.2.2.2 (by decide)
  have k0 : ab_K h16 581 = 13 := q0.1
  have l0 : ab_L h16 581 = 2131 := q0.2.1
  have k1 : ab_K h16 582 = 13 := q1.1
  have l1 : ab_L h16 582 = 2131 := q1.2.1
  have z1 := q0.2.2.1
  have kk := P16.2.2.1.1.trans hK
  clear P1 P2 P3 P4 P5 P6 P7 P8 P9 P10 P11 P12 P13 P14 P15 P16 P0
  have lp2 : ∀ r j h', j + r = 5 → (∀ o, ab_I h' 581 o = v0 12 j o) → Fr (fun x _ => x = 581) h16 h' → W 172 [.ref 580, .int (nI j)] h' (0 + 1 + 1 + 1 + 1 + 1 + 1 + 1 + 1 + 1 + 1 + 1 + 1 + 1) (0 + 2131 + 2131 + 2820 + 300 + 160 + 10 + 330 + 330 + 41 + 8 + 8 + 5 + 10) := by
    intro r
    induction r with
    | zero =>
      intro j h' e z F
      obtain rfl : j = 5 := by omega
      have B1 : NB h h' 580 594 := ⟨by rw [F.2.2.2.1]; exact B.1, fun x hx => ?_, fun a h1 h2 => shA_c (B.2.2 a h1 h2) (by rw [F.1]) (by rw [F.2.1]) (by rw [F.2.2.1])⟩
      · refine hW _ _ _ _ _ ?_
        (conv => whnf)
        refine bT (nI_le (Nat.le_refl _) (by omega)) ?_
        (conv => whnf)
        refine ⟨by rw [F.1]; exact kk, 581, by rw [F.2.2.1]; exact r0, ?_⟩
        (conv => whnf)
        refine ⟨by rw [F.1]; exact kk, 582, by rw [F.2.2.1]; exact r1, ?_⟩
        (conv => whnf)
        refine hc _ _ _ _ (om_copy (by omega) (by decide) (by rw [F.1]; exact k0) (by rw [F.2.1]; exact l0) (by rw [F.1]; exact k1) (by rw [F.2.1]; exact l1) (fun h2 e2 F2 => ?_))
        (conv => whnf)
        have M1 : MS h' 581 s0 := ⟨fun o ho h3 => (z o).trans (v0_s o ho h3), (z 3).trans (by decide)⟩
        have g2 : ∀ k, ab_I h2 580 k = ab_I h16 580 k := fun k => (F2.2.2.2.2 580 k (show ¬ (580 : Nat) = 582 by decide)).trans (F.2.2.2.2 580 k (show ¬ (580 : Nat) = 581 by decide))
        refine hq h2 ⟨by rw [F2.2.2.2.1]; exact B1.1, fun x hx => ?_, fun a h1 h2 => shA_c (B1.2.2 a h1 h2) (by rw [F2.1]) (by rw [F2.2.1]) (by rw [F2.2.2.1])⟩ (MS_c M1 (fun k _ => F2.2.2.2.2 581 k (show ¬ (581 : Nat) = 582 by decide))) (MS_c M1 (fun k hk => e2 k hk)) ((g2 4).trans (io 4)) ((g2 5).trans (io 5)) ((g2 6).trans (io 6)) ((g2 23).trans (io 23))
        obtain ⟨b1, b2, b3, b4⟩ := B1.2.1 x hx
        exact ⟨by rw [F2.1]; exact b1, by rw [F2.2.1]; exact b2, (funext fun k => F2.2.2.2.2 x k (show ¬ x = 582 by omega)).trans b3, by rw [F2.2.2.1]; exact b4⟩
      · obtain ⟨b1, b2, b3, b4⟩ := B.2.1 x hx
        exact ⟨by rw [F.1]; exact b1, by rw [F.2.1]; exact b2, (funext fun k => F.2.2.2.2 x k (show ¬ x = 581 by omega)).trans b3, by rw [F.2.2.1]; exact b4⟩
    | succ r ih =>
      intro j h' e z F
      have k' : ab_K h' 581 = 13 := by rw [F.1]; exact k0
      have l' : ab_L h' 581 = 2131 := by rw [F.2.1]; exact l0
      have r' : ab_R h' 580 0 = some 581 := by rw [F.2.2.1]; exact r0
      have kk' : ab_K h' 580 = 12 := by rw [F.1]; exact kk
      refine hW _ _ _ _ _ ?_
      (conv => whnf)
      refine bF (nI_ge (by omega) (by omega)) ?_
      (conv => whnf)
      refine ⟨kk', 581, r', ?_⟩
      (conv => whnf)
      rw [nI_add]
      refine ⟨k', vin _ l' (by omega) (by decide), ?_⟩
      rw [nI_clamp (by omega)]
      (conv => whnf)
      refine ⟨kk', 581, r', ?_⟩
      (conv => whnf)
      rw [nI_add]
      refine ⟨k', vin (h := h') _ l' (by omega) (by decide), ?_⟩
      rw [nI_clamp (by omega)]
      (conv => whnf)
      refine W_h rfl (by (try simp (disch := omega) only [nI_add, Nat.add_zero]) <;> rfl) (ih (j + 1) _ (by omega) (fun o => ?_) (Fr_tr F (Fr_tr (Fr_sI rfl) (Fr_sI rfl))))
      rw [sI_v (sI_v z), v0_j j o (by omega)]
  have lp1 : ∀ r i h', i + r = 12 → (∀ o, ab_I h' 581 o = v0 i 0 o) → Fr (fun x _ => x = 581) h16 h' → W 148 [.ref 580, .int (nI i)] h' (0 + 1 + 1 + 1 + 1 + 1 + 1 + 1 + 1 + 1 + 1 + 1 + 1 + 1) (0 + 2131 + 2131 + 2820 + 300 + 160 + 10 + 330 + 330 + 41 + 8 + 8 + 5 + 10) := by
    intro r
    induction r with
    | zero =>
      intro i h' e z F
      obtain rfl : i = 12 := by omega
      refine hW _ _ _ _ _ ?_
      (conv => whnf)
      refine bT (nI_le (Nat.le_refl _) (by omega)) ?_
      (conv => whnf)
      exact lp2 5 0 h' (by omega) z F
    | succ r ih =>
      intro i h' e z F
      have k' : ab_K h' 581 = 13 := by rw [F.1]; exact k0
      have l' : ab_L h' 581 = 2131 := by rw [F.2.1]; exact l0
      have r' : ab_R h' 580 0 = some 581 := by rw [F.2.2.1]; exact r0
      have kk' : ab_K h' 580 = 12 := by rw [F.1]; exact kk
      refine hW _ _ _ _ _ ?_
      (conv => whnf)
      refine bF (nI_ge (by omega) (by omega)) ?_
      (conv => whnf)
      refine ⟨kk', 581, r', ?_⟩
      (conv => whnf)
      rw [nI_add]
      refine ⟨k', vin _ l' (by omega) (by decide), ?_⟩
      rw [nI_clamp (by omega)]
      (conv => whnf)
      refine W_h rfl (by (try simp (disch := omega) only [nI_add, Nat.add_zero]) <;> rfl) (ih (i + 1) _ (by omega) (fun o => ?_) (Fr_tr F (Fr_sI rfl)))
      rw [sI_v z, v0_i i o (by omega)]
  clear lp2
  refine ⟨kk, 581, r0, ?_⟩
  (conv => whnf)
  refine ⟨k0, vin _ l0 (by omega) (by decide), ?_⟩
  rw [nI_clamp (by omega)]
  (conv => whnf)
  refine ⟨kk, 581, r0, ?_⟩
  (conv => whnf)
  refine ⟨k0, vin (h := h16) _ l0 (by omega) (by decide), ?_⟩
  rw [nI_clamp (by omega)]
  (conv => whnf)
  refine lp1 12 0 _ (by omega) (fun o => ?_) (Fr_tr (Fr_sI rfl) (Fr_sI rfl))
  rw [sI_v (sI_v z1)]
  unfold v0
  by_cases e3 : o = 3
  · rw [if_pos e3, if_pos e3]
  rw [if_neg e3, if_neg e3]
  by_cases e8 : o = 8
  · rw [if_pos e8, if_pos e8]
  rw [if_neg e8, if_neg e8, if_neg (by omega), if_neg (by omega), if_neg (by omega)]
end CT12
