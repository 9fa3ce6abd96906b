/-! ===== contracts: the tape's tokens one behind the other, on both sides (mine) ===== -/
/-- the class is at token i -/
def CT (h : Hp) (b : Nat → Nat) (n i : Nat) : Prop := ab_I h 550 6 = nI (stL b n) ∧ ab_I h 550 7 = nI (min (stL b n) i) ∧ ∀ j, j ≤ stL b n → ab_I h 552 j = nI (stT b n j) ∧ ab_I h 553 j = nI (stV b n j) ∧ ab_I h 554 j = nI (stP b n j)
/-- the reference is at token i -/
def MT (h : Hp) (b : Nat → Nat) (n i : Nat) : Prop := TP h 580 4 584 n b ∧ ab_I h 580 7 = nI (tkE b n (stP b n i)) ∧ ab_I h 580 8 = nI (stP b n i) ∧ RT h (stT b n i) (stV b n i)
theorem CT_fr {P : Nat → Nat → Prop} {h h' : Hp} {b : Nat → Nat} {n i : Nat} (F : Fr P h h') (h6 : ¬ P 550 6) (h7 : ¬ P 550 7) (ha : ∀ a k, 552 ≤ a → a ≤ 554 → ¬ P a k) (C : CT h b n i) : CT h' b n i :=
  ⟨(F.2.2.2.2 550 6 h6).trans C.1, (F.2.2.2.2 550 7 h7).trans C.2.1, fun j hj => ⟨(F.2.2.2.2 552 j (ha 552 j (by omega) (by omega))).trans (C.2.2 j hj).1, (F.2.2.2.2 553 j (ha 553 j (by omega) (by omega))).trans (C.2.2 j hj).2.1, (F.2.2.2.2 554 j (ha 554 j (by omega) (by omega))).trans (C.2.2 j hj).2.2⟩⟩
theorem MT_fr {P : Nat → Nat → Prop} {h h' : Hp} {b : Nat → Nat} {n i : Nat} (F : Fr P h h') (h1 : ∀ k, (k = 4 ∨ (7 ≤ k ∧ k ≤ 10)) → ¬ P 580 k) (h2 : ∀ k, ¬ P 584 k) (hJ : ab_J h' 580 11 = ab_J h 580 11) (M : MT h b n i) : MT h' b n i :=
  ⟨TP_fr F (h1 4 (by omega)) h2 M.1, (F.2.2.2.2 580 7 (h1 7 (by omega))).trans M.2.1, (F.2.2.2.2 580 8 (h1 8 (by omega))).trans M.2.2.1, RT_fr F (h1 9 (by omega)) (h1 10 (by omega)) hJ M.2.2.2⟩
theorem st_min (b : Nat → Nat) (n i : Nat) : stP b n (min (stL b n) i) = stP b n i := by
  rcases Nat.lt_or_ge i (stL b n) with z | z
  · rw [Nat.min_eq_right (by omega)]
  · rw [Nat.min_eq_left z, stL_2]
    have := stL_3 b n (i - stL b n)
    rw [show stL b n + (i - stL b n) = i by omega] at this
    exact this.symm
theorem stT_b (b : Nat → Nat) (n i : Nat) : stT b n i ≤ 132 := by
  unfold stT tkT
  have q := tokW_b (wdr b n (n - stP b n i) (stP b n i) 0)
  have q2 : sg (b (stP b n i)) (bA b n (stP b n i + 1)) ≤ 132 := by
    have : ∀ c, c ∈ sgs → c < 63 := by decide
    unfold sg
    split
    · omega
    · split
      · omega
      · split
        · rename_i z; have := this _ z; omega
        · omega
  split
  · omega
  · split
    · omega
    · split <;> omega
theorem nvr_b (b : Nat → Nat) (n : Nat) : ∀ r k v, v ≤ 10000 → nvr b n r k v ≤ 10000 := by
  intro r
  induction r with
  | zero => intro k v h; exact h
  | succ r ih =>
    intro k v h
    show (if k < n ∧ isD (b k) = true then nvr b n r (k + 1) (min 10000 (v * 10 + (b k - 48))) else v) ≤ 10000
    split
    · exact ih _ _ (Nat.min_le_left _ _)
    · exact h
theorem stV_b (b : Nat → Nat) (n i : Nat) : stV b n i ≤ 10000 := by
  unfold stV tkV
  split
  · omega
  · split
    · exact nvr_b b n _ _ _ (by omega)
    · omega
section TK
variable {d : Nat} {h : Hp} {Q : Option Value → Hp → Prop} {n : Nat} {b : Nat → Nat}
theorem oc_token (hd : 1 ≤ d) (S : Sh h) (hn : n ≤ 300) {i : Nat} (C : CT h b n i) (hq : Q (some (.int (nI (stT b n i)))) h) : ab_Ok d n_X8_token [.ref 550] h Q := by
  have ln := stL_n b n
  have v := (C.2.2 (min (stL b n) i) (by omega)).1
  rw [show stT b n (min (stL b n) i) = stT b n i from by unfold stT; rw [st_min]] at v
  refine ab_go mr_X8_token rfl (by omega) (fun call W hc hW => ?_); (conv => whnf)
  refine ⟨S.1 550 (by decide), 552, S.2.2 _ _ _ rfl, ?_⟩
  (conv => whnf)
  refine ⟨S.1 550 (by decide), ?_⟩
  (conv => whnf)
  rw [C.2.1]
  refine ⟨S.1 552 (by decide), vin _ (S.2.1 552 (by decide)) (by show min (stL b n) i < 301; omega) (by decide), ?_⟩
  (conv => whnf)
  rw [nI_clamp (by omega), v]
  exact hq
theorem oc_value (hd : 1 ≤ d) (S : Sh h) (hn : n ≤ 300) {i : Nat} (C : CT h b n i) (hq : Q (some (.int (nI (stV b n i)))) h) : ab_Ok d n_X8_value [.ref 550] h Q := by
  have ln := stL_n b n
  have v := (C.2.2 (min (stL b n) i) (by omega)).2.1
  rw [show stV b n (min (stL b n) i) = stV b n i from by unfold stV; rw [st_min]] at v
  refine ab_go mr_X8_value rfl (by omega) (fun call W hc hW => ?_); (conv => whnf)
  refine ⟨S.1 550 (by decide), 553, S.2.2 _ _ _ rfl, ?_⟩
  (conv => whnf)
  refine ⟨S.1 550 (by decide), ?_⟩
  (conv => whnf)
  rw [C.2.1]
  refine ⟨S.1 553 (by decide), vin _ (S.2.1 553 (by decide)) (by show min (stL b n) i < 301; omega) (by decide), ?_⟩
  (conv => whnf)
  rw [nI_clamp (by omega), v]
  exact hq
theorem oc_placeT (hd : 1 ≤ d) (S : Sh h) (hn : n ≤ 300) {i : Nat} (C : CT h b n i) (hq : Q (some (.int (nI (stP b n i)))) h) : ab_Ok d n_X8_place [.ref 550] h Q := by
  have ln := stL_n b n
  have v := (C.2.2 (min (stL b n) i) (by omega)).2.2
  rw [st_min] at v
  refine ab_go mr_X8_place rfl (by omega) (fun call W hc hW => ?_); (conv => whnf)
  refine ⟨S.1 550 (by decide), 554, S.2.2 _ _ _ rfl, ?_⟩
  (conv => whnf)
  refine ⟨S.1 550 (by decide), ?_⟩
  (conv => whnf)
  rw [C.2.1]
  refine ⟨S.1 554 (by decide), vin _ (S.2.1 554 (by decide)) (by show min (stL b n) i < 301; omega) (by decide), ?_⟩
  (conv => whnf)
  rw [nI_clamp (by omega), v]
  exact hq
def f57 (a k : Nat) : Prop := a = 550 ∧ k = 7
theorem oc_advance (hd : 2 ≤ d) (S : Sh h) (hn : n ≤ 300) {i : Nat} (C : CT h b n i) (hq : ∀ h', CT h' b n (i + 1) → Fr f57 h h' → Q none h') : ab_Ok d n_X8_advance [.ref 550] h Q := by
  have ln := stL_n b n
  refine ab_go mr_X8_advance rfl (by omega) (fun call W hc hW => ?_); (conv => whnf)
  refine ⟨S.1 550 (by decide), ?_⟩
  (conv => whnf)
  rw [C.1]
  refine ⟨S.1 550 (by decide), ?_⟩
  (conv => whnf)
  rw [C.2.1, nI_add]
  refine hc _ _ _ _ (ok_min (by omega) _ _ ?_)
  rw [nI_min (by omega) (by omega), show min (stL b n) (min (stL b n) i + 1) = min (stL b n) (i + 1) by omega]
  (conv => whnf)
  refine ⟨S.1 550 (by decide), ?_⟩
  (conv => whnf)
  have F : Fr f57 h (ab_sI h 550 7 (nI (min (stL b n) (i + 1)))) := Fr_sI ⟨rfl, rfl⟩
  refine hq _ ⟨?_, rI_s _ _ _ _, fun j hj => ?_⟩ F
  · rw [rI_k _ _ _ (by decide)]; exact C.1
  · rw [rI_a _ _ _ _ (by decide), rI_a _ _ _ _ (by decide), rI_a _ _ _ _ (by decide)]; exact C.2.2 j hj
theorem oc_cut (hd : 12 ≤ d) (S : Sh h) (Z : SS h) (P : TP h 550 2 551 n b) (hn : n ≤ 300) (hq : ∀ h', CT h' b n 0 → Fr fC h h' → Q none h') : ab_Ok d n_X8_cut [.ref 550] h Q := by
  have hb : ∀ k, k < n → b k ≤ 255 := fun k hk => (P.2 k hk).2
  have TPf : ∀ {h'}, Fr fC h h' → TP h' 550 2 551 n b := fun F' => TP_fr F' (fun w => by unfold fC at w; omega) (fun k w => by unfold fC at w; omega) P
  have ZZf : ∀ {h'}, Fr fC h h' → SS h' := fun F' => SS_fr F' (fun a k w => by unfold fC at w; omega) Z
  have bI0 : ∀ k, k < n → bI b n k = nI (b k) := fun k hk => if_pos hk
  refine ab_go mr_X8_cut rfl (by omega) (fun call W hc hW => ?_); (conv => whnf)
  have fin : ∀ i h', n ≤ stP b n i → (∀ j, j < i → stP b n j < n) → ab_I h' 550 1 = nI (stP b n i) → ab_I h' 550 6 = nI i → ab_I h' 550 7 = nI 0 → (∀ j, j < i → ab_I h' 552 j = nI (stT b n j) ∧ ab_I h' 553 j = nI (stV b n j) ∧ ab_I h' 554 j = nI (stP b n j)) → Fr fC h h' → W 19 [.ref 550] h' 0 0 := by
    intro i h' hr hj c1 c6 c7 ct F'
    have S' := Fr_Sh F' S
    have P' := TPf F'
    have el := stL_u b n hj (by omega)
    have ip := stP_i b n i hj
    have pb := stP_b b n i
    have i3 : i ≤ 300 := by omega
    refine hW _ _ _ _ _ ?_
    (conv => whnf)
    refine ⟨S'.1 550 (by decide), ?_⟩
    (conv => whnf)
    rw [c1]
    refine ⟨S'.1 550 (by decide), ?_⟩
    (conv => whnf)
    rw [P'.1]
    refine bT (nI_le (by omega) (by omega)) ?_
    (conv => whnf)
    refine ⟨S'.1 550 (by decide), 552, S'.2.2 _ _ _ rfl, ?_⟩
    (conv => whnf)
    refine ⟨S'.1 550 (by decide), ?_⟩
    (conv => whnf)
    rw [c6]
    refine ⟨S'.1 552 (by decide), vin _ (S'.2.1 552 (by decide)) (by show i < 301; omega) (by decide), ?_⟩
    (conv => whnf)
    rw [nI_clamp (by omega)]
    refine ⟨S'.1 550 (by decide), 553, S'.2.2 _ _ _ rfl, ?_⟩
    (conv => whnf)
    refine ⟨S'.1 550 (by decide), ?_⟩
    (conv => whnf)
    rw [show ab_I (ab_sI h' 552 i (nI 131)) 550 6 = nI i from (rI_a _ _ _ _ (by decide)).trans c6]
    refine ⟨S'.1 553 (by decide), vin _ (S'.2.1 553 (by decide)) (by show i < 301; omega) (by decide), ?_⟩
    (conv => whnf)
    rw [nI_clamp (by omega)]
    refine ⟨S'.1 550 (by decide), 554, S'.2.2 _ _ _ rfl, ?_⟩
    (conv => whnf)
    refine ⟨S'.1 550 (by decide), ?_⟩
    (conv => whnf)
    rw [show ab_I (ab_sI (ab_sI h' 552 i (nI 131)) 553 i (nI 0)) 550 6 = nI i from (rI_a _ _ _ _ (by decide)).trans ((rI_a _ _ _ _ (by decide)).trans c6)]
    refine ⟨S'.1 550 (by decide), ?_⟩
    (conv => whnf)
    rw [show ab_I (ab_sI (ab_sI h' 552 i (nI 131)) 553 i (nI 0)) 550 2 = nI n from (rI_a _ _ _ _ (by decide)).trans ((rI_a _ _ _ _ (by decide)).trans P'.1)]
    refine ⟨S'.1 554 (by decide), vin _ (S'.2.1 554 (by decide)) (by show i < 301; omega) (by decide), ?_⟩
    (conv => whnf)
    rw [nI_clamp (by omega)]
    refine hq _ ⟨?_, ?_, fun j hj2 => ?_⟩ (Fr_tr F' (Fr_tr (Fr_sI (Or.inr ⟨by omega, by omega⟩)) (Fr_tr (Fr_sI (Or.inr ⟨by omega, by omega⟩)) (Fr_sI (Or.inr ⟨by omega, by omega⟩)))))
    · rw [rI_a _ _ _ _ (by decide), rI_a _ _ _ _ (by decide), rI_a _ _ _ _ (by decide), ← el]; exact c6
    · rw [rI_a _ _ _ _ (by decide), rI_a _ _ _ _ (by decide), rI_a _ _ _ _ (by decide), Nat.min_zero]; exact c7
    · rw [← el] at hj2
      rw [rI_a _ _ _ _ (by decide), rI_a _ _ _ _ (by decide), rI_a _ _ _ _ (by decide : (553 : Nat) ≠ 554)]
      by_cases ej : j = i
      · rw [ej, rI_s, rI_s, rI_s]
        have tt : stT b n i = 131 := stT_e b n |>.mpr (by omega)
        have pp : stP b n i = n := by omega
        have vv : stV b n i = 0 := by unfold stV tkV; rw [if_pos (by omega)]
        rw [tt, vv, pp]
        exact ⟨rfl, rfl, rfl⟩
      · rw [rI_k _ _ _ ej, rI_k _ _ _ ej, rI_k _ _ _ ej, rI_a _ _ _ _ (by decide), rI_a _ _ _ _ (by decide), rI_a _ _ _ _ (by decide)]
        exact ct j (by omega)
  have lp : ∀ r i h', (n - stP b n i ≤ r) → (∀ j, j < i → stP b n j < n) → ab_I h' 550 1 = nI (stP b n i) → ab_I h' 550 6 = nI i → ab_I h' 550 7 = nI 0 → (∀ j, j < i → ab_I h' 552 j = nI (stT b n j) ∧ ab_I h' 553 j = nI (stV b n j) ∧ ab_I h' 554 j = nI (stP b n j)) → Fr fC h h' → W 19 [.ref 550] h' 0 0 := by
    intro r
    induction r with
    | zero =>
      intro i h' hr hj c1 c6 c7 ct F'
      exact fin i h' (by have := stP_b b n i; omega) hj c1 c6 c7 ct F'
    | succ r ih =>
      intro i h' hr hj c1 c6 c7 ct F'
      rcases Nat.lt_or_ge (stP b n i) n with z | z
      · have S' := Fr_Sh F' S
        have P' := TPf F'
        have ip := stP_i b n i hj
        have sp := stP_s b n z
        have pb := stP_b b n (i + 1)
        have te := tkE_b b z
        have ih := ih (i + 1)
        have k' := bI0 _ z
        have eP : stP b n (i + 1) = fw isB b n (tkE b n (stP b n i)) := rfl
        clear hq
        refine hW _ _ _ _ _ ?_
        (conv => whnf)
        refine ⟨S'.1 550 (by decide), ?_⟩
        (conv => whnf)
        rw [c1]
        refine ⟨S'.1 550 (by decide), ?_⟩
        (conv => whnf)
        rw [P'.1]
        refine bF (nI_ge (by omega) (by omega)) ?_
        (conv => whnf)
        refine ⟨S'.1 550 (by decide), ?_⟩
        (conv => whnf)
        rw [c6]
        refine bF (nI_ge (by omega) (by omega)) ?_
        (conv => whnf)
        refine ⟨S'.1 550 (by decide), 554, S'.2.2 _ _ _ rfl, ?_⟩
        (conv => whnf)
        refine ⟨S'.1 550 (by decide), ?_⟩
        (conv => whnf)
        rw [c6]
        refine ⟨S'.1 550 (by decide), ?_⟩
        (conv => whnf)
        rw [c1]
        refine ⟨S'.1 554 (by decide), vin _ (S'.2.1 554 (by decide)) (by show i < 301; omega) (by decide), ?_⟩
        (conv => whnf)
        rw [nI_clamp (by omega)]
        refine ⟨S'.1 550 (by decide), 553, S'.2.2 _ _ _ rfl, ?_⟩
        (conv => whnf)
        refine ⟨S'.1 550 (by decide), ?_⟩
        (conv => whnf)
        rw [show ab_I (ab_sI h' 554 i (nI (stP b n i))) 550 6 = nI i from (rI_a _ _ _ _ (by decide)).trans c6]
        refine ⟨S'.1 553 (by decide), vin _ (S'.2.1 553 (by decide)) (by show i < 301; omega) (by decide), ?_⟩
        (conv => whnf)
        rw [nI_clamp (by omega)]
        obtain ⟨h1, e1⟩ : ∃ h1, h1 = ab_sI (ab_sI h' 554 i (nI (stP b n i))) 553 i (nI 0) := ⟨_, rfl⟩
        have F1 : Fr fC h' h1 := by rw [e1]; exact Fr_tr (Fr_sI (Or.inr ⟨by omega, by omega⟩)) (Fr_sI (Or.inr ⟨by omega, by omega⟩))
        have S1 := Fr_Sh F1 S'
        have FF := Fr_tr F' F1
        have x5 : ∀ k, ab_I h1 550 k = ab_I h' 550 k := fun k => by rw [e1, rI_a _ _ _ _ (by decide), rI_a _ _ _ _ (by decide)]
        have xp : ab_I h1 554 i = nI (stP b n i) := by rw [e1, rI_a _ _ _ _ (by decide), rI_s]
        have xv : ab_I h1 553 i = nI 0 := by rw [e1, rI_s]
        have xj : ∀ j, j < i → ab_I h1 552 j = nI (stT b n j) ∧ ab_I h1 553 j = nI (stV b n j) ∧ ab_I h1 554 j = nI (stP b n j) := by
          intro j hj2
          rw [e1, rI_a _ _ _ _ (by decide : (552 : Nat) ≠ 553), rI_a _ _ _ _ (by decide : (552 : Nat) ≠ 554), rI_k _ _ _ (by omega), rI_a _ _ _ _ (by decide : (553 : Nat) ≠ 554), rI_a _ _ _ _ (by decide : (554 : Nat) ≠ 553), rI_k _ _ _ (by omega)]
          exact ct j hj2
        rw [← e1]
        clear e1
        refine ⟨S1.1 550 (by decide), ?_⟩
        (conv => whnf)
        rw [x5, c1]
        refine ⟨S1.1 550 (by decide), ?_⟩
        refine hc _ _ _ _ (oc_byteAt (by omega) S1 (TPf FF) hn (by omega) ?_)
        rw [k']
        (conv => whnf)
        refine ⟨S1.1 550 (by decide), ?_⟩
        refine hc _ _ _ _ (oc_cutToken (by omega) S1 (ZZf FF) (TPf FF) hn z (by omega) (by rw [x5]; exact c1) (by rw [x5]; exact c6) xp xv (fun h2 y1 yt yv F2 => ?_))
        have G2 : Fr fC h1 h2 := Fr_mo F2 (fun a j w => by unfold fC; omega)
        have S2 := Fr_Sh G2 S1
        have y6 : ab_I h2 550 6 = nI i := (F2.2.2.2.2 550 6 (fun w => by omega)).trans ((x5 6).trans c6)
        have y7 : ab_I h2 550 7 = nI 0 := (F2.2.2.2.2 550 7 (fun w => by omega)).trans ((x5 7).trans c7)
        (conv => whnf)
        refine ⟨S2.1 550 (by decide), ?_⟩
        (conv => whnf)
        rw [y6, nI_add]
        refine ⟨S2.1 550 (by decide), ?_⟩
        (conv => whnf)
        obtain ⟨h3, e3⟩ : ∃ h3, h3 = ab_sI h2 550 6 (nI (i + 1)) := ⟨_, rfl⟩
        have F3 : Fr fC h2 h3 := by rw [e3]; exact Fr_sI (Or.inl ⟨rfl, by omega⟩)
        have S3 := Fr_Sh F3 S2
        have u1 : ab_I h3 550 1 = nI (tkE b n (stP b n i)) := by rw [e3, rI_k _ _ _ (by decide)]; exact y1
        have u6 : ab_I h3 550 6 = nI (i + 1) := by rw [e3, rI_s]
        have u7 : ab_I h3 550 7 = nI 0 := by rw [e3, rI_k _ _ _ (by decide)]; exact y7
        have uj : ∀ j, j < i + 1 → ab_I h3 552 j = nI (stT b n j) ∧ ab_I h3 553 j = nI (stV b n j) ∧ ab_I h3 554 j = nI (stP b n j) := by
          intro j hj2
          rw [e3, rI_a _ _ _ _ (by decide), rI_a _ _ _ _ (by decide), rI_a _ _ _ _ (by decide)]
          by_cases ej : j = i
          · rw [ej]
            exact ⟨yt, yv, (F2.2.2.2.2 554 i (fun w => by omega)).trans xp⟩
          · have q := xj j (by omega)
            exact ⟨(F2.2.2.2.2 552 j (fun w => by omega)).trans q.1, (F2.2.2.2.2 553 j (fun w => by omega)).trans q.2.1, (F2.2.2.2.2 554 j (fun w => by omega)).trans q.2.2⟩
        have FG := Fr_tr FF (Fr_tr G2 F3)
        rw [← e3]
        clear e3
        refine ⟨S3.1 550 (by decide), ?_⟩
        (conv => whnf)
        rw [u1]
        refine ⟨S3.1 550 (by decide), ?_⟩
        refine hc _ _ _ _ (oc_behindBlanks (by omega) S3 (TPf FG) hn te.2 ?_)
        (conv => whnf)
        refine ⟨S3.1 550 (by decide), ?_⟩
        (conv => whnf)
        refine ih _ (by omega) (fun j hj2 => ?_) (rI_s _ _ _ _) ?_ ?_ (fun j hj2 => ?_) (Fr_tr FG (Fr_sI (Or.inl ⟨rfl, by omega⟩)))
        · by_cases ej : j = i
          · rw [ej]; exact z
          · exact hj j (by omega)
        · rw [rI_k _ _ _ (by decide)]; exact u6
        · rw [rI_k _ _ _ (by decide)]; exact u7
        · rw [rI_a _ _ _ _ (by decide), rI_a _ _ _ _ (by decide), rI_a _ _ _ _ (by decide)]; exact uj j hj2
      · exact fin i h' z hj c1 c6 c7 ct F'
  clear hq fin
  have S' := S
  refine ⟨S'.1 550 (by decide), ?_⟩
  (conv => whnf)
  refine ⟨S'.1 550 (by decide), ?_⟩
  (conv => whnf)
  refine ⟨S'.1 550 (by decide), ?_⟩
  have F1 : Fr fC h (ab_sI (ab_sI h 550 7 (nI 0)) 550 6 (nI 0)) := Fr_tr (Fr_sI (Or.inl ⟨rfl, by omega⟩)) (Fr_sI (Or.inl ⟨rfl, by omega⟩))
  have S1 := Fr_Sh F1 S
  refine hc _ _ _ _ (oc_behindBlanks (by omega) S1 (TPf F1) hn (Nat.zero_le _) ?_)
  (conv => whnf)
  refine ⟨S'.1 550 (by decide), ?_⟩
  (conv => whnf)
  refine lp n 0 _ (by omega) (fun j hj => by omega) (rI_s _ _ _ _) ?_ ?_ (fun j hj => by omega) (Fr_tr F1 (Fr_sI (Or.inl ⟨rfl, by omega⟩)))
  · rw [rI_k _ _ _ (by decide), rI_s]
  · rw [rI_k _ _ _ (by decide), rI_k _ _ _ (by decide), rI_s]
/-- the reference goes on by a token -/
theorem om_next (hd : 2 ≤ d) (S : Sh h) (hn : n ≤ 300) {i : Nat} (M : MT h b n i) (hq : ∀ h', MT h' b n (i + 1) → Fr fT h h' → Q none h') : ab_Ok d n_X12_nextToken [.ref 580] h Q := by
  have te : tkE b n (stP b n i) ≤ n := by
    rcases Nat.lt_or_ge (stP b n i) n with z | z
    · exact (tkE_b b z).2
    · have : stP b n i = n := by have := stP_b b n i; omega
      rw [this, tkE_e]
      exact Nat.le_refl _
  exact om_nextToken hd S M.1 hn te M.2.1 (fun h' y8 y7 T F => hq h' ⟨TP_fr F (fun w => by unfold fT at w; omega) (fun k w => by unfold fT at w; omega) M.1, y7, y8, T⟩ F)
theorem om_tok0 (hd : 2 ≤ d) (S : Sh h) (hn : n ≤ 300) (P : TP h 580 4 584 n b) (h7 : ab_I h 580 7 = nI 0) (hq : ∀ h', MT h' b n 0 → Fr fT h h' → Q none h') : ab_Ok d n_X12_nextToken [.ref 580] h Q :=
  om_nextToken hd S P hn (Nat.zero_le _) h7 (fun h' y8 y7 T F => hq h' ⟨TP_fr F (fun w => by unfold fT at w; omega) (fun k w => by unfold fT at w; omega) P, y7, y8, T⟩ F)
end TK
