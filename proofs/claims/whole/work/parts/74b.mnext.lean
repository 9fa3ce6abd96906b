/-! ===== contracts: the next token on the reference's side (mine) ===== -/
theorem RT_fr {P : Nat → Nat → Prop} {h h' : Hp} {t v : Nat} (F : Fr P h h') (h1 : ¬ P 580 9) (h2 : ¬ P 580 10) (hJ : ab_J h' 580 11 = ab_J h 580 11) (T : RT h t v) : RT h' t v := by
  unfold RT
  rw [F.2.2.2.2 580 9 h1, F.2.2.2.2 580 10 h2, hJ]
  exact T
theorem isD_0 (b : Nat → Nat) (n : Nat) {r j v : Nat} (h : ¬ (j < n ∧ isD (b j) = true)) : nmr b n r j v = v := by
  cases r with
  | zero => rfl
  | succ r => exact if_neg h
theorem isL_0 (b : Nat → Nat) (n : Nat) {r j v : Nat} (h : ¬ (j < n ∧ isL (b j) = true)) : wdr b n r j v = v := by
  cases r with
  | zero => rfl
  | succ r => exact if_neg h
section MN
variable {d : Nat} {h : Hp} {Q : Option Value → Hp → Prop} {n : Nat} {b : Nat → Nat}
theorem om_nextToken (hd : 2 ≤ d) (S : Sh h) (P : TP h 580 4 584 n b) (hn : n ≤ 300) {e : Nat} (he : e ≤ n) (ha : ab_I h 580 7 = nI e) (hq : ∀ h', ab_I h' 580 8 = nI (fw isB b n e) → ab_I h' 580 7 = nI (tkE b n (fw isB b n e)) → RT h' (tkT b n (fw isB b n e)) (tkV b n (fw isB b n e)) → Fr fT h h' → Q none h') : ab_Ok d n_X12_nextToken [.ref 580] h Q := by
  have hb : ∀ k, k < n → b k ≤ 255 := fun k hk => (P.2 k hk).2
  obtain ⟨k, ek⟩ : ∃ k, k = fw isB b n e := ⟨_, rfl⟩
  rw [← ek] at hq
  have kn : k ≤ n := by rw [ek]; exact (fw_b isB b he).2
  refine ab_go mr_X12_nextToken rfl (by omega) (fun call W hc hW => ?_); (conv => whnf)
  have TPf : ∀ {h'}, Fr fT h h' → TP h' 580 4 584 n b := fun F' => TP_fr F' (fun w => by unfold fT at w; omega) (fun k w => by unfold fT at w; omega) P
  have l2 : k < n → isD (b k) = true → ∀ r j v h', j + r = n → fw isD b n j = fw isD b n k → nmr b n r j v = nmr b n (n - k) k 0 → v < 1000000 → ab_I h' 580 7 = nI j → ab_I h' 580 8 = nI k → ab_I h' 580 9 = nI 1 → ab_I h' 580 10 = nI v → Fr fT h h' → W 85 [.ref 580] h' 0 0 := by
    intro kk dk
    have fin : ∀ j v h', j ≤ n → ¬ (j < n ∧ isD (b j) = true) → fw isD b n j = fw isD b n k → v = nmr b n (n - k) k 0 → v < 1000000 → ab_I h' 580 7 = nI j → ab_I h' 580 8 = nI k → ab_I h' 580 9 = nI 1 → ab_I h' 580 10 = nI v → Fr fT h h' → Q none h' := by
      intro j v h' hj hc' e1 e2 hv c7 c8 c9 c10 F'
      have t1 : tkE b n k = j := by
        unfold tkE
        rw [if_neg (by omega), if_pos dk, ← e1]
        exact fw_n hc'
      have t2 : tkT b n k = 130 := by
        unfold tkT
        rw [if_neg (by omega), if_pos dk]
      have t3 : tkV b n k = min 10000 v := by
        unfold tkV
        rw [if_neg (by omega), if_pos dk, e2]
        exact nv_nm b n (n - k) k 0 0 rfl
      rw [t1, t2, t3] at hq
      exact hq h' c8 c7 (Or.inr (Or.inl ⟨rfl, c9, v, c10, hv, rfl⟩)) F'
    clear hq
    intro r
    induction r with
    | zero =>
      intro j v h' e0 e1 e2 hv c7 c8 c9 c10 F'
      have S' := Fr_Sh F' S
      have fin := fin j v h' (by omega) (fun z => by omega) e1 e2 hv c7 c8 c9 c10 F'
      refine hW _ _ _ _ _ ?_
      (conv => whnf)
      refine ⟨S'.1 580 (by decide), ?_⟩
      (conv => whnf)
      rw [c7]
      refine ⟨S'.1 580 (by decide), ?_⟩
      refine hc _ _ _ _ (om_byteAt (by omega) S' (TPf F') hn (by omega) ?_)
      (conv => whnf)
      refine hc _ _ _ _ (om_isFigure (by omega) _ (fun z => ?_) (fun _ => ?_)) <;> (conv => whnf)
      · have := ((bI_rg hb (by omega) (by omega)).mp z).1
        omega
      · refine bT (by decide) ?_
        (conv => whnf)
        exact fin
    | succ r ih =>
      intro j v h' e0 e1 e2 hv c7 c8 c9 c10 F'
      have S' := Fr_Sh F' S
      by_cases dj : isD (b j) = true
      · clear fin
        have jb := hb j (by omega)
        have dj2 := (isD_i _).mp dj
        have e2 : nmr b n r (j + 1) (if 99999 < v then v else 10 * v + (b j - 48)) = nmr b n (n - k) k 0 := by
          rw [← e2]
          exact (if_pos ⟨by omega, dj⟩).symm
        have ih := fun v' (hv' : v' = if 99999 < v then v else 10 * v + (b j - 48)) (hv2 : v' < 1000000) h1 => ih (j + 1) v' h1 (by omega) ((fw_y (by omega) dj).symm.trans e1) (by rw [hv']; exact e2) hv2
        have bj : bI b n j = nI (b j) := if_pos (by omega)
        refine hW _ _ _ _ _ ?_
        (conv => whnf)
        refine ⟨S'.1 580 (by decide), ?_⟩
        (conv => whnf)
        rw [c7]
        refine ⟨S'.1 580 (by decide), ?_⟩
        refine hc _ _ _ _ (om_byteAt (by omega) S' (TPf F') hn (by omega) ?_)
        (conv => whnf)
        refine hc _ _ _ _ (om_isFigure (by omega) _ (fun z => ?_) (fun z => absurd ((bI_rg hb (by omega) (by omega)).mpr ⟨by omega, dj2.1, dj2.2⟩) z))
        (conv => whnf)
        refine bF (by decide) ?_
        (conv => whnf)
        refine ⟨S'.1 580 (by decide), ?_⟩
        (conv => whnf)
        rw [c10]
        refine ⟨fun f => ?_, fun f => ?_⟩ <;> rw [nI_leI (by omega) (by omega)] at f <;> (conv => whnf)
        · refine ⟨S'.1 580 (by decide), ?_⟩
          (conv => whnf)
          rw [c10]
          refine ⟨S'.1 580 (by decide), ?_⟩
          (conv => whnf)
          rw [c7]
          refine ⟨S'.1 580 (by decide), ?_⟩
          refine hc _ _ _ _ (om_byteAt (by omega) S' (TPf F') hn (by omega) ?_)
          rw [bj]
          (conv => whnf)
          refine ⟨S'.1 580 (by decide), ?_⟩
          (conv => whnf)
          rw [pk_mul, nI_add, pk_sub (by omega : 48 ≤ 10 * v + b j)]
          obtain ⟨h1, e3⟩ : ∃ h1, h1 = ab_sI h' 580 10 (nI (10 * v + b j - 48)) := ⟨_, rfl⟩
          have F1 : Fr fT h' h1 := by rw [e3]; exact Fr_sI ⟨rfl, by omega, by omega⟩
          have S1 := Fr_Sh F1 S'
          have d7 : ab_I h1 580 7 = nI j := by rw [e3, rI_k _ _ _ (by decide)]; exact c7
          have d8 : ab_I h1 580 8 = nI k := by rw [e3, rI_k _ _ _ (by decide)]; exact c8
          have d9 : ab_I h1 580 9 = nI 1 := by rw [e3, rI_k _ _ _ (by decide)]; exact c9
          have d10 : ab_I h1 580 10 = nI (10 * v + b j - 48) := by rw [e3, rI_s]
          rw [← e3]
          clear e3
          refine ⟨S1.1 580 (by decide), ?_⟩
          (conv => whnf)
          refine ⟨S1.1 580 (by decide), ?_⟩
          (conv => whnf)
          rw [d7, nI_add]
          refine ih (10 * v + b j - 48) (by rw [if_neg (by omega)]; omega) (by omega) _ (rI_s _ _ _ _) ?_ ?_ ?_ (Fr_tr F' (Fr_tr F1 (Fr_sI ⟨rfl, by omega, by omega⟩)))
          · rw [rI_k _ _ _ (by decide)]; exact d8
          · rw [rI_k _ _ _ (by decide)]; exact d9
          · rw [rI_k _ _ _ (by decide)]; exact d10
        · refine ⟨S'.1 580 (by decide), ?_⟩
          (conv => whnf)
          refine ⟨S'.1 580 (by decide), ?_⟩
          (conv => whnf)
          rw [c10]
          obtain ⟨h1, e3⟩ : ∃ h1, h1 = ab_sI h' 580 10 (nI v) := ⟨_, rfl⟩
          have F1 : Fr fT h' h1 := by rw [e3]; exact Fr_sI ⟨rfl, by omega, by omega⟩
          have S1 := Fr_Sh F1 S'
          have d7 : ab_I h1 580 7 = nI j := by rw [e3, rI_k _ _ _ (by decide)]; exact c7
          have d8 : ab_I h1 580 8 = nI k := by rw [e3, rI_k _ _ _ (by decide)]; exact c8
          have d9 : ab_I h1 580 9 = nI 1 := by rw [e3, rI_k _ _ _ (by decide)]; exact c9
          have d10 : ab_I h1 580 10 = nI v := by rw [e3, rI_s]
          rw [← e3]
          clear e3
          refine ⟨S1.1 580 (by decide), ?_⟩
          (conv => whnf)
          refine ⟨S1.1 580 (by decide), ?_⟩
          (conv => whnf)
          rw [d7, nI_add]
          refine ih v (by rw [if_pos (by omega)]) hv _ (rI_s _ _ _ _) ?_ ?_ ?_ (Fr_tr F' (Fr_tr F1 (Fr_sI ⟨rfl, by omega, by omega⟩)))
          · rw [rI_k _ _ _ (by decide)]; exact d8
          · rw [rI_k _ _ _ (by decide)]; exact d9
          · rw [rI_k _ _ _ (by decide)]; exact d10
      · have fin := fin j v h' (by omega) (fun z => dj z.2) e1 ((isD_0 b n (fun z => dj z.2)).symm.trans e2) hv c7 c8 c9 c10 F'
        clear ih
        refine hW _ _ _ _ _ ?_
        (conv => whnf)
        refine ⟨S'.1 580 (by decide), ?_⟩
        (conv => whnf)
        rw [c7]
        refine ⟨S'.1 580 (by decide), ?_⟩
        refine hc _ _ _ _ (om_byteAt (by omega) S' (TPf F') hn (by omega) ?_)
        (conv => whnf)
        refine hc _ _ _ _ (om_isFigure (by omega) _ (fun z => absurd ((isD_i _).mpr ((bI_rg hb (by omega) (by omega)).mp z).2) dj) (fun _ => ?_))
        (conv => whnf)
        refine bT (by decide) ?_
        (conv => whnf)
        exact fin
  have l3 : k < n → isD (b k) ≠ true → isL (b k) = true → ∀ r j w h', j + r = n → fw isL b n j = fw isL b n k → wdr b n r j w = wdr b n (n - k) k 0 → w ≤ 1152921504606846976 → ab_I h' 580 7 = nI j → ab_I h' 580 8 = nI k → ab_I h' 580 9 = nI 2 → ab_J h' 580 11 = lN w → Fr fT h h' → W 168 [.ref 580] h' 0 0 := by
    intro kk dk lk
    have fin : ∀ j w h', j ≤ n → ¬ (j < n ∧ isL (b j) = true) → fw isL b n j = fw isL b n k → w = wdr b n (n - k) k 0 → w ≤ 1152921504606846976 → ab_I h' 580 7 = nI j → ab_I h' 580 8 = nI k → ab_I h' 580 9 = nI 2 → ab_J h' 580 11 = lN w → Fr fT h h' → Q none h' := by
      intro j w h' hj hc' e1 e2 hv c7 c8 c9 c10 F'
      have t1 : tkE b n k = j := by
        unfold tkE
        rw [if_neg (by omega), if_neg dk, if_pos lk, ← e1]
        exact fw_n hc'
      have t2 : tkT b n k = tokW w := by
        unfold tkT
        rw [if_neg (by omega), if_neg dk, if_pos lk, e2]
      rw [t1, t2] at hq
      refine hq h' c8 c7 ?_ F'
      rcases tokW_b w with z | z
      · refine Or.inr (Or.inr (Or.inl ⟨z, c9, ?_⟩))
        rw [c10, ← (tokW_y z).mp rfl]
      · exact Or.inr (Or.inr (Or.inr (Or.inr (Or.inr (Or.inr ⟨z, Or.inr (Or.inr ⟨c9, w, c10, hv, z⟩)⟩)))))
    clear hq l2
    intro r
    induction r with
    | zero =>
      intro j w h' e0 e1 e2 hv c7 c8 c9 c10 F'
      have S' := Fr_Sh F' S
      have fin := fin j w h' (by omega) (fun z => by omega) e1 e2 hv c7 c8 c9 c10 F'
      refine hW _ _ _ _ _ ?_
      (conv => whnf)
      refine ⟨S'.1 580 (by decide), ?_⟩
      (conv => whnf)
      rw [c7]
      refine ⟨S'.1 580 (by decide), ?_⟩
      refine hc _ _ _ _ (om_byteAt (by omega) S' (TPf F') hn (by omega) ?_)
      (conv => whnf)
      refine hc _ _ _ _ (om_isLetterByte (by omega) _ (fun z => ?_) (fun _ => ?_)) <;> (conv => whnf)
      · rcases z with z | z
        · have := ((bI_rg hb (by omega) (by omega)).mp z).1
          omega
        · have := ((bI_rg hb (by omega) (by omega)).mp z).1
          omega
      · refine bT (by decide) ?_
        (conv => whnf)
        exact fin
    | succ r ih =>
      intro j w h' e0 e1 e2 hv c7 c8 c9 c10 F'
      have S' := Fr_Sh F' S
      by_cases dj : isL (b j) = true
      · clear fin
        have jb := hb j (by omega)
        have dj2 := (isL_i _).mp dj
        have e2 : wdr b n r (j + 1) (if w / 281474976710656 ≠ 0 then 1152921504606846976 else w * 256 + b j) = wdr b n (n - k) k 0 := by
          rw [← e2]
          exact (if_pos ⟨by omega, dj⟩).symm
        have ih := fun w' (hv' : w' = if w / 281474976710656 ≠ 0 then 1152921504606846976 else w * 256 + b j) (hv2 : w' ≤ 1152921504606846976) h1 => ih (j + 1) w' h1 (by omega) ((fw_y (by omega) dj).symm.trans e1) (by rw [hv']; exact e2) hv2
        have bj : bI b n j = nI (b j) := if_pos (by omega)
        have lj : (nI 97 ≤ bI b n j ∧ bI b n j ≤ nI 122) ∨ (nI 65 ≤ bI b n j ∧ bI b n j ≤ nI 90) := by
          rcases dj2 with y | y
          · exact Or.inl ((bI_rg hb (by omega) (by omega)).mpr ⟨by omega, y.1, y.2⟩)
          · exact Or.inr ((bI_rg hb (by omega) (by omega)).mpr ⟨by omega, y.1, y.2⟩)
        refine hW _ _ _ _ _ ?_
        (conv => whnf)
        refine ⟨S'.1 580 (by decide), ?_⟩
        (conv => whnf)
        rw [c7]
        refine ⟨S'.1 580 (by decide), ?_⟩
        refine hc _ _ _ _ (om_byteAt (by omega) S' (TPf F') hn (by omega) ?_)
        (conv => whnf)
        refine hc _ _ _ _ (om_isLetterByte (by omega) _ (fun z => ?_) (fun z => absurd lj z))
        (conv => whnf)
        refine bF (by decide) ?_
        (conv => whnf)
        refine ⟨S'.1 580 (by decide), ?_⟩
        (conv => whnf)
        rw [c10, lshr48 (by omega)]
        refine ⟨fun f => ?_, fun f => ?_⟩ <;> rw [lc_eq, lN_e (by omega) (by omega)] at f <;> (conv => whnf)
        · refine ⟨S'.1 580 (by decide), ?_⟩
          (conv => whnf)
          rw [c10, lshl8 (by omega)]
          refine ⟨S'.1 580 (by decide), ?_⟩
          (conv => whnf)
          rw [c7]
          refine ⟨S'.1 580 (by decide), ?_⟩
          refine hc _ _ _ _ (om_byteAt (by omega) S' (TPf F') hn (by omega) ?_)
          rw [bj]
          (conv => whnf)
          refine ⟨S'.1 580 (by decide), ?_⟩
          (conv => whnf)
          rw [lor8 jb]
          refine ⟨S'.1 580 (by decide), ?_⟩
          (conv => whnf)
          refine ⟨S'.1 580 (by decide), ?_⟩
          (conv => whnf)
          rw [show ab_I (ab_sJ h' 580 11 (lN (w * 256 + b j))) 580 7 = nI j from c7, nI_add]
          refine ih (w * 256 + b j) (by rw [if_neg (by omega)]) (by omega) _ (rI_s _ _ _ _) ?_ ?_ ?_ (Fr_tr F' (Fr_tr Fr_sJ (Fr_sI ⟨rfl, by omega, by omega⟩)))
          · rw [rI_k _ _ _ (by decide)]; exact c8
          · rw [rI_k _ _ _ (by decide)]; exact c9
          · exact rJ_s _ _ _ _
        · refine ⟨S'.1 580 (by decide), ?_⟩
          (conv => whnf)
          refine ⟨S'.1 580 (by decide), ?_⟩
          (conv => whnf)
          refine ⟨S'.1 580 (by decide), ?_⟩
          (conv => whnf)
          rw [show ab_I (ab_sJ h' 580 11 (lN 1152921504606846976)) 580 7 = nI j from c7, nI_add]
          refine ih 1152921504606846976 (by rw [if_pos (by omega)]) (by omega) _ (rI_s _ _ _ _) ?_ ?_ ?_ (Fr_tr F' (Fr_tr Fr_sJ (Fr_sI ⟨rfl, by omega, by omega⟩)))
          · rw [rI_k _ _ _ (by decide)]; exact c8
          · rw [rI_k _ _ _ (by decide)]; exact c9
          · exact rJ_s _ _ _ _
      · have fin := fin j w h' (by omega) (fun z => dj z.2) e1 ((isL_0 b n (fun z => dj z.2)).symm.trans e2) hv c7 c8 c9 c10 F'
        clear ih
        refine hW _ _ _ _ _ ?_
        (conv => whnf)
        refine ⟨S'.1 580 (by decide), ?_⟩
        (conv => whnf)
        rw [c7]
        refine ⟨S'.1 580 (by decide), ?_⟩
        refine hc _ _ _ _ (om_byteAt (by omega) S' (TPf F') hn (by omega) ?_)
        (conv => whnf)
        refine hc _ _ _ _ (om_isLetterByte (by omega) _ (fun z => absurd ((isL_i _).mpr ?_) dj) (fun _ => ?_))
        · rcases z with z | z
          · exact Or.inl ((bI_rg hb (by omega) (by omega)).mp z).2
          · exact Or.inr ((bI_rg hb (by omega) (by omega)).mp z).2
        · (conv => whnf)
          refine bT (by decide) ?_
          (conv => whnf)
          exact fin
  have fS : k < n → isD (b k) ≠ true → isL (b k) ≠ true → ∀ h', ab_I h' 580 8 = nI k → (((b k = 60 ∨ b k = 62) ∧ bI b n (k + 1) = nI 61 ∧ ab_I h' 580 7 = nI (k + 2) ∧ ab_I h' 580 9 = (if b k = 60 then nI 4 else nI 5)) ∨ (¬ ((b k = 60 ∨ b k = 62) ∧ bI b n (k + 1) = nI 61) ∧ ab_I h' 580 7 = nI (k + 1) ∧ ((b k ∈ sgs ∨ b k = 58) ∧ ab_I h' 580 9 = nI (b k) ∨ ¬ (b k ∈ sgs ∨ b k = 58) ∧ ab_I h' 580 9 = nI 3))) → Fr fT h h' → Q none h' := by
    intro kk dk lk h' c8 cc F'
    have kb := hb k kk
    have eb : bI b n (k + 1) = nI 61 ↔ bA b n (k + 1) = 61 := by
      rw [bI_eq hb (by omega)]
      unfold bA
      constructor
      · intro z; rw [if_pos z.1]; exact z.2
      · intro z
        by_cases y : k + 1 < n
        · rw [if_pos y] at z; exact ⟨y, z⟩
        · rw [if_neg y] at z; omega
    have t2 : tkT b n k = sg (b k) (bA b n (k + 1)) := by
      unfold tkT
      rw [if_neg (by omega), if_neg dk, if_neg lk]
    have t1 : tkE b n k = if sg (b k) (bA b n (k + 1)) = 128 ∨ sg (b k) (bA b n (k + 1)) = 129 then k + 2 else k + 1 := by
      unfold tkE
      rw [if_neg (by omega), if_neg dk, if_neg lk]
    have t3 := sg_b (b k) (bA b n (k + 1))
    rw [t2, t1] at hq
    rcases cc with ⟨c1, c2, c3, c4⟩ | ⟨c1, c3, c4⟩
    · have c2 := eb.mp c2
      rcases c1 with c1 | c1
      · have es : sg (b k) (bA b n (k + 1)) = 128 := by unfold sg; rw [if_pos ⟨c2, c1⟩]
        rw [es, if_pos (Or.inl rfl)] at hq
        rw [if_pos c1] at c4
        exact hq h' c8 c3 (Or.inr (Or.inr (Or.inr (Or.inl ⟨rfl, c4⟩)))) F'
      · have es : sg (b k) (bA b n (k + 1)) = 129 := by unfold sg; rw [if_neg (fun z => by omega), if_pos ⟨c2, c1⟩]
        rw [es, if_pos (Or.inr rfl)] at hq
        rw [if_neg (by omega)] at c4
        exact hq h' c8 c3 (Or.inr (Or.inr (Or.inr (Or.inr (Or.inl ⟨rfl, c4⟩))))) F'
    · have n1 : sg (b k) (bA b n (k + 1)) ≠ 128 := fun z => c1 ⟨Or.inl (t3.1 z).1, eb.mpr (t3.1 z).2⟩
      have n2 : sg (b k) (bA b n (k + 1)) ≠ 129 := fun z => c1 ⟨Or.inr (t3.2.1 z).1, eb.mpr (t3.2.1 z).2⟩
      rw [if_neg (fun z => z.elim n1 n2)] at hq
      refine hq h' c8 c3 ?_ F'
      rcases t3.2.2 n1 n2 with ⟨y1, y2⟩ | ⟨y1, y2⟩
      · rcases c4 with ⟨_, z⟩ | ⟨z, _⟩
        · rw [y1]
          exact Or.inr (Or.inr (Or.inr (Or.inr (Or.inr (Or.inl ⟨y2, z⟩)))))
        · exact absurd (Or.inl y2) z
      · rw [y1]
        refine Or.inr (Or.inr (Or.inr (Or.inr (Or.inr (Or.inr ⟨rfl, ?_⟩)))))
        rcases c4 with ⟨z1, z⟩ | ⟨z1, z⟩
        · rcases z1 with z1 | z1
          · exact absurd z1 y2
          · rw [z1] at z
            exact Or.inr (Or.inl z)
        · exact Or.inl z
  have fE : k = n → ∀ h', ab_I h' 580 8 = nI k → ab_I h' 580 7 = nI k → ab_I h' 580 9 = nI 0 → Fr fT h h' → Q none h' := by
    intro kk h' c8 c7 c9 F'
    have t1 : tkE b n k = k := by unfold tkE; rw [if_pos (by omega)]
    have t2 : tkT b n k = 131 := by unfold tkT; rw [if_pos (by omega)]
    rw [t1, t2] at hq
    exact hq h' c8 c7 (Or.inl ⟨rfl, c9⟩) F'
  clear hq
  have l1 : ∀ r j h', j + r = n → fw isB b n j = k → ab_I h' 580 7 = nI j → Fr fT h h' → W 0 [.ref 580] h' 0 0 := by
    intro r
    induction r with
    | zero =>
      intro j h' e0 e1 c7 F'
      have S' := Fr_Sh F' S
      have ej : j = k := by rw [← e1]; exact (fw_n (fun z => by omega)).symm
      have nb : ∀ c, c ≤ 255 → ¬ bI b n j = nI c := fun c hc z => by
        have := ((bI_eq hb hc).mp z).1
        omega
      have bm : bI b n j = -1 := if_neg (by omega)
      subst ej
      clear l2 l3 fS
      refine hW _ _ _ _ _ ?_
      (conv => whnf)
      refine ⟨S'.1 580 (by decide), ?_⟩
      (conv => whnf)
      rw [c7]
      refine ⟨S'.1 580 (by decide), ?_⟩
      refine hc _ _ _ _ (om_byteAt (by omega) S' (TPf F') hn (by omega) ?_)
      (conv => whnf)
      refine bF (nb 32 (by omega)) ?_
      (conv => whnf)
      refine ⟨S'.1 580 (by decide), ?_⟩
      (conv => whnf)
      rw [c7]
      refine ⟨S'.1 580 (by decide), ?_⟩
      refine hc _ _ _ _ (om_byteAt (by omega) S' (TPf F') hn (by omega) ?_)
      (conv => whnf)
      refine bN (nb 10 (by omega)) ?_
      (conv => whnf)
      refine ⟨S'.1 580 (by decide), ?_⟩
      (conv => whnf)
      rw [c7]
      refine ⟨S'.1 580 (by decide), ?_⟩
      (conv => whnf)
      obtain ⟨h1, e3⟩ : ∃ h1, h1 = ab_sI h' 580 8 (nI j) := ⟨_, rfl⟩
      have F1 : Fr fT h' h1 := by rw [e3]; exact Fr_sI ⟨rfl, by omega, by omega⟩
      have S1 := Fr_Sh F1 S'
      have d7 : ab_I h1 580 7 = nI j := by rw [e3, rI_k _ _ _ (by decide)]; exact c7
      have d8 : ab_I h1 580 8 = nI j := by rw [e3, rI_s]
      rw [← e3]
      clear e3
      refine ⟨S1.1 580 (by decide), ?_⟩
      (conv => whnf)
      rw [d7]
      refine ⟨S1.1 580 (by decide), ?_⟩
      refine hc _ _ _ _ (om_byteAt (by omega) S1 (TPf (Fr_tr F' F1)) hn (by omega) ?_)
      rw [bm]
      (conv => whnf)
      refine bF (by decide) ?_
      (conv => whnf)
      refine ⟨S1.1 580 (by decide), ?_⟩
      (conv => whnf)
      refine fE (by omega) _ ?_ ?_ (rI_s _ _ _ _) (Fr_tr F' (Fr_tr F1 (Fr_sI ⟨rfl, by omega, by omega⟩)))
      · rw [rI_k _ _ _ (by decide)]; exact d8
      · rw [rI_k _ _ _ (by decide)]; exact d7
    | succ r ih =>
      intro j h' e0 e1 c7 F'
      have S' := Fr_Sh F' S
      have jb := hb j (by omega)
      have bj : bI b n j = nI (b j) := if_pos (by omega)
      have eqc : ∀ c, c ≤ 255 → (bI b n j = nI c ↔ b j = c) := fun c hc => by
        rw [bI_eq hb hc]
        exact ⟨fun z => z.2, fun z => ⟨by omega, z⟩⟩
      by_cases bl : isB (b j) = true
      · have e1 := (fw_y (by omega) bl).symm.trans e1
        have bl := (isB_i _).mp bl
        have ih := ih (j + 1) (ab_sI h' 580 7 (nI (j + 1))) (by omega) e1 (rI_s _ _ _ _) (Fr_tr F' (Fr_sI ⟨rfl, by omega, by omega⟩))
        clear l2 l3 fS fE
        refine hW _ _ _ _ _ ?_
        (conv => whnf)
        refine ⟨S'.1 580 (by decide), ?_⟩
        (conv => whnf)
        rw [c7]
        refine ⟨S'.1 580 (by decide), ?_⟩
        refine hc _ _ _ _ (om_byteAt (by omega) S' (TPf F') hn (by omega) ?_)
        (conv => whnf)
        refine ⟨fun f => ?_, fun f => ?_⟩ <;> rw [eqc 32 (by omega)] at f <;> (conv => whnf)
        · refine ⟨S'.1 580 (by decide), ?_⟩
          (conv => whnf)
          refine ⟨S'.1 580 (by decide), ?_⟩
          (conv => whnf)
          rw [c7, nI_add]
          exact ih
        · refine ⟨S'.1 580 (by decide), ?_⟩
          (conv => whnf)
          rw [c7]
          refine ⟨S'.1 580 (by decide), ?_⟩
          refine hc _ _ _ _ (om_byteAt (by omega) S' (TPf F') hn (by omega) ?_)
          (conv => whnf)
          refine bP ((eqc 10 (by omega)).mpr (by omega)) ?_
          (conv => whnf)
          refine ⟨S'.1 580 (by decide), ?_⟩
          (conv => whnf)
          refine ⟨S'.1 580 (by decide), ?_⟩
          (conv => whnf)
          rw [c7, nI_add]
          exact ih
      · have ej : j = k := by rw [← e1]; exact (fw_n (fun z => bl z.2)).symm
        have bl : ¬ (b j = 32 ∨ b j = 10) := fun z => bl ((isB_i _).mpr z)
        subst ej
        clear ih fE
        refine hW _ _ _ _ _ ?_
        (conv => whnf)
        refine ⟨S'.1 580 (by decide), ?_⟩
        (conv => whnf)
        rw [c7]
        refine ⟨S'.1 580 (by decide), ?_⟩
        refine hc _ _ _ _ (om_byteAt (by omega) S' (TPf F') hn (by omega) ?_)
        (conv => whnf)
        refine bF (fun z => bl (Or.inl ((eqc 32 (by omega)).mp z))) ?_
        (conv => whnf)
        refine ⟨S'.1 580 (by decide), ?_⟩
        (conv => whnf)
        rw [c7]
        refine ⟨S'.1 580 (by decide), ?_⟩
        refine hc _ _ _ _ (om_byteAt (by omega) S' (TPf F') hn (by omega) ?_)
        (conv => whnf)
        refine bN (fun z => bl (Or.inr ((eqc 10 (by omega)).mp z))) ?_
        (conv => whnf)
        refine ⟨S'.1 580 (by decide), ?_⟩
        (conv => whnf)
        rw [c7]
        refine ⟨S'.1 580 (by decide), ?_⟩
        (conv => whnf)
        obtain ⟨h1, e3⟩ : ∃ h1, h1 = ab_sI h' 580 8 (nI j) := ⟨_, rfl⟩
        have F1 : Fr fT h' h1 := by rw [e3]; exact Fr_sI ⟨rfl, by omega, by omega⟩
        have S1 := Fr_Sh F1 S'
        have d7 : ab_I h1 580 7 = nI j := by rw [e3, rI_k _ _ _ (by decide)]; exact c7
        have d8 : ab_I h1 580 8 = nI j := by rw [e3, rI_s]
        have F2 := Fr_tr F' F1
        rw [← e3]
        clear e3 F1 c7 S'
        refine ⟨S1.1 580 (by decide), ?_⟩
        (conv => whnf)
        rw [d7]
        refine ⟨S1.1 580 (by decide), ?_⟩
        refine hc _ _ _ _ (om_byteAt (by omega) S1 (TPf F2) hn (by omega) ?_)
        rw [bj]
        (conv => whnf)
        refine bT (by rw [z0, nI_leI (by omega) (by omega)]; omega) ?_
        (conv => whnf)
        refine hc _ _ _ _ (om_isFigure (by omega) _ (fun z => ?_) (fun z => ?_)) <;> rw [← bj, bI_rg hb (by omega) (by omega)] at z <;> (conv => whnf)
        · refine bF (by decide) ?_
          (conv => whnf)
          have l2 := l2 (by omega) ((isD_i _).mpr z.2) (r + 1) j 0 (ab_sI (ab_sI h1 580 9 (nI 1)) 580 10 (nI 0)) (by omega) rfl (by rw [show r + 1 = n - j by omega]) (by omega) ?_ ?_ ?_ (rI_s _ _ _ _) (Fr_tr F2 (Fr_tr (Fr_sI ⟨rfl, by omega, by omega⟩) (Fr_sI ⟨rfl, by omega, by omega⟩)))
          · refine ⟨S1.1 580 (by decide), ?_⟩
            (conv => whnf)
            refine ⟨S1.1 580 (by decide), ?_⟩
            (conv => whnf)
            exact l2
          · rw [rI_k _ _ _ (by decide), rI_k _ _ _ (by decide)]; exact d7
          · rw [rI_k _ _ _ (by decide), rI_k _ _ _ (by decide)]; exact d8
          · rw [rI_k _ _ _ (by decide), rI_s]
        · have dk : isD (b j) ≠ true := fun y => z ⟨by omega, (isD_i _).mp y⟩
          clear l2
          refine bT (by decide) ?_
          (conv => whnf)
          refine hc _ _ _ _ (om_isLetterByte (by omega) _ (fun y => ?_) (fun y => ?_)) <;> (conv => whnf)
          · have lk : isL (b j) = true := by
              refine (isL_i _).mpr ?_
              rw [← bj] at y
              rcases y with y | y
              · exact Or.inl ((bI_rg hb (by omega) (by omega)).mp y).2
              · exact Or.inr ((bI_rg hb (by omega) (by omega)).mp y).2
            refine bF (by decide) ?_
            (conv => whnf)
            have l3 := l3 (by omega) dk lk (r + 1) j 0 (ab_sJ (ab_sI h1 580 9 (nI 2)) 580 11 (lN 0)) (by omega) rfl (by rw [show r + 1 = n - j by omega]) (by omega) ?_ ?_ (show ab_I (ab_sI h1 580 9 (nI 2)) 580 9 = nI 2 from rI_s _ _ _ _) (rJ_s _ _ _ _) (Fr_tr F2 (Fr_tr (Fr_sI ⟨rfl, by omega, by omega⟩) Fr_sJ))
            · refine ⟨S1.1 580 (by decide), ?_⟩
              (conv => whnf)
              refine ⟨S1.1 580 (by decide), ?_⟩
              (conv => whnf)
              exact l3
            · show ab_I (ab_sI h1 580 9 (nI 2)) 580 7 = _
              rw [rI_k _ _ _ (by decide)]; exact d7
            · show ab_I (ab_sI h1 580 9 (nI 2)) 580 8 = _
              rw [rI_k _ _ _ (by decide)]; exact d8
          · have lk : isL (b j) ≠ true := fun w => y (by
              rcases (isL_i _).mp w with w | w
              · exact Or.inl (by rw [nI_leI (by omega) (by omega), nI_leI (by omega) (by omega)]; exact w)
              · exact Or.inr (by rw [nI_leI (by omega) (by omega), nI_leI (by omega) (by omega)]; exact w))
            have fS := fS (by omega) dk lk
            clear l3
            refine bT (by decide) ?_
            (conv => whnf)
            have tail : ∀ h2 x, ab_I h2 580 9 = x → ((b j ∈ sgs ∨ b j = 58) ∧ x = nI (b j) ∨ ¬ (b j ∈ sgs ∨ b j = 58) ∧ x = nI 3) → ab_I h2 580 8 = nI j → ab_I h2 580 7 = nI (j + 1) → Fr fT h h2 → (¬ ((b j = 60 ∨ b j = 62) ∧ bI b n (j + 1) = nI 61) → Q none h2) ∧ ((b j = 60 ∨ b j = 62) ∧ bI b n (j + 1) = nI 61 → Q none (ab_sI (ab_sI h2 580 9 (if b j = 60 then nI 4 else nI 5)) 580 7 (nI (j + 2)))) := by
              intro h2 x y9 yx y8 y7 Fy
              refine ⟨fun z => fS h2 y8 (Or.inr ⟨z, y7, by rw [y9]; exact yx⟩) Fy, fun z => fS _ ?_ (Or.inl ⟨z.1, z.2, rI_s _ _ _ _, ?_⟩) (Fr_tr Fy (Fr_tr (Fr_sI ⟨rfl, by omega, by omega⟩) (Fr_sI ⟨rfl, by omega, by omega⟩)))⟩
              · rw [rI_k _ _ _ (by decide), rI_k _ _ _ (by decide)]; exact y8
              · rw [rI_k _ _ _ (by decide), rI_s]
            clear fS
            have both : ∀ x, ((b j ∈ sgs ∨ b j = 58) ∧ x = nI (b j) ∨ ¬ (b j ∈ sgs ∨ b j = 58) ∧ x = nI 3) → ∃ h2, h2 = ab_sI (ab_sI h1 580 9 x) 580 7 (nI (j + 1)) ∧ Sh h2 ∧ ab_I h2 580 7 = nI (j + 1) ∧ Fr fT h h2 ∧ (¬ ((b j = 60 ∨ b j = 62) ∧ bI b n (j + 1) = nI 61) → Q none h2) ∧ ((b j = 60 ∨ b j = 62) ∧ bI b n (j + 1) = nI 61 → Q none (ab_sI (ab_sI h2 580 9 (if b j = 60 then nI 4 else nI 5)) 580 7 (nI (j + 2)))) := by
              intro x yx
              have Fy : Fr fT h1 (ab_sI (ab_sI h1 580 9 x) 580 7 (nI (j + 1))) := Fr_tr (Fr_sI ⟨rfl, by omega, by omega⟩) (Fr_sI ⟨rfl, by omega, by omega⟩)
              refine ⟨_, rfl, Fr_Sh Fy S1, rI_s _ _ _ _, Fr_tr F2 Fy, tail _ x ?_ yx ?_ (rI_s _ _ _ _) (Fr_tr F2 Fy)⟩
              · rw [rI_k _ _ _ (by decide), rI_s]
              · rw [rI_k _ _ _ (by decide), rI_k _ _ _ (by decide)]; exact d8
            clear tail
            have e61 : bI b n (j + 1) = nI 61 ∨ bI b n (j + 1) ≠ nI 61 := Classical.em _
            refine hc _ _ _ _ (om_isSign (by omega) jb (fun sy => ?_) (fun sn => ?_)) <;> (conv => whnf)
            · refine bF (by decide) ?_
              (conv => whnf)
              obtain ⟨h2, e3, S2, y7, Fy, q1, q2⟩ := both (nI (b j)) (Or.inl ⟨sy, rfl⟩)
              refine ⟨S1.1 580 (by decide), ?_⟩
              (conv => whnf)
              refine ⟨S1.1 580 (by decide), ?_⟩
              (conv => whnf)
              refine ⟨S1.1 580 (by decide), ?_⟩
              (conv => whnf)
              rw [rI_k _ _ _ (by decide), d7, nI_add, ← e3]
              clear e3
              refine ⟨fun f => ?_, fun f => ?_⟩ <;> rw [nI_eq (by omega) (by omega)] at f <;> (conv => whnf)
              · refine ⟨S2.1 580 (by decide), ?_⟩
                (conv => whnf)
                rw [y7]
                refine ⟨S2.1 580 (by decide), ?_⟩
                refine hc _ _ _ _ (om_byteAt (by omega) S2 (TPf Fy) hn (by omega) ?_)
                (conv => whnf)
                refine ⟨fun g => ?_, fun g => ?_⟩ <;> (conv => whnf)
                · exact q1 (fun w => g w.2)
                · have q2 := q2 ⟨Or.inl f, g⟩
                  rw [if_pos f] at q2
                  refine bP (by rw [nI_eq (by omega) (by omega)]; omega) ?_
                  (conv => whnf)
                  refine ⟨S2.1 580 (by decide), ?_⟩
                  (conv => whnf)
                  refine ⟨S2.1 580 (by decide), ?_⟩
                  (conv => whnf)
                  refine ⟨S2.1 580 (by decide), ?_⟩
                  (conv => whnf)
                  rw [rI_k _ _ _ (by decide), y7, nI_add]
                  exact q2
              · refine ⟨fun f2 => ?_, fun f2 => ?_⟩ <;> rw [nI_eq (by omega) (by omega)] at f2 <;> (conv => whnf)
                · exact q1 (fun w => by omega)
                · refine ⟨S2.1 580 (by decide), ?_⟩
                  (conv => whnf)
                  rw [y7]
                  refine ⟨S2.1 580 (by decide), ?_⟩
                  refine hc _ _ _ _ (om_byteAt (by omega) S2 (TPf Fy) hn (by omega) ?_)
                  (conv => whnf)
                  refine ⟨fun g => ?_, fun g => ?_⟩ <;> (conv => whnf)
                  · exact q1 (fun w => g w.2)
                  · have q2 := q2 ⟨Or.inr f2, g⟩
                    rw [if_neg (by omega)] at q2
                    refine bN (by rw [nI_eq (by omega) (by omega)]; omega) ?_
                    (conv => whnf)
                    refine ⟨S2.1 580 (by decide), ?_⟩
                    (conv => whnf)
                    refine ⟨S2.1 580 (by decide), ?_⟩
                    (conv => whnf)
                    refine ⟨S2.1 580 (by decide), ?_⟩
                    (conv => whnf)
                    rw [rI_k _ _ _ (by decide), y7, nI_add]
                    exact q2
            · refine bT (by decide) ?_
              (conv => whnf)
              obtain ⟨h2, e3, S2, y7, Fy, q1, q2⟩ := both (nI 3) (Or.inr ⟨sn, rfl⟩)
              refine ⟨S1.1 580 (by decide), ?_⟩
              (conv => whnf)
              refine ⟨S1.1 580 (by decide), ?_⟩
              (conv => whnf)
              refine ⟨S1.1 580 (by decide), ?_⟩
              (conv => whnf)
              rw [rI_k _ _ _ (by decide), d7, nI_add, ← e3]
              clear e3
              refine ⟨fun f => ?_, fun f => ?_⟩ <;> rw [nI_eq (by omega) (by omega)] at f <;> (conv => whnf)
              · refine ⟨S2.1 580 (by decide), ?_⟩
                (conv => whnf)
                rw [y7]
                refine ⟨S2.1 580 (by decide), ?_⟩
                refine hc _ _ _ _ (om_byteAt (by omega) S2 (TPf Fy) hn (by omega) ?_)
                (conv => whnf)
                refine ⟨fun g => ?_, fun g => ?_⟩ <;> (conv => whnf)
                · exact q1 (fun w => g w.2)
                · have q2 := q2 ⟨Or.inl f, g⟩
                  rw [if_pos f] at q2
                  refine bP (by rw [nI_eq (by omega) (by omega)]; omega) ?_
                  (conv => whnf)
                  refine ⟨S2.1 580 (by decide), ?_⟩
                  (conv => whnf)
                  refine ⟨S2.1 580 (by decide), ?_⟩
                  (conv => whnf)
                  refine ⟨S2.1 580 (by decide), ?_⟩
                  (conv => whnf)
                  rw [rI_k _ _ _ (by decide), y7, nI_add]
                  exact q2
              · refine ⟨fun f2 => ?_, fun f2 => ?_⟩ <;> rw [nI_eq (by omega) (by omega)] at f2 <;> (conv => whnf)
                · exact q1 (fun w => by omega)
                · refine ⟨S2.1 580 (by decide), ?_⟩
                  (conv => whnf)
                  rw [y7]
                  refine ⟨S2.1 580 (by decide), ?_⟩
                  refine hc _ _ _ _ (om_byteAt (by omega) S2 (TPf Fy) hn (by omega) ?_)
                  (conv => whnf)
                  refine ⟨fun g => ?_, fun g => ?_⟩ <;> (conv => whnf)
                  · exact q1 (fun w => g w.2)
                  · have q2 := q2 ⟨Or.inr f2, g⟩
                    rw [if_neg (by omega)] at q2
                    refine bN (by rw [nI_eq (by omega) (by omega)]; omega) ?_
                    (conv => whnf)
                    refine ⟨S2.1 580 (by decide), ?_⟩
                    (conv => whnf)
                    refine ⟨S2.1 580 (by decide), ?_⟩
                    (conv => whnf)
                    refine ⟨S2.1 580 (by decide), ?_⟩
                    (conv => whnf)
                    rw [rI_k _ _ _ (by decide), y7, nI_add]
                    exact q2
  exact l1 (n - e) e h (by omega) ek.symm ha Fr_re
end MN
