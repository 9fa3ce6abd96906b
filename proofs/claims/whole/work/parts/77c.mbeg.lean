/-! ===== contracts: the reference's reader, one begins, what stands behind one (mine) ===== -/
theorem MRd_nx {h1 h2 : Hp} {b : Nat → Nat} {n B w0 lw : Nat} {wr : List (Nat × Nat)} {p : List Nat} {o i j w : Nat} (M1 : MRd h1 b n B w0 lw wr p o i w) (T2 : MT h2 b n j) (F2 : Fr fT h1 h2) : MRd h2 b n B w0 lw wr p o j w := by
  have f5 : ∀ k, (k < 7 ∨ 10 < k) → ab_I h2 580 k = ab_I h1 580 k := fun k hk => F2.2.2.2.2 580 k (fun z => by unfold fT at z; omega)
  exact ⟨T2, (f5 12 (by omega)).trans M1.2.1, (f5 13 (by omega)).trans M1.2.2.1, (f5 14 (by omega)).trans M1.2.2.2.1, (f5 16 (by omega)).trans M1.2.2.2.2.1, (f5 17 (by omega)).trans M1.2.2.2.2.2.1, (f5 18 (by omega)).trans M1.2.2.2.2.2.2.1, PL_eq (fun k _ => F2.2.2.2.2 585 k (fun z => by unfold fT at z; omega)) M1.2.2.2.2.2.2.2.1, MSeg_eq M1.2.2.2.2.2.2.2.2 (fun k _ => F2.2.2.2.2 583 k (fun z => by unfold fT at z; omega))⟩
theorem fTM2 {h h' : Hp} {B w0 : Nat} (F : Fr fT h h') : Fr (fMr B w0) h h' := Fr_mo F (fun a k z => by unfold fT at z; unfold fMr; omega)
theorem MRd_w {h : Hp} {b : Nat → Nat} {n B w0 lw : Nat} {wr : List (Nat × Nat)} {p : List Nat} {o i w : Nat} (M : MRd h b n B w0 lw wr p o i w) (w' : Nat) : MRd (ab_sI h 580 18 (nI w')) b n B w0 lw wr p o i w' ∧ Fr (fMr B w0) h (ab_sI h 580 18 (nI w')) := by
  have F : Fr (fun a k => a = 580 ∧ k = 18) h (ab_sI h 580 18 (nI w')) := Fr_sI ⟨rfl, rfl⟩
  refine ⟨MRd_up M F rfl (fun k hk z => by omega) (fun k z => by omega) ((F.2.2.2.2 580 13 (fun z => by omega)).trans M.2.2.1) ((F.2.2.2.2 580 16 (fun z => by omega)).trans M.2.2.2.2.1) ((F.2.2.2.2 580 17 (fun z => by omega)).trans M.2.2.2.2.2.1) (rI_s _ _ _ _) (PL_eq (fun k _ => F.2.2.2.2 585 k (fun z => by omega)) M.2.2.2.2.2.2.2.1) (MSeg_eq M.2.2.2.2.2.2.2.2 (fun k _ => F.2.2.2.2 583 k (fun z => by omega))), Fr_mo F (fun a k z => by unfold fMr; omega)⟩
/-- what opens by a token -/
def opx (t : Nat) (p : List Nat) (x : Nat) : Prop := (t = 40 ∧ x = 40) ∨ (t = 45 ∧ x = 5) ∨ (t = 28 ∧ x = 4) ∨ (t = 29 ∧ x = 2) ∨ (t = 21 ∧ x = 41) ∨ (t = 27 ∧ opN p = 41 ∧ tpA p ∧ x = 20)
section MB
variable {d : Nat} {h : Hp} {Q : Option Value → Hp → Prop} {n B w0 lw : Nat} {b : Nat → Nat} {wr : List (Nat × Nat)} {p : List Nat} {o i w : Nat}
theorem om_beginOne (hd : 9 ≤ d) (S : Sh h) (hn : n ≤ 300) (hB : B ≤ 2115) (hlw : lw ≤ 2) (M : MRd h b n B w0 lw wr p o i w) (hp : p.length ≤ 158) (hw : w0 + wr.length + p.length ≤ 302) (ho : o ≤ 8) (hs : stlN 7 p ≤ o)
    (n2 : stT b n i = 130 → 9999 < stV b n i → Q (some (.int (nI 2))) h)
    (n5 : 8 ≤ stT b n i ∧ stT b n i ≤ 17 → 15 ≤ stT b n i ∧ lw ≠ 1 → Q (some (.int (nI 5))) h)
    (ok : ∀ x v, (stT b n i = 130 ∧ ¬ 9999 < stV b n i ∧ x = 0 ∧ v = stV b n i) ∨ ((8 ≤ stT b n i ∧ stT b n i ≤ 17) ∧ ¬ (15 ≤ stT b n i ∧ lw ≠ 1) ∧ x = 1 ∧ v = nmM (stT b n i)) → ∀ h', MRd h' b n B w0 lw (wr ++ [(x, v)] ++ stlW 7 p) (stlP 7 p) (o - stlN 7 p) (i + 1) 1 → Fr (fMr B w0) h h' → Q (some (.int (nI 0))) h')
    (n3 : ∀ x, opx (stT b n i) p x → o = 8 → Q (some (.int (nI 3))) h)
    (op : ∀ x, opx (stT b n i) p x → o ≠ 8 → ∀ h', MRd h' b n B w0 lw wr (x :: p) (o + 1) (i + 1) w → Fr (fMr B w0) h h' → Q (some (.int (nI 0))) h')
    (n1 : stT b n i ≠ 130 → ¬ (8 ≤ stT b n i ∧ stT b n i ≤ 17) → (∀ x, ¬ opx (stT b n i) p x) → Q (some (.int (nI 1))) h) : ab_Ok d n_X12_beginOne [.ref 580] h Q := by
  have T := M.1.2.2.2
  have c14 := M.2.2.2.1
  have c16 := M.2.2.2.2.1
  have P := M.2.2.2.2.2.2.2.1
  obtain ⟨k1, _, _, _, ks⟩ := RT_c T
  have tb' := stT_b b n i
  obtain ⟨t, et⟩ : ∃ t, t = stT b n i := ⟨_, rfl⟩
  have vm : t = 130 → ∃ m, ab_I h 580 10 = nI m ∧ m < 1000000 ∧ stV b n i = min 10000 m := by
    intro e
    rw [← et] at T
    have sg63 : ∀ c, c ∈ sgs → 34 < c ∧ c < 63 ∧ c ≠ 58 := by decide
    rcases T with y | y | y | y | y | y | y
    · omega
    · exact y.2.2
    · omega
    · omega
    · omega
    · have := sg63 _ y.1; omega
    · omega
  rw [← et] at n2 n5 ok n3 op n1 T k1 ks tb'
  have S' := S
  refine ab_go mr_X12_beginOne rfl (by omega) (fun call W hc hW => ?_); (conv => whnf)
  refine ⟨S'.1 580 (by decide), ?_⟩
  (conv => whnf)
  by_cases t1 : t = 130
  · obtain ⟨m, c10, mb, mv⟩ := vm t1
    have kk := k1.mpr t1
    refine bP kk ?_
    (conv => whnf)
    refine ⟨S'.1 580 (by decide), ?_⟩
    (conv => whnf)
    rw [c10]
    refine ⟨fun f => ?_, fun f => ?_⟩ <;> rw [nI_leI (by omega) (by omega)] at f <;> (conv => whnf)
    · have ve : stV b n i = m := by omega
      refine ⟨S'.1 580 (by decide), ?_⟩
      refine hc _ _ _ _ (om_nameOf (by omega) S T ?_)
      rw [if_neg (by omega)]
      (conv => whnf)
      refine bT (by decide) ?_
      (conv => whnf)
      refine ⟨S'.1 580 (by decide), ?_⟩
      (conv => whnf)
      refine bT kk ?_
      (conv => whnf)
      refine ⟨S'.1 580 (by decide), ?_⟩
      (conv => whnf)
      refine bP kk ?_
      (conv => whnf)
      refine ⟨S'.1 580 (by decide), ?_⟩
      (conv => whnf)
      refine bP kk ?_
      (conv => whnf)
      refine ⟨S'.1 580 (by decide), ?_⟩
      (conv => whnf)
      rw [c10, ← ve]
      refine ⟨S.1 580 (by decide), ?_⟩
      refine hc _ _ _ _ (om_emit (by omega) S hB M (by omega) 0 (stV b n i) (fun h1 M1 _ F1 => ?_))
      have S1 := Fr_Sh F1 S
      have l1 : (wr ++ [(0, (stV b n i))]).length = wr.length + 1 := by rw [List.length_append]; rfl
      (conv => whnf)
      refine ⟨S1.1 580 (by decide), ?_⟩
      refine hc _ _ _ _ (om_next (by omega) S1 hn M1.1 (fun h2 T2 F2 => ?_))
      have S2 := Fr_Sh F2 S1
      have M2 := MRd_nx M1 T2 F2
      obtain ⟨M3, F3⟩ := MRd_w M2 1
      have S3 := Fr_Sh F3 S2
      (conv => whnf)
      refine ⟨S2.1 580 (by decide), Or.inr rfl, ?_⟩
      (conv => whnf)
      refine ⟨S3.1 580 (by decide), ?_⟩
      refine hc _ _ _ _ (om_settle (by omega) S3 hB M3 (Nat.le_refl _) (by omega) (by omega) ho hs (fun h4 M4 F4 => ?_))
      (conv => whnf)
      exact ok 0 (stV b n i) (Or.inl ⟨t1, by omega, rfl, rfl⟩) h4 M4 (Fr_tr F1 (Fr_tr (fTM2 F2) (Fr_tr F3 F4)))
    · exact n2 t1 (by omega)
  · have kk : ¬ ab_I h 580 9 = nI 1 := fun z => t1 (k1.mp z)
    refine bN kk ?_
    (conv => whnf)
    refine ⟨S'.1 580 (by decide), ?_⟩
    refine hc _ _ _ _ (om_nameOf (by omega) S T ?_)
    by_cases t2 : 8 ≤ t ∧ t ≤ 17
    · rw [if_pos t2]
      have nn : nmM t < 10 ∧ (nmM t ≤ 6 ↔ t < 15) := by
        have : ∀ t : Fin 18, 8 ≤ t.val → nmM t.val < 10 ∧ (nmM t.val ≤ 6 ↔ t.val < 15) := by decide +kernel
        exact this ⟨t, by omega⟩ t2.1
      (conv => whnf)
      refine ⟨fun f => ?_, fun f => ?_⟩ <;> rw [nI_leI (by omega) (by omega)] at f <;> (conv => whnf)
      · refine ⟨S'.1 580 (by decide), ?_⟩
        (conv => whnf)
        refine bF kk ?_
        (conv => whnf)
        refine bF (by rw [z0, nI_ltI (by omega) (by omega)]; omega) ?_
        (conv => whnf)
        refine ⟨S'.1 580 (by decide), ?_⟩
        (conv => whnf)
        refine bN kk ?_
        (conv => whnf)
        refine ⟨S'.1 580 (by decide), ?_⟩
        (conv => whnf)
        refine bN kk ?_
        (conv => whnf)
        refine ⟨S.1 580 (by decide), ?_⟩
        refine hc _ _ _ _ (om_emit (by omega) S hB M (by omega) 1 (nmM t) (fun h1 M1 _ F1 => ?_))
        have S1 := Fr_Sh F1 S
        have l1 : (wr ++ [(1, (nmM t))]).length = wr.length + 1 := by rw [List.length_append]; rfl
        (conv => whnf)
        refine ⟨S1.1 580 (by decide), ?_⟩
        refine hc _ _ _ _ (om_next (by omega) S1 hn M1.1 (fun h2 T2 F2 => ?_))
        have S2 := Fr_Sh F2 S1
        have M2 := MRd_nx M1 T2 F2
        obtain ⟨M3, F3⟩ := MRd_w M2 1
        have S3 := Fr_Sh F3 S2
        (conv => whnf)
        refine ⟨S2.1 580 (by decide), Or.inr rfl, ?_⟩
        (conv => whnf)
        refine ⟨S3.1 580 (by decide), ?_⟩
        refine hc _ _ _ _ (om_settle (by omega) S3 hB M3 (Nat.le_refl _) (by omega) (by omega) ho hs (fun h4 M4 F4 => ?_))
        (conv => whnf)
        exact ok 1 (nmM t) (Or.inr ⟨t2, by omega, rfl, rfl⟩) h4 M4 (Fr_tr F1 (Fr_tr (fTM2 F2) (Fr_tr F3 F4)))
      · refine ⟨S'.1 580 (by decide), ?_⟩
        (conv => whnf)
        rw [c14]
        refine ⟨fun g => ?_, fun g => ?_⟩ <;> rw [nI_eq (by omega) (by omega)] at g <;> (conv => whnf)
        · refine ⟨S'.1 580 (by decide), ?_⟩
          (conv => whnf)
          refine bF kk ?_
          (conv => whnf)
          refine bF (by rw [z0, nI_ltI (by omega) (by omega)]; omega) ?_
          (conv => whnf)
          refine ⟨S'.1 580 (by decide), ?_⟩
          (conv => whnf)
          refine bN kk ?_
          (conv => whnf)
          refine ⟨S'.1 580 (by decide), ?_⟩
          (conv => whnf)
          refine bN kk ?_
          (conv => whnf)
          refine ⟨S.1 580 (by decide), ?_⟩
          refine hc _ _ _ _ (om_emit (by omega) S hB M (by omega) 1 (nmM t) (fun h1 M1 _ F1 => ?_))
          have S1 := Fr_Sh F1 S
          have l1 : (wr ++ [(1, (nmM t))]).length = wr.length + 1 := by rw [List.length_append]; rfl
          (conv => whnf)
          refine ⟨S1.1 580 (by decide), ?_⟩
          refine hc _ _ _ _ (om_next (by omega) S1 hn M1.1 (fun h2 T2 F2 => ?_))
          have S2 := Fr_Sh F2 S1
          have M2 := MRd_nx M1 T2 F2
          obtain ⟨M3, F3⟩ := MRd_w M2 1
          have S3 := Fr_Sh F3 S2
          (conv => whnf)
          refine ⟨S2.1 580 (by decide), Or.inr rfl, ?_⟩
          (conv => whnf)
          refine ⟨S3.1 580 (by decide), ?_⟩
          refine hc _ _ _ _ (om_settle (by omega) S3 hB M3 (Nat.le_refl _) (by omega) (by omega) ho hs (fun h4 M4 F4 => ?_))
          (conv => whnf)
          exact ok 1 (nmM t) (Or.inr ⟨t2, by omega, rfl, rfl⟩) h4 M4 (Fr_tr F1 (Fr_tr (fTM2 F2) (Fr_tr F3 F4)))
        · exact n5 t2 ⟨by omega, g⟩
    · rw [if_neg t2]
      (conv => whnf)
      refine bT (by decide) ?_
      (conv => whnf)
      refine ⟨S'.1 580 (by decide), ?_⟩
      (conv => whnf)
      refine bF kk ?_
      (conv => whnf)
      refine bT (by decide) ?_
      (conv => whnf)
      refine ⟨S'.1 580 (by decide), ?_⟩
      (conv => whnf)
      refine ⟨fun f => ?_, fun f => ?_⟩
      rotate_left
      · have e := (ks 40 (by decide)).mp f
        (conv => whnf)
        refine ⟨S.1 580 (by decide), ?_⟩
        refine hc _ _ _ _ (om_opened (by omega) S hn M (by omega) ho (by decide) (fun z => ?_) (fun z h1 M1 F1 => ?_)) <;> (conv => whnf)
        · exact n3 40 (Or.inl ⟨e, rfl⟩) z
        · exact op 40 (Or.inl ⟨e, rfl⟩) z h1 M1 F1
      have n40 := fun z => f ((ks 40 (by decide)).mpr z)
      clear f
      (conv => whnf)
      refine ⟨S'.1 580 (by decide), ?_⟩
      (conv => whnf)
      refine ⟨fun f => ?_, fun f => ?_⟩
      rotate_left
      · have e := (ks 45 (by decide)).mp f
        (conv => whnf)
        refine ⟨S.1 580 (by decide), ?_⟩
        refine hc _ _ _ _ (om_opened (by omega) S hn M (by omega) ho (by decide) (fun z => ?_) (fun z h1 M1 F1 => ?_)) <;> (conv => whnf)
        · exact n3 5 (Or.inr (Or.inl ⟨e, rfl⟩)) z
        · exact op 5 (Or.inr (Or.inl ⟨e, rfl⟩)) z h1 M1 F1
      have n45 := fun z => f ((ks 45 (by decide)).mpr z)
      clear f
      (conv => whnf)
      refine hc _ _ _ _ (om_w5 (by omega) (by decide) (by decide) (by decide) (by decide) (by decide) ?_)
      (conv => whnf)
      refine ⟨S'.1 580 (by decide), ?_⟩
      refine hc _ _ _ _ (om_isWord (by omega) S T (i := 28) (by decide) rfl (fun e => ?_) (fun e28 => ?_))
      · (conv => whnf)
        refine bF (by decide) ?_
        (conv => whnf)
        refine ⟨S.1 580 (by decide), ?_⟩
        refine hc _ _ _ _ (om_opened (by omega) S hn M (by omega) ho (by decide) (fun z => ?_) (fun z h1 M1 F1 => ?_)) <;> (conv => whnf)
        · exact n3 4 (Or.inr (Or.inr (Or.inl ⟨e, rfl⟩))) z
        · exact op 4 (Or.inr (Or.inr (Or.inl ⟨e, rfl⟩))) z h1 M1 F1
      (conv => whnf)
      refine bT (by decide) ?_
      (conv => whnf)
      refine hc _ _ _ _ (om_w5 (by omega) (by decide) (by decide) (by decide) (by decide) (by decide) ?_)
      (conv => whnf)
      refine ⟨S'.1 580 (by decide), ?_⟩
      refine hc _ _ _ _ (om_isWord (by omega) S T (i := 29) (by decide) rfl (fun e => ?_) (fun e29 => ?_))
      · (conv => whnf)
        refine bF (by decide) ?_
        (conv => whnf)
        refine ⟨S.1 580 (by decide), ?_⟩
        refine hc _ _ _ _ (om_opened (by omega) S hn M (by omega) ho (by decide) (fun z => ?_) (fun z h1 M1 F1 => ?_)) <;> (conv => whnf)
        · exact n3 2 (Or.inr (Or.inr (Or.inr (Or.inl ⟨e, rfl⟩)))) z
        · exact op 2 (Or.inr (Or.inr (Or.inr (Or.inl ⟨e, rfl⟩)))) z h1 M1 F1
      (conv => whnf)
      refine bT (by decide) ?_
      (conv => whnf)
      refine hc _ _ _ _ (om_w2 (by omega) (by decide) (by decide) ?_)
      (conv => whnf)
      refine ⟨S'.1 580 (by decide), ?_⟩
      refine hc _ _ _ _ (om_isWord (by omega) S T (i := 21) (by decide) rfl (fun e => ?_) (fun e21 => ?_))
      · (conv => whnf)
        refine bF (by decide) ?_
        (conv => whnf)
        refine ⟨S.1 580 (by decide), ?_⟩
        refine hc _ _ _ _ (om_opened (by omega) S hn M (by omega) ho (by decide) (fun z => ?_) (fun z h1 M1 F1 => ?_)) <;> (conv => whnf)
        · exact n3 41 (Or.inr (Or.inr (Or.inr (Or.inr (Or.inl ⟨e, rfl⟩))))) z
        · exact op 41 (Or.inr (Or.inr (Or.inr (Or.inr (Or.inl ⟨e, rfl⟩))))) z h1 M1 F1
      (conv => whnf)
      refine bT (by decide) ?_
      (conv => whnf)
      refine hc _ _ _ _ (om_w3 (by omega) (by decide) (by decide) (by decide) ?_)
      (conv => whnf)
      refine ⟨S'.1 580 (by decide), ?_⟩
      refine hc _ _ _ _ (om_isWord (by omega) S T (i := 27) (by decide) rfl (fun e => ?_) (fun e27 => ?_))
      · (conv => whnf)
        refine bF (by decide) ?_
        (conv => whnf)
        refine ⟨S'.1 580 (by decide), ?_⟩
        refine hc _ _ _ _ (om_isAskAhead (by omega) S c16 P (by omega) (fun y1 y2 => ?_) (fun y => ?_)) <;> (conv => whnf)
        · refine bF (by decide) ?_
          (conv => whnf)
          refine ⟨S.1 580 (by decide), ?_⟩
          refine hc _ _ _ _ (om_opened (by omega) S hn M (by omega) ho (by decide) (fun z => ?_) (fun z h1 M1 F1 => ?_)) <;> (conv => whnf)
          · exact n3 20 (Or.inr (Or.inr (Or.inr (Or.inr (Or.inr ⟨e, y1, y2, rfl⟩))))) z
          · exact op 20 (Or.inr (Or.inr (Or.inr (Or.inr (Or.inr ⟨e, y1, y2, rfl⟩))))) z h1 M1 F1
        · refine bT (by decide) ?_
          (conv => whnf)
          refine n1 t1 t2 (fun x z => ?_)
          rcases z with z | z | z | z | z | z
          · omega
          · omega
          · omega
          · omega
          · omega
          · exact y ⟨z.2.1, z.2.2.1⟩
      · (conv => whnf)
        refine bT (by decide) ?_
        (conv => whnf)
        refine n1 t1 t2 (fun x z => ?_)
        rcases z with z | z | z | z | z | z
        · exact n40 z.1
        · exact n45 z.1
        · exact e28 z.1
        · exact e29 z.1
        · exact e21 z.1
        · exact e27 z.1
end MB
