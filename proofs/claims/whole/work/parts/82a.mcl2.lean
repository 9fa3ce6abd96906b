/-! ===== contracts: a clause on the reference's side (mine) ===== -/
section MCM
variable {d : Nat} {h : Hp} {Q : Option Value → Hp → Prop} {n B : Nat} {b : Nat → Nat}
theorem om_clause (hd : 15 ≤ d) (S : Sh h) (hn : n ≤ 300) (hB : B ≤ 2115) {cls : List CK} {lws : LW} {w i : Nat} (I : MI h b n B cls lws w i) (hi : i ≤ stL b n) (hw : w ≤ i) (hcl : cls.length ≤ 24) (a : Nat) {y : CR1} (ey : cl1 (stT b n) (stV b n) cls.length lws a i = y) (hy : y.1 = 0 → ∀ h', MI h' b n B (cls ++ [y.2.2.1]) (lwU lws (stT b n i) w y.2.2.2.1 a y.2.2.2.2) (w + y.2.2.2.1.length) y.2.1 → Fr (fMt B) h h' → Q (some (.int (nI 0))) h') (hno : y.1 ≠ 0 → ∀ h', MT h' b n y.2.1 → Fr (fMt B) h h' → Q (some (.int (nI y.1))) h') : ab_Ok d n_X12_clause [.ref 580] h Q := by
  have I0 := I
  obtain ⟨T, c12, c13, c19, n0, i4, i5⟩ := I
  have tb' := stT_b b n i
  have ln := stL_n b n
  have ob := onc_b lws
  have ex : nI B + nI 1 + nI 4 * nI cls.length = nI (B + 1 + 4 * cls.length) := by rw [pk_mul, nI_add, nI_add]
  refine ab_go mr_X12_clause rfl (by omega) (fun call W hc hW => ?_); (conv => whnf)
  refine ⟨S.1 580 (by decide), ?_⟩
  refine hc _ _ _ _ (om_sortOf (by omega) S T.2.2.2 ?_)
  by_cases t9 : 9 < stT b n i
  · rw [if_neg (by omega)]
    rw [cq_1 _ _ _ _ _ _ t9] at ey
    subst ey
    (conv => whnf)
    refine bF (by decide) ?_
    (conv => whnf)
    exact hno (by show ¬ (1 : Nat) = 0; omega) h T Fr_re
  · rw [if_pos (by omega)]
    have il : i < stL b n := Nat.lt_of_not_le (fun z => by have := (stT_e b n).mpr z; omega)
    have sb : srt (stT b n i) ≤ 9 ∧ (srt (stT b n i) ≤ 2 ↔ stT b n i < 3) ∧ (stT b n i < 3 → srt (stT b n i) = stT b n i) := (by decide +kernel : ∀ t, t ≤ 9 → srt t ≤ 9 ∧ (srt t ≤ 2 ↔ t < 3) ∧ (t < 3 → srt t = t)) _ (by omega)
    (conv => whnf)
    refine bT (by rw [z0, nI_leI (by omega) (by omega)]; omega) ?_
    (conv => whnf)
    refine ⟨fun l3 => ?_, fun l3 => ?_⟩ <;> rw [nI_ltI (by omega) (by omega)] at l3 <;> (conv => whnf)
    · have l3 : ¬ stT b n i < 3 := fun z => by have := sb.2.1.mpr z; omega
      have nol : ¬ (stT b n i < 3 ∧ (lws (stT b n i)).isSome = true) := fun z => l3 z.1
      refine ⟨S.1 580 (by decide), 583, S.2.2 _ _ _ rfl, ?_⟩
      (conv => whnf)
      refine ⟨S.1 580 (by decide), ?_⟩
      (conv => whnf)
      rw [c12]
      refine ⟨S.1 583 (by decide), vin _ (S.2.1 583 (by decide)) (by show B < 2820; omega) (by decide), ?_⟩
      (conv => whnf)
      rw [nI_clamp (by omega), n0]
      refine ⟨fun g24 => ?_, fun g24 => ?_⟩ <;> rw [nI_eq (by omega) (by omega)] at g24 <;> (conv => whnf)
      rotate_left
      · rw [cq_6 _ _ _ _ _ _ t9 nol (by omega)] at ey
        subst ey
        exact hno (by show ¬ (6 : Nat) = 0; omega) h T Fr_re
      have g24 : cls.length < 24 := by omega
      obtain ⟨sk1, sk2, sk3⟩ := srt_ok (stT b n i) (by omega) l3
      obtain ⟨u, eu⟩ : ∃ u, rdA (stT b n) (stV b n) (deedL (srt (stT b n i))) (i + 1) [] = u := ⟨_, rfl⟩
      rw [cq_d _ _ _ _ _ _ t9 (by omega) l3 eu] at ey
      have ul : u.2.2.length ≤ 3 := by
        have := rdA_len (stT b n) (stV b n) (deedL (srt (stT b n i))) (i + 1) []
        rw [eu] at this
        have := cnz_3 (srt (stT b n i)) (by omega)
        have e0 : ([] : List Nat).length = 0 := rfl
        omega
      refine bT (by rw [nI_ltI (by omega) (by omega)]; omega) ?_
      (conv => whnf)
      refine ⟨S.1 580 (by decide), ?_⟩
      (conv => whnf)
      obtain ⟨h2, e2⟩ : ∃ h2, h2 = ab_sI h 580 14 (nI (srt (stT b n i))) := ⟨_, rfl⟩
      have F2 : Fr (fun a k => a = 580 ∧ k = 14) h h2 := by rw [e2]; exact Fr_sI ⟨rfl, rfl⟩
      have S2 := Fr_Sh F2 S
      have x14 : ab_I h2 580 14 = nI (srt (stT b n i)) := by rw [e2, rI_s]
      have T2 : MT h2 b n i := MT_fr F2 (fun k hk z => by omega) (fun k z => by omega) (by rw [e2]; rfl) T
      have g2 := F2.2.2.2.2
      rw [← e2]
      clear e2
      refine ⟨S2.1 580 (by decide), ?_⟩
      refine hc _ _ _ _ (om_next (by omega) S2 hn T2 (fun h3 T3 F3 => ?_))
      have S3 := Fr_Sh F3 S2
      have g3 : ∀ a k, ¬ fT a k → ab_I h3 a k = ab_I h2 a k := F3.2.2.2.2
      have y12 : ab_I h3 580 12 = nI B := (g3 _ _ (fun z => by unfold fT at z; omega)).trans ((g2 _ _ (fun z => by omega)).trans c12)
      have y14 : ab_I h3 580 14 = nI (srt (stT b n i)) := (g3 _ _ (fun z => by unfold fT at z; omega)).trans x14
      (conv => whnf)
      refine ⟨S3.1 580 (by decide), ?_⟩
      (conv => whnf)
      rw [y12, ex]
      refine ⟨S3.1 580 (by decide), 583, S3.2.2 _ _ _ rfl, ?_⟩
      (conv => whnf)
      refine ⟨S3.1 583 (by decide), vin _ (S3.2.1 583 (by decide)) (by show B + 1 + 4 * cls.length < 2820; omega) (by decide), ?_⟩
      (conv => whnf)
      rw [nI_clamp (by omega)]
      obtain ⟨h4, e4⟩ : ∃ h4, h4 = ab_sI h3 583 (B + 1 + 4 * cls.length) (nI (srt (stT b n i))) := ⟨_, rfl⟩
      have F4 : Fr (fun a k => a = 583 ∧ k = B + 1 + 4 * cls.length) h3 h4 := by rw [e4]; exact Fr_sI ⟨rfl, rfl⟩
      have S4 := Fr_Sh F4 S3
      have g4 := F4.2.2.2.2
      have x4 : ab_I h4 583 (B + 1 + 4 * cls.length) = nI (srt (stT b n i)) := by rw [e4, rI_s]
      have T4 : MT h4 b n (i + 1) := MT_fr F4 (fun k hk z => by omega) (fun k z => by omega) (by rw [e4]; rfl) T3
      have FA : Fr (fMt B) h h4 := Fr_tr Fr_re (Fr_tr (Fr_mo F2 (fun a k z => show fMt B a k from by unfold fMt; omega)) (Fr_tr (Fr_mo F3 (fun a k z => by unfold fT at z; unfold fMt; omega)) (Fr_mo F4 (fun a k z => show fMt B a k from by unfold fMt; omega))))
      have t4 : ∀ a k, ¬ (a = 583 ∧ k = B + 1 + 4 * cls.length) → ¬ (a = 580 ∧ ((7 ≤ k ∧ k ≤ 10) ∨ k = 14 ∨ k = 19)) → ab_I h4 a k = ab_I h a k := fun a k a1 a2 => (g4 a k a1).trans ((g3 a k (fun z => by unfold fT at z; omega)).trans ((g2 a k (fun z => by omega)).trans ((fun a k (_ : ¬ (a = 580 ∧ k = 19)) => rfl) a k (fun z => by omega))))
      rw [← e4]
      clear e4
      refine ⟨S4.1 580 (by decide), ?_⟩
      have BD := fun hd Q hy hno => om_bodyD (d := d - 1) (Q := Q) (x := B + 1 + 4 * cls.length) hd S4 hn (by omega) ⟨sk1, sk2⟩ T4 hy hno
      rw [eu] at BD
      refine hc _ _ _ _ (BD (by omega) _ (fun z h5 D5 => ?_) (fun z h5 T5 F5 => ?_))
      · rw [if_neg (fun w => w z)] at ey
        have T5 := D5.1
        have g5 : ∀ a k, ¬ fDm (B + 1 + 4 * cls.length) a k → ab_I h5 a k = ab_I h4 a k := D5.2.2.2.2.2.2
        have S5 : Sh h5 := Fr_Sh D5.2.2 S4
        have FB := Fr_tr FA (Fr_mo D5.2.2 (fun a k z => show fMt B a k from by unfold fDm at z; unfold fMt; omega))
        have z12 : ab_I h5 580 12 = nI B := (g5 _ _ (fun z => by unfold fDm at z; omega)).trans ((t4 _ _ (by omega) (by omega)).trans c12)
        have zB : ab_I h5 583 B = nI cls.length := (g5 _ _ (fun z => by unfold fDm at z; omega)).trans ((t4 _ _ (by omega) (by omega)).trans n0)
        (conv => whnf)
        refine bT (by decide) ?_
        (conv => whnf)
        refine ⟨S5.1 580 (by decide), 583, S5.2.2 _ _ _ rfl, ?_⟩
        (conv => whnf)
        refine ⟨S5.1 580 (by decide), ?_⟩
        (conv => whnf)
        rw [z12]
        refine ⟨S5.1 583 (by decide), vin _ (S5.2.1 583 (by decide)) (by show B < 2820; omega) (by decide), ?_⟩
        (conv => whnf)
        rw [nI_clamp (by omega), zB, nI_add]
        refine ⟨S5.1 583 (by decide), vin _ (S5.2.1 583 (by decide)) (by show B < 2820; omega) (by decide), ?_⟩
        (conv => whnf)
        obtain ⟨h6, e6⟩ : ∃ h6, h6 = ab_sI h5 583 B (nI (cls.length + 1)) := ⟨_, rfl⟩
        have F6 : Fr (fun a k => a = 583 ∧ k = B) h5 h6 := by rw [e6]; exact Fr_sI ⟨rfl, rfl⟩
        have S6 := Fr_Sh F6 S5
        have g6 := F6.2.2.2.2
        have x6 : ab_I h6 583 B = nI (cls.length + 1) := by rw [e6, rI_s]
        have T6 : MT h6 b n u.2.1 := MT_fr F6 (fun k hk z => by omega) (fun k z => by omega) (by rw [e6]; rfl) T5
        have FC := Fr_tr FB (Fr_mo F6 (fun a k z => show fMt B a k from by unfold fMt; omega))
        have k59 := (RT_c T6.2.2.2).2.2.2.2 59 (by decide)
        rw [← e6]
        clear e6
        refine ⟨S6.1 580 (by decide), ?_⟩
        (conv => whnf)
        refine ⟨fun e59 => ?_, fun e59 => ?_⟩ <;> rw [k59] at e59 <;> (conv => whnf)
        rotate_left
        · rw [if_pos e59] at ey
          subst ey
          exact hno (by show ¬ (1 : Nat) = 0; omega) h6 T6 FC
        rw [if_neg (fun w => w e59)] at ey
        subst ey
        refine ⟨S6.1 580 (by decide), ?_⟩
        refine hc _ _ _ _ (om_next (by omega) S6 hn T6 (fun h7 T7 F7 => ?_))
        have g7 : ∀ a k, ¬ fT a k → ab_I h7 a k = ab_I h6 a k := F7.2.2.2.2
        have t7 : ∀ a k, ¬ fT a k → ¬ (a = 583 ∧ k = B) → ab_I h7 a k = ab_I h5 a k := fun a k a1 a2 => (g7 a k a1).trans (g6 a k a2)
        (conv => whnf)
        refine hy rfl h7 (MI_new (i' := u.2.1 + 1) (ck := (srt (stT b n i), u.2.2)) (r := []) (c := []) (a := a) I0 g24 T7 ?_ ?_ ?_ ?_ ?_ ul (fun v hv => ?_) (fun k k1 k2 k3 => ?_) (fun z => absurd z l3)) (Fr_tr FC (Fr_mo F7 (fun a k z => by unfold fT at z; unfold fMt; omega)))
        · exact (t7 _ _ (fun z => by unfold fT at z; omega) (by omega)).trans z12
        · exact (t7 _ _ (fun z => by unfold fT at z; omega) (by omega)).trans ((g5 _ _ (fun z => by unfold fDm at z; omega)).trans ((t4 _ _ (by omega) (by omega)).trans c13))
        · unfold lwU
          rw [if_neg l3]
          exact (t7 _ _ (fun z => by unfold fT at z; omega) (by omega)).trans ((g5 _ _ (fun z => by unfold fDm at z; omega)).trans ((g4 _ _ (fun z => by omega)).trans ((g3 _ _ (fun z => by unfold fT at z; omega)).trans ((g2 _ _ (fun z => by omega)).trans c19))))
        · exact (g7 _ _ (fun z => by unfold fT at z; omega)).trans x6
        · exact (t7 _ _ (fun z => by unfold fT at z; omega) (by omega)).trans ((g5 _ _ (fun z => by unfold fDm at z; omega)).trans x4)
        · exact (t7 _ _ (fun z => by unfold fT at z; omega) (by omega)).trans (D5.2.1 v hv)
        · exact (t7 _ _ (fun z => by unfold fT at z; omega) (by omega)).trans ((g5 _ _ (fun z => by unfold fDm at z; omega)).trans (t4 _ _ (by omega) (by omega)))
      · rw [if_pos z] at ey
        subst ey
        have ub : u.1 ≤ 2 := by
          have := (rdA_b (T := stT b n) (V := stV b n) (L := stL b n) (fun i => stT_e b n) (deedL (srt (stT b n i))) (i + 1) [] (deedL_ok _ (by omega)) (by omega)).2.2
          rw [eu] at this
          exact this
        have q0 := hno z h5 T5 (Fr_tr FA (Fr_mo F5 (fun a k z => by unfold fDm at z; unfold fMt; omega)))
        (conv => whnf)
        refine bF (by rw [← nI_0, nI_eq (by omega) (by omega)]; exact z) ?_
        (conv => whnf)
        exact q0
    · have l3 : stT b n i < 3 := sb.2.1.mp (by omega)
      have es := sb.2.2 l3
      refine ⟨S.1 580 (by decide), ?_⟩
      (conv => whnf)
      rw [c19, es]
      refine hc _ _ _ _ (om_has (by omega) (by omega) (by omega) (fun hh => ?_) (fun hh => ?_)) <;> (conv => whnf)
      · rw [onc_h lws l3] at hh
        rw [cq_4 _ _ _ _ _ _ t9 ⟨l3, hh⟩] at ey
        subst ey
        refine bF (by decide) ?_
        (conv => whnf)
        exact hno (by show ¬ (4 : Nat) = 0; omega) h T Fr_re
      · rw [onc_h lws l3] at hh
        have nol : ¬ (stT b n i < 3 ∧ (lws (stT b n i)).isSome = true) := fun z => hh z.2
        refine bT (by decide) ?_
        (conv => whnf)
        refine ⟨S.1 580 (by decide), 583, S.2.2 _ _ _ rfl, ?_⟩
        (conv => whnf)
        refine ⟨S.1 580 (by decide), ?_⟩
        (conv => whnf)
        rw [c12]
        refine ⟨S.1 583 (by decide), vin _ (S.2.1 583 (by decide)) (by show B < 2820; omega) (by decide), ?_⟩
        (conv => whnf)
        rw [nI_clamp (by omega), n0]
        refine ⟨fun g24 => ?_, fun g24 => ?_⟩ <;> rw [nI_eq (by omega) (by omega)] at g24 <;> (conv => whnf)
        rotate_left
        · rw [cq_6 _ _ _ _ _ _ t9 nol (by omega)] at ey
          subst ey
          exact hno (by show ¬ (6 : Nat) = 0; omega) h T Fr_re
        have g24 : cls.length < 24 := by omega
        obtain ⟨u, eu⟩ : ∃ u, ps (stT b n) (stV b n) (stT b n i) 4000 3 0 a (i + 1) = u := ⟨_, rfl⟩
        rw [cq_l _ _ _ _ _ _ nol (by omega) l3 eu] at ey
        have sh2 : nI 1 <<< (nI (stT b n i) &&& 31) = nI (2 ^ stT b n i) := by
          have p4 : 2 ^ stT b n i ≤ 2 ^ 3 := Nat.pow_le_pow_right (by decide) (by omega)
          rw [nI_shl (by omega) (by omega), Nat.one_mul]
        refine bF (by rw [nI_ltI (by omega) (by omega)]; omega) ?_
        (conv => whnf)
        refine ⟨S.1 580 (by decide), ?_⟩
        (conv => whnf)
        rw [c19, sh2, fa_or]
        refine ⟨S.1 580 (by decide), ?_⟩
        (conv => whnf)
        obtain ⟨h1, e1⟩ : ∃ h1, h1 = ab_sI h 580 19 (nI (onc lws ||| 2 ^ stT b n i)) := ⟨_, rfl⟩
        have F1 : Fr (fun a k => a = 580 ∧ k = 19) h h1 := by rw [e1]; exact Fr_sI ⟨rfl, rfl⟩
        have S1 := Fr_Sh F1 S
        have g1 := F1.2.2.2.2
        have x19 : ab_I h1 580 19 = nI (onc lws ||| 2 ^ stT b n i) := by rw [e1, rI_s]
        have T1 : MT h1 b n i := MT_fr F1 (fun k hk z => by omega) (fun k z => by omega) (by rw [e1]; rfl) T
        have d12 : ab_I h1 580 12 = nI B := (g1 _ _ (fun z => by omega)).trans c12
        have G1 : Fr (fMt B) h h1 := Fr_mo F1 (fun a k z => show fMt B a k from by unfold fMt; omega)
        rw [← e1, ← es]
        clear e1
        refine ⟨S1.1 580 (by decide), ?_⟩
        (conv => whnf)
        obtain ⟨h2, e2⟩ : ∃ h2, h2 = ab_sI h1 580 14 (nI (srt (stT b n i))) := ⟨_, rfl⟩
        have F2 : Fr (fun a k => a = 580 ∧ k = 14) h1 h2 := by rw [e2]; exact Fr_sI ⟨rfl, rfl⟩
        have S2 := Fr_Sh F2 S1
        have x14 : ab_I h2 580 14 = nI (srt (stT b n i)) := by rw [e2, rI_s]
        have T2 : MT h2 b n i := MT_fr F2 (fun k hk z => by omega) (fun k z => by omega) (by rw [e2]; rfl) T1
        have g2 := F2.2.2.2.2
        rw [← e2]
        clear e2
        refine ⟨S2.1 580 (by decide), ?_⟩
        refine hc _ _ _ _ (om_next (by omega) S2 hn T2 (fun h3 T3 F3 => ?_))
        have S3 := Fr_Sh F3 S2
        have g3 : ∀ a k, ¬ fT a k → ab_I h3 a k = ab_I h2 a k := F3.2.2.2.2
        have y12 : ab_I h3 580 12 = nI B := (g3 _ _ (fun z => by unfold fT at z; omega)).trans ((g2 _ _ (fun z => by omega)).trans d12)
        have y14 : ab_I h3 580 14 = nI (srt (stT b n i)) := (g3 _ _ (fun z => by unfold fT at z; omega)).trans x14
        (conv => whnf)
        refine ⟨S3.1 580 (by decide), ?_⟩
        (conv => whnf)
        rw [y12, ex]
        refine ⟨S3.1 580 (by decide), 583, S3.2.2 _ _ _ rfl, ?_⟩
        (conv => whnf)
        refine ⟨S3.1 583 (by decide), vin _ (S3.2.1 583 (by decide)) (by show B + 1 + 4 * cls.length < 2820; omega) (by decide), ?_⟩
        (conv => whnf)
        rw [nI_clamp (by omega)]
        obtain ⟨h4, e4⟩ : ∃ h4, h4 = ab_sI h3 583 (B + 1 + 4 * cls.length) (nI (srt (stT b n i))) := ⟨_, rfl⟩
        have F4 : Fr (fun a k => a = 583 ∧ k = B + 1 + 4 * cls.length) h3 h4 := by rw [e4]; exact Fr_sI ⟨rfl, rfl⟩
        have S4 := Fr_Sh F4 S3
        have g4 := F4.2.2.2.2
        have x4 : ab_I h4 583 (B + 1 + 4 * cls.length) = nI (srt (stT b n i)) := by rw [e4, rI_s]
        have T4 : MT h4 b n (i + 1) := MT_fr F4 (fun k hk z => by omega) (fun k z => by omega) (by rw [e4]; rfl) T3
        have FA : Fr (fMt B) h h4 := Fr_tr G1 (Fr_tr (Fr_mo F2 (fun a k z => show fMt B a k from by unfold fMt; omega)) (Fr_tr (Fr_mo F3 (fun a k z => by unfold fT at z; unfold fMt; omega)) (Fr_mo F4 (fun a k z => show fMt B a k from by unfold fMt; omega))))
        have t4 : ∀ a k, ¬ (a = 583 ∧ k = B + 1 + 4 * cls.length) → ¬ (a = 580 ∧ ((7 ≤ k ∧ k ≤ 10) ∨ k = 14 ∨ k = 19)) → ab_I h4 a k = ab_I h a k := fun a k a1 a2 => (g4 a k a1).trans ((g3 a k (fun z => by unfold fT at z; omega)).trans ((g2 a k (fun z => by omega)).trans (g1 a k (fun z => by omega))))
        rw [← e4]
        clear e4
        refine ⟨S4.1 580 (by decide), ?_⟩
        have w13 : ab_I h4 580 13 = nI w := (t4 _ _ (by omega) (by omega)).trans c13
        have w12 : ab_I h4 580 12 = nI B := (t4 _ _ (by omega) (by omega)).trans c12
        have w14 : ab_I h4 580 14 = nI (stT b n i) := by rw [← es]; exact (g4 _ _ (fun z => by omega)).trans y14
        rw [es]
        refine hc _ _ _ _ (om_bodyL (by omega) S4 hn hB l3 (x := B + 1 + 4 * cls.length) ⟨by omega, by omega⟩ (by omega) (by omega) T4 w12 w13 w14 a eu (fun z h5 T5 v13 sg m1 m2 lo Sx v19 F5 => ?_) (fun z h5 T5 F5 => ?_))
        · rw [if_neg (fun w => w z)] at ey
          have S5 : Sh h5 := Sx
          have FB := Fr_tr FA F5
          have z12 : ab_I h5 580 12 = nI B := (F5.2.2.2.2 580 12 (fun z => by unfold fMt at z; omega)).trans w12
          have zB : ab_I h5 583 B = nI cls.length := (lo B (by omega) (by omega) (by omega)).trans ((t4 _ _ (by omega) (by omega)).trans n0)
          (conv => whnf)
          refine bT (by decide) ?_
          (conv => whnf)
          refine ⟨S5.1 580 (by decide), 583, S5.2.2 _ _ _ rfl, ?_⟩
          (conv => whnf)
          refine ⟨S5.1 580 (by decide), ?_⟩
          (conv => whnf)
          rw [z12]
          refine ⟨S5.1 583 (by decide), vin _ (S5.2.1 583 (by decide)) (by show B < 2820; omega) (by decide), ?_⟩
          (conv => whnf)
          rw [nI_clamp (by omega), zB, nI_add]
          refine ⟨S5.1 583 (by decide), vin _ (S5.2.1 583 (by decide)) (by show B < 2820; omega) (by decide), ?_⟩
          (conv => whnf)
          obtain ⟨h6, e6⟩ : ∃ h6, h6 = ab_sI h5 583 B (nI (cls.length + 1)) := ⟨_, rfl⟩
          have F6 : Fr (fun a k => a = 583 ∧ k = B) h5 h6 := by rw [e6]; exact Fr_sI ⟨rfl, rfl⟩
          have S6 := Fr_Sh F6 S5
          have g6 := F6.2.2.2.2
          have x6 : ab_I h6 583 B = nI (cls.length + 1) := by rw [e6, rI_s]
          have T6 : MT h6 b n u.2.1 := MT_fr F6 (fun k hk z => by omega) (fun k z => by omega) (by rw [e6]; rfl) T5
          have FC := Fr_tr FB (Fr_mo F6 (fun a k z => show fMt B a k from by unfold fMt; omega))
          have k59 := (RT_c T6.2.2.2).2.2.2.2 59 (by decide)
          rw [← e6]
          clear e6
          refine ⟨S6.1 580 (by decide), ?_⟩
          (conv => whnf)
          refine ⟨fun e59 => ?_, fun e59 => ?_⟩ <;> rw [k59] at e59 <;> (conv => whnf)
          rotate_left
          · rw [if_pos e59] at ey
            subst ey
            exact hno (by show ¬ (1 : Nat) = 0; omega) h6 T6 FC
          rw [if_neg (fun w => w e59)] at ey
          subst ey
          refine ⟨S6.1 580 (by decide), ?_⟩
          refine hc _ _ _ _ (om_next (by omega) S6 hn T6 (fun h7 T7 F7 => ?_))
          have g7 : ∀ a k, ¬ fT a k → ab_I h7 a k = ab_I h6 a k := F7.2.2.2.2
          have t7 : ∀ a k, ¬ fT a k → ¬ (a = 583 ∧ k = B) → ab_I h7 a k = ab_I h5 a k := fun a k a1 a2 => (g7 a k a1).trans (g6 a k a2)
          (conv => whnf)
          refine hy rfl h7 (MI_new (i' := u.2.1 + 1) (ck := (stT b n i, [])) (r := u.2.2.1) (c := u.2.2.2) (a := a) I0 g24 T7 ?_ ?_ ?_ ?_ ?_ (Nat.zero_le _) (fun v hv => absurd hv (Nat.not_lt_zero _)) (fun k k1 k2 k3 => ?_) (fun _ => ⟨rfl, ?_, ?_, fun j hj => ⟨?_, ?_⟩⟩)) (Fr_tr FC (Fr_mo F7 (fun a k z => by unfold fT at z; unfold fMt; omega)))
          · exact (t7 _ _ (fun z => by unfold fT at z; omega) (by omega)).trans z12
          · exact (t7 _ _ (fun z => by unfold fT at z; omega) (by omega)).trans v13
          · rw [← onc_u lws l3]
            exact (t7 _ _ (fun z => by unfold fT at z; omega) (by omega)).trans (v19.trans ((g4 _ _ (fun z => by omega)).trans ((g3 _ _ (fun z => by unfold fT at z; omega)).trans ((g2 _ _ (fun z => by omega)).trans x19))))
          · exact (g7 _ _ (fun z => by unfold fT at z; omega)).trans x6
          · exact (t7 _ _ (fun z => by unfold fT at z; omega) (by omega)).trans ((lo _ (by omega) (by omega) (by omega)).trans (by rw [x4, es]))
          · exact (t7 _ _ (fun z => by unfold fT at z; omega) (by omega)).trans ((lo _ (by omega) (by omega) (by omega)).trans (t4 _ _ (by omega) (by omega)))
          · exact (t7 _ _ (fun z => by unfold fT at z; omega) (by omega)).trans m1
          · exact (t7 _ _ (fun z => by unfold fT at z; omega) (by omega)).trans m2
          · exact (t7 _ _ (fun z => by unfold fT at z; omega) (by omega)).trans (sg j hj).1
          · exact (t7 _ _ (fun z => by unfold fT at z; omega) (by omega)).trans (sg j hj).2
        · rw [if_pos z] at ey
          subst ey
          have ub : u.1 ≤ 6 := by
            have := ps_b (T := stT b n) (V := stV b n) (lw := stT b n i) (L := stL b n) (fun i => stT_e b n) 4000 3 0 a (i + 1) (by omega) (by show 10 * (stL b n - (i + 1)) + 2 < 4000; omega)
            rw [eu] at this
            exact (this.1.2 z).1
          have q0 := hno z h5 T5 (Fr_tr FA F5)
          (conv => whnf)
          refine bF (by rw [← nI_0, nI_eq (by omega) (by omega)]; exact z) ?_
          (conv => whnf)
          exact q0
end MCM
