/-! ===== contracts: the class's reader, one; all of the grammar (mine) ===== -/
/-- what a choice comes to -/
def chx (T : Nat → Nat) (a : Nat) (x0 x1 x2 : PO) : PO := if x0.1 ≠ 0 then x0 else if T x0.2.1 ≠ 22 then er 1 x0.2.1 else if x1.1 ≠ 0 then x1 else if T x1.2.1 ≠ 23 then er 1 x1.2.1 else if x2.1 ≠ 0 then x2 else if T x2.2.1 ≠ 24 then er 1 x2.2.1 else (0, x2.2.1 + 1, x0.2.2.1 ++ x1.2.2.1 ++ x2.2.2.1 ++ [(3, 0)], x0.2.2.2 ++ [22, a + x0.2.2.2.length + 2 + x1.2.2.2.length + 2] ++ x1.2.2.2 ++ [23, a + x0.2.2.2.length + 2 + x1.2.2.2.length + 2 + x2.2.2.2.length] ++ x2.2.2.2)
section CA
variable {d : Nat} {h : Hp} {Q : Option Value → Hp → Prop} {n lw : Nat} {b : Nat → Nat}
theorem oc_choice (hn : n ≤ 300) {q : Nat} (IH : ∀ q', q' ≤ q → CPok b n lw q') {o a i : Nat} (ho : o ≤ 8) (hi : i ≤ stL b n) (hf : 10 * (stL b n - i) + 5 < q) (ha : a + 2 * (stL b n - i) + 2 ≤ 600) (hd : 8 * (8 - o) + 16 ≤ d) (S : Sh h) (R : RD h b n lw i a) {x0 x1 x2 : PO} (e0 : ps (stT b n) (stV b n) lw q 8 o a i = x0) (e1 : ps (stT b n) (stV b n) lw q 3 o (a + x0.2.2.2.length + 2) (x0.2.1 + 1) = x1) (e2 : ps (stT b n) (stV b n) lw q 3 o (a + x0.2.2.2.length + 2 + x1.2.2.2.length + 2) (x1.2.1 + 1) = x2) (hy : (chx (stT b n) a x0 x1 x2).1 = 0 → ∀ h', OKc h h' b n lw a (chx (stT b n) a x0 x1 x2) → Q (some (.int (nI 1))) h') (hno : (chx (stT b n) a x0 x1 x2).1 ≠ 0 → ∀ h', FLc h h' b n (chx (stT b n) a x0 x1 x2) → Q (some (.int (nI 0))) h') : ab_Ok d n_X6_choice [.ref 549, .int (nI o)] h Q := by
  have ln := stL_n b n
  have r8 : rkm 8 = 5 := rfl
  have r3 : rkm 3 = 2 := rfl
  have PB := fun q' m o a i h1 h2 => ps_b (T := stT b n) (V := stV b n) (lw := lw) (L := stL b n) (fun i => stT_e b n) q' m o a i h1 h2
  have lt : ∀ i t, stT b n i = t → t < 100 → i < stL b n := fun i t e ht => Nat.lt_of_not_le (fun w => by have := (stT_e b n).mpr w; omega)
  unfold chx at hy hno
  refine ab_go mr_X6_choice rfl (by omega) (fun call W hc hW => ?_); (conv => whnf)
  have A := PB q 8 o a i hi (by omega)
  have sub := IH q (Nat.le_refl _) 8 o a i
  rw [e0] at A sub
  refine ⟨S.1 549 (by decide), ?_⟩
  refine hc _ _ _ _ (sub _ h _ (by unfold ntl; omega) ho hi (by omega) (by omega) (by omega) S R (fun z0 h1 A1 => ?_) (fun z0 h1 L1 => ?_))
  · have S1 := Fr_Sh A1.2.2.2 S
    obtain ⟨g1, g2, g3, g4⟩ := A.1.1 z0
    have g5 := A.2 (by omega) z0
    rw [if_neg (fun y => y z0)] at hy hno
    (conv => whnf)
    refine bF (by decide) ?_
    (conv => whnf)
    refine ⟨S1.1 549 (by decide), ?_⟩
    refine hc _ _ _ _ (oc_taken (by omega) S1 hn A1.1 (by omega) (fun y0 h2 A2 => ?_) (fun y0 h2 L2 => ?_))
    · have S2 := Fr_Sh A2.2.2.2 S1
      have l0 := lt _ _ y0 (by omega)
      rw [if_neg (fun y => y y0)] at hy hno
      (conv => whnf)
      refine bN (by decide) ?_
      (conv => whnf)
      refine ⟨S2.1 549 (by decide), ?_⟩
      refine hc _ _ _ _ (oc_putJump (by omega) S2 (a := a + x0.2.2.2.length) A2.1 (by omega) 22 (fun h3 A3 => ?_))
      have S3 := Fr_Sh A3.2.2.2 S2
      have B := PB q 3 o (a + x0.2.2.2.length + 2) (x0.2.1 + 1) (by omega) (by omega)
      have sub1 := IH q (Nat.le_refl _) 3 o (a + x0.2.2.2.length + 2) (x0.2.1 + 1)
      rw [e1] at B sub1
      (conv => whnf)
      refine ⟨S3.1 549 (by decide), ?_⟩
      refine hc _ _ _ _ (sub1 _ h3 _ (by unfold ntl; omega) ho (by omega) (by omega) (by omega) (by omega) S3 A3.1 (fun z1 h4 A4 => ?_) (fun z1 h4 L4 => ?_))
      · have S4 := Fr_Sh A4.2.2.2 S3
        obtain ⟨k1, k2, k3, k4⟩ := B.1.1 z1
        rw [if_neg (fun y => y z1)] at hy hno
        (conv => whnf)
        refine bF (by decide) ?_
        (conv => whnf)
        refine ⟨S4.1 549 (by decide), ?_⟩
        refine hc _ _ _ _ (oc_taken (by omega) S4 hn A4.1 (by omega) (fun y1 h5 A5 => ?_) (fun y1 h5 L5 => ?_))
        · have S5 := Fr_Sh A5.2.2.2 S4
          have l1 := lt _ _ y1 (by omega)
          rw [if_neg (fun y => y y1)] at hy hno
          (conv => whnf)
          refine bN (by decide) ?_
          (conv => whnf)
          refine ⟨S5.1 549 (by decide), ?_⟩
          refine hc _ _ _ _ (oc_putJump (by omega) S5 (a := a + x0.2.2.2.length + 2 + x1.2.2.2.length) A5.1 (by omega) 23 (fun h6 A6 => ?_))
          have S6 := Fr_Sh A6.2.2.2 S5
          (conv => whnf)
          refine ⟨S6.1 549 (by decide), ?_⟩
          refine hc _ _ _ _ (oc_aimHere (by omega) S6 (a := a + x0.2.2.2.length + 2 + x1.2.2.2.length + 2) (j := a + x0.2.2.2.length + 1) A6.1 (by omega) (by omega) (fun h7 R7 v7 w7 F7 => ?_))
          have S7 := Fr_Sh F7 S6
          have D := PB q 3 o (a + x0.2.2.2.length + 2 + x1.2.2.2.length + 2) (x1.2.1 + 1) (by omega) (by omega)
          have sub2 := IH q (Nat.le_refl _) 3 o (a + x0.2.2.2.length + 2 + x1.2.2.2.length + 2) (x1.2.1 + 1)
          rw [e2] at D sub2
          (conv => whnf)
          refine ⟨S7.1 549 (by decide), ?_⟩
          refine hc _ _ _ _ (sub2 _ h7 _ (by unfold ntl; omega) ho (by omega) (by omega) (by omega) (by omega) S7 R7 (fun z2 h8 A8 => ?_) (fun z2 h8 L8 => ?_))
          · have S8 := Fr_Sh A8.2.2.2 S7
            obtain ⟨m1, m2, m3, m4⟩ := D.1.1 z2
            rw [if_neg (fun y => y z2)] at hy hno
            (conv => whnf)
            refine bF (by decide) ?_
            (conv => whnf)
            refine ⟨S8.1 549 (by decide), ?_⟩
            refine hc _ _ _ _ (oc_aimHere (by omega) S8 (a := a + x0.2.2.2.length + 2 + x1.2.2.2.length + 2 + x2.2.2.2.length) (j := a + x0.2.2.2.length + 2 + x1.2.2.2.length + 1) A8.1 (by omega) (by omega) (fun h9 R9 v9 w9 F9 => ?_))
            have S9 := Fr_Sh F9 S8
            (conv => whnf)
            refine bF (by decide) ?_
            (conv => whnf)
            refine ⟨S9.1 549 (by decide), ?_⟩
            refine hc _ _ _ _ (oc_taken (by omega) S9 hn R9 (by omega) (fun y2 hA AA => ?_) (fun y2 hA LA => ?_))
            · rw [if_neg (fun y => y y2)] at hy
              have FF : Fr fRo h hA := Fr_tr A1.2.2.2 (Fr_tr A2.2.2.2 (Fr_tr A3.2.2.2 (Fr_tr A4.2.2.2 (Fr_tr A5.2.2.2 (Fr_tr A6.2.2.2 (Fr_tr F7 (Fr_tr A8.2.2.2 (Fr_tr F9 AA.2.2.2))))))))
              have low : ∀ j, j < a + x0.2.2.2.length → ab_I hA 557 j = ab_I h1 557 j := fun j hj => (AA.2.2.1 j (by omega)).trans ((w9 j (by omega)).trans ((A8.2.2.1 j (by omega)).trans ((w7 j (by omega)).trans ((A6.2.2.1 j (by omega)).trans ((A5.2.2.1 j (by omega)).trans ((A4.2.2.1 j (by omega)).trans ((A3.2.2.1 j (by omega)).trans (A2.2.2.1 j (by omega)))))))))
              have c22 : ab_I h3 557 (a + x0.2.2.2.length) = nI 22 := A3.2.1 0 (by show 0 < 2; omega)
              have c23 : ab_I h6 557 (a + x0.2.2.2.length + 2 + x1.2.2.2.length) = nI 23 := A6.2.1 0 (by show 0 < 2; omega)
              have s1 : Seg hA 557 a x0.2.2.2 := Seg_eq A1.2.1 (fun j _ hj => low j hj)
              have s2 : Seg hA 557 (a + x0.2.2.2.length) [22, a + x0.2.2.2.length + 2 + x1.2.2.2.length + 2] := by
                refine Seg_2 ?_ ?_
                · exact (AA.2.2.1 _ (by omega)).trans ((w9 _ (by omega)).trans ((A8.2.2.1 _ (by omega)).trans ((w7 _ (by omega)).trans ((A6.2.2.1 _ (by omega)).trans ((A5.2.2.1 _ (by omega)).trans ((A4.2.2.1 _ (by omega)).trans c22))))))
                · exact (AA.2.2.1 _ (by omega)).trans ((w9 _ (by omega)).trans ((A8.2.2.1 _ (by omega)).trans v7))
              have s3 : Seg hA 557 (a + x0.2.2.2.length + 2) x1.2.2.2 := Seg_eq A4.2.1 (fun j h1' h2' => (AA.2.2.1 j (by omega)).trans ((w9 j (by omega)).trans ((A8.2.2.1 j (by omega)).trans ((w7 j (by omega)).trans ((A6.2.2.1 j (by omega)).trans (A5.2.2.1 j (by omega)))))))
              have s4 : Seg hA 557 (a + x0.2.2.2.length + 2 + x1.2.2.2.length) [23, a + x0.2.2.2.length + 2 + x1.2.2.2.length + 2 + x2.2.2.2.length] := by
                refine Seg_2 ?_ ?_
                · exact (AA.2.2.1 _ (by omega)).trans ((w9 _ (by omega)).trans ((A8.2.2.1 _ (by omega)).trans ((w7 _ (by omega)).trans c23)))
                · exact (AA.2.2.1 _ (by omega)).trans v9
              have s5 : Seg hA 557 (a + x0.2.2.2.length + 2 + x1.2.2.2.length + 2) x2.2.2.2 := Seg_eq A8.2.1 (fun j h1' h2' => (AA.2.2.1 j (by omega)).trans (w9 j (by omega)))
              have len : (x0.2.2.2 ++ [22, a + x0.2.2.2.length + 2 + x1.2.2.2.length + 2] ++ x1.2.2.2 ++ [23, a + x0.2.2.2.length + 2 + x1.2.2.2.length + 2 + x2.2.2.2.length] ++ x2.2.2.2).length = x0.2.2.2.length + 2 + x1.2.2.2.length + 2 + x2.2.2.2.length := by
                simp only [List.length_append, List.length_cons, List.length_nil]
              have q1 := hy rfl hA ⟨?_, ?_, fun j hj => (low j (by omega)).trans (A1.2.2.1 j hj), FF⟩
              · (conv => whnf)
                refine bF (by decide) ?_
                (conv => whnf)
                exact ⟨Or.inr rfl, q1⟩
              · show RD hA b n lw (x2.2.1 + 1) (a + (x0.2.2.2 ++ [22, a + x0.2.2.2.length + 2 + x1.2.2.2.length + 2] ++ x1.2.2.2 ++ [23, a + x0.2.2.2.length + 2 + x1.2.2.2.length + 2 + x2.2.2.2.length] ++ x2.2.2.2).length)
                rw [len]
                have := AA.1
                rw [show a + (x0.2.2.2.length + 2 + x1.2.2.2.length + 2 + x2.2.2.2.length) = a + x0.2.2.2.length + 2 + x1.2.2.2.length + 2 + x2.2.2.2.length by omega]
                exact this
              · refine Seg_app (Seg_app (Seg_app (Seg_app s1 s2) ?_) ?_) ?_
                · rw [List.length_append]; exact s3
                · rw [List.length_append, List.length_append]
                  show Seg hA 557 (a + (x0.2.2.2.length + 2 + x1.2.2.2.length)) _
                  rw [show a + (x0.2.2.2.length + 2 + x1.2.2.2.length) = a + x0.2.2.2.length + 2 + x1.2.2.2.length by omega]
                  exact s4
                · rw [List.length_append, List.length_append, List.length_append]
                  show Seg hA 557 (a + (x0.2.2.2.length + 2 + x1.2.2.2.length + 2)) _
                  rw [show a + (x0.2.2.2.length + 2 + x1.2.2.2.length + 2) = a + x0.2.2.2.length + 2 + x1.2.2.2.length + 2 by omega]
                  exact s5
            · rw [if_pos y2] at hno
              have q0 := hno (by show ¬ (1 : Nat) = 0; omega) hA (FL_tr (Fr_tr A1.2.2.2 (Fr_tr A2.2.2.2 (Fr_tr A3.2.2.2 (Fr_tr A4.2.2.2 (Fr_tr A5.2.2.2 (Fr_tr A6.2.2.2 (Fr_tr F7 (Fr_tr A8.2.2.2 F9)))))))) LA)
              (conv => whnf)
              refine bT (by decide) ?_
              (conv => whnf)
              exact ⟨Or.inl rfl, q0⟩
          · rw [if_pos z2] at hno
            have q0 := hno z2 h8 (FL_tr (Fr_tr A1.2.2.2 (Fr_tr A2.2.2.2 (Fr_tr A3.2.2.2 (Fr_tr A4.2.2.2 (Fr_tr A5.2.2.2 (Fr_tr A6.2.2.2 F7)))))) L8)
            (conv => whnf)
            refine bT (by decide) ?_
            (conv => whnf)
            exact ⟨Or.inl rfl, q0⟩
        · rw [if_pos y1] at hno
          have q0 := hno (by show ¬ (1 : Nat) = 0; omega) h5 (FL_tr (Fr_tr A1.2.2.2 (Fr_tr A2.2.2.2 (Fr_tr A3.2.2.2 A4.2.2.2))) L5)
          (conv => whnf)
          refine bP (by decide) ?_
          (conv => whnf)
          exact ⟨Or.inl rfl, q0⟩
      · rw [if_pos z1] at hno
        have q0 := hno z1 h4 (FL_tr (Fr_tr A1.2.2.2 (Fr_tr A2.2.2.2 A3.2.2.2)) L4)
        (conv => whnf)
        refine bT (by decide) ?_
        (conv => whnf)
        exact ⟨Or.inl rfl, q0⟩
    · rw [if_pos y0] at hno
      have q0 := hno (by show ¬ (1 : Nat) = 0; omega) h2 (FL_tr A1.2.2.2 L2)
      (conv => whnf)
      refine bP (by decide) ?_
      (conv => whnf)
      exact ⟨Or.inl rfl, q0⟩
  · rw [if_pos z0] at hno
    have q0 := hno z0 h1 L1
    (conv => whnf)
    refine bT (by decide) ?_
    (conv => whnf)
    exact ⟨Or.inl rfl, q0⟩
theorem oc_one (hn : n ≤ 300) (hl : lw ≤ 2) {q : Nat} (IH : ∀ q', q' ≤ q → CPok b n lw q') : ∀ (o a i d : Nat) (h : Hp) (Q : Option Value → Hp → Prop), o ≤ 8 → i ≤ stL b n → 10 * (stL b n - i) + rkm 0 < q + 1 → a + 2 * (stL b n - i) ≤ 600 → 8 * (8 - o) + rkm 0 + 10 ≤ d → Sh h → RD h b n lw i a → ((ps (stT b n) (stV b n) lw (q + 1) 0 o a i).1 = 0 → ∀ h', OKc h h' b n lw a (ps (stT b n) (stV b n) lw (q + 1) 0 o a i) → Q (some (.int (nI 1))) h') → ((ps (stT b n) (stV b n) lw (q + 1) 0 o a i).1 ≠ 0 → ∀ h', FLc h h' b n (ps (stT b n) (stV b n) lw (q + 1) 0 o a i) → Q (some (.int (nI 0))) h') → ab_Ok d n_X6_one [.ref 549, .int (nI o)] h Q := by
  intro o a i d h Q ho hi hf ha hd S R hy hno
  have ln := stL_n b n
  have r0 : rkm 0 = 0 := rfl
  have r3 : rkm 3 = 2 := rfl
  have tb' := stT_b b n i
  have PB := fun q' m o a i h1 h2 => ps_b (T := stT b n) (V := stV b n) (lw := lw) (L := stL b n) (fun i => stT_e b n) q' m o a i h1 h2
  have ltx : stT b n i ≠ 131 → i < stL b n := fun e => Nat.lt_of_not_le (fun w => e ((stT_e b n).mpr w))
  refine ab_go mr_X6_one rfl (by omega) (fun call W hc hW => ?_); (conv => whnf)
  refine ⟨S.1 549 (by decide), 550, S.2.2 _ _ _ rfl, ?_⟩
  (conv => whnf)
  refine ⟨S.1 550 (by decide), ?_⟩
  refine hc _ _ _ _ (oc_token (by omega) S hn R.1 ?_)
  (conv => whnf)
  refine ⟨fun f => ?_, fun f => ?_⟩ <;> rw [nI_eq (by omega) (by omega)] at f <;> (conv => whnf)
  · -- no number
    refine hc _ _ _ _ (ok_wiN (by omega) 8 17 (nI (stT b n i)) (by omega) (by omega) (fun t t1 t2 e => ?_) (fun e => ?_)) <;> (conv => whnf)
    · have et := (nI_eq (by omega) (by omega)).mp e
      have tr : 8 ≤ stT b n i ∧ stT b n i ≤ 17 := by omega
      have il := ltx (by omega)
      rw [ps_0m (stT b n) (stV b n) lw q o a i tr] at hy hno
      refine bF (by decide) ?_
      (conv => whnf)
      refine ⟨S.1 549 (by decide), ?_⟩
      refine hc _ _ _ _ (oc_name (by omega) S hn R (by omega) hl (by omega) (1, nmM (stT b n i)) (fun z h1 A1 => ?_) (fun z h1 L1 => ?_)) <;> (conv => whnf)
      · rw [if_neg z] at hy
        exact ⟨Or.inr rfl, hy rfl h1 A1⟩
      · rw [if_pos z] at hno
        exact ⟨Or.inl rfl, hno (by show ¬ (5 : Nat) = 0; omega) h1 L1⟩
    · have tr : ¬ (8 ≤ stT b n i ∧ stT b n i ≤ 17) := fun w => e _ w.1 w.2 rfl
      refine bT (by decide) ?_
      (conv => whnf)
      refine ⟨fun g1 => ?_, fun g1 => ?_⟩ <;> rw [nI_eq (by omega) (by omega)] at g1 <;> (conv => whnf)
      · have hO : isO (stT b n i) := by unfold isO; omega
        have il := ltx (by omega)
        refine ⟨fun g => ?_, fun g => ?_⟩ <;> rw [nI_ltI (by omega) (by omega)] at g <;> (conv => whnf)
        · refine ⟨S.1 549 (by decide), 550, S.2.2 _ _ _ rfl, ?_⟩
          (conv => whnf)
          refine ⟨S.1 550 (by decide), ?_⟩
          refine hc _ _ _ _ (oc_advance (by omega) S hn R.1 (fun h2 C2 F2 => ?_))
          have S2 := Fr_Sh F2 S
          have R2 : RD h2 b n lw (i + 1) a := RD_fr57 F2 C2 R
          (conv => whnf)
          rw [ps_0p (stT b n) (stV b n) lw q o a i g1 (by omega)] at hy hno
          have A := PB q 3 (o + 1) a (i + 1) (by omega) (by omega)
          have sub := IH q (Nat.le_refl _) 3 (o + 1) a (i + 1)
          obtain ⟨x, ex⟩ : ∃ x, x = ps (stT b n) (stV b n) lw q 3 (o + 1) a (i + 1) := ⟨_, rfl⟩
          rw [← ex] at hy hno A sub
          clear ex
          refine bP (by rw [nI_eq (by omega) (by omega)]; omega) ?_
          (conv => whnf)
          rw [nI_add]
          refine ⟨S2.1 549 (by decide), ?_⟩
          refine hc _ _ _ _ (sub _ h2 _ (by unfold ntl; omega) (by omega) (by omega) (by omega) (by omega) (by omega) S2 R2 (fun w h3 A3 => ?_) (fun w h3 L3 => ?_))
          · have S3 := Fr_Sh A3.2.2.2 S2
            obtain ⟨k1, k2, k3, k4⟩ := A.1.1 w
            (conv => whnf)
            refine bF (by decide) ?_
            (conv => whnf)
            refine ⟨S3.1 549 (by decide), ?_⟩
            refine hc _ _ _ _ (oc_taken (by omega) S3 hn A3.1 (by omega) (fun y h4 A4 => ?_) (fun y h4 L4 => ?_))
            · have B4 : OKc h3 h4 b n lw (a + x.2.2.2.length) ((fun i1 (_ : Nat) => if stT b n i1 = 41 then em (i1 + 1) [] [] else er 1 i1) x.2.1 x.2.2.2.length) := by
                show OKc h3 h4 b n lw (a + x.2.2.2.length) (if stT b n x.2.1 = 41 then em (x.2.1 + 1) [] [] else er 1 x.2.1)
                rw [if_pos y]
                exact A4
              have q1 := hy (by rw [sq_s w]; show (if stT b n x.2.1 = 41 then em (x.2.1 + 1) [] [] else er 1 x.2.1).1 = 0; rw [if_pos y]; rfl) h4 (OK_tr (f57R F2) (fun j _ => f57c F2 j) (OK_sq w A3 B4))
              (conv => whnf)
              refine bF (by decide) ?_
              (conv => whnf)
              exact ⟨Or.inr rfl, q1⟩
            · have B4 : FLc h3 h4 b n ((fun i1 (_ : Nat) => if stT b n i1 = 41 then em (i1 + 1) [] [] else er 1 i1) x.2.1 x.2.2.2.length) := by
                show FLc h3 h4 b n (if stT b n x.2.1 = 41 then em (x.2.1 + 1) [] [] else er 1 x.2.1)
                rw [if_neg y]
                exact L4
              have q0 := hno (by rw [sq_s w]; show (if stT b n x.2.1 = 41 then em (x.2.1 + 1) [] [] else er 1 x.2.1).1 ≠ 0; rw [if_neg y]; show ¬ (1 : Nat) = 0; omega) h4 (FL_tr (f57R F2) (FL_sq w A3.2.2.2 B4))
              (conv => whnf)
              refine bT (by decide) ?_
              (conv => whnf)
              exact ⟨Or.inl rfl, q0⟩
          · rw [sq_f w] at hno
            have q0 := hno w h3 (FL_tr (f57R F2) L3)
            (conv => whnf)
            refine bT (by decide) ?_
            (conv => whnf)
            exact ⟨Or.inl rfl, q0⟩
        · rw [ps_0d (stT b n) (stV b n) lw q o a i hO (by omega)] at hno
          refine ⟨S.1 549 (by decide), ?_⟩
          refine hc _ _ _ _ (oc_refuse (by omega) S hn R.1 3 (fun h2 L2 => ?_))
          (conv => whnf)
          exact ⟨Or.inl rfl, hno (by show ¬ (3 : Nat) = 0; omega) h2 L2⟩
      have nn40 := g1
      clear g1
      refine ⟨fun g1 => ?_, fun g1 => ?_⟩ <;> rw [nI_eq (by omega) (by omega)] at g1 <;> (conv => whnf)
      · have hO : isO (stT b n i) := by unfold isO; omega
        have il := ltx (by omega)
        refine ⟨fun g => ?_, fun g => ?_⟩ <;> rw [nI_ltI (by omega) (by omega)] at g <;> (conv => whnf)
        · refine ⟨S.1 549 (by decide), 550, S.2.2 _ _ _ rfl, ?_⟩
          (conv => whnf)
          refine ⟨S.1 550 (by decide), ?_⟩
          refine hc _ _ _ _ (oc_advance (by omega) S hn R.1 (fun h2 C2 F2 => ?_))
          have S2 := Fr_Sh F2 S
          have R2 : RD h2 b n lw (i + 1) a := RD_fr57 F2 C2 R
          (conv => whnf)
          rw [ps_0u (stT b n) (stV b n) lw q o a i (by omega) (by omega), if_pos g1] at hy hno
          have A := PB q 0 (o + 1) a (i + 1) (by omega) (by omega)
          have sub := IH q (Nat.le_refl _) 0 (o + 1) a (i + 1)
          obtain ⟨x, ex⟩ : ∃ x, x = ps (stT b n) (stV b n) lw q 0 (o + 1) a (i + 1) := ⟨_, rfl⟩
          rw [← ex] at hy hno A sub
          clear ex
          refine bN (by rw [nI_eq (by omega) (by omega)]; omega) ?_
          (conv => whnf)
          refine bN (by rw [nI_eq (by omega) (by omega)]; omega) ?_
          (conv => whnf)
          rw [nI_add]
          refine ⟨S2.1 549 (by decide), ?_⟩
          refine hc _ _ _ _ (sub _ h2 _ (by unfold ntl; omega) (by omega) (by omega) (by omega) (by omega) (by omega) S2 R2 (fun w h3 A3 => ?_) (fun w h3 L3 => ?_))
          · have S3 := Fr_Sh A3.2.2.2 S2
            obtain ⟨k1, k2, k3, k4⟩ := A.1.1 w
            (conv => whnf)
            refine bF (by decide) ?_
            (conv => whnf)
            refine bP (by rw [nI_eq (by omega) (by omega)]; omega) ?_
            (conv => whnf)
            refine ⟨S3.1 549 (by decide), ?_⟩
            refine hc _ _ _ _ (oc_put (by omega) S3 A3.1 (by omega) (133) (fun h4 A4 => ?_))
            have q1 := hy (by rw [sq_s w]; rfl) h4 (OK_tr (f57R F2) (fun j _ => f57c F2 j) (OK_sq (k := fun i1 _ => em i1 [(unM (stT b n i), 0)] [133]) w A3 A4))
            (conv => whnf)
            refine bF (by decide) ?_
            (conv => whnf)
            exact ⟨Or.inr rfl, q1⟩
          · rw [sq_f w] at hno
            have q0 := hno w h3 (FL_tr (f57R F2) L3)
            (conv => whnf)
            refine bT (by decide) ?_
            (conv => whnf)
            exact ⟨Or.inl rfl, q0⟩
        · rw [ps_0d (stT b n) (stV b n) lw q o a i hO (by omega)] at hno
          refine ⟨S.1 549 (by decide), ?_⟩
          refine hc _ _ _ _ (oc_refuse (by omega) S hn R.1 3 (fun h2 L2 => ?_))
          (conv => whnf)
          exact ⟨Or.inl rfl, hno (by show ¬ (3 : Nat) = 0; omega) h2 L2⟩
      have nn45 := g1
      clear g1
      refine ⟨fun g1 => ?_, fun g1 => ?_⟩ <;> rw [nI_eq (by omega) (by omega)] at g1 <;> (conv => whnf)
      · have hO : isO (stT b n i) := by unfold isO; omega
        have il := ltx (by omega)
        refine ⟨fun g => ?_, fun g => ?_⟩ <;> rw [nI_ltI (by omega) (by omega)] at g <;> (conv => whnf)
        · refine ⟨S.1 549 (by decide), 550, S.2.2 _ _ _ rfl, ?_⟩
          (conv => whnf)
          refine ⟨S.1 550 (by decide), ?_⟩
          refine hc _ _ _ _ (oc_advance (by omega) S hn R.1 (fun h2 C2 F2 => ?_))
          have S2 := Fr_Sh F2 S
          have R2 : RD h2 b n lw (i + 1) a := RD_fr57 F2 C2 R
          (conv => whnf)
          rw [ps_0u (stT b n) (stV b n) lw q o a i (by omega) (by omega), if_neg (show ¬ stT b n i = 45 by omega)] at hy hno
          have A := PB q 0 (o + 1) a (i + 1) (by omega) (by omega)
          have sub := IH q (Nat.le_refl _) 0 (o + 1) a (i + 1)
          obtain ⟨x, ex⟩ : ∃ x, x = ps (stT b n) (stV b n) lw q 0 (o + 1) a (i + 1) := ⟨_, rfl⟩
          rw [← ex] at hy hno A sub
          clear ex
          refine bN (by rw [nI_eq (by omega) (by omega)]; omega) ?_
          (conv => whnf)
          refine bN (by rw [nI_eq (by omega) (by omega)]; omega) ?_
          (conv => whnf)
          rw [nI_add]
          refine ⟨S2.1 549 (by decide), ?_⟩
          refine hc _ _ _ _ (sub _ h2 _ (by unfold ntl; omega) (by omega) (by omega) (by omega) (by omega) (by omega) S2 R2 (fun w h3 A3 => ?_) (fun w h3 L3 => ?_))
          · have S3 := Fr_Sh A3.2.2.2 S2
            obtain ⟨k1, k2, k3, k4⟩ := A.1.1 w
            (conv => whnf)
            refine bF (by decide) ?_
            (conv => whnf)
            refine bN (by rw [nI_eq (by omega) (by omega)]; omega) ?_
            (conv => whnf)
            refine ⟨S3.1 549 (by decide), ?_⟩
            refine hc _ _ _ _ (oc_put (by omega) S3 A3.1 (by omega) (stT b n i) (fun h4 A4 => ?_))
            have q1 := hy (by rw [sq_s w]; rfl) h4 (OK_tr (f57R F2) (fun j _ => f57c F2 j) (OK_sq (k := fun i1 _ => em i1 [(unM (stT b n i), 0)] [stT b n i]) w A3 A4))
            (conv => whnf)
            refine bF (by decide) ?_
            (conv => whnf)
            exact ⟨Or.inr rfl, q1⟩
          · rw [sq_f w] at hno
            have q0 := hno w h3 (FL_tr (f57R F2) L3)
            (conv => whnf)
            refine bT (by decide) ?_
            (conv => whnf)
            exact ⟨Or.inl rfl, q0⟩
        · rw [ps_0d (stT b n) (stV b n) lw q o a i hO (by omega)] at hno
          refine ⟨S.1 549 (by decide), ?_⟩
          refine hc _ _ _ _ (oc_refuse (by omega) S hn R.1 3 (fun h2 L2 => ?_))
          (conv => whnf)
          exact ⟨Or.inl rfl, hno (by show ¬ (3 : Nat) = 0; omega) h2 L2⟩
      have nn28 := g1
      clear g1
      refine ⟨fun g1 => ?_, fun g1 => ?_⟩ <;> rw [nI_eq (by omega) (by omega)] at g1 <;> (conv => whnf)
      · have hO : isO (stT b n i) := by unfold isO; omega
        have il := ltx (by omega)
        refine ⟨fun g => ?_, fun g => ?_⟩ <;> rw [nI_ltI (by omega) (by omega)] at g <;> (conv => whnf)
        · refine ⟨S.1 549 (by decide), 550, S.2.2 _ _ _ rfl, ?_⟩
          (conv => whnf)
          refine ⟨S.1 550 (by decide), ?_⟩
          refine hc _ _ _ _ (oc_advance (by omega) S hn R.1 (fun h2 C2 F2 => ?_))
          have S2 := Fr_Sh F2 S
          have R2 : RD h2 b n lw (i + 1) a := RD_fr57 F2 C2 R
          (conv => whnf)
          rw [ps_0u (stT b n) (stV b n) lw q o a i (by omega) (by omega), if_neg (show ¬ stT b n i = 45 by omega)] at hy hno
          have A := PB q 0 (o + 1) a (i + 1) (by omega) (by omega)
          have sub := IH q (Nat.le_refl _) 0 (o + 1) a (i + 1)
          obtain ⟨x, ex⟩ : ∃ x, x = ps (stT b n) (stV b n) lw q 0 (o + 1) a (i + 1) := ⟨_, rfl⟩
          rw [← ex] at hy hno A sub
          clear ex
          refine bN (by rw [nI_eq (by omega) (by omega)]; omega) ?_
          (conv => whnf)
          refine bN (by rw [nI_eq (by omega) (by omega)]; omega) ?_
          (conv => whnf)
          rw [nI_add]
          refine ⟨S2.1 549 (by decide), ?_⟩
          refine hc _ _ _ _ (sub _ h2 _ (by unfold ntl; omega) (by omega) (by omega) (by omega) (by omega) (by omega) S2 R2 (fun w h3 A3 => ?_) (fun w h3 L3 => ?_))
          · have S3 := Fr_Sh A3.2.2.2 S2
            obtain ⟨k1, k2, k3, k4⟩ := A.1.1 w
            (conv => whnf)
            refine bF (by decide) ?_
            (conv => whnf)
            refine bN (by rw [nI_eq (by omega) (by omega)]; omega) ?_
            (conv => whnf)
            refine ⟨S3.1 549 (by decide), ?_⟩
            refine hc _ _ _ _ (oc_put (by omega) S3 A3.1 (by omega) (stT b n i) (fun h4 A4 => ?_))
            have q1 := hy (by rw [sq_s w]; rfl) h4 (OK_tr (f57R F2) (fun j _ => f57c F2 j) (OK_sq (k := fun i1 _ => em i1 [(unM (stT b n i), 0)] [stT b n i]) w A3 A4))
            (conv => whnf)
            refine bF (by decide) ?_
            (conv => whnf)
            exact ⟨Or.inr rfl, q1⟩
          · rw [sq_f w] at hno
            have q0 := hno w h3 (FL_tr (f57R F2) L3)
            (conv => whnf)
            refine bT (by decide) ?_
            (conv => whnf)
            exact ⟨Or.inl rfl, q0⟩
        · rw [ps_0d (stT b n) (stV b n) lw q o a i hO (by omega)] at hno
          refine ⟨S.1 549 (by decide), ?_⟩
          refine hc _ _ _ _ (oc_refuse (by omega) S hn R.1 3 (fun h2 L2 => ?_))
          (conv => whnf)
          exact ⟨Or.inl rfl, hno (by show ¬ (3 : Nat) = 0; omega) h2 L2⟩
      have nn29 := g1
      clear g1
      refine ⟨fun g1 => ?_, fun g1 => ?_⟩ <;> rw [nI_eq (by omega) (by omega)] at g1 <;> (conv => whnf)
      · have hO : isO (stT b n i) := by unfold isO; omega
        have il := ltx (by omega)
        refine ⟨fun g => ?_, fun g => ?_⟩ <;> rw [nI_ltI (by omega) (by omega)] at g <;> (conv => whnf)
        · refine ⟨S.1 549 (by decide), 550, S.2.2 _ _ _ rfl, ?_⟩
          (conv => whnf)
          refine ⟨S.1 550 (by decide), ?_⟩
          refine hc _ _ _ _ (oc_advance (by omega) S hn R.1 (fun h2 C2 F2 => ?_))
          have S2 := Fr_Sh F2 S
          have R2 : RD h2 b n lw (i + 1) a := RD_fr57 F2 C2 R
          (conv => whnf)
          have eC := ps_0i (stT b n) (stV b n) lw q o a i g1 (by omega) rfl rfl rfl
          rw [eC] at hy hno
          refine bN (by rw [nI_eq (by omega) (by omega)]; omega) ?_
          (conv => whnf)
          refine bP (by rw [nI_eq (by omega) (by omega)]; omega) ?_
          (conv => whnf)
          rw [nI_add]
          refine ⟨S2.1 549 (by decide), ?_⟩
          refine hc _ _ _ _ (oc_choice hn IH (o := o + 1) (a := a) (i := i + 1) (by omega) (by omega) (by omega) (by omega) (by omega) S2 R2 rfl rfl rfl (fun w h3 A3 => ?_) (fun w h3 L3 => ?_)) <;> (conv => whnf)
          · exact ⟨Or.inr rfl, hy w h3 (OK_tr (f57R F2) (fun j _ => f57c F2 j) A3)⟩
          · exact ⟨Or.inl rfl, hno w h3 (FL_tr (f57R F2) L3)⟩
        · rw [ps_0d (stT b n) (stV b n) lw q o a i hO (by omega)] at hno
          refine ⟨S.1 549 (by decide), ?_⟩
          refine hc _ _ _ _ (oc_refuse (by omega) S hn R.1 3 (fun h2 L2 => ?_))
          (conv => whnf)
          exact ⟨Or.inl rfl, hno (by show ¬ (3 : Nat) = 0; omega) h2 L2⟩
      have nn21 := g1
      clear g1
      have tO : ¬ isO (stT b n i) := by unfold isO; omega
      rw [ps_0e (stT b n) (stV b n) lw q o a i f tr tO] at hno
      refine ⟨S.1 549 (by decide), ?_⟩
      refine hc _ _ _ _ (oc_refuse (by omega) S hn R.1 1 (fun h2 L2 => ?_))
      (conv => whnf)
      exact ⟨Or.inl rfl, hno (by show ¬ (1 : Nat) = 0; omega) h2 L2⟩
  · have il := ltx (by omega)
    rw [ps_0n (stT b n) (stV b n) lw q o a i f] at hy hno
    refine ⟨S.1 549 (by decide), ?_⟩
    refine hc _ _ _ _ (oc_plainNumber (by omega) S hn R (by omega) (fun z h1 A1 => ?_) (fun z h1 L1 => ?_)) <;> (conv => whnf)
    · rw [if_neg z] at hy
      exact ⟨Or.inr rfl, hy rfl h1 A1⟩
    · rw [if_pos z] at hno
      exact ⟨Or.inl rfl, hno (by show ¬ (2 : Nat) = 0; omega) h1 L1⟩
theorem CP_all (hn : n ≤ 300) (hl : lw ≤ 2) : ∀ q, CPok b n lw q := by
  have st : ∀ N q, q ≤ N → CPok b n lw q := by
    intro N
    induction N with
    | zero =>
      intro q hq m o a i d h Q _ _ _ hf
      omega
    | succ N ih =>
      intro q hq
      cases q with
      | zero =>
        intro m o a i d h Q _ _ _ hf
        omega
      | succ q =>
        have IH : ∀ q', q' ≤ q → CPok b n lw q' := fun q' h => ih q' (by omega)
        intro m o a i d h Q hm ho hi hf ha hd S R hy hno
        rcases hm with rfl | rfl | rfl | rfl | rfl | rfl
        · exact oc_one hn hl IH o a i d h Q ho hi hf ha hd S R hy hno
        · exact oc_product hn IH o a i d h Q ho hi hf ha hd S R hy hno
        · exact oc_sum hn IH o a i d h Q ho hi hf ha hd S R hy hno
        · exact oc_ask hn IH o a i d h Q ho hi hf ha hd S R hy hno
        · exact oc_both hn IH o a i d h Q ho hi hf ha hd S R hy hno
        · exact oc_either hn IH o a i d h Q ho hi hf ha hd S R hy hno
  exact fun q => st q q (Nat.le_refl _)
end CA
