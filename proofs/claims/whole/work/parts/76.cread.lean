/-! ===== contracts: the class's reader, its small methods (mine) ===== -/
def fRd (a k : Nat) : Prop := (a = 549 ∧ (k = 5 ∨ k = 9 ∨ k = 10)) ∨ (a = 550 ∧ k = 7) ∨ a = 557
def fRo (a k : Nat) : Prop := (a = 549 ∧ k = 5) ∨ (a = 550 ∧ k = 7) ∨ a = 557
theorem fRoR {h h' : Hp} (F : Fr fRo h h') : Fr fRd h h' := Fr_mo F (fun a k z => by unfold fRo at z; unfold fRd; omega)
def RD (h : Hp) (b : Nat → Nat) (n lw i a : Nat) : Prop := CT h b n i ∧ ab_I h 549 5 = nI a ∧ ab_I h 549 8 = nI lw
/-- what was read stands behind place a -/
def OKc (h h' : Hp) (b : Nat → Nat) (n lw a : Nat) (x : PO) : Prop := RD h' b n lw x.2.1 (a + x.2.2.2.length) ∧ Seg h' 557 a x.2.2.2 ∧ (∀ j, j < a → ab_I h' 557 j = ab_I h 557 j) ∧ Fr fRo h h'
/-- a fault was found -/
def FLc (h h' : Hp) (b : Nat → Nat) (n : Nat) (x : PO) : Prop := ab_I h' 549 9 = nI x.1 ∧ ab_I h' 549 10 = nI (stP b n x.2.1) ∧ Fr fRd h h'
theorem OK_sq {h h1 h2 : Hp} {b : Nat → Nat} {n lw a : Nat} {x : PO} {k : Nat → Nat → PO} (hx : x.1 = 0) (A : OKc h h1 b n lw a x) (B : OKc h1 h2 b n lw (a + x.2.2.2.length) (k x.2.1 x.2.2.2.length)) : OKc h h2 b n lw a (sq x k) := by
  obtain ⟨a1, a2, a3, a4⟩ := A
  obtain ⟨b1, b2, b3, b4⟩ := B
  rw [sq_s hx]
  refine ⟨?_, ?_, fun j hj => (b3 j (by omega)).trans (a3 j hj), Fr_tr a4 b4⟩
  · show RD h2 b n lw (k x.2.1 x.2.2.2.length).2.1 (a + (x.2.2.2 ++ (k x.2.1 x.2.2.2.length).2.2.2).length)
    rw [List.length_append, ← Nat.add_assoc]
    exact b1
  · show Seg h2 557 a (x.2.2.2 ++ (k x.2.1 x.2.2.2.length).2.2.2)
    intro j hj
    rw [List.length_append] at hj
    rw [List.getD_eq_getElem?_getD]
    rcases Nat.lt_or_ge j x.2.2.2.length with z | z
    · rw [List.getElem?_append_left z, ← List.getD_eq_getElem?_getD, b3 (a + j) (by omega)]
      exact a2 j z
    · rw [List.getElem?_append_right z, ← List.getD_eq_getElem?_getD]
      have := b2 (j - x.2.2.2.length) (by omega)
      rw [show a + x.2.2.2.length + (j - x.2.2.2.length) = a + j by omega] at this
      exact this
theorem FL_sq {h h1 h2 : Hp} {b : Nat → Nat} {n : Nat} {x : PO} {k : Nat → Nat → PO} (hx : x.1 = 0) (A : Fr fRo h h1) (B : FLc h1 h2 b n (k x.2.1 x.2.2.2.length)) : FLc h h2 b n (sq x k) := by
  rw [sq_s hx]
  exact ⟨B.1, B.2.1, Fr_tr (fRoR A) B.2.2⟩
theorem FL_tr {h h1 h2 : Hp} {b : Nat → Nat} {n : Nat} {x : PO} (A : Fr fRo h h1) (B : FLc h1 h2 b n x) : FLc h h2 b n x := ⟨B.1, B.2.1, Fr_tr (fRoR A) B.2.2⟩
theorem OK_tr {h h1 h2 : Hp} {b : Nat → Nat} {n lw a : Nat} {x : PO} (A : Fr fRo h h1) (A2 : ∀ j, j < a → ab_I h1 557 j = ab_I h 557 j) (B : OKc h1 h2 b n lw a x) : OKc h h2 b n lw a x := ⟨B.1, B.2.1, fun j hj => (B.2.2.1 j hj).trans (A2 j hj), Fr_tr A B.2.2.2⟩
theorem RD_fr57 {h h' : Hp} {b : Nat → Nat} {n lw i i' a : Nat} (F : Fr f57 h h') (C : CT h' b n i') (R : RD h b n lw i a) : RD h' b n lw i' a := ⟨C, (F.2.2.2.2 549 5 (fun w => by unfold f57 at w; omega)).trans R.2.1, (F.2.2.2.2 549 8 (fun w => by unfold f57 at w; omega)).trans R.2.2⟩
theorem f57R {h h' : Hp} (F : Fr f57 h h') : Fr fRo h h' := Fr_mo F (fun a k z => Or.inr (Or.inl z))
theorem f57c {h h' : Hp} (F : Fr f57 h h') (j : Nat) : ab_I h' 557 j = ab_I h 557 j := F.2.2.2.2 557 j (fun w => by unfold f57 at w; omega)
section CR1
variable {d : Nat} {h : Hp} {Q : Option Value → Hp → Prop} {n lw : Nat} {b : Nat → Nat}
theorem oc_put (hd : 1 ≤ d) (S : Sh h) {i a : Nat} (R : RD h b n lw i a) (ha : a < 600) (v : Nat) (hq : ∀ h', OKc h h' b n lw a (em i [] [v]) → Q (some (.int (nI 1))) h') : ab_Ok d n_X6_put [.ref 549, .int (nI v)] h Q := by
  obtain ⟨C, c5, c8⟩ := R
  have S' := S
  refine ab_go mr_X6_put rfl (by omega) (fun call W hc hW => ?_); (conv => whnf)
  refine ⟨S'.1 549 (by decide), ?_⟩
  (conv => whnf)
  rw [c5]
  refine bT (by rw [nI_ltI (by omega) (by omega)]; omega) ?_
  (conv => whnf)
  refine ⟨S.1 549 (by decide), 557, S.2.2 _ _ _ rfl, ?_⟩
  (conv => whnf)
  refine ⟨S'.1 549 (by decide), ?_⟩
  (conv => whnf)
  rw [c5]
  refine ⟨S.1 557 (by decide), vin _ (S.2.1 557 (by decide)) (by show a < 600; omega) (by decide), ?_⟩
  (conv => whnf)
  rw [nI_clamp (by omega)]
  refine ⟨S'.1 549 (by decide), ?_⟩
  (conv => whnf)
  rw [show ab_I (ab_sI h 557 a (nI v)) 549 5 = nI a from (rI_a _ _ _ _ (by decide)).trans c5, nI_add]
  refine ⟨S'.1 549 (by decide), ?_⟩
  (conv => whnf)
  have F1 : Fr fRo h (ab_sI (ab_sI h 557 a (nI v)) 549 5 (nI (a + 1))) := Fr_tr (Fr_sI (Or.inr (Or.inr rfl))) (Fr_sI (Or.inl ⟨rfl, by omega⟩))
  refine ⟨Or.inr rfl, hq _ ⟨⟨?_, rI_s _ _ _ _, ?_⟩, ?_, fun j hj => ?_, F1⟩⟩
  · refine CT_fr (P := fun x k => (x = 549 ∧ k = 5) ∨ x = 557) (Fr_tr (Fr_sI (Or.inr rfl)) (Fr_sI (Or.inl ⟨rfl, rfl⟩))) (fun w => by omega) (fun w => by omega) (fun x k h1 h2 w => by omega) C
  · rw [rI_k _ _ _ (by decide), rI_a _ _ _ _ (by decide)]; exact c8
  · intro j hj
    have hj : j < 1 := hj
    obtain rfl : j = 0 := by omega
    rw [rI_a _ _ _ _ (by decide), Nat.add_zero, rI_s]
    rfl
  · rw [rI_a _ _ _ _ (by decide), rI_k _ _ _ (by omega)]
theorem oc_refuse (hd : 2 ≤ d) (S : Sh h) (hn : n ≤ 300) {i : Nat} (C : CT h b n i) (f : Nat) (hq : ∀ h', FLc h h' b n (er f i) → Q (some (.int (nI 0))) h') : ab_Ok d n_X6_refuse [.ref 549, .int (nI f)] h Q := by
  have S' := S
  refine ab_go mr_X6_refuse rfl (by omega) (fun call W hc hW => ?_); (conv => whnf)
  refine ⟨S'.1 549 (by decide), ?_⟩
  (conv => whnf)
  obtain ⟨h1, e1⟩ : ∃ h1, h1 = ab_sI h 549 9 (nI f) := ⟨_, rfl⟩
  have F1 : Fr fRd h h1 := by rw [e1]; exact Fr_sI (Or.inl ⟨rfl, by omega⟩)
  have S1 := Fr_Sh F1 S
  have C1 : CT h1 b n i := by rw [e1]; exact CT_fr (P := fun x k => x = 549 ∧ k = 9) (Fr_sI ⟨rfl, rfl⟩) (fun w => by omega) (fun w => by omega) (fun x k h1 h2 w => by omega) C
  have d9 : ab_I h1 549 9 = nI f := by rw [e1, rI_s]
  rw [← e1]
  clear e1
  refine ⟨S1.1 549 (by decide), 550, S1.2.2 _ _ _ rfl, ?_⟩
  (conv => whnf)
  refine ⟨S1.1 550 (by decide), ?_⟩
  refine hc _ _ _ _ (oc_placeT (by omega) S1 hn C1 ?_)
  (conv => whnf)
  refine ⟨S1.1 549 (by decide), ?_⟩
  (conv => whnf)
  refine ⟨Or.inl rfl, hq _ ⟨?_, rI_s _ _ _ _, Fr_tr F1 (Fr_sI (Or.inl ⟨rfl, by omega⟩))⟩⟩
  rw [rI_k _ _ _ (by decide)]
  exact d9
theorem oc_taken (hd : 3 ≤ d) (S : Sh h) (hn : n ≤ 300) {i a : Nat} (R : RD h b n lw i a) {t : Nat} (ht : t < 1000) (hy : stT b n i = t → ∀ h', OKc h h' b n lw a (em (i + 1) [] []) → Q (some (.int (nI 1))) h') (hno : stT b n i ≠ t → ∀ h', FLc h h' b n (er 1 i) → Q (some (.int (nI 0))) h') : ab_Ok d n_X6_taken [.ref 549, .int (nI t)] h Q := by
  have tb' := stT_b b n i
  refine ab_go mr_X6_taken rfl (by omega) (fun call W hc hW => ?_); (conv => whnf)
  refine ⟨S.1 549 (by decide), 550, S.2.2 _ _ _ rfl, ?_⟩
  (conv => whnf)
  refine ⟨S.1 550 (by decide), ?_⟩
  refine hc _ _ _ _ (oc_token (by omega) S hn R.1 ?_)
  (conv => whnf)
  refine ⟨fun f => ?_, fun f => ?_⟩ <;> rw [nI_eq (by omega) (by omega)] at f <;> (conv => whnf)
  · refine ⟨S.1 549 (by decide), 550, S.2.2 _ _ _ rfl, ?_⟩
    (conv => whnf)
    refine ⟨S.1 550 (by decide), ?_⟩
    refine hc _ _ _ _ (oc_advance (by omega) S hn R.1 (fun h1 C1 F1 => ?_))
    (conv => whnf)
    exact ⟨Or.inr rfl, hy f h1 ⟨RD_fr57 F1 C1 R, fun j hj => absurd hj (Nat.not_lt_zero _), fun j _ => f57c F1 j, f57R F1⟩⟩
  · refine ⟨S.1 549 (by decide), ?_⟩
    refine hc _ _ _ _ (oc_refuse (by omega) S hn R.1 1 (fun h1 L1 => ?_))
    (conv => whnf)
    exact ⟨Or.inl rfl, hno f h1 L1⟩
theorem oc_isComparison (hd : 1 ≤ d) {t : Nat} (ht : t < 1000) (hy : isC t → Q (some (.int (nI 1))) h) (hno : ¬ isC t → Q (some (.int (nI 0))) h) : ab_Ok d n_X6_isComparison [.int (nI t)] h Q := by
  refine ab_go mr_X6_isComparison rfl (by omega) (fun call W hc hW => ?_); (conv => whnf)
  refine ⟨fun f => ?_, fun f1 => ?_⟩
  · rw [nI_eq (by omega) (by omega)] at f
    (conv => whnf)
    exact ⟨Or.inr rfl, hy (by unfold isC; omega)⟩
  rw [nI_eq (by omega) (by omega)] at f1
  (conv => whnf)
  refine ⟨fun f => ?_, fun f2 => ?_⟩
  · rw [nI_eq (by omega) (by omega)] at f
    (conv => whnf)
    exact ⟨Or.inr rfl, hy (by unfold isC; omega)⟩
  rw [nI_eq (by omega) (by omega)] at f2
  (conv => whnf)
  refine ⟨fun f => ?_, fun f3 => ?_⟩
  · rw [nI_eq (by omega) (by omega)] at f
    (conv => whnf)
    exact ⟨Or.inr rfl, hy (by unfold isC; omega)⟩
  rw [nI_eq (by omega) (by omega)] at f3
  (conv => whnf)
  refine ⟨fun f => ?_, fun f4 => ?_⟩
  · rw [nI_eq (by omega) (by omega)] at f
    (conv => whnf)
    exact ⟨Or.inr rfl, hy (by unfold isC; omega)⟩
  rw [nI_eq (by omega) (by omega)] at f4
  (conv => whnf)
  refine ⟨fun f => ?_, fun f5 => ?_⟩
  · rw [nI_eq (by omega) (by omega)] at f
    (conv => whnf)
    exact ⟨Or.inr rfl, hy (by unfold isC; omega)⟩
  rw [nI_eq (by omega) (by omega)] at f5
  (conv => whnf)
  refine ⟨fun f => ?_, fun f => ?_⟩
  · rw [nI_eq (by omega) (by omega)] at f
    (conv => whnf)
    exact ⟨Or.inl rfl, hno (by unfold isC; omega)⟩
  · rw [nI_eq (by omega) (by omega)] at f
    (conv => whnf)
    exact ⟨Or.inr rfl, hy (by unfold isC; omega)⟩
theorem oc_plainNumber (hd : 4 ≤ d) (S : Sh h) (hn : n ≤ 300) {i a : Nat} (R : RD h b n lw i a) (ha : a + 2 ≤ 600) (hy : ¬ 9999 < stV b n i → ∀ h', OKc h h' b n lw a (em (i + 1) [(0, stV b n i)] [130, stV b n i]) → Q (some (.int (nI 1))) h') (hno : 9999 < stV b n i → ∀ h', FLc h h' b n (er 2 i) → Q (some (.int (nI 0))) h') : ab_Ok d n_X6_plainNumber [.ref 549] h Q := by
  have vb := stV_b b n i
  refine ab_go mr_X6_plainNumber rfl (by omega) (fun call W hc hW => ?_); (conv => whnf)
  refine ⟨S.1 549 (by decide), 550, S.2.2 _ _ _ rfl, ?_⟩
  (conv => whnf)
  refine ⟨S.1 550 (by decide), ?_⟩
  refine hc _ _ _ _ (oc_value (by omega) S hn R.1 ?_)
  (conv => whnf)
  refine ⟨fun f => ?_, fun f => ?_⟩ <;> rw [nI_leI (by omega) (by omega)] at f <;> (conv => whnf)
  · refine ⟨S.1 549 (by decide), ?_⟩
    refine hc _ _ _ _ (oc_put (by omega) S R (by omega) 130 (fun h1 A1 => ?_))
    have S1 := Fr_Sh A1.2.2.2 S
    (conv => whnf)
    refine bF (by decide) ?_
    (conv => whnf)
    refine ⟨S1.1 549 (by decide), 550, S1.2.2 _ _ _ rfl, ?_⟩
    (conv => whnf)
    refine ⟨S1.1 550 (by decide), ?_⟩
    refine hc _ _ _ _ (oc_value (by omega) S1 hn A1.1.1 ?_)
    (conv => whnf)
    refine ⟨S1.1 549 (by decide), ?_⟩
    refine hc _ _ _ _ (oc_put (by omega) S1 A1.1 (by show a + 1 < 600; omega) (stV b n i) (fun h2 A2 => ?_))
    have S2 := Fr_Sh A2.2.2.2 S1
    (conv => whnf)
    refine bF (by decide) ?_
    (conv => whnf)
    refine ⟨S2.1 549 (by decide), 550, S2.2.2 _ _ _ rfl, ?_⟩
    (conv => whnf)
    refine ⟨S2.1 550 (by decide), ?_⟩
    refine hc _ _ _ _ (oc_advance (by omega) S2 hn A2.1.1 (fun h3 C3 F3 => ?_))
    (conv => whnf)
    have A12 : OKc h h2 b n lw a (sq (em i [] [130]) (fun i1 _ => em i1 [] [stV b n i])) := OK_sq rfl A1 A2
    refine ⟨Or.inr rfl, hy (by omega) h3 ⟨RD_fr57 F3 C3 A12.1, fun j hj => ?_, fun j hj => (f57c F3 j).trans (A12.2.2.1 j hj), Fr_tr A12.2.2.2 (f57R F3)⟩⟩
    rw [f57c F3]
    exact A12.2.1 j hj
  · refine ⟨S.1 549 (by decide), ?_⟩
    refine hc _ _ _ _ (oc_refuse (by omega) S hn R.1 2 (fun h1 L1 => ?_))
    (conv => whnf)
    exact ⟨Or.inl rfl, hno (by omega) h1 L1⟩
theorem oc_name (hd : 4 ≤ d) (S : Sh h) (hn : n ≤ 300) {i a t : Nat} (R : RD h b n lw i a) (ha : a + 1 ≤ 600) (hl : lw ≤ 2) (ht : t ≤ 17) (p : Nat × Nat) (hy : ¬ (15 ≤ t ∧ lw ≠ 1) → ∀ h', OKc h h' b n lw a (em (i + 1) [p] [t]) → Q (some (.int (nI 1))) h') (hno : 15 ≤ t ∧ lw ≠ 1 → ∀ h', FLc h h' b n (er 5 i) → Q (some (.int (nI 0))) h') : ab_Ok d n_X6_name [.ref 549, .int (nI t)] h Q := by
  have c8 := R.2.2
  have go : ¬ (15 ≤ t ∧ lw ≠ 1) → ∀ h1, OKc h h1 b n lw a (em (i + 1) [] []) → ∀ h2, OKc h1 h2 b n lw a (em (i + 1) [] [t]) → Q (some (.int (nI 1))) h2 := by
    intro z h1 A1 h2 A2
    exact hy z h2 ⟨A2.1, A2.2.1, fun j hj => (A2.2.2.1 j hj).trans (A1.2.2.1 j hj), Fr_tr A1.2.2.2 A2.2.2.2⟩
  refine ab_go mr_X6_name rfl (by omega) (fun call W hc hW => ?_); (conv => whnf)
  refine ⟨fun f => ?_, fun f => ?_⟩ <;> rw [nI_ltI (by omega) (by omega)] at f <;> (conv => whnf)
  · refine ⟨S.1 549 (by decide), 550, S.2.2 _ _ _ rfl, ?_⟩
    (conv => whnf)
    refine ⟨S.1 550 (by decide), ?_⟩
    refine hc _ _ _ _ (oc_advance (by omega) S hn R.1 (fun h1 C1 F1 => ?_))
    have S1 := Fr_Sh F1 S
    have A1 : OKc h h1 b n lw a (em (i + 1) [] []) := ⟨RD_fr57 F1 C1 R, fun j hj => absurd hj (Nat.not_lt_zero _), fun j _ => f57c F1 j, f57R F1⟩
    (conv => whnf)
    refine ⟨S1.1 549 (by decide), ?_⟩
    refine hc _ _ _ _ (oc_put (by omega) S1 (a := a) A1.1 (by omega) t (fun h2 A2 => ?_))
    (conv => whnf)
    exact ⟨Or.inr rfl, go (by omega) h1 A1 h2 A2⟩
  · refine ⟨S.1 549 (by decide), ?_⟩
    (conv => whnf)
    rw [c8]
    refine ⟨fun g => ?_, fun g => ?_⟩ <;> rw [nI_eq (by omega) (by omega)] at g <;> (conv => whnf)
    · refine ⟨S.1 549 (by decide), 550, S.2.2 _ _ _ rfl, ?_⟩
      (conv => whnf)
      refine ⟨S.1 550 (by decide), ?_⟩
      refine hc _ _ _ _ (oc_advance (by omega) S hn R.1 (fun h1 C1 F1 => ?_))
      have S1 := Fr_Sh F1 S
      have A1 : OKc h h1 b n lw a (em (i + 1) [] []) := ⟨RD_fr57 F1 C1 R, fun j hj => absurd hj (Nat.not_lt_zero _), fun j _ => f57c F1 j, f57R F1⟩
      (conv => whnf)
      refine ⟨S1.1 549 (by decide), ?_⟩
      refine hc _ _ _ _ (oc_put (by omega) S1 (a := a) A1.1 (by omega) t (fun h2 A2 => ?_))
      (conv => whnf)
      exact ⟨Or.inr rfl, go (by omega) h1 A1 h2 A2⟩
    · refine ⟨S.1 549 (by decide), ?_⟩
      refine hc _ _ _ _ (oc_refuse (by omega) S hn R.1 5 (fun h1 L1 => ?_))
      (conv => whnf)
      exact ⟨Or.inl rfl, hno (by omega) h1 L1⟩
end CR1
