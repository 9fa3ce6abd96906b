/-! ===== contracts: among the first two, on both sides (mine) ===== -/
def twU (s : Sv) (A k : Nat) : Nat → Nat × Nat
  | 0 => (1, 1)
  | j + 1 => if j = k then twU s A k j else ((twU s A k j).1 * (A - s 13 j) + s 13 j * (twU s A k j).2, (twU s A k j).2 * (A - s 13 j))
def twR (s : Sv) (k : Nat) (w : Int32) : Nat := ltm ((twU s (aS s (s 18 0)) k (s 18 0)).1 * s 13 k) ((twU s (aS s (s 18 0)) k (s 18 0)).2 * aS s (s 18 0)) w
theorem twU_b {s : Sv} (B : WF s) {k : Nat} (h2 : 2 ≤ s 18 0) : ∀ j, j ≤ s 18 0 → 1 ≤ (twU s (aS s (s 18 0)) k j).1 ∧ (twU s (aS s (s 18 0)) k j).1 ≤ (j + 1) * 100 ^ j ∧ (twU s (aS s (s 18 0)) k j).2 ≤ 100 ^ j := by
  have b0 := (wb_n B).1
  have a0 := aS_b B (s 18 0) b0
  intro j
  induction j with
  | zero => intro _; exact ⟨Nat.le_refl _, Nat.le_refl _, Nat.le_refl _⟩
  | succ j ih =>
    intro hj
    obtain ⟨i1, i2, i3⟩ := ih (by omega)
    have c := wb_str B (k := j) (by omega)
    have e := aS_k B (k := j) (s 18 0) b0 (by omega)
    have p : 100 ^ (j + 1) = 100 ^ j * 100 := Nat.pow_succ _ _
    have q : (j + 2) * 100 ^ (j + 1) = (j + 1) * 100 ^ j * 100 + 100 ^ j * 100 := by
      rw [p, show j + 2 = (j + 1) + 1 from rfl, Nat.add_mul (j + 1) 1, Nat.one_mul, Nat.mul_assoc]
    show 1 ≤ (if j = k then twU s (aS s (s 18 0)) k j else _).1 ∧ (if j = k then twU s (aS s (s 18 0)) k j else _).1 ≤ (j + 2) * 100 ^ (j + 1) ∧ (if j = k then twU s (aS s (s 18 0)) k j else _).2 ≤ 100 ^ (j + 1)
    by_cases x : j = k
    · rw [if_pos x, q, p]
      omega
    · rw [if_neg x, q, p]
      have m1 : 1 * 1 ≤ (twU s (aS s (s 18 0)) k j).1 * (aS s (s 18 0) - s 13 j) := Nat.mul_le_mul i1 (by omega)
      have m2 : (twU s (aS s (s 18 0)) k j).1 * (aS s (s 18 0) - s 13 j) ≤ (j + 1) * 100 ^ j * 100 := Nat.mul_le_mul i2 (by omega)
      have m3 : (twU s (aS s (s 18 0)) k j).2 * (aS s (s 18 0) - s 13 j) ≤ 100 ^ j * 100 := Nat.mul_le_mul i3 (by omega)
      have m4 : s 13 j * (twU s (aS s (s 18 0)) k j).2 ≤ 100 * 100 ^ j := Nat.mul_le_mul (by omega) i3
      refine ⟨?_, ?_, m3⟩
      · show 1 ≤ _ + _
        omega
      · show _ + _ ≤ _
        omega
theorem twU_c {s : Sv} (B : WF s) {k : Nat} (h2 : 2 ≤ s 18 0) {j : Nat} (hj : j ≤ s 18 0) : 1 ≤ (twU s (aS s (s 18 0)) k j).1 ∧ (twU s (aS s (s 18 0)) k j).1 ≤ 60000000000 ∧ (twU s (aS s (s 18 0)) k j).2 ≤ 10000000000 := by
  have b0 := (wb_n B).1
  obtain ⟨i1, i2, i3⟩ := twU_b B (k := k) h2 j hj
  have p : 100 ^ j ≤ 100 ^ 5 := Nat.pow_le_pow_right (by decide) (by omega)
  have q : (j + 1) * 100 ^ j ≤ 6 * 100 ^ 5 := Nat.mul_le_mul (by omega) p
  omega
section TW
variable {d : Nat} {h : Hp} {Q : Option Value → Hp → Prop} {s : Sv}
theorem tw_fin {s : Sv} (B : WF s) {k : Nat} (h2 : 2 ≤ s 18 0) (hk : k < s 18 0) : 1 ≤ (twU s (aS s (s 18 0)) k (s 18 0)).1 * s 13 k ∧ (twU s (aS s (s 18 0)) k (s 18 0)).1 * s 13 k < 2 ^ 45 ∧ (twU s (aS s (s 18 0)) k (s 18 0)).2 * aS s (s 18 0) < 2 ^ 45 := by
  have b0 := (wb_n B).1
  have a0 := aS_b B (s 18 0) b0
  obtain ⟨i1, i2, i3⟩ := twU_c B (k := k) h2 (Nat.le_refl _)
  have c := wb_str B (k := k) (by omega)
  have m1 : 1 * 1 ≤ (twU s (aS s (s 18 0)) k (s 18 0)).1 * s 13 k := Nat.mul_le_mul i1 c.1
  have m2 : (twU s (aS s (s 18 0)) k (s 18 0)).1 * s 13 k ≤ 60000000000 * 20 := Nat.mul_le_mul i2 c.2
  have m3 : (twU s (aS s (s 18 0)) k (s 18 0)).2 * aS s (s 18 0) ≤ 10000000000 * 100 := Nat.mul_le_mul i3 (by omega)
  omega
theorem oc_two (hd : 3 ≤ d) (S : Sh h) (C : CR h 7 16 29 37 s) (B : WF s) (x w : Int32) (hw : w = 0 ∨ w = 1) (hy : ∀ k, k < s 18 0 → x = nI k → 2 ≤ s 18 0 → Q (some (.long (lN (twR s k w)))) h) (hn : (∀ k, k < s 18 0 → x = nI k → s 18 0 < 2) → Q (some (.long (-1))) h) : ab_Ok d n_X11_two [.ref 5, .int x, .int w] h Q := by
  have b0 := (wb_n B).1
  have n0 := c_n0 C
  have a0 := aS_b B (s 18 0) b0
  refine ab_go mr_X11_two rfl (by omega) (fun call W hc hW => ?_); (conv => whnf)
  (repeat (first | (refine And.intro (by (first | assumption | exact (show Sh _ from by assumption).1 _ (by decide) | exact Or.inl rfl | exact Or.inr rfl | exact Nat.le_of_ble_eq_true rfl)) ?_; (conv => whnf)) | (refine Exists.intro _ (And.intro (by (first | assumption | exact (show Sh _ from by assumption).2.2 _ _ _ rfl)) ?_); (conv => whnf)) | (refine bF (nI_ne0 (by decide) (by decide)) ?_; (conv => whnf)) | (refine bT nI_0 ?_; (conv => whnf)) | (refine bN (nI_ne0 (by decide) (by decide)) ?_; (conv => whnf)) | (refine bP nI_0 ?_; (conv => whnf)) | (refine And.intro (by (first | ((with_reducible show vp_in (nI _) _); first | exact vin _ (by assumption) (by omega) (by omega) | exact vin _ ((show Sh _ from by assumption).2.1 _ (by decide)) (by ((conv => rhs; whnf); (show _ < @OfNat.ofNat Nat _ (instOfNatNat _)); omega)) (by decide)) | (simp only [nI_add, pk_mul]; (with_reducible show vp_in (nI _) _); first | exact vin _ (by assumption) (by omega) (by omega) | exact vin _ ((show Sh _ from by assumption).2.1 _ (by decide)) (by ((conv => rhs; whnf); (show _ < @OfNat.ofNat Nat _ (instOfNatNat _)); omega)) (by decide)) | (simp (disch := omega) only [nI_add, pk_mul, ofN, Nat.add_zero, nI_clamp, nI_leI, nI_ltI, nI_eq, nI_add, rI_s, rI_k, rI_a]; (with_reducible show vp_in (nI _) _); first | exact vin _ (by assumption) (by omega) (by omega) | exact vin _ ((show Sh _ from by assumption).2.1 _ (by decide)) (by ((conv => rhs; whnf); (show _ < @OfNat.ofNat Nat _ (instOfNatNat _)); omega)) (by decide)))) ?_; (conv => whnf))))
  refine hc _ _ _ _ (oc_isHorse (by omega) S C b0 (fun k hk e => ?_) (fun e => ?_)) <;> (conv => whnf) <;> (repeat (first | (refine And.intro (by (first | assumption | exact (show Sh _ from by assumption).1 _ (by decide) | exact Or.inl rfl | exact Or.inr rfl | exact Nat.le_of_ble_eq_true rfl)) ?_; (conv => whnf)) | (refine Exists.intro _ (And.intro (by (first | assumption | exact (show Sh _ from by assumption).2.2 _ _ _ rfl)) ?_); (conv => whnf)) | (refine bF (nI_ne0 (by decide) (by decide)) ?_; (conv => whnf)) | (refine bT nI_0 ?_; (conv => whnf)) | (refine bN (nI_ne0 (by decide) (by decide)) ?_; (conv => whnf)) | (refine bP nI_0 ?_; (conv => whnf)) | (refine And.intro (by (first | ((with_reducible show vp_in (nI _) _); first | exact vin _ (by assumption) (by omega) (by omega) | exact vin _ ((show Sh _ from by assumption).2.1 _ (by decide)) (by ((conv => rhs; whnf); (show _ < @OfNat.ofNat Nat _ (instOfNatNat _)); omega)) (by decide)) | (simp only [nI_add, pk_mul]; (with_reducible show vp_in (nI _) _); first | exact vin _ (by assumption) (by omega) (by omega) | exact vin _ ((show Sh _ from by assumption).2.1 _ (by decide)) (by ((conv => rhs; whnf); (show _ < @OfNat.ofNat Nat _ (instOfNatNat _)); omega)) (by decide)) | (simp (disch := omega) only [nI_add, pk_mul, ofN, Nat.add_zero, nI_clamp, nI_leI, nI_ltI, nI_eq, nI_add, rI_s, rI_k, rI_a]; (with_reducible show vp_in (nI _) _); first | exact vin _ (by assumption) (by omega) (by omega) | exact vin _ ((show Sh _ from by assumption).2.1 _ (by decide)) (by ((conv => rhs; whnf); (show _ < @OfNat.ofNat Nat _ (instOfNatNat _)); omega)) (by decide)))) ?_; (conv => whnf))))
  · subst e
    rw [n0]
    refine ⟨fun f => ?_, fun f => ?_⟩ <;> rw [nI_leI (by omega) (by omega)] at f <;> (conv => whnf) <;> (repeat (first | (refine And.intro (by (first | assumption | exact (show Sh _ from by assumption).1 _ (by decide) | exact Or.inl rfl | exact Or.inr rfl | exact Nat.le_of_ble_eq_true rfl)) ?_; (conv => whnf)) | (refine Exists.intro _ (And.intro (by (first | assumption | exact (show Sh _ from by assumption).2.2 _ _ _ rfl)) ?_); (conv => whnf)) | (refine bF (nI_ne0 (by decide) (by decide)) ?_; (conv => whnf)) | (refine bT nI_0 ?_; (conv => whnf)) | (refine bN (nI_ne0 (by decide) (by decide)) ?_; (conv => whnf)) | (refine bP nI_0 ?_; (conv => whnf)) | (refine And.intro (by (first | ((with_reducible show vp_in (nI _) _); first | exact vin _ (by assumption) (by omega) (by omega) | exact vin _ ((show Sh _ from by assumption).2.1 _ (by decide)) (by ((conv => rhs; whnf); (show _ < @OfNat.ofNat Nat _ (instOfNatNat _)); omega)) (by decide)) | (simp only [nI_add, pk_mul]; (with_reducible show vp_in (nI _) _); first | exact vin _ (by assumption) (by omega) (by omega) | exact vin _ ((show Sh _ from by assumption).2.1 _ (by decide)) (by ((conv => rhs; whnf); (show _ < @OfNat.ofNat Nat _ (instOfNatNat _)); omega)) (by decide)) | (simp (disch := omega) only [nI_add, pk_mul, ofN, Nat.add_zero, nI_clamp, nI_leI, nI_ltI, nI_eq, nI_add, rI_s, rI_k, rI_a]; (with_reducible show vp_in (nI _) _); first | exact vin _ (by assumption) (by omega) (by omega) | exact vin _ ((show Sh _ from by assumption).2.1 _ (by decide)) (by ((conv => rhs; whnf); (show _ < @OfNat.ofNat Nat _ (instOfNatNat _)); omega)) (by decide)))) ?_; (conv => whnf))))
    · refine hc _ _ _ _ (oc_allStrengths (by omega) S C B ?_)
      (conv => whnf)
      rw [nI_l (by omega)]
      have lp : ∀ r j, j + r = s 18 0 → W 38 [.ref 5, .int (nI k), .int w, .long (lN (aS s (s 18 0))), .long (lN (twU s (aS s (s 18 0)) k j).1), .long (lN (twU s (aS s (s 18 0)) k j).2), .int (nI j)] h 0 0 := by
        intro r
        induction r with
        | zero =>
          intro j e
          obtain rfl : j = s 18 0 := by omega
          have v := @c_str _ _ C k (by omega)
          have c := wb_str B (k := k) (by omega)
          obtain ⟨t1, t2, t3⟩ := tw_fin B f hk
          refine hW _ _ _ _ _ ?_
          (conv => whnf)
          (repeat (first | (refine And.intro (by (first | assumption | exact (show Sh _ from by assumption).1 _ (by decide) | exact Or.inl rfl | exact Or.inr rfl | exact Nat.le_of_ble_eq_true rfl)) ?_; (conv => whnf)) | (refine Exists.intro _ (And.intro (by (first | assumption | exact (show Sh _ from by assumption).2.2 _ _ _ rfl)) ?_); (conv => whnf)) | (refine bF (nI_ne0 (by decide) (by decide)) ?_; (conv => whnf)) | (refine bT nI_0 ?_; (conv => whnf)) | (refine bN (nI_ne0 (by decide) (by decide)) ?_; (conv => whnf)) | (refine bP nI_0 ?_; (conv => whnf)) | (refine And.intro (by (first | ((with_reducible show vp_in (nI _) _); first | exact vin _ (by assumption) (by omega) (by omega) | exact vin _ ((show Sh _ from by assumption).2.1 _ (by decide)) (by ((conv => rhs; whnf); (show _ < @OfNat.ofNat Nat _ (instOfNatNat _)); omega)) (by decide)) | (simp only [nI_add, pk_mul]; (with_reducible show vp_in (nI _) _); first | exact vin _ (by assumption) (by omega) (by omega) | exact vin _ ((show Sh _ from by assumption).2.1 _ (by decide)) (by ((conv => rhs; whnf); (show _ < @OfNat.ofNat Nat _ (instOfNatNat _)); omega)) (by decide)) | (simp (disch := omega) only [nI_add, pk_mul, ofN, Nat.add_zero, nI_clamp, nI_leI, nI_ltI, nI_eq, nI_add, rI_s, rI_k, rI_a]; (with_reducible show vp_in (nI _) _); first | exact vin _ (by assumption) (by omega) (by omega) | exact vin _ ((show Sh _ from by assumption).2.1 _ (by decide)) (by ((conv => rhs; whnf); (show _ < @OfNat.ofNat Nat _ (instOfNatNat _)); omega)) (by decide)))) ?_; (conv => whnf))))
          rw [n0]
          refine bT (nI_le (Nat.le_refl _) (by omega)) ?_
          (conv => whnf)
          (repeat (first | (refine And.intro (by (first | assumption | exact (show Sh _ from by assumption).1 _ (by decide) | exact Or.inl rfl | exact Or.inr rfl | exact Nat.le_of_ble_eq_true rfl)) ?_; (conv => whnf)) | (refine Exists.intro _ (And.intro (by (first | assumption | exact (show Sh _ from by assumption).2.2 _ _ _ rfl)) ?_); (conv => whnf)) | (refine bF (nI_ne0 (by decide) (by decide)) ?_; (conv => whnf)) | (refine bT nI_0 ?_; (conv => whnf)) | (refine bN (nI_ne0 (by decide) (by decide)) ?_; (conv => whnf)) | (refine bP nI_0 ?_; (conv => whnf)) | (refine And.intro (by (first | ((with_reducible show vp_in (nI _) _); first | exact vin _ (by assumption) (by omega) (by omega) | exact vin _ ((show Sh _ from by assumption).2.1 _ (by decide)) (by ((conv => rhs; whnf); (show _ < @OfNat.ofNat Nat _ (instOfNatNat _)); omega)) (by decide)) | (simp only [nI_add, pk_mul]; (with_reducible show vp_in (nI _) _); first | exact vin _ (by assumption) (by omega) (by omega) | exact vin _ ((show Sh _ from by assumption).2.1 _ (by decide)) (by ((conv => rhs; whnf); (show _ < @OfNat.ofNat Nat _ (instOfNatNat _)); omega)) (by decide)) | (simp (disch := omega) only [nI_add, pk_mul, ofN, Nat.add_zero, nI_clamp, nI_leI, nI_ltI, nI_eq, nI_add, rI_s, rI_k, rI_a]; (with_reducible show vp_in (nI _) _); first | exact vin _ (by assumption) (by omega) (by omega) | exact vin _ ((show Sh _ from by assumption).2.1 _ (by decide)) (by ((conv => rhs; whnf); (show _ < @OfNat.ofNat Nat _ (instOfNatNat _)); omega)) (by decide)))) ?_; (conv => whnf))))
          rw [nI_clamp (by omega), v, nI_l (by omega), lN_mul, lN_mul]
          refine hc _ _ _ _ (oc_lowestTerms (by omega) t2 t3 t1 w hw ?_)
          (conv => whnf)
          exact hy k hk rfl f
        | succ r ih =>
          intro j e
          have v := @c_str _ _ C j (by omega)
          have c := wb_str B (k := j) (by omega)
          have e4 := aS_k B (k := j) (s 18 0) b0 (by omega)
          have e1 : twU s (aS s (s 18 0)) k (j + 1) = if j = k then twU s (aS s (s 18 0)) k j else ((twU s (aS s (s 18 0)) k j).1 * (aS s (s 18 0) - s 13 j) + s 13 j * (twU s (aS s (s 18 0)) k j).2, (twU s (aS s (s 18 0)) k j).2 * (aS s (s 18 0) - s 13 j)) := rfl
          have ih := ih (j + 1) (by omega)
          rw [e1] at ih
          refine hW _ _ _ _ _ ?_
          (conv => whnf)
          (repeat (first | (refine And.intro (by (first | assumption | exact (show Sh _ from by assumption).1 _ (by decide) | exact Or.inl rfl | exact Or.inr rfl | exact Nat.le_of_ble_eq_true rfl)) ?_; (conv => whnf)) | (refine Exists.intro _ (And.intro (by (first | assumption | exact (show Sh _ from by assumption).2.2 _ _ _ rfl)) ?_); (conv => whnf)) | (refine bF (nI_ne0 (by decide) (by decide)) ?_; (conv => whnf)) | (refine bT nI_0 ?_; (conv => whnf)) | (refine bN (nI_ne0 (by decide) (by decide)) ?_; (conv => whnf)) | (refine bP nI_0 ?_; (conv => whnf)) | (refine And.intro (by (first | ((with_reducible show vp_in (nI _) _); first | exact vin _ (by assumption) (by omega) (by omega) | exact vin _ ((show Sh _ from by assumption).2.1 _ (by decide)) (by ((conv => rhs; whnf); (show _ < @OfNat.ofNat Nat _ (instOfNatNat _)); omega)) (by decide)) | (simp only [nI_add, pk_mul]; (with_reducible show vp_in (nI _) _); first | exact vin _ (by assumption) (by omega) (by omega) | exact vin _ ((show Sh _ from by assumption).2.1 _ (by decide)) (by ((conv => rhs; whnf); (show _ < @OfNat.ofNat Nat _ (instOfNatNat _)); omega)) (by decide)) | (simp (disch := omega) only [nI_add, pk_mul, ofN, Nat.add_zero, nI_clamp, nI_leI, nI_ltI, nI_eq, nI_add, rI_s, rI_k, rI_a]; (with_reducible show vp_in (nI _) _); first | exact vin _ (by assumption) (by omega) (by omega) | exact vin _ ((show Sh _ from by assumption).2.1 _ (by decide)) (by ((conv => rhs; whnf); (show _ < @OfNat.ofNat Nat _ (instOfNatNat _)); omega)) (by decide)))) ?_; (conv => whnf))))
          rw [n0]
          refine bF (nI_ge (by omega) (by omega)) ?_
          (conv => whnf)
          refine ⟨fun g => ?_, fun g => ?_⟩ <;> rw [nI_eq (by omega) (by omega)] at g <;> (conv => whnf) <;> (repeat (first | (refine And.intro (by (first | assumption | exact (show Sh _ from by assumption).1 _ (by decide) | exact Or.inl rfl | exact Or.inr rfl | exact Nat.le_of_ble_eq_true rfl)) ?_; (conv => whnf)) | (refine Exists.intro _ (And.intro (by (first | assumption | exact (show Sh _ from by assumption).2.2 _ _ _ rfl)) ?_); (conv => whnf)) | (refine bF (nI_ne0 (by decide) (by decide)) ?_; (conv => whnf)) | (refine bT nI_0 ?_; (conv => whnf)) | (refine bN (nI_ne0 (by decide) (by decide)) ?_; (conv => whnf)) | (refine bP nI_0 ?_; (conv => whnf)) | (refine And.intro (by (first | ((with_reducible show vp_in (nI _) _); first | exact vin _ (by assumption) (by omega) (by omega) | exact vin _ ((show Sh _ from by assumption).2.1 _ (by decide)) (by ((conv => rhs; whnf); (show _ < @OfNat.ofNat Nat _ (instOfNatNat _)); omega)) (by decide)) | (simp only [nI_add, pk_mul]; (with_reducible show vp_in (nI _) _); first | exact vin _ (by assumption) (by omega) (by omega) | exact vin _ ((show Sh _ from by assumption).2.1 _ (by decide)) (by ((conv => rhs; whnf); (show _ < @OfNat.ofNat Nat _ (instOfNatNat _)); omega)) (by decide)) | (simp (disch := omega) only [nI_add, pk_mul, ofN, Nat.add_zero, nI_clamp, nI_leI, nI_ltI, nI_eq, nI_add, rI_s, rI_k, rI_a]; (with_reducible show vp_in (nI _) _); first | exact vin _ (by assumption) (by omega) (by omega) | exact vin _ ((show Sh _ from by assumption).2.1 _ (by decide)) (by ((conv => rhs; whnf); (show _ < @OfNat.ofNat Nat _ (instOfNatNat _)); omega)) (by decide)))) ?_; (conv => whnf))))
          · rw [if_pos g] at ih
            exact W_h rfl (by (try simp (disch := omega) only [nI_add, Nat.add_zero]) <;> rfl) ih
          · rw [if_neg g] at ih
            rw [nI_clamp (by omega), v, nI_l (by omega), lN_sub (by omega), lN_mul, lN_mul, lN_mul, lN_add]
            exact W_h rfl (by (try simp (disch := omega) only [nI_add, Nat.add_zero]) <;> rfl) ih
      exact lp (s 18 0) 0 (by omega)
    · exact hn (fun _ _ _ => by omega)
  · exact hn (fun k hk z => absurd z (e k hk))
theorem om_two (hd : 3 ≤ d) (S : Sh h) (M : MS h 581 s) (B : WF s) (x w : Int32) (hw : w = 0 ∨ w = 1) (hy : ∀ k, k < s 18 0 → x = nI k → 2 ≤ s 18 0 → Q (some (.long (lN (twR s k w)))) h) (hn : (∀ k, k < s 18 0 → x = nI k → s 18 0 < 2) → Q (some (.long (-1))) h) : ab_Ok d n_X12_two [.ref 580, .int x, .int w] h Q := by
  have b0 := (wb_n B).1
  have n0 := ms_n0 M
  have a0 := aS_b B (s 18 0) b0
  refine ab_go mr_X12_two rfl (by omega) (fun call W hc hW => ?_); (conv => whnf)
  (repeat (first | (refine And.intro (by (first | assumption | exact (show Sh _ from by assumption).1 _ (by decide) | exact Or.inl rfl | exact Or.inr rfl | exact Nat.le_of_ble_eq_true rfl)) ?_; (conv => whnf)) | (refine Exists.intro _ (And.intro (by (first | assumption | exact (show Sh _ from by assumption).2.2 _ _ _ rfl)) ?_); (conv => whnf)) | (refine bF (nI_ne0 (by decide) (by decide)) ?_; (conv => whnf)) | (refine bT nI_0 ?_; (conv => whnf)) | (refine bN (nI_ne0 (by decide) (by decide)) ?_; (conv => whnf)) | (refine bP nI_0 ?_; (conv => whnf)) | (refine And.intro (by (first | ((with_reducible show vp_in (nI _) _); first | exact vin _ (by assumption) (by omega) (by omega) | exact vin _ ((show Sh _ from by assumption).2.1 _ (by decide)) (by ((conv => rhs; whnf); (show _ < @OfNat.ofNat Nat _ (instOfNatNat _)); omega)) (by decide)) | (simp only [nI_add, pk_mul]; (with_reducible show vp_in (nI _) _); first | exact vin _ (by assumption) (by omega) (by omega) | exact vin _ ((show Sh _ from by assumption).2.1 _ (by decide)) (by ((conv => rhs; whnf); (show _ < @OfNat.ofNat Nat _ (instOfNatNat _)); omega)) (by decide)) | (simp (disch := omega) only [nI_add, pk_mul, ofN, Nat.add_zero, nI_clamp, nI_leI, nI_ltI, nI_eq, nI_add, rI_s, rI_k, rI_a]; (with_reducible show vp_in (nI _) _); first | exact vin _ (by assumption) (by omega) (by omega) | exact vin _ ((show Sh _ from by assumption).2.1 _ (by decide)) (by ((conv => rhs; whnf); (show _ < @OfNat.ofNat Nat _ (instOfNatNat _)); omega)) (by decide)))) ?_; (conv => whnf))))
  refine hc _ _ _ _ (om_isHorse (by omega) S M b0 (fun k hk e => ?_) (fun e => ?_)) <;> (conv => whnf) <;> (repeat (first | (refine And.intro (by (first | assumption | exact (show Sh _ from by assumption).1 _ (by decide) | exact Or.inl rfl | exact Or.inr rfl | exact Nat.le_of_ble_eq_true rfl)) ?_; (conv => whnf)) | (refine Exists.intro _ (And.intro (by (first | assumption | exact (show Sh _ from by assumption).2.2 _ _ _ rfl)) ?_); (conv => whnf)) | (refine bF (nI_ne0 (by decide) (by decide)) ?_; (conv => whnf)) | (refine bT nI_0 ?_; (conv => whnf)) | (refine bN (nI_ne0 (by decide) (by decide)) ?_; (conv => whnf)) | (refine bP nI_0 ?_; (conv => whnf)) | (refine And.intro (by (first | ((with_reducible show vp_in (nI _) _); first | exact vin _ (by assumption) (by omega) (by omega) | exact vin _ ((show Sh _ from by assumption).2.1 _ (by decide)) (by ((conv => rhs; whnf); (show _ < @OfNat.ofNat Nat _ (instOfNatNat _)); omega)) (by decide)) | (simp only [nI_add, pk_mul]; (with_reducible show vp_in (nI _) _); first | exact vin _ (by assumption) (by omega) (by omega) | exact vin _ ((show Sh _ from by assumption).2.1 _ (by decide)) (by ((conv => rhs; whnf); (show _ < @OfNat.ofNat Nat _ (instOfNatNat _)); omega)) (by decide)) | (simp (disch := omega) only [nI_add, pk_mul, ofN, Nat.add_zero, nI_clamp, nI_leI, nI_ltI, nI_eq, nI_add, rI_s, rI_k, rI_a]; (with_reducible show vp_in (nI _) _); first | exact vin _ (by assumption) (by omega) (by omega) | exact vin _ ((show Sh _ from by assumption).2.1 _ (by decide)) (by ((conv => rhs; whnf); (show _ < @OfNat.ofNat Nat _ (instOfNatNat _)); omega)) (by decide)))) ?_; (conv => whnf))))
  · subst e
    have vk := @ms_str _ _ _ M k (by omega)
    have ck := wb_str B (k := k) (by omega)
    rw [nI_clamp (by omega), n0]
    refine ⟨fun f => ?_, fun f => ?_⟩ <;> rw [nI_leI (by omega) (by omega)] at f <;> (conv => whnf) <;> (repeat (first | (refine And.intro (by (first | assumption | exact (show Sh _ from by assumption).1 _ (by decide) | exact Or.inl rfl | exact Or.inr rfl | exact Nat.le_of_ble_eq_true rfl)) ?_; (conv => whnf)) | (refine Exists.intro _ (And.intro (by (first | assumption | exact (show Sh _ from by assumption).2.2 _ _ _ rfl)) ?_); (conv => whnf)) | (refine bF (nI_ne0 (by decide) (by decide)) ?_; (conv => whnf)) | (refine bT nI_0 ?_; (conv => whnf)) | (refine bN (nI_ne0 (by decide) (by decide)) ?_; (conv => whnf)) | (refine bP nI_0 ?_; (conv => whnf)) | (refine And.intro (by (first | ((with_reducible show vp_in (nI _) _); first | exact vin _ (by assumption) (by omega) (by omega) | exact vin _ ((show Sh _ from by assumption).2.1 _ (by decide)) (by ((conv => rhs; whnf); (show _ < @OfNat.ofNat Nat _ (instOfNatNat _)); omega)) (by decide)) | (simp only [nI_add, pk_mul]; (with_reducible show vp_in (nI _) _); first | exact vin _ (by assumption) (by omega) (by omega) | exact vin _ ((show Sh _ from by assumption).2.1 _ (by decide)) (by ((conv => rhs; whnf); (show _ < @OfNat.ofNat Nat _ (instOfNatNat _)); omega)) (by decide)) | (simp (disch := omega) only [nI_add, pk_mul, ofN, Nat.add_zero, nI_clamp, nI_leI, nI_ltI, nI_eq, nI_add, rI_s, rI_k, rI_a]; (with_reducible show vp_in (nI _) _); first | exact vin _ (by assumption) (by omega) (by omega) | exact vin _ ((show Sh _ from by assumption).2.1 _ (by decide)) (by ((conv => rhs; whnf); (show _ < @OfNat.ofNat Nat _ (instOfNatNat _)); omega)) (by decide)))) ?_; (conv => whnf))))
    · rw [nI_add 118 k, nI_clamp (by omega), vk, nI_l (by omega)]
      refine hc _ _ _ _ (om_strengths (by omega) S M B ?_)
      (conv => whnf)
      rw [nI_l (by omega)]
      have lp : ∀ r j, j + r = s 18 0 → W 43 [.ref 580, .int (nI k), .int w, .long (lN ((twU s (aS s (s 18 0)) k j).1 * s 13 k)), .long (lN ((twU s (aS s (s 18 0)) k j).2 * aS s (s 18 0))), .int (nI j)] h 0 0 := by
        intro r
        induction r with
        | zero =>
          intro j e
          obtain rfl : j = s 18 0 := by omega
          obtain ⟨t1, t2, t3⟩ := tw_fin B f hk
          refine hW _ _ _ _ _ ?_
          (conv => whnf)
          (repeat (first | (refine And.intro (by (first | assumption | exact (show Sh _ from by assumption).1 _ (by decide) | exact Or.inl rfl | exact Or.inr rfl | exact Nat.le_of_ble_eq_true rfl)) ?_; (conv => whnf)) | (refine Exists.intro _ (And.intro (by (first | assumption | exact (show Sh _ from by assumption).2.2 _ _ _ rfl)) ?_); (conv => whnf)) | (refine bF (nI_ne0 (by decide) (by decide)) ?_; (conv => whnf)) | (refine bT nI_0 ?_; (conv => whnf)) | (refine bN (nI_ne0 (by decide) (by decide)) ?_; (conv => whnf)) | (refine bP nI_0 ?_; (conv => whnf)) | (refine And.intro (by (first | ((with_reducible show vp_in (nI _) _); first | exact vin _ (by assumption) (by omega) (by omega) | exact vin _ ((show Sh _ from by assumption).2.1 _ (by decide)) (by ((conv => rhs; whnf); (show _ < @OfNat.ofNat Nat _ (instOfNatNat _)); omega)) (by decide)) | (simp only [nI_add, pk_mul]; (with_reducible show vp_in (nI _) _); first | exact vin _ (by assumption) (by omega) (by omega) | exact vin _ ((show Sh _ from by assumption).2.1 _ (by decide)) (by ((conv => rhs; whnf); (show _ < @OfNat.ofNat Nat _ (instOfNatNat _)); omega)) (by decide)) | (simp (disch := omega) only [nI_add, pk_mul, ofN, Nat.add_zero, nI_clamp, nI_leI, nI_ltI, nI_eq, nI_add, rI_s, rI_k, rI_a]; (with_reducible show vp_in (nI _) _); first | exact vin _ (by assumption) (by omega) (by omega) | exact vin _ ((show Sh _ from by assumption).2.1 _ (by decide)) (by ((conv => rhs; whnf); (show _ < @OfNat.ofNat Nat _ (instOfNatNat _)); omega)) (by decide)))) ?_; (conv => whnf))))
          rw [nI_clamp (by omega), n0]
          refine bT (nI_le (Nat.le_refl _) (by omega)) ?_
          (conv => whnf)
          (repeat (first | (refine And.intro (by (first | assumption | exact (show Sh _ from by assumption).1 _ (by decide) | exact Or.inl rfl | exact Or.inr rfl | exact Nat.le_of_ble_eq_true rfl)) ?_; (conv => whnf)) | (refine Exists.intro _ (And.intro (by (first | assumption | exact (show Sh _ from by assumption).2.2 _ _ _ rfl)) ?_); (conv => whnf)) | (refine bF (nI_ne0 (by decide) (by decide)) ?_; (conv => whnf)) | (refine bT nI_0 ?_; (conv => whnf)) | (refine bN (nI_ne0 (by decide) (by decide)) ?_; (conv => whnf)) | (refine bP nI_0 ?_; (conv => whnf)) | (refine And.intro (by (first | ((with_reducible show vp_in (nI _) _); first | exact vin _ (by assumption) (by omega) (by omega) | exact vin _ ((show Sh _ from by assumption).2.1 _ (by decide)) (by ((conv => rhs; whnf); (show _ < @OfNat.ofNat Nat _ (instOfNatNat _)); omega)) (by decide)) | (simp only [nI_add, pk_mul]; (with_reducible show vp_in (nI _) _); first | exact vin _ (by assumption) (by omega) (by omega) | exact vin _ ((show Sh _ from by assumption).2.1 _ (by decide)) (by ((conv => rhs; whnf); (show _ < @OfNat.ofNat Nat _ (instOfNatNat _)); omega)) (by decide)) | (simp (disch := omega) only [nI_add, pk_mul, ofN, Nat.add_zero, nI_clamp, nI_leI, nI_ltI, nI_eq, nI_add, rI_s, rI_k, rI_a]; (with_reducible show vp_in (nI _) _); first | exact vin _ (by assumption) (by omega) (by omega) | exact vin _ ((show Sh _ from by assumption).2.1 _ (by decide)) (by ((conv => rhs; whnf); (show _ < @OfNat.ofNat Nat _ (instOfNatNat _)); omega)) (by decide)))) ?_; (conv => whnf))))
          refine hc _ _ _ _ (om_part (by omega) t2 t3 t1 w hw ?_)
          (conv => whnf)
          exact hy k hk rfl f
        | succ r ih =>
          intro j e
          have v := @ms_str _ _ _ M j (by omega)
          have c := wb_str B (k := j) (by omega)
          have e4 := aS_k B (k := j) (s 18 0) b0 (by omega)
          obtain ⟨i1, i2, i3⟩ := twU_c B (k := k) f (j := j) (by omega)
          have i4 : (twU s (aS s (s 18 0)) k j).2 * aS s (s 18 0) ≤ 10000000000 * 100 := Nat.mul_le_mul i3 (by omega)
          have e1 : twU s (aS s (s 18 0)) k (j + 1) = if j = k then twU s (aS s (s 18 0)) k j else ((twU s (aS s (s 18 0)) k j).1 * (aS s (s 18 0) - s 13 j) + s 13 j * (twU s (aS s (s 18 0)) k j).2, (twU s (aS s (s 18 0)) k j).2 * (aS s (s 18 0) - s 13 j)) := rfl
          have ih := ih (j + 1) (by omega)
          rw [e1] at ih
          refine hW _ _ _ _ _ ?_
          (conv => whnf)
          (repeat (first | (refine And.intro (by (first | assumption | exact (show Sh _ from by assumption).1 _ (by decide) | exact Or.inl rfl | exact Or.inr rfl | exact Nat.le_of_ble_eq_true rfl)) ?_; (conv => whnf)) | (refine Exists.intro _ (And.intro (by (first | assumption | exact (show Sh _ from by assumption).2.2 _ _ _ rfl)) ?_); (conv => whnf)) | (refine bF (nI_ne0 (by decide) (by decide)) ?_; (conv => whnf)) | (refine bT nI_0 ?_; (conv => whnf)) | (refine bN (nI_ne0 (by decide) (by decide)) ?_; (conv => whnf)) | (refine bP nI_0 ?_; (conv => whnf)) | (refine And.intro (by (first | ((with_reducible show vp_in (nI _) _); first | exact vin _ (by assumption) (by omega) (by omega) | exact vin _ ((show Sh _ from by assumption).2.1 _ (by decide)) (by ((conv => rhs; whnf); (show _ < @OfNat.ofNat Nat _ (instOfNatNat _)); omega)) (by decide)) | (simp only [nI_add, pk_mul]; (with_reducible show vp_in (nI _) _); first | exact vin _ (by assumption) (by omega) (by omega) | exact vin _ ((show Sh _ from by assumption).2.1 _ (by decide)) (by ((conv => rhs; whnf); (show _ < @OfNat.ofNat Nat _ (instOfNatNat _)); omega)) (by decide)) | (simp (disch := omega) only [nI_add, pk_mul, ofN, Nat.add_zero, nI_clamp, nI_leI, nI_ltI, nI_eq, nI_add, rI_s, rI_k, rI_a]; (with_reducible show vp_in (nI _) _); first | exact vin _ (by assumption) (by omega) (by omega) | exact vin _ ((show Sh _ from by assumption).2.1 _ (by decide)) (by ((conv => rhs; whnf); (show _ < @OfNat.ofNat Nat _ (instOfNatNat _)); omega)) (by decide)))) ?_; (conv => whnf))))
          rw [nI_clamp (by omega), n0]
          refine bF (nI_ge (by omega) (by omega)) ?_
          (conv => whnf)
          refine ⟨fun g => ?_, fun g => ?_⟩ <;> rw [nI_eq (by omega) (by omega)] at g <;> (conv => whnf) <;> (repeat (first | (refine And.intro (by (first | assumption | exact (show Sh _ from by assumption).1 _ (by decide) | exact Or.inl rfl | exact Or.inr rfl | exact Nat.le_of_ble_eq_true rfl)) ?_; (conv => whnf)) | (refine Exists.intro _ (And.intro (by (first | assumption | exact (show Sh _ from by assumption).2.2 _ _ _ rfl)) ?_); (conv => whnf)) | (refine bF (nI_ne0 (by decide) (by decide)) ?_; (conv => whnf)) | (refine bT nI_0 ?_; (conv => whnf)) | (refine bN (nI_ne0 (by decide) (by decide)) ?_; (conv => whnf)) | (refine bP nI_0 ?_; (conv => whnf)) | (refine And.intro (by (first | ((with_reducible show vp_in (nI _) _); first | exact vin _ (by assumption) (by omega) (by omega) | exact vin _ ((show Sh _ from by assumption).2.1 _ (by decide)) (by ((conv => rhs; whnf); (show _ < @OfNat.ofNat Nat _ (instOfNatNat _)); omega)) (by decide)) | (simp only [nI_add, pk_mul]; (with_reducible show vp_in (nI _) _); first | exact vin _ (by assumption) (by omega) (by omega) | exact vin _ ((show Sh _ from by assumption).2.1 _ (by decide)) (by ((conv => rhs; whnf); (show _ < @OfNat.ofNat Nat _ (instOfNatNat _)); omega)) (by decide)) | (simp (disch := omega) only [nI_add, pk_mul, ofN, Nat.add_zero, nI_clamp, nI_leI, nI_ltI, nI_eq, nI_add, rI_s, rI_k, rI_a]; (with_reducible show vp_in (nI _) _); first | exact vin _ (by assumption) (by omega) (by omega) | exact vin _ ((show Sh _ from by assumption).2.1 _ (by decide)) (by ((conv => rhs; whnf); (show _ < @OfNat.ofNat Nat _ (instOfNatNat _)); omega)) (by decide)))) ?_; (conv => whnf))))
          · rw [if_neg g] at ih
            refine hc _ _ _ _ (om_strengths (by omega) S M B ?_)
            (conv => whnf)
            (repeat (first | (refine And.intro (by (first | assumption | exact (show Sh _ from by assumption).1 _ (by decide) | exact Or.inl rfl | exact Or.inr rfl | exact Nat.le_of_ble_eq_true rfl)) ?_; (conv => whnf)) | (refine Exists.intro _ (And.intro (by (first | assumption | exact (show Sh _ from by assumption).2.2 _ _ _ rfl)) ?_); (conv => whnf)) | (refine bF (nI_ne0 (by decide) (by decide)) ?_; (conv => whnf)) | (refine bT nI_0 ?_; (conv => whnf)) | (refine bN (nI_ne0 (by decide) (by decide)) ?_; (conv => whnf)) | (refine bP nI_0 ?_; (conv => whnf)) | (refine And.intro (by (first | ((with_reducible show vp_in (nI _) _); first | exact vin _ (by assumption) (by omega) (by omega) | exact vin _ ((show Sh _ from by assumption).2.1 _ (by decide)) (by ((conv => rhs; whnf); (show _ < @OfNat.ofNat Nat _ (instOfNatNat _)); omega)) (by decide)) | (simp only [nI_add, pk_mul]; (with_reducible show vp_in (nI _) _); first | exact vin _ (by assumption) (by omega) (by omega) | exact vin _ ((show Sh _ from by assumption).2.1 _ (by decide)) (by ((conv => rhs; whnf); (show _ < @OfNat.ofNat Nat _ (instOfNatNat _)); omega)) (by decide)) | (simp (disch := omega) only [nI_add, pk_mul, ofN, Nat.add_zero, nI_clamp, nI_leI, nI_ltI, nI_eq, nI_add, rI_s, rI_k, rI_a]; (with_reducible show vp_in (nI _) _); first | exact vin _ (by assumption) (by omega) (by omega) | exact vin _ ((show Sh _ from by assumption).2.1 _ (by decide)) (by ((conv => rhs; whnf); (show _ < @OfNat.ofNat Nat _ (instOfNatNat _)); omega)) (by decide)))) ?_; (conv => whnf))))
            rw [nI_add 118 j, nI_add 118 k, nI_clamp (by omega), nI_clamp (by omega), v, vk, pk_sub (by omega : s 13 j ≤ aS s (s 18 0)), nI_l (by omega), nI_l (by omega), nI_l (by omega)]
            refine hc _ _ _ _ (om_strengths (by omega) S M B ?_)
            (conv => whnf)
            rw [nI_l (by omega)]
            refine ⟨lN_n0 (by omega) (by omega), ?_⟩
            (conv => whnf)
            rw [lN_div (by omega) (by omega), Nat.mul_div_cancel _ (show 0 < aS s (s 18 0) by omega), lN_mul, lN_mul, lN_mul, lN_mul, lN_add]
            have u1 : (twU s (aS s (s 18 0)) k j).1 * s 13 k * (aS s (s 18 0) - s 13 j) + s 13 j * s 13 k * (twU s (aS s (s 18 0)) k j).2 = ((twU s (aS s (s 18 0)) k j).1 * (aS s (s 18 0) - s 13 j) + s 13 j * (twU s (aS s (s 18 0)) k j).2) * s 13 k := by
              rw [Nat.add_mul, Nat.mul_right_comm, Nat.mul_right_comm (s 13 j)]
            have u2 : (twU s (aS s (s 18 0)) k j).2 * aS s (s 18 0) * (aS s (s 18 0) - s 13 j) = (twU s (aS s (s 18 0)) k j).2 * (aS s (s 18 0) - s 13 j) * aS s (s 18 0) := Nat.mul_right_comm _ _ _
            rw [u1, u2]
            exact W_h rfl (by (try simp (disch := omega) only [nI_add, Nat.add_zero]) <;> rfl) ih
          · rw [if_pos g] at ih
            exact W_h rfl (by (try simp (disch := omega) only [nI_add, Nat.add_zero]) <;> rfl) ih
      have q := lp (s 18 0) 0 (by omega)
      rw [show (twU s (aS s (s 18 0)) k 0) = (1, 1) from rfl, Nat.one_mul, Nat.one_mul] at q
      exact q
    · exact hn (fun _ _ _ => by omega)
  · exact hn (fun k hk z => absurd z (e k hk))
end TW
