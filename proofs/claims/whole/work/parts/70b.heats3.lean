/-! ===== contracts: heats on the class's side, the choice is listed (mine) ===== -/
def lsC (c all : Nat) : Nat → Nat
  | 0 => 0
  | i + 1 => if c / 2 ^ (all - 1 - i) % 2 = 1 then lsC c all i + 1 else lsC c all i
def lsB (st : Nat → Nat) (c all : Nat) : Nat → Nat → Nat
  | 0 => fun _ => 0
  | i + 1 => if c / 2 ^ (all - 1 - i) % 2 = 1 then fun j => if j = lsC c all i then st i else lsB st c all i j else lsB st c all i
theorem lsC_le (c all : Nat) : ∀ i, lsC c all i ≤ i := by
  intro i
  induction i with
  | zero => exact Nat.le_refl _
  | succ i ih =>
    show (if c / 2 ^ (all - 1 - i) % 2 = 1 then lsC c all i + 1 else lsC c all i) ≤ i + 1
    split <;> omega
def fH (a _ : Nat) : Prop := 576 ≤ a ∧ a < 580
section HG
variable {d : Nat} {h : Hp} {Q : Option Value → Hp → Prop} {s : Sv}
theorem oc_list (hd : 1 ≤ d) (S : Sh h) {st : Nat → Nat} {c all : Nat} (hc2 : c < 2 ^ 31) (ha : all ≤ 10) (hs : ∀ i, i < all → ab_I h 577 i = nI (st i)) (hq : ∀ h', ab_I h' 576 3 = nI (lsC c all all) → (∀ j, j < lsC c all all → ab_I h' 579 j = nI (lsB st c all all j)) → Fr fH h h' → Q none h') : ab_Ok d n_X3_list [.ref 576, .int (nI c), .int (nI all)] h Q := by
  refine ab_go mr_X3_list rfl (by omega) (fun call W hc hW => ?_); (conv => whnf)
  have lp : ∀ r i h', i + r = all → ab_I h' 576 3 = nI (lsC c all i) → (∀ j, j < lsC c all i → ab_I h' 579 j = nI (lsB st c all i j)) → (∀ i, i < all → ab_I h' 577 i = nI (st i)) → Fr fH h h' → W 7 [.ref 576, .int (nI c), .int (nI all), .int (nI i)] h' 0 0 := by
    intro r
    induction r with
    | zero =>
      intro i h' e p1 p2 p3 F'
      obtain rfl : i = all := by omega
      refine hW _ _ _ _ _ ?_
      (conv => whnf)
      refine bT (nI_le (Nat.le_refl _) (by omega)) ?_
      (conv => whnf)
      exact hq h' p1 p2 F'
    | succ r ih =>
      intro i h' e p1 p2 p3 F'
      have S' := Fr_Sh F' S
      have ih := ih (i + 1)
      have e2 : lsC c all (i + 1) = if c / 2 ^ (all - 1 - i) % 2 = 1 then lsC c all i + 1 else lsC c all i := rfl
      have e3 : lsB st c all (i + 1) = if c / 2 ^ (all - 1 - i) % 2 = 1 then fun j => if j = lsC c all i then st i else lsB st c all i j else lsB st c all i := rfl
      rw [e2, e3] at ih
      have ea : nI c >>> (nI (all - 1 - i) &&& 31) &&& nI 1 = nI (c / 2 ^ (all - 1 - i) % 2) := nI_bit (by omega) (by omega)
      have qa : c / 2 ^ (all - 1 - i) % 2 < 2 := Nat.mod_lt _ (by decide)
      have v := p3 i (by omega)
      have lc := lsC_le c all i
      refine hW _ _ _ _ _ ?_
      (conv => whnf)
      refine bF (nI_ge (by omega) (by omega)) ?_
      (conv => whnf)
      rw [pk_sub (by omega : 1 ≤ all), pk_sub (by omega : i ≤ all - 1), ea]
      refine ⟨fun f => ?_, fun f => ?_⟩ <;> rw [nI_eq (by omega) (by omega)] at f <;> (conv => whnf)
      · rw [if_neg f, if_neg f] at ih
        exact W_h rfl (by (try simp (disch := omega) only [nI_add, Nat.add_zero]) <;> rfl) (ih h' (by omega) p1 p2 p3 F')
      · rw [if_pos f, if_pos f] at ih
        (repeat (first | (refine And.intro (by (first | assumption | exact (show Sh _ from by assumption).1 _ (by decide) | exact Or.inl rfl | exact Or.inr rfl | exact Nat.le_of_ble_eq_true rfl)) ?_; (conv => whnf)) | (refine Exists.intro _ (And.intro (by (first | assumption | exact (show Sh _ from by assumption).2.2 _ _ _ rfl)) ?_); (conv => whnf)) | (refine bF (nI_ne0 (by decide) (by decide)) ?_; (conv => whnf)) | (refine bT nI_0 ?_; (conv => whnf)) | (refine bN (nI_ne0 (by decide) (by decide)) ?_; (conv => whnf)) | (refine bP nI_0 ?_; (conv => whnf)) | (refine And.intro (by (first | ((with_reducible show vp_in (nI _) _); first | exact vin _ (by assumption) (by omega) (by omega) | exact vin _ ((show Sh _ from by assumption).2.1 _ (by decide)) (by ((conv => rhs; whnf); (show _ < @OfNat.ofNat Nat _ (instOfNatNat _)); omega)) (by decide)) | (simp only [nI_add, pk_mul]; (with_reducible show vp_in (nI _) _); first | exact vin _ (by assumption) (by omega) (by omega) | exact vin _ ((show Sh _ from by assumption).2.1 _ (by decide)) (by ((conv => rhs; whnf); (show _ < @OfNat.ofNat Nat _ (instOfNatNat _)); omega)) (by decide)) | (simp (disch := omega) only [nI_add, pk_mul, ofN, Nat.add_zero, nI_clamp, nI_leI, nI_ltI, nI_eq, nI_add, rI_s, rI_k, rI_a]; (with_reducible show vp_in (nI _) _); first | exact vin _ (by assumption) (by omega) (by omega) | exact vin _ ((show Sh _ from by assumption).2.1 _ (by decide)) (by ((conv => rhs; whnf); (show _ < @OfNat.ofNat Nat _ (instOfNatNat _)); omega)) (by decide)))) ?_; (conv => whnf))))
        rw [p1]
        (repeat (first | (refine And.intro (by (first | assumption | exact (show Sh _ from by assumption).1 _ (by decide) | exact Or.inl rfl | exact Or.inr rfl | exact Nat.le_of_ble_eq_true rfl)) ?_; (conv => whnf)) | (refine Exists.intro _ (And.intro (by (first | assumption | exact (show Sh _ from by assumption).2.2 _ _ _ rfl)) ?_); (conv => whnf)) | (refine bF (nI_ne0 (by decide) (by decide)) ?_; (conv => whnf)) | (refine bT nI_0 ?_; (conv => whnf)) | (refine bN (nI_ne0 (by decide) (by decide)) ?_; (conv => whnf)) | (refine bP nI_0 ?_; (conv => whnf)) | (refine And.intro (by (first | ((with_reducible show vp_in (nI _) _); first | exact vin _ (by assumption) (by omega) (by omega) | exact vin _ ((show Sh _ from by assumption).2.1 _ (by decide)) (by ((conv => rhs; whnf); (show _ < @OfNat.ofNat Nat _ (instOfNatNat _)); omega)) (by decide)) | (simp only [nI_add, pk_mul]; (with_reducible show vp_in (nI _) _); first | exact vin _ (by assumption) (by omega) (by omega) | exact vin _ ((show Sh _ from by assumption).2.1 _ (by decide)) (by ((conv => rhs; whnf); (show _ < @OfNat.ofNat Nat _ (instOfNatNat _)); omega)) (by decide)) | (simp (disch := omega) only [nI_add, pk_mul, ofN, Nat.add_zero, nI_clamp, nI_leI, nI_ltI, nI_eq, nI_add, rI_s, rI_k, rI_a]; (with_reducible show vp_in (nI _) _); first | exact vin _ (by assumption) (by omega) (by omega) | exact vin _ ((show Sh _ from by assumption).2.1 _ (by decide)) (by ((conv => rhs; whnf); (show _ < @OfNat.ofNat Nat _ (instOfNatNat _)); omega)) (by decide)))) ?_; (conv => whnf))))
        rw [nI_clamp (by omega), nI_clamp (by omega), v, rI_a _ _ _ _ (by decide), p1, nI_add (lsC c all i) 1]
        refine W_h rfl (by (try simp (disch := omega) only [nI_add, Nat.add_zero]) <;> rfl) (ih _ (by omega) (rI_s _ _ _ _) (fun j hj => ?_) (fun j hj => ?_) (Fr_tr F' (Fr_tr (Fr_sI ⟨by omega, by omega⟩) (Fr_sI ⟨by omega, by omega⟩))))
        · rw [rI_a _ _ _ _ (by decide)]
          by_cases ej : j = lsC c all i
          · rw [if_pos ej, ej, rI_s]
          · rw [if_neg ej, rI_k _ _ _ (by omega)]
            exact p2 j (by omega)
        · rw [rI_a _ _ _ _ (by decide), rI_a _ _ _ _ (by decide)]
          exact p3 j hj
  (repeat (first | (refine And.intro (by (first | assumption | exact (show Sh _ from by assumption).1 _ (by decide) | exact Or.inl rfl | exact Or.inr rfl | exact Nat.le_of_ble_eq_true rfl)) ?_; (conv => whnf)) | (refine Exists.intro _ (And.intro (by (first | assumption | exact (show Sh _ from by assumption).2.2 _ _ _ rfl)) ?_); (conv => whnf)) | (refine bF (nI_ne0 (by decide) (by decide)) ?_; (conv => whnf)) | (refine bT nI_0 ?_; (conv => whnf)) | (refine bN (nI_ne0 (by decide) (by decide)) ?_; (conv => whnf)) | (refine bP nI_0 ?_; (conv => whnf)) | (refine And.intro (by (first | ((with_reducible show vp_in (nI _) _); first | exact vin _ (by assumption) (by omega) (by omega) | exact vin _ ((show Sh _ from by assumption).2.1 _ (by decide)) (by ((conv => rhs; whnf); (show _ < @OfNat.ofNat Nat _ (instOfNatNat _)); omega)) (by decide)) | (simp only [nI_add, pk_mul]; (with_reducible show vp_in (nI _) _); first | exact vin _ (by assumption) (by omega) (by omega) | exact vin _ ((show Sh _ from by assumption).2.1 _ (by decide)) (by ((conv => rhs; whnf); (show _ < @OfNat.ofNat Nat _ (instOfNatNat _)); omega)) (by decide)) | (simp (disch := omega) only [nI_add, pk_mul, ofN, Nat.add_zero, nI_clamp, nI_leI, nI_ltI, nI_eq, nI_add, rI_s, rI_k, rI_a]; (with_reducible show vp_in (nI _) _); first | exact vin _ (by assumption) (by omega) (by omega) | exact vin _ ((show Sh _ from by assumption).2.1 _ (by decide)) (by ((conv => rhs; whnf); (show _ < @OfNat.ofNat Nat _ (instOfNatNat _)); omega)) (by decide)))) ?_; (conv => whnf))))
  exact lp all 0 _ (by omega) (rI_s _ _ _ _) (fun j hj => absurd hj (by show ¬ j < 0; omega)) (fun i hi => by rw [rI_a _ _ _ _ (by decide)]; exact hs i hi) (Fr_sI ⟨by omega, by omega⟩)
end HG
