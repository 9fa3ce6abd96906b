/-! ===== contracts: heats on the reference's side, the sets are laid (mine) ===== -/
def fJ (a k : Nat) : Prop := a = 593 ∨ (a = 580 ∧ k = 30)
section MH
variable {d : Nat} {h : Hp} {Q : Option Value → Hp → Prop} {s : Sv}
theorem om_laySets (hd : 2 ≤ d) (S : Sh h) (M : MS h 581 s) (hn : s 18 0 ≤ 5) {z : Nat} (hz : z ≤ 4) (hz2 : 2 ≤ z) (hq : ∀ h', ab_I h' 580 30 = nI (stC z (2 ^ s 18 0)) → (∀ j, j < stC z (2 ^ s 18 0) → ab_I h' 593 j = nI (stB z (2 ^ s 18 0) j)) → Fr fJ h h' → Q none h') : ab_Ok d n_X12_laySets [.ref 580, .int (nI z)] h Q := by
  have n0 := ms_n0 M
  have ab := stC_b (s 18 0) (by omega) z (by omega) hz2
  have p2 : 2 ^ s 18 0 ≤ 32 := Nat.pow_le_pow_right (by decide) hn
  have sh1 : nI 1 <<< (nI (s 18 0) &&& 31) = nI (2 ^ s 18 0) := by rw [nI_shl (by omega) (by omega), Nat.one_mul]
  refine ab_go mr_X12_laySets rfl (by omega) (fun call W hc hW => ?_); (conv => whnf)
  have lp : ∀ r v h', v + r = 2 ^ s 18 0 → ab_I h' 580 30 = nI (stC z v) → (∀ j, j < stC z v → ab_I h' 593 j = nI (stB z v j)) → Fr fJ h h' → W 7 [.ref 580, .int (nI z), .int (nI v)] h' 0 0 := by
    intro r
    induction r with
    | zero =>
      intro v h' e p1 p3 F'
      obtain rfl : v = 2 ^ s 18 0 := by omega
      have S' := Fr_Sh F' S
      have n0' : ab_I h' 581 0 = nI (s 18 0) := (F'.2.2.2.2 581 0 (fun w => by unfold fJ at w; omega)).trans n0
      refine hW _ _ _ _ _ ?_
      (conv => whnf)
      (repeat (first | (refine And.intro (by (first | assumption | exact (show Sh _ from by assumption).1 _ (by decide) | exact Or.inl rfl | exact Or.inr rfl | exact Nat.le_of_ble_eq_true rfl)) ?_; (conv => whnf)) | (refine Exists.intro _ (And.intro (by (first | assumption | exact (show Sh _ from by assumption).2.2 _ _ _ rfl)) ?_); (conv => whnf)) | (refine bF (nI_ne0 (by decide) (by decide)) ?_; (conv => whnf)) | (refine bT nI_0 ?_; (conv => whnf)) | (refine bN (nI_ne0 (by decide) (by decide)) ?_; (conv => whnf)) | (refine bP nI_0 ?_; (conv => whnf)) | (refine And.intro (by (first | ((with_reducible show vp_in (nI _) _); first | exact vin _ (by assumption) (by omega) (by omega) | exact vin _ ((show Sh _ from by assumption).2.1 _ (by decide)) (by ((conv => rhs; whnf); (show _ < @OfNat.ofNat Nat _ (instOfNatNat _)); omega)) (by decide)) | (simp only [nI_add, pk_mul]; (with_reducible show vp_in (nI _) _); first | exact vin _ (by assumption) (by omega) (by omega) | exact vin _ ((show Sh _ from by assumption).2.1 _ (by decide)) (by ((conv => rhs; whnf); (show _ < @OfNat.ofNat Nat _ (instOfNatNat _)); omega)) (by decide)) | (simp (disch := omega) only [nI_add, pk_mul, ofN, Nat.add_zero, nI_clamp, nI_leI, nI_ltI, nI_eq, nI_add, rI_s, rI_k, rI_a]; (with_reducible show vp_in (nI _) _); first | exact vin _ (by assumption) (by omega) (by omega) | exact vin _ ((show Sh _ from by assumption).2.1 _ (by decide)) (by ((conv => rhs; whnf); (show _ < @OfNat.ofNat Nat _ (instOfNatNat _)); omega)) (by decide)))) ?_; (conv => whnf))))
      rw [nI_clamp (by omega), n0', sh1]
      refine bT (nI_le (Nat.le_refl _) (by omega)) ?_
      (conv => whnf)
      exact hq h' p1 p3 F'
    | succ r ih =>
      intro v h' e p1 p3 F'
      have S' := Fr_Sh F' S
      have n0' : ab_I h' 581 0 = nI (s 18 0) := (F'.2.2.2.2 581 0 (fun w => by unfold fJ at w; omega)).trans n0
      have pb : popc v ≤ 10 := popc_b ⟨v, by omega⟩
      have ih := ih (v + 1)
      refine hW _ _ _ _ _ ?_
      (conv => whnf)
      (repeat (first | (refine And.intro (by (first | assumption | exact (show Sh _ from by assumption).1 _ (by decide) | exact Or.inl rfl | exact Or.inr rfl | exact Nat.le_of_ble_eq_true rfl)) ?_; (conv => whnf)) | (refine Exists.intro _ (And.intro (by (first | assumption | exact (show Sh _ from by assumption).2.2 _ _ _ rfl)) ?_); (conv => whnf)) | (refine bF (nI_ne0 (by decide) (by decide)) ?_; (conv => whnf)) | (refine bT nI_0 ?_; (conv => whnf)) | (refine bN (nI_ne0 (by decide) (by decide)) ?_; (conv => whnf)) | (refine bP nI_0 ?_; (conv => whnf)) | (refine And.intro (by (first | ((with_reducible show vp_in (nI _) _); first | exact vin _ (by assumption) (by omega) (by omega) | exact vin _ ((show Sh _ from by assumption).2.1 _ (by decide)) (by ((conv => rhs; whnf); (show _ < @OfNat.ofNat Nat _ (instOfNatNat _)); omega)) (by decide)) | (simp only [nI_add, pk_mul]; (with_reducible show vp_in (nI _) _); first | exact vin _ (by assumption) (by omega) (by omega) | exact vin _ ((show Sh _ from by assumption).2.1 _ (by decide)) (by ((conv => rhs; whnf); (show _ < @OfNat.ofNat Nat _ (instOfNatNat _)); omega)) (by decide)) | (simp (disch := omega) only [nI_add, pk_mul, ofN, Nat.add_zero, nI_clamp, nI_leI, nI_ltI, nI_eq, nI_add, rI_s, rI_k, rI_a]; (with_reducible show vp_in (nI _) _); first | exact vin _ (by assumption) (by omega) (by omega) | exact vin _ ((show Sh _ from by assumption).2.1 _ (by decide)) (by ((conv => rhs; whnf); (show _ < @OfNat.ofNat Nat _ (instOfNatNat _)); omega)) (by decide)))) ?_; (conv => whnf))))
      rw [nI_clamp (by omega), n0', sh1]
      refine bF (nI_ge (by omega) (by omega)) ?_
      (conv => whnf)
      have mo : stC z (v + 1) ≤ stC z (2 ^ s 18 0) := by
        have := stC_mo z r (v + 1)
        rw [show v + 1 + r = 2 ^ s 18 0 by omega] at this
        exact this
      have e1 : stC z (v + 1) = if popc v = z then stC z v + 1 else stC z v := rfl
      have e2 : stB z (v + 1) = if popc v = z then fun j => if j = stC z v then v else stB z v j else stB z v := rfl
      refine hc _ _ _ _ (om_bits (by omega) (show v < 1024 by omega) ?_)
      (conv => whnf)
      refine ⟨fun g => ?_, fun g => ?_⟩ <;> rw [nI_eq (by omega) (by omega)] at g <;> (conv => whnf)
      · rw [if_pos g] at e1 e2
        rw [e1, e2] at ih
        clear hq
        refine ⟨S'.1 580 (by decide), 593, S'.2.2 _ _ _ rfl, ?_⟩
        (conv => whnf)
        refine ⟨S'.1 580 (by decide), ?_⟩
        (conv => whnf)
        rw [p1]
        refine ⟨S'.1 593 (by decide), vin _ (S'.2.1 593 (by decide)) (by show stC z v < 10; omega) (by decide), ?_⟩
        (conv => whnf)
        refine ⟨S'.1 580 (by decide), ?_⟩
        (conv => whnf)
        refine ⟨S'.1 580 (by decide), ?_⟩
        (conv => whnf)
        rw [nI_clamp (by omega), rI_a _ _ _ _ (by decide), p1, nI_add (stC z v) 1]
        refine W_h rfl (by (try simp (disch := omega) only [nI_add, Nat.add_zero]) <;> rfl) (ih _ (by omega) (rI_s _ _ _ _) (fun j hj => ?_) (Fr_tr F' (Fr_tr (Fr_sI (Or.inl rfl)) (Fr_sI (Or.inr ⟨rfl, rfl⟩)))))
        rw [rI_a _ _ _ _ (by decide)]
        show _ = nI (if j = stC z v then v else stB z v j)
        by_cases ej : j = stC z v
        · rw [if_pos ej, ej, rI_s]
        · rw [if_neg ej, rI_k _ _ _ (by omega)]
          exact p3 j (by omega)
      · rw [if_neg g] at e1 e2
        rw [e1, e2] at ih
        exact W_h rfl (by (try simp (disch := omega) only [nI_add, Nat.add_zero]) <;> rfl) (ih h' (by omega) p1 p3 F')
  (repeat (first | (refine And.intro (by (first | assumption | exact (show Sh _ from by assumption).1 _ (by decide) | exact Or.inl rfl | exact Or.inr rfl | exact Nat.le_of_ble_eq_true rfl)) ?_; (conv => whnf)) | (refine Exists.intro _ (And.intro (by (first | assumption | exact (show Sh _ from by assumption).2.2 _ _ _ rfl)) ?_); (conv => whnf)) | (refine bF (nI_ne0 (by decide) (by decide)) ?_; (conv => whnf)) | (refine bT nI_0 ?_; (conv => whnf)) | (refine bN (nI_ne0 (by decide) (by decide)) ?_; (conv => whnf)) | (refine bP nI_0 ?_; (conv => whnf)) | (refine And.intro (by (first | ((with_reducible show vp_in (nI _) _); first | exact vin _ (by assumption) (by omega) (by omega) | exact vin _ ((show Sh _ from by assumption).2.1 _ (by decide)) (by ((conv => rhs; whnf); (show _ < @OfNat.ofNat Nat _ (instOfNatNat _)); omega)) (by decide)) | (simp only [nI_add, pk_mul]; (with_reducible show vp_in (nI _) _); first | exact vin _ (by assumption) (by omega) (by omega) | exact vin _ ((show Sh _ from by assumption).2.1 _ (by decide)) (by ((conv => rhs; whnf); (show _ < @OfNat.ofNat Nat _ (instOfNatNat _)); omega)) (by decide)) | (simp (disch := omega) only [nI_add, pk_mul, ofN, Nat.add_zero, nI_clamp, nI_leI, nI_ltI, nI_eq, nI_add, rI_s, rI_k, rI_a]; (with_reducible show vp_in (nI _) _); first | exact vin _ (by assumption) (by omega) (by omega) | exact vin _ ((show Sh _ from by assumption).2.1 _ (by decide)) (by ((conv => rhs; whnf); (show _ < @OfNat.ofNat Nat _ (instOfNatNat _)); omega)) (by decide)))) ?_; (conv => whnf))))
  exact lp (2 ^ s 18 0) 0 _ (by omega) (rI_s _ _ _ _) (fun j hj => absurd hj (by show ¬ j < 0; omega)) (Fr_sI (Or.inr ⟨rfl, rfl⟩))
end MH
