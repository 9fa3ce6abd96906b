/-! ===== contracts: heats on the class's side, pairs that meet (mine) ===== -/
/-- the pairs that meet in a choice of the first n sets -/
def pmt (mt : Nat → Nat) (c all : Nat) : Nat → Nat
  | 0 => 0
  | i + 1 => if c / 2 ^ (all - 1 - i) % 2 = 1 then pmt mt c all i ||| mt i else pmt mt c all i
section HF
variable {d : Nat} {h : Hp} {Q : Option Value → Hp → Prop} {s : Sv}
theorem oc_pairsMet (hd : 1 ≤ d) (S : Sh h) {mt : Nat → Nat} {c all : Nat} (hc2 : c < 2 ^ 31) (ha : all ≤ 10) (hm : ∀ i, i < all → ab_I h 578 i = nI (mt i)) (hq : Q (some (.int (nI (pmt mt c all all)))) h) : ab_Ok d n_X3_pairsMet [.ref 576, .int (nI c), .int (nI all)] h Q := by
  refine ab_go mr_X3_pairsMet rfl (by omega) (fun call W hc hW => ?_); (conv => whnf)
  have lp : ∀ r i, i + r = all → W 5 [.ref 576, .int (nI c), .int (nI all), .int (nI (pmt mt c all i)), .int (nI i)] h 0 0 := by
    intro r
    induction r with
    | zero =>
      intro i e
      obtain rfl : i = all := by omega
      refine hW _ _ _ _ _ ?_
      (conv => whnf)
      refine bT (nI_le (Nat.le_refl _) (by omega)) ?_
      (conv => whnf)
      exact hq
    | succ r ih =>
      intro i e
      have ih := ih (i + 1) (by omega)
      have e2 : pmt mt c all (i + 1) = if c / 2 ^ (all - 1 - i) % 2 = 1 then pmt mt c all i ||| mt i else pmt mt c all i := rfl
      rw [e2] at ih
      have ea : nI c >>> (nI (all - 1 - i) &&& 31) &&& nI 1 = nI (c / 2 ^ (all - 1 - i) % 2) := nI_bit (by omega) (by omega)
      have qa : c / 2 ^ (all - 1 - i) % 2 < 2 := Nat.mod_lt _ (by decide)
      have v := hm i (by omega)
      refine hW _ _ _ _ _ ?_
      (conv => whnf)
      refine bF (nI_ge (by omega) (by omega)) ?_
      (conv => whnf)
      rw [pk_sub (by omega : 1 ≤ all), pk_sub (by omega : i ≤ all - 1), ea]
      refine ⟨fun f => ?_, fun f => ?_⟩ <;> rw [nI_eq (by omega) (by omega)] at f <;> (conv => whnf)
      · rw [if_neg f] at ih
        exact W_h rfl (by (try simp (disch := omega) only [nI_add, Nat.add_zero]) <;> rfl) ih
      · rw [if_pos f] at ih
        (repeat (first | (refine And.intro (by (first | assumption | exact (show Sh _ from by assumption).1 _ (by decide) | exact Or.inl rfl | exact Or.inr rfl | exact Nat.le_of_ble_eq_true rfl)) ?_; (conv => whnf)) | (refine Exists.intro _ (And.intro (by (first | assumption | exact (show Sh _ from by assumption).2.2 _ _ _ rfl)) ?_); (conv => whnf)) | (refine bF (nI_ne0 (by decide) (by decide)) ?_; (conv => whnf)) | (refine bT nI_0 ?_; (conv => whnf)) | (refine bN (nI_ne0 (by decide) (by decide)) ?_; (conv => whnf)) | (refine bP nI_0 ?_; (conv => whnf)) | (refine And.intro (by (first | ((with_reducible show vp_in (nI _) _); first | exact vin _ (by assumption) (by omega) (by omega) | exact vin _ ((show Sh _ from by assumption).2.1 _ (by decide)) (by ((conv => rhs; whnf); (show _ < @OfNat.ofNat Nat _ (instOfNatNat _)); omega)) (by decide)) | (simp only [nI_add, pk_mul]; (with_reducible show vp_in (nI _) _); first | exact vin _ (by assumption) (by omega) (by omega) | exact vin _ ((show Sh _ from by assumption).2.1 _ (by decide)) (by ((conv => rhs; whnf); (show _ < @OfNat.ofNat Nat _ (instOfNatNat _)); omega)) (by decide)) | (simp (disch := omega) only [nI_add, pk_mul, ofN, Nat.add_zero, nI_clamp, nI_leI, nI_ltI, nI_eq, nI_add, rI_s, rI_k, rI_a]; (with_reducible show vp_in (nI _) _); first | exact vin _ (by assumption) (by omega) (by omega) | exact vin _ ((show Sh _ from by assumption).2.1 _ (by decide)) (by ((conv => rhs; whnf); (show _ < @OfNat.ofNat Nat _ (instOfNatNat _)); omega)) (by decide)))) ?_; (conv => whnf))))
        rw [nI_clamp (by omega), v, fa_or]
        exact W_h rfl (by (try simp (disch := omega) only [nI_add, Nat.add_zero]) <;> rfl) ih
  exact lp all 0 (by omega)
end HF
