/-! ===== contracts: the class's steps are taken from an image (mine) ===== -/
section IS
variable {d : Nat} {h : Hp} {Q : Option Value → Hp → Prop} {s : Sv}
theorem slot2 {h : Hp} (S : Sh h) {st i : Nat} (hst : st = 37 ∨ st = 307) (hi : i < 30) : GSh h (st + 2 + 8 * i) ∧ ab_R h (st + 1) i = some (st + 2 + 8 * i) := by
  rcases hst with rfl | rfl
  · exact ⟨GSh_of S (tG_k i hi).1, S.2.2 _ _ _ (tG_k i hi).2.2.1⟩
  · exact ⟨GSh_of S (tG_k i hi).2.1, S.2.2 _ _ _ (tG_k i hi).2.2.2⟩
theorem oc_steps (hd : 2 ≤ d) (S : Sh h) {st so : Nat} (hs : st = 37 ∧ so = 307 ∨ st = 307 ∧ so = 37) (R : SR h so s) (hq : ∀ h', SR h' st s → Fr (fun a _ => st ≤ a ∧ a < st + 242) h h' → Q none h') : ab_Ok d n_X7_takeFrom [.ref st, .ref so] h Q := by
  obtain ⟨c1, nx, hnx, c2, c3⟩ := R
  have kst : ab_K h st = 7 := by rcases hs with ⟨rfl, rfl⟩ | ⟨rfl, rfl⟩ <;> exact S.1 _ (by decide)
  have kso : ab_K h so = 7 := by rcases hs with ⟨rfl, rfl⟩ | ⟨rfl, rfl⟩ <;> exact S.1 _ (by decide)
  have kst1 : ab_K h (st + 1) = 16 := by rcases hs with ⟨rfl, rfl⟩ | ⟨rfl, rfl⟩ <;> exact S.1 _ (by decide)
  have kso1 : ab_K h (so + 1) = 16 := by rcases hs with ⟨rfl, rfl⟩ | ⟨rfl, rfl⟩ <;> exact S.1 _ (by decide)
  have lst1 : ab_L h (st + 1) = 30 := by rcases hs with ⟨rfl, rfl⟩ | ⟨rfl, rfl⟩ <;> exact S.2.1 _ (by decide)
  have lso1 : ab_L h (so + 1) = 30 := by rcases hs with ⟨rfl, rfl⟩ | ⟨rfl, rfl⟩ <;> exact S.2.1 _ (by decide)
  have rst : ab_R h st 0 = some (st + 1) := by rcases hs with ⟨rfl, rfl⟩ | ⟨rfl, rfl⟩ <;> exact S.2.2 _ _ _ rfl
  have rso : ab_R h so 0 = some (so + 1) := by rcases hs with ⟨rfl, rfl⟩ | ⟨rfl, rfl⟩ <;> exact S.2.2 _ _ _ rfl
  have hst : st = 37 ∨ st = 307 := by omega
  have hso : so = 37 ∨ so = 307 := by omega
  have I : ∀ P : Nat → Nat → Prop, ∀ h', Fr P h h' → ab_K h' st = 7 ∧ ab_K h' so = 7 ∧ ab_K h' (st + 1) = 16 ∧ ab_K h' (so + 1) = 16 ∧ ab_L h' (st + 1) = 30 ∧ ab_L h' (so + 1) = 30 ∧ ab_R h' st 0 = some (st + 1) ∧ ab_R h' so 0 = some (so + 1) := fun P h' F => by
    rw [F.1, F.2.1, F.2.2.1]
    exact ⟨kst, kso, kst1, kso1, lst1, lso1, rst, rso⟩
  refine ab_go mr_X7_takeFrom rfl (by omega) (fun call W hc hW => ?_); (conv => whnf)
  have lp : ∀ r i h', i + r = 30 → ab_I h' st 1 = nI nx → ab_I h' st 2 = nI (s 18 4) → (∀ j, j < i → ∀ kn rr, GR h (so + 2 + 8 * j) kn s rr → GR h' (st + 2 + 8 * j) kn s rr) → Fr (fun a _ => st ≤ a ∧ a < st + 242) h h' → W 18 [.ref st, .ref so, .int (nI i)] h' 0 0 := by
    intro r
    induction r with
    | zero =>
      intro i h' e n1 n2 z F'
      obtain rfl : i = 30 := by omega
      refine hW _ _ _ _ _ ?_
      (conv => whnf)
      refine bT (nI_le (Nat.le_refl _) (by omega)) ?_
      (conv => whnf)
      exact hq h' ⟨n2, nx, hnx, n1, fun j hj => z _ (by omega) _ _ (c3 j hj)⟩ F'
    | succ r ih =>
      intro i h' e n1 n2 z F'
      have S' := Fr_Sh F' S
      obtain ⟨q1, q2, q3, q4, q5, q6, q7, q8⟩ := I _ h' F'
      obtain ⟨g1, r1⟩ := slot2 S' hst (i := i) (by omega)
      obtain ⟨g2, r2⟩ := slot2 S' hso (i := i) (by omega)
      have kg1 := g1.1.1
      refine hW _ _ _ _ _ ?_
      (conv => whnf)
      refine bF (nI_ge (by omega) (by omega)) ?_
      (conv => whnf)
      (repeat (first | (refine And.intro (by (first | assumption | exact (show Sh _ from by assumption).1 _ (by decide) | exact Or.inl rfl | exact Or.inr rfl | exact Nat.le_of_ble_eq_true rfl)) ?_; (conv => whnf)) | (refine Exists.intro _ (And.intro (by (first | assumption | exact (show Sh _ from by assumption).2.2 _ _ _ rfl)) ?_); (conv => whnf)) | (refine bF (nI_ne0 (by decide) (by decide)) ?_; (conv => whnf)) | (refine bT nI_0 ?_; (conv => whnf)) | (refine bN (nI_ne0 (by decide) (by decide)) ?_; (conv => whnf)) | (refine bP nI_0 ?_; (conv => whnf)) | (refine And.intro (by (first | ((with_reducible show vp_in (nI _) _); first | exact vin _ (by assumption) (by omega) (by omega) | exact vin _ ((show Sh _ from by assumption).2.1 _ (by decide)) (by ((conv => rhs; whnf); (show _ < @OfNat.ofNat Nat _ (instOfNatNat _)); omega)) (by decide)) | (simp only [nI_add, pk_mul]; (with_reducible show vp_in (nI _) _); first | exact vin _ (by assumption) (by omega) (by omega) | exact vin _ ((show Sh _ from by assumption).2.1 _ (by decide)) (by ((conv => rhs; whnf); (show _ < @OfNat.ofNat Nat _ (instOfNatNat _)); omega)) (by decide)) | (simp (disch := omega) only [nI_add, pk_mul, ofN, Nat.add_zero, nI_clamp, nI_leI, nI_ltI, nI_eq, nI_add, rI_s, rI_k, rI_a]; (with_reducible show vp_in (nI _) _); first | exact vin _ (by assumption) (by omega) (by omega) | exact vin _ ((show Sh _ from by assumption).2.1 _ (by decide)) (by ((conv => rhs; whnf); (show _ < @OfNat.ofNat Nat _ (instOfNatNat _)); omega)) (by decide)))) ?_; (conv => whnf))))
      rw [nI_clamp (by omega)]
      refine ⟨fun y => by rw [r1] at y; (cases y), fun b hb => ?_⟩
      rw [r1] at hb
      obtain rfl : st + 2 + 8 * i = b := Option.some.inj hb
      (conv => whnf)
      (repeat (first | (refine And.intro (by (first | assumption | exact (show Sh _ from by assumption).1 _ (by decide) | exact Or.inl rfl | exact Or.inr rfl | exact Nat.le_of_ble_eq_true rfl)) ?_; (conv => whnf)) | (refine Exists.intro _ (And.intro (by (first | assumption | exact (show Sh _ from by assumption).2.2 _ _ _ rfl)) ?_); (conv => whnf)) | (refine bF (nI_ne0 (by decide) (by decide)) ?_; (conv => whnf)) | (refine bT nI_0 ?_; (conv => whnf)) | (refine bN (nI_ne0 (by decide) (by decide)) ?_; (conv => whnf)) | (refine bP nI_0 ?_; (conv => whnf)) | (refine And.intro (by (first | ((with_reducible show vp_in (nI _) _); first | exact vin _ (by assumption) (by omega) (by omega) | exact vin _ ((show Sh _ from by assumption).2.1 _ (by decide)) (by ((conv => rhs; whnf); (show _ < @OfNat.ofNat Nat _ (instOfNatNat _)); omega)) (by decide)) | (simp only [nI_add, pk_mul]; (with_reducible show vp_in (nI _) _); first | exact vin _ (by assumption) (by omega) (by omega) | exact vin _ ((show Sh _ from by assumption).2.1 _ (by decide)) (by ((conv => rhs; whnf); (show _ < @OfNat.ofNat Nat _ (instOfNatNat _)); omega)) (by decide)) | (simp (disch := omega) only [nI_add, pk_mul, ofN, Nat.add_zero, nI_clamp, nI_leI, nI_ltI, nI_eq, nI_add, rI_s, rI_k, rI_a]; (with_reducible show vp_in (nI _) _); first | exact vin _ (by assumption) (by omega) (by omega) | exact vin _ ((show Sh _ from by assumption).2.1 _ (by decide)) (by ((conv => rhs; whnf); (show _ < @OfNat.ofNat Nat _ (instOfNatNat _)); omega)) (by decide)))) ?_; (conv => whnf))))
      rw [nI_clamp (by omega)]
      refine ⟨fun y => by rw [r2] at y; (cases y), fun b hb => ?_⟩
      rw [r2] at hb
      obtain rfl : so + 2 + 8 * i = b := Option.some.inj hb
      (conv => whnf)
      (repeat (first | (refine And.intro (by (first | assumption | exact (show Sh _ from by assumption).1 _ (by decide) | exact Or.inl rfl | exact Or.inr rfl | exact Nat.le_of_ble_eq_true rfl)) ?_; (conv => whnf)) | (refine Exists.intro _ (And.intro (by (first | assumption | exact (show Sh _ from by assumption).2.2 _ _ _ rfl)) ?_); (conv => whnf)) | (refine bF (nI_ne0 (by decide) (by decide)) ?_; (conv => whnf)) | (refine bT nI_0 ?_; (conv => whnf)) | (refine bN (nI_ne0 (by decide) (by decide)) ?_; (conv => whnf)) | (refine bP nI_0 ?_; (conv => whnf)) | (refine And.intro (by (first | ((with_reducible show vp_in (nI _) _); first | exact vin _ (by assumption) (by omega) (by omega) | exact vin _ ((show Sh _ from by assumption).2.1 _ (by decide)) (by ((conv => rhs; whnf); (show _ < @OfNat.ofNat Nat _ (instOfNatNat _)); omega)) (by decide)) | (simp only [nI_add, pk_mul]; (with_reducible show vp_in (nI _) _); first | exact vin _ (by assumption) (by omega) (by omega) | exact vin _ ((show Sh _ from by assumption).2.1 _ (by decide)) (by ((conv => rhs; whnf); (show _ < @OfNat.ofNat Nat _ (instOfNatNat _)); omega)) (by decide)) | (simp (disch := omega) only [nI_add, pk_mul, ofN, Nat.add_zero, nI_clamp, nI_leI, nI_ltI, nI_eq, nI_add, rI_s, rI_k, rI_a]; (with_reducible show vp_in (nI _) _); first | exact vin _ (by assumption) (by omega) (by omega) | exact vin _ ((show Sh _ from by assumption).2.1 _ (by decide)) (by ((conv => rhs; whnf); (show _ < @OfNat.ofNat Nat _ (instOfNatNat _)); omega)) (by decide)))) ?_; (conv => whnf))))
      refine hc _ _ _ _ (og_takeFrom (by omega) g1 g2 (by omega) (fun h1 F1 w1 w2 w3 w4 => ?_))
      (conv => whnf)
      have F2 : Fr (fun a _ => st ≤ a ∧ a < st + 242) h' h1 := Fr_mo F1 (fun a k y => ⟨by have := y.1; omega, by have := y.2; omega⟩)
      have f1 : ∀ a k, ¬ (st + 2 + 8 * i ≤ a ∧ a < st + 2 + 8 * i + 8) → ab_I h1 a k = ab_I h' a k := fun a k ha => F1.2.2.2.2 a k (fun y => ha ⟨y.1, by have := y.2; omega⟩)
      refine W_h rfl (by (try simp (disch := omega) only [nI_add, Nat.add_zero]) <;> rfl) (ih (i + 1) h1 (by omega) ((f1 _ _ (by omega)).trans n1) ((f1 _ _ (by omega)).trans n2) (fun j hj kn rr G => ?_) (Fr_tr F' F2))
      by_cases ej : j = i
      · subst ej
        have G' : GR h' (so + 2 + 8 * j) kn s rr := GR_c G (fun a k ha => F'.2.2.2.2 _ _ (by omega)) rfl (fun a k _ _ => rfl)
        exact GR_cp G' w1 w2 w3 w4 rfl (fun _ _ _ _ => rfl)
      · exact GR_c (z j (by omega) kn rr G) (fun a k ha => f1 _ _ (by omega)) rfl (fun a k _ _ => rfl)
  (repeat (first | (refine And.intro (by (first | assumption | exact (show Sh _ from by assumption).1 _ (by decide) | exact Or.inl rfl | exact Or.inr rfl | exact Nat.le_of_ble_eq_true rfl)) ?_; (conv => whnf)) | (refine Exists.intro _ (And.intro (by (first | assumption | exact (show Sh _ from by assumption).2.2 _ _ _ rfl)) ?_); (conv => whnf)) | (refine bF (nI_ne0 (by decide) (by decide)) ?_; (conv => whnf)) | (refine bT nI_0 ?_; (conv => whnf)) | (refine bN (nI_ne0 (by decide) (by decide)) ?_; (conv => whnf)) | (refine bP nI_0 ?_; (conv => whnf)) | (refine And.intro (by (first | ((with_reducible show vp_in (nI _) _); first | exact vin _ (by assumption) (by omega) (by omega) | exact vin _ ((show Sh _ from by assumption).2.1 _ (by decide)) (by ((conv => rhs; whnf); (show _ < @OfNat.ofNat Nat _ (instOfNatNat _)); omega)) (by decide)) | (simp only [nI_add, pk_mul]; (with_reducible show vp_in (nI _) _); first | exact vin _ (by assumption) (by omega) (by omega) | exact vin _ ((show Sh _ from by assumption).2.1 _ (by decide)) (by ((conv => rhs; whnf); (show _ < @OfNat.ofNat Nat _ (instOfNatNat _)); omega)) (by decide)) | (simp (disch := omega) only [nI_add, pk_mul, ofN, Nat.add_zero, nI_clamp, nI_leI, nI_ltI, nI_eq, nI_add, rI_s, rI_k, rI_a]; (with_reducible show vp_in (nI _) _); first | exact vin _ (by assumption) (by omega) (by omega) | exact vin _ ((show Sh _ from by assumption).2.1 _ (by decide)) (by ((conv => rhs; whnf); (show _ < @OfNat.ofNat Nat _ (instOfNatNat _)); omega)) (by decide)))) ?_; (conv => whnf))))
  rw [c2, rI_a _ _ _ _ (by omega), c1]
  refine lp 30 0 _ (by omega) ?_ ?_ (fun j hj => absurd hj (by omega)) (Fr_tr (Fr_sI (by omega)) (Fr_sI (by omega)))
  · rw [rI_k _ _ _ (by omega), rI_s]
  · rw [rI_s]
end IS
