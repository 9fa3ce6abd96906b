/-! ===== contracts: the class's hearsay is taken from an image (mine) ===== -/
def HSh (h : Hp) (b : Nat) : Prop := (ab_K h b = 2 ∧ ab_K h (b + 1) = 13 ∧ ab_K h (b + 2) = 18 ∧ ab_K h (b + 8) = 13 ∧ ab_K h (b + 9) = 13 ∧ ab_K h (b + 10) = 13 ∧ ab_K h (b + 11) = 13 ∧ ab_K h (b + 12) = 13) ∧ (ab_L h (b + 1) = 5 ∧ ab_L h (b + 2) = 5 ∧ ab_L h (b + 8) = 5 ∧ ab_L h (b + 9) = 6 ∧ ab_L h (b + 10) = 6 ∧ ab_L h (b + 11) = 8 ∧ ab_L h (b + 12) = 8) ∧ (ab_R h b 0 = some (b + 1) ∧ ab_R h b 1 = some (b + 2) ∧ ab_R h b 2 = some (b + 8) ∧ ab_R h b 4 = some (b + 9) ∧ ab_R h b 5 = some (b + 10) ∧ ab_R h b 7 = some (b + 11) ∧ ab_R h b 8 = some (b + 12)) ∧ ∀ a, a < 5 → ab_R h (b + 2) a = some (b + 3 + a) ∧ ab_K h (b + 3 + a) = 13 ∧ ab_L h (b + 3 + a) = 5
theorem HSh_of {h : Hp} (S : Sh h) {b : Nat} (hb : b = 16 ∨ b = 286) : HSh h b := by
  rcases hb with rfl | rfl
  · refine ⟨⟨S.1 _ (by decide), S.1 _ (by decide), S.1 _ (by decide), S.1 _ (by decide), S.1 _ (by decide), S.1 _ (by decide), S.1 _ (by decide), S.1 _ (by decide)⟩, ⟨S.2.1 _ (by decide), S.2.1 _ (by decide), S.2.1 _ (by decide), S.2.1 _ (by decide), S.2.1 _ (by decide), S.2.1 _ (by decide), S.2.1 _ (by decide)⟩, ⟨S.2.2 _ _ _ rfl, S.2.2 _ _ _ rfl, S.2.2 _ _ _ rfl, S.2.2 _ _ _ rfl, S.2.2 _ _ _ rfl, S.2.2 _ _ _ rfl, S.2.2 _ _ _ rfl⟩, fun a ha => ?_⟩
    have t := (by decide +kernel : ∀ a, a < 5 → tR 18 a = some (19 + a) ∧ tK (19 + a) = 13 ∧ tL (19 + a) = 5) a ha
    exact ⟨S.2.2 _ _ _ t.1, (S.1 _ (by omega)).trans t.2.1, (S.2.1 _ (by omega)).trans t.2.2⟩
  · refine ⟨⟨S.1 _ (by decide), S.1 _ (by decide), S.1 _ (by decide), S.1 _ (by decide), S.1 _ (by decide), S.1 _ (by decide), S.1 _ (by decide), S.1 _ (by decide)⟩, ⟨S.2.1 _ (by decide), S.2.1 _ (by decide), S.2.1 _ (by decide), S.2.1 _ (by decide), S.2.1 _ (by decide), S.2.1 _ (by decide), S.2.1 _ (by decide)⟩, ⟨S.2.2 _ _ _ rfl, S.2.2 _ _ _ rfl, S.2.2 _ _ _ rfl, S.2.2 _ _ _ rfl, S.2.2 _ _ _ rfl, S.2.2 _ _ _ rfl, S.2.2 _ _ _ rfl⟩, fun a ha => ?_⟩
    have t := (by decide +kernel : ∀ a, a < 5 → tR 288 a = some (289 + a) ∧ tK (289 + a) = 13 ∧ tL (289 + a) = 5) a ha
    exact ⟨S.2.2 _ _ _ t.1, (S.1 _ (by omega)).trans t.2.1, (S.2.1 _ (by omega)).trans t.2.2⟩
theorem HSh_fr {h h' : Hp} {P : Nat → Nat → Prop} (F : Fr P h h') {b : Nat} (H : HSh h b) : HSh h' b := by
  obtain ⟨a1, a2, a3, -, -⟩ := F
  unfold HSh
  rw [a1, a2, a3]
  exact H
section IH
variable {d : Nat} {h : Hp} {Q : Option Value → Hp → Prop} {s : Sv}
set_option maxRecDepth 4000 in
theorem oc_hears (hd : 1 ≤ d) {b o : Nat} (hbo : b + 13 ≤ o ∨ o + 13 ≤ b) (H : HSh h b) (O : HSh h o) (R : HR h o s) (hq : ∀ h', HR h' b s → Fr (fun a _ => b ≤ a ∧ a ≤ b + 12) h h' → Q none h') : ab_Ok d n_X2_takeFrom [.ref b, .ref o] h Q := by
  have H0 := H
  have O0 := O
  obtain ⟨⟨k0, k1, k2, k3, k4, k5, k6, k7⟩, ⟨l1, l2, l3, l4, l5, l6, l7⟩, ⟨r0, r1, r2, r3, r4, r5, r6⟩, -⟩ := H
  obtain ⟨⟨j0, j1, j2, j3, j4, j5, j6, j7⟩, ⟨m1, m2, m3, m4, m5, m6, m7⟩, ⟨u0, u1, u2, u3, u4, u5, u6⟩, -⟩ := O
  obtain ⟨⟨a1, a2⟩, b1, c1, d1, e1⟩ := R
  refine ab_go mr_X2_takeFrom rfl (by omega) (fun call W hc hW => ?_); (conv => whnf)
  have lp : ∀ r i h', i + r = 5 → (ab_I h' b 3 = nI (s 18 5) ∧ ab_I h' b 6 = nI (s 18 6)) → (∀ k, k < 5 → ab_I h' (b + 1) k = nI (s 11 k) ∧ ab_I h' (b + 8) k = nI (s 13 k)) → (∀ k, k < 6 → ab_I h' (b + 9) k = nI (s 14 k) ∧ ab_I h' (b + 10) k = nI (s 15 k)) → (∀ k, k < 8 → ab_I h' (b + 11) k = nI (s 16 k) ∧ ab_I h' (b + 12) k = nI (s 17 k)) → (∀ a c, a < i → c < 5 → ab_I h' (b + 3 + a) c = nI (s 12 (5 * a + c))) → Fr (fun a _ => b ≤ a ∧ a ≤ b + 12) h h' → W 106 [.ref b, .ref o, .int (nI i)] h' 0 0 := by
    intro r
    induction r with
    | zero =>
      intro i h' e p1 p2 p3 p4 p5 F'
      obtain rfl : i = 5 := by omega
      refine hW _ _ _ _ _ ?_
      (conv => whnf)
      refine bT (nI_le (Nat.le_refl _) (by omega)) ?_
      (conv => whnf)
      exact hq h' ⟨p1, p2, p5, p3, p4⟩ F'
    | succ r ih =>
      intro i h' e p1 p2 p3 p4 p5 F'
      obtain ⟨⟨k0, k1, k2, -⟩, ⟨l1, l2, -⟩, ⟨r0, r1, -⟩, hr⟩ := HSh_fr F' H0
      obtain ⟨⟨j0, j1, j2, -⟩, ⟨m1, m2, -⟩, ⟨u0, u1, -⟩, ho⟩ := HSh_fr F' O0
      obtain ⟨x1, x2, x3⟩ := hr i (by omega)
      obtain ⟨y1, y2, y3⟩ := ho i (by omega)
      refine hW _ _ _ _ _ ?_
      (conv => whnf)
      refine bF (nI_ge (by omega) (by omega)) ?_
      (conv => whnf)
      (repeat (first | (refine And.intro (by (first | assumption | exact (show Sh _ from by assumption).1 _ (by decide) | exact Or.inl rfl | exact Or.inr rfl | exact Nat.le_of_ble_eq_true rfl)) ?_; (conv => whnf)) | (refine Exists.intro _ (And.intro (by (first | assumption | exact (show Sh _ from by assumption).2.2 _ _ _ rfl)) ?_); (conv => whnf)) | (refine bF (nI_ne0 (by decide) (by decide)) ?_; (conv => whnf)) | (refine bT nI_0 ?_; (conv => whnf)) | (refine bN (nI_ne0 (by decide) (by decide)) ?_; (conv => whnf)) | (refine bP nI_0 ?_; (conv => whnf)) | (refine And.intro (by (first | ((with_reducible show vp_in (nI _) _); first | exact vin _ (by assumption) (by omega) (by omega) | exact vin _ ((show Sh _ from by assumption).2.1 _ (by decide)) (by ((conv => rhs; whnf); (show _ < @OfNat.ofNat Nat _ (instOfNatNat _)); omega)) (by decide)) | (simp only [nI_add, pk_mul]; (with_reducible show vp_in (nI _) _); first | exact vin _ (by assumption) (by omega) (by omega) | exact vin _ ((show Sh _ from by assumption).2.1 _ (by decide)) (by ((conv => rhs; whnf); (show _ < @OfNat.ofNat Nat _ (instOfNatNat _)); omega)) (by decide)) | (simp (disch := omega) only [nI_add, pk_mul, ofN, Nat.add_zero, nI_clamp, nI_leI, nI_ltI, nI_eq, nI_add, rI_s, rI_k, rI_a]; (with_reducible show vp_in (nI _) _); first | exact vin _ (by assumption) (by omega) (by omega) | exact vin _ ((show Sh _ from by assumption).2.1 _ (by decide)) (by ((conv => rhs; whnf); (show _ < @OfNat.ofNat Nat _ (instOfNatNat _)); omega)) (by decide)))) ?_; (conv => whnf))))
      rw [nI_clamp (by omega)]
      refine ⟨fun y => by rw [y1] at y; (cases y), fun v hv => ?_⟩
      rw [y1] at hv
      obtain rfl : o + 3 + i = v := Option.some.inj hv
      (conv => whnf)
      (repeat (first | (refine And.intro (by (first | assumption | exact (show Sh _ from by assumption).1 _ (by decide) | exact Or.inl rfl | exact Or.inr rfl | exact Nat.le_of_ble_eq_true rfl)) ?_; (conv => whnf)) | (refine Exists.intro _ (And.intro (by (first | assumption | exact (show Sh _ from by assumption).2.2 _ _ _ rfl)) ?_); (conv => whnf)) | (refine bF (nI_ne0 (by decide) (by decide)) ?_; (conv => whnf)) | (refine bT nI_0 ?_; (conv => whnf)) | (refine bN (nI_ne0 (by decide) (by decide)) ?_; (conv => whnf)) | (refine bP nI_0 ?_; (conv => whnf)) | (refine And.intro (by (first | ((with_reducible show vp_in (nI _) _); first | exact vin _ (by assumption) (by omega) (by omega) | exact vin _ ((show Sh _ from by assumption).2.1 _ (by decide)) (by ((conv => rhs; whnf); (show _ < @OfNat.ofNat Nat _ (instOfNatNat _)); omega)) (by decide)) | (simp only [nI_add, pk_mul]; (with_reducible show vp_in (nI _) _); first | exact vin _ (by assumption) (by omega) (by omega) | exact vin _ ((show Sh _ from by assumption).2.1 _ (by decide)) (by ((conv => rhs; whnf); (show _ < @OfNat.ofNat Nat _ (instOfNatNat _)); omega)) (by decide)) | (simp (disch := omega) only [nI_add, pk_mul, ofN, Nat.add_zero, nI_clamp, nI_leI, nI_ltI, nI_eq, nI_add, rI_s, rI_k, rI_a]; (with_reducible show vp_in (nI _) _); first | exact vin _ (by assumption) (by omega) (by omega) | exact vin _ ((show Sh _ from by assumption).2.1 _ (by decide)) (by ((conv => rhs; whnf); (show _ < @OfNat.ofNat Nat _ (instOfNatNat _)); omega)) (by decide)))) ?_; (conv => whnf))))
      rw [nI_clamp (by omega)]
      refine ⟨fun y => by rw [x1] at y; (cases y), fun v hv => ?_⟩
      rw [x1] at hv
      obtain rfl : b + 3 + i = v := Option.some.inj hv
      (conv => whnf)
      (repeat (first | first | (refine And.intro (by (first | assumption | exact (show Sh _ from by assumption).1 _ (by decide) | exact Or.inl rfl | exact Or.inr rfl | exact Nat.le_of_ble_eq_true rfl)) ?_; (conv => whnf)) | (refine Exists.intro _ (And.intro (by (first | assumption | exact (show Sh _ from by assumption).2.2 _ _ _ rfl)) ?_); (conv => whnf)) | (refine bF (nI_ne0 (by decide) (by decide)) ?_; (conv => whnf)) | (refine bT nI_0 ?_; (conv => whnf)) | (refine bN (nI_ne0 (by decide) (by decide)) ?_; (conv => whnf)) | (refine bP nI_0 ?_; (conv => whnf)) | (refine And.intro (by (first | ((with_reducible show vp_in (nI _) _); first | exact vin _ (by assumption) (by omega) (by omega) | exact vin _ ((show Sh _ from by assumption).2.1 _ (by decide)) (by ((conv => rhs; whnf); (show _ < @OfNat.ofNat Nat _ (instOfNatNat _)); omega)) (by decide)) | (simp only [nI_add, pk_mul]; (with_reducible show vp_in (nI _) _); first | exact vin _ (by assumption) (by omega) (by omega) | exact vin _ ((show Sh _ from by assumption).2.1 _ (by decide)) (by ((conv => rhs; whnf); (show _ < @OfNat.ofNat Nat _ (instOfNatNat _)); omega)) (by decide)) | (simp (disch := omega) only [nI_add, pk_mul, ofN, Nat.add_zero, nI_clamp, nI_leI, nI_ltI, nI_eq, nI_add, rI_s, rI_k, rI_a]; (with_reducible show vp_in (nI _) _); first | exact vin _ (by assumption) (by omega) (by omega) | exact vin _ ((show Sh _ from by assumption).2.1 _ (by decide)) (by ((conv => rhs; whnf); (show _ < @OfNat.ofNat Nat _ (instOfNatNat _)); omega)) (by decide)))) ?_; (conv => whnf)) | (refine And.intro (by decide) ?_; (conv => whnf)) | (refine bT (by decide) ?_; (conv => whnf)) | (refine bF (by decide) ?_; (conv => whnf)) | (refine bN (by decide) ?_; (conv => whnf)) | (refine bP (by decide) ?_; (conv => whnf)) | (refine bT (by (simp (disch := omega) only [nI_add, pk_mul, ofN, Nat.add_zero, nI_clamp, nI_leI, nI_ltI, nI_eq, nI_add]); first | done | omega) ?_; (conv => whnf)) | (refine bF (by (simp (disch := omega) only [nI_add, pk_mul, ofN, Nat.add_zero, nI_clamp, nI_leI, nI_ltI, nI_eq, nI_add]); first | done | omega) ?_; (conv => whnf)) | (refine bN (by (simp (disch := omega) only [nI_add, pk_mul, ofN, Nat.add_zero, nI_clamp, nI_leI, nI_ltI, nI_eq, nI_add]); first | done | omega) ?_; (conv => whnf)) | (refine bP (by (simp (disch := omega) only [nI_add, pk_mul, ofN, Nat.add_zero, nI_clamp, nI_leI, nI_ltI, nI_eq, nI_add]); first | done | omega) ?_; (conv => whnf)) | (refine And.intro (by (exact cpb _ _ (by assumption) (by omega) (by omega))) ?_; (conv => whnf))))
      refine W_h rfl (by (try simp (disch := omega) only [nI_add, Nat.add_zero]) <;> rfl) (ih (i + 1) _ (by omega) ?_ (fun k hk => ?_) (fun k hk => ?_) (fun k hk => ?_) (fun a c ha hc => ?_) (Fr_tr F' (Fr_sA (fun _ => Or.inl ⟨by omega, by omega⟩))))
      · rw [rA_a _ _ (by omega)]; exact p1
      · rw [rA_a _ _ (by omega), rA_a _ _ (by omega)]; exact p2 k hk
      · rw [rA_a _ _ (by omega), rA_a _ _ (by omega)]; exact p3 k hk
      · rw [rA_a _ _ (by omega), rA_a _ _ (by omega)]; exact p4 k hk
      · by_cases ea : a = i
        · subst ea
          rw [rA_s, nI_clamp (by omega), nI_clamp (by omega), pk_cpy_in (by omega) (by omega)]
          simp only [Nat.zero_add, Nat.sub_zero]
          rw [F'.2.2.2.2 (o + 3 + a) c (by omega)]
          exact c1 a c (by omega) hc
        · rw [rA_a _ _ (by omega)]
          exact p5 a c (by omega) hc
  (repeat (first | first | (refine And.intro (by (first | assumption | exact (show Sh _ from by assumption).1 _ (by decide) | exact Or.inl rfl | exact Or.inr rfl | exact Nat.le_of_ble_eq_true rfl)) ?_; (conv => whnf)) | (refine Exists.intro _ (And.intro (by (first | assumption | exact (show Sh _ from by assumption).2.2 _ _ _ rfl)) ?_); (conv => whnf)) | (refine bF (nI_ne0 (by decide) (by decide)) ?_; (conv => whnf)) | (refine bT nI_0 ?_; (conv => whnf)) | (refine bN (nI_ne0 (by decide) (by decide)) ?_; (conv => whnf)) | (refine bP nI_0 ?_; (conv => whnf)) | (refine And.intro (by (first | ((with_reducible show vp_in (nI _) _); first | exact vin _ (by assumption) (by omega) (by omega) | exact vin _ ((show Sh _ from by assumption).2.1 _ (by decide)) (by ((conv => rhs; whnf); (show _ < @OfNat.ofNat Nat _ (instOfNatNat _)); omega)) (by decide)) | (simp only [nI_add, pk_mul]; (with_reducible show vp_in (nI _) _); first | exact vin _ (by assumption) (by omega) (by omega) | exact vin _ ((show Sh _ from by assumption).2.1 _ (by decide)) (by ((conv => rhs; whnf); (show _ < @OfNat.ofNat Nat _ (instOfNatNat _)); omega)) (by decide)) | (simp (disch := omega) only [nI_add, pk_mul, ofN, Nat.add_zero, nI_clamp, nI_leI, nI_ltI, nI_eq, nI_add, rI_s, rI_k, rI_a]; (with_reducible show vp_in (nI _) _); first | exact vin _ (by assumption) (by omega) (by omega) | exact vin _ ((show Sh _ from by assumption).2.1 _ (by decide)) (by ((conv => rhs; whnf); (show _ < @OfNat.ofNat Nat _ (instOfNatNat _)); omega)) (by decide)))) ?_; (conv => whnf)) | (refine And.intro (by decide) ?_; (conv => whnf)) | (refine bT (by decide) ?_; (conv => whnf)) | (refine bF (by decide) ?_; (conv => whnf)) | (refine bN (by decide) ?_; (conv => whnf)) | (refine bP (by decide) ?_; (conv => whnf)) | (refine bT (by (simp (disch := omega) only [nI_add, pk_mul, ofN, Nat.add_zero, nI_clamp, nI_leI, nI_ltI, nI_eq, nI_add]); first | done | omega) ?_; (conv => whnf)) | (refine bF (by (simp (disch := omega) only [nI_add, pk_mul, ofN, Nat.add_zero, nI_clamp, nI_leI, nI_ltI, nI_eq, nI_add]); first | done | omega) ?_; (conv => whnf)) | (refine bN (by (simp (disch := omega) only [nI_add, pk_mul, ofN, Nat.add_zero, nI_clamp, nI_leI, nI_ltI, nI_eq, nI_add]); first | done | omega) ?_; (conv => whnf)) | (refine bP (by (simp (disch := omega) only [nI_add, pk_mul, ofN, Nat.add_zero, nI_clamp, nI_leI, nI_ltI, nI_eq, nI_add]); first | done | omega) ?_; (conv => whnf)) | (refine And.intro (by (exact cpb _ _ (by assumption) (by omega) (by omega))) ?_; (conv => whnf))))
  simp (disch := omega) only [rI_a, rA_a, nI_clamp]
  refine lp 5 0 _ (by omega) ?_ (fun k hk => ?_) (fun k hk => ?_) (fun k hk => ?_) (fun a c ha _ => absurd ha (by omega)) ?_
  · simp (disch := omega) only [rI_a, rA_a, rI_s, rI_k, a1, a2, and_self]
  · simp (disch := omega) only [rI_a, rA_a, rA_s, pk_cpy_in]
    simp only [Nat.zero_add, Nat.sub_zero]
    exact b1 k hk
  · simp (disch := omega) only [rI_a, rA_a, rA_s, pk_cpy_in]
    simp only [Nat.zero_add, Nat.sub_zero]
    exact d1 k hk
  · simp (disch := omega) only [rI_a, rA_a, rA_s, pk_cpy_in]
    simp only [Nat.zero_add, Nat.sub_zero]
    exact e1 k hk
  · repeat (first | exact Fr_re | refine Fr_tr ?_ (Fr_sI ⟨by omega, by omega⟩) | refine Fr_tr ?_ (Fr_sA (fun _ => Or.inl ⟨by omega, by omega⟩)))
end IH
