/-! ===== contracts: what the class was told is taken from an image (mine) ===== -/
theorem rR_if (h : Hp) (a k : Nat) (v : Option Nat) (b j : Nat) : ab_R (ab_sR h a k v) b j = if b = a ∧ j = k then v else ab_R h b j := by
  show va_up _ a (va_up _ k v) b j = _
  by_cases e : b = a
  · subst e
    rw [up_s]
    by_cases f : j = k
    · subst f
      rw [up_s, if_pos ⟨rfl, rfl⟩]
    · rw [up_n _ _ f, if_neg (fun z => f z.2)]
  · rw [up_n _ _ e, if_neg (fun z => e z.1)]
/-- the references of one cell, and the ints of some others, may change -/
def FrT (q : Nat) (h h' : Hp) : Prop := ab_K h' = ab_K h ∧ ab_L h' = ab_L h ∧ ab_N h' = ab_N h ∧ (∀ a k, a ≠ q → ab_R h' a k = ab_R h a k) ∧ ∀ a k, ¬ (q ≤ a + 6 ∧ a < q) → ab_I h' a k = ab_I h a k
theorem FrT_re {q : Nat} {h : Hp} : FrT q h h := ⟨rfl, rfl, rfl, fun _ _ _ => rfl, fun _ _ _ => rfl⟩
theorem FrT_tr {q : Nat} {h h1 h2 : Hp} (a : FrT q h h1) (b : FrT q h1 h2) : FrT q h h2 := ⟨b.1.trans a.1, b.2.1.trans a.2.1, b.2.2.1.trans a.2.2.1, fun x k n => (b.2.2.2.1 x k n).trans (a.2.2.2.1 x k n), fun x k n => (b.2.2.2.2 x k n).trans (a.2.2.2.2 x k n)⟩
theorem FrT_Fr {q : Nat} {h h' : Hp} (F : Fr (fun a _ => q ≤ a + 6 ∧ a < q) h h') : FrT q h h' := ⟨F.1, F.2.1, F.2.2.2.1, fun a k _ => by rw [F.2.2.1], F.2.2.2.2⟩
theorem FrT_sR {q k : Nat} {v : Option Nat} {h : Hp} : FrT q h (ab_sR h q k v) := ⟨rfl, rfl, rfl, fun a j e => by rw [rR_if, if_neg (fun z => e z.1)], fun _ _ _ => rfl⟩
theorem FrT_Sh {q : Nat} (hq : q = 13 ∨ q = 285) {h h' : Hp} (F : FrT q h h') (S : Sh h) : Sh h' := by
  obtain ⟨a1, a2, a3, a4, -⟩ := F
  obtain ⟨s1, s2, s3⟩ := S
  refine ⟨?_, ?_, fun a k x e => ?_⟩
  · rw [a1]; exact s1
  · rw [a2]; exact s2
  · rw [a4 a k (fun z => by
      subst z
      rcases hq with rfl | rfl
      · have : ∀ k, tR 13 k = none := fun k => rfl
        rw [this] at e
        cases e
      · have : ∀ k, tR 285 k = none := fun k => rfl
        rw [this] at e
        cases e)]
    exact s3 a k x e
def DSh (h : Hp) (t : Nat) : Prop := (ab_K h t = 10 ∧ ab_K h (t + 1) = 13 ∧ ab_K h (t + 2) = 13 ∧ ab_K h (t + 3) = 13 ∧ ab_K h (t + 4) = 13 ∧ ab_K h (t + 5) = 13 ∧ ab_K h (t + 6) = 17) ∧ (ab_L h (t + 1) = 5 ∧ ab_L h (t + 2) = 10 ∧ ab_L h (t + 3) = 10 ∧ ab_L h (t + 4) = 10 ∧ ab_L h (t + 5) = 12 ∧ ab_L h (t + 6) = 4) ∧ (ab_R h t 1 = some (t + 1) ∧ ab_R h t 3 = some (t + 2) ∧ ab_R h t 4 = some (t + 3) ∧ ab_R h t 5 = some (t + 4) ∧ ab_R h t 6 = some (t + 5) ∧ ab_R h t 8 = some (t + 6))
theorem DSh_of {h : Hp} (S : Sh h) {t : Nat} (ht : t = 7 ∨ t = 279) : DSh h t := by
  rcases ht with rfl | rfl <;> exact ⟨⟨S.1 _ (by decide), S.1 _ (by decide), S.1 _ (by decide), S.1 _ (by decide), S.1 _ (by decide), S.1 _ (by decide), S.1 _ (by decide)⟩, ⟨S.2.1 _ (by decide), S.2.1 _ (by decide), S.2.1 _ (by decide), S.2.1 _ (by decide), S.2.1 _ (by decide), S.2.1 _ (by decide)⟩, ⟨S.2.2 _ _ _ rfl, S.2.2 _ _ _ rfl, S.2.2 _ _ _ rfl, S.2.2 _ _ _ rfl, S.2.2 _ _ _ rfl, S.2.2 _ _ _ rfl⟩⟩
theorem DSh_fr {h h' : Hp} {q : Nat} (F : FrT q h h') {t : Nat} (e : t ≠ q) (H : DSh h t) : DSh h' t := by
  obtain ⟨a1, a2, a3, a4, -⟩ := F
  unfold DSh
  rw [a1, a2, a4 _ _ e, a4 _ _ e, a4 _ _ e, a4 _ _ e, a4 _ _ e, a4 _ _ e]
  exact H
section IT
variable {d : Nat} {h : Hp} {Q : Option Value → Hp → Prop} {s : Sv}
set_option maxRecDepth 4000 in
theorem oc_tolds (hd : 1 ≤ d) {t o : Nat} (hto : t + 7 ≤ o ∨ o + 7 ≤ t) (H : DSh h t) (O : DSh h o) (R : TR h o s) (K9 : ∀ k c, k < 4 → ab_R h (o + 6) k = some c → ab_K h c = 9) (hq : ∀ h', TR h' t s → (∀ k, k < 4 → ab_R h' (t + 6) k = ab_R h (o + 6) k) → FrT (t + 6) h h' → Q none h') : ab_Ok d n_X10_takeFrom [.ref t, .ref o] h Q := by
  have H0 := H
  have O0 := O
  obtain ⟨⟨k0, k1, k2, k3, k4, k5, k6⟩, ⟨l1, l2, l3, l4, l5, l6⟩, ⟨r0, r1, r2, r3, r4, r5⟩⟩ := H
  obtain ⟨⟨j0, j1, j2, j3, j4, j5, j6⟩, ⟨m1, m2, m3, m4, m5, m6⟩, ⟨u0, u1, u2, u3, u4, u5⟩⟩ := O
  obtain ⟨⟨a1, a2, a3, a4⟩, b1, c1, d1⟩ := R
  refine ab_go mr_X10_takeFrom rfl (by omega) (fun call W hc hW => ?_); (conv => whnf)
  have lp : ∀ r i h', i + r = 4 → TR h' t s → (∀ k, k < i → ab_R h' (t + 6) k = ab_R h (o + 6) k) → FrT (t + 6) h h' → W 108 [.ref t, .ref o, .int (nI i)] h' 0 0 := by
    intro r
    induction r with
    | zero =>
      intro i h' e p1 p2 F'
      obtain rfl : i = 4 := by omega
      refine hW _ _ _ _ _ ?_
      (conv => whnf)
      refine bT (nI_le (Nat.le_refl _) (by omega)) ?_
      (conv => whnf)
      exact hq h' p1 p2 F'
    | succ r ih =>
      intro i h' e p1 p2 F'
      obtain ⟨⟨k0, -, -, -, -, -, k6⟩, ⟨-, -, -, -, -, l6⟩, ⟨-, -, -, -, -, r5⟩⟩ := DSh_fr F' (by omega) H0
      obtain ⟨⟨j0, -, -, -, -, -, j6⟩, ⟨-, -, -, -, -, m6⟩, ⟨-, -, -, -, -, u5⟩⟩ := DSh_fr F' (by omega) O0
      have eo : ab_R h' (o + 6) i = ab_R h (o + 6) i := F'.2.2.2.1 _ _ (by omega)
      have nx : ∀ v, ab_R h (o + 6) i = v → W 108 [.ref t, .ref o, .int (nI (i + 1))] (ab_sR h' (t + 6) i v) 0 0 := fun v ev => ih (i + 1) _ (by omega) p1 (fun k hk => by
        rw [rR_if]
        by_cases ek : k = i
        · rw [if_pos ⟨rfl, ek⟩, ek]; exact ev.symm
        · rw [if_neg (fun z => ek z.2)]; exact p2 k (by omega)) (FrT_tr F' FrT_sR)
      refine hW _ _ _ _ _ ?_
      (conv => whnf)
      refine bF (nI_ge (by omega) (by omega)) ?_
      (conv => whnf)
      (repeat (first | (refine And.intro (by (first | assumption | exact (show Sh _ from by assumption).1 _ (by decide) | exact Or.inl rfl | exact Or.inr rfl | exact Nat.le_of_ble_eq_true rfl)) ?_; (conv => whnf)) | (refine Exists.intro _ (And.intro (by (first | assumption | exact (show Sh _ from by assumption).2.2 _ _ _ rfl)) ?_); (conv => whnf)) | (refine bF (nI_ne0 (by decide) (by decide)) ?_; (conv => whnf)) | (refine bT nI_0 ?_; (conv => whnf)) | (refine bN (nI_ne0 (by decide) (by decide)) ?_; (conv => whnf)) | (refine bP nI_0 ?_; (conv => whnf)) | (refine And.intro (by (first | ((with_reducible show vp_in (nI _) _); first | exact vin _ (by assumption) (by omega) (by omega) | exact vin _ ((show Sh _ from by assumption).2.1 _ (by decide)) (by ((conv => rhs; whnf); (show _ < @OfNat.ofNat Nat _ (instOfNatNat _)); omega)) (by decide)) | (simp only [nI_add, pk_mul]; (with_reducible show vp_in (nI _) _); first | exact vin _ (by assumption) (by omega) (by omega) | exact vin _ ((show Sh _ from by assumption).2.1 _ (by decide)) (by ((conv => rhs; whnf); (show _ < @OfNat.ofNat Nat _ (instOfNatNat _)); omega)) (by decide)) | (simp (disch := omega) only [nI_add, pk_mul, ofN, Nat.add_zero, nI_clamp, nI_leI, nI_ltI, nI_eq, nI_add, rI_s, rI_k, rI_a]; (with_reducible show vp_in (nI _) _); first | exact vin _ (by assumption) (by omega) (by omega) | exact vin _ ((show Sh _ from by assumption).2.1 _ (by decide)) (by ((conv => rhs; whnf); (show _ < @OfNat.ofNat Nat _ (instOfNatNat _)); omega)) (by decide)))) ?_; (conv => whnf))))
      rw [nI_clamp (by omega)]
      refine ⟨fun y => ?_, fun v hv => ?_⟩
      · rw [eo] at y
        (conv => whnf)
        (repeat (first | (refine And.intro (by (first | assumption | exact (show Sh _ from by assumption).1 _ (by decide) | exact Or.inl rfl | exact Or.inr rfl | exact Nat.le_of_ble_eq_true rfl)) ?_; (conv => whnf)) | (refine Exists.intro _ (And.intro (by (first | assumption | exact (show Sh _ from by assumption).2.2 _ _ _ rfl)) ?_); (conv => whnf)) | (refine bF (nI_ne0 (by decide) (by decide)) ?_; (conv => whnf)) | (refine bT nI_0 ?_; (conv => whnf)) | (refine bN (nI_ne0 (by decide) (by decide)) ?_; (conv => whnf)) | (refine bP nI_0 ?_; (conv => whnf)) | (refine And.intro (by (first | ((with_reducible show vp_in (nI _) _); first | exact vin _ (by assumption) (by omega) (by omega) | exact vin _ ((show Sh _ from by assumption).2.1 _ (by decide)) (by ((conv => rhs; whnf); (show _ < @OfNat.ofNat Nat _ (instOfNatNat _)); omega)) (by decide)) | (simp only [nI_add, pk_mul]; (with_reducible show vp_in (nI _) _); first | exact vin _ (by assumption) (by omega) (by omega) | exact vin _ ((show Sh _ from by assumption).2.1 _ (by decide)) (by ((conv => rhs; whnf); (show _ < @OfNat.ofNat Nat _ (instOfNatNat _)); omega)) (by decide)) | (simp (disch := omega) only [nI_add, pk_mul, ofN, Nat.add_zero, nI_clamp, nI_leI, nI_ltI, nI_eq, nI_add, rI_s, rI_k, rI_a]; (with_reducible show vp_in (nI _) _); first | exact vin _ (by assumption) (by omega) (by omega) | exact vin _ ((show Sh _ from by assumption).2.1 _ (by decide)) (by ((conv => rhs; whnf); (show _ < @OfNat.ofNat Nat _ (instOfNatNat _)); omega)) (by decide)))) ?_; (conv => whnf))))
        rw [nI_clamp (by omega)]
        exact W_h rfl (by (try simp (disch := omega) only [nI_add, Nat.add_zero]) <;> rfl) (nx none y)
      · rw [eo] at hv
        have kv : ab_K h' v = 9 := by rw [F'.1]; exact K9 i v (by omega) hv
        (conv => whnf)
        (repeat (first | (refine And.intro (by (first | assumption | exact (show Sh _ from by assumption).1 _ (by decide) | exact Or.inl rfl | exact Or.inr rfl | exact Nat.le_of_ble_eq_true rfl)) ?_; (conv => whnf)) | (refine Exists.intro _ (And.intro (by (first | assumption | exact (show Sh _ from by assumption).2.2 _ _ _ rfl)) ?_); (conv => whnf)) | (refine bF (nI_ne0 (by decide) (by decide)) ?_; (conv => whnf)) | (refine bT nI_0 ?_; (conv => whnf)) | (refine bN (nI_ne0 (by decide) (by decide)) ?_; (conv => whnf)) | (refine bP nI_0 ?_; (conv => whnf)) | (refine And.intro (by (first | ((with_reducible show vp_in (nI _) _); first | exact vin _ (by assumption) (by omega) (by omega) | exact vin _ ((show Sh _ from by assumption).2.1 _ (by decide)) (by ((conv => rhs; whnf); (show _ < @OfNat.ofNat Nat _ (instOfNatNat _)); omega)) (by decide)) | (simp only [nI_add, pk_mul]; (with_reducible show vp_in (nI _) _); first | exact vin _ (by assumption) (by omega) (by omega) | exact vin _ ((show Sh _ from by assumption).2.1 _ (by decide)) (by ((conv => rhs; whnf); (show _ < @OfNat.ofNat Nat _ (instOfNatNat _)); omega)) (by decide)) | (simp (disch := omega) only [nI_add, pk_mul, ofN, Nat.add_zero, nI_clamp, nI_leI, nI_ltI, nI_eq, nI_add, rI_s, rI_k, rI_a]; (with_reducible show vp_in (nI _) _); first | exact vin _ (by assumption) (by omega) (by omega) | exact vin _ ((show Sh _ from by assumption).2.1 _ (by decide)) (by ((conv => rhs; whnf); (show _ < @OfNat.ofNat Nat _ (instOfNatNat _)); omega)) (by decide)))) ?_; (conv => whnf))))
        rw [nI_clamp (by omega)]
        exact W_h rfl (by (try simp (disch := omega) only [nI_add, Nat.add_zero]) <;> rfl) (nx (some v) hv)
  (repeat (first | first | (refine And.intro (by (first | assumption | exact (show Sh _ from by assumption).1 _ (by decide) | exact Or.inl rfl | exact Or.inr rfl | exact Nat.le_of_ble_eq_true rfl)) ?_; (conv => whnf)) | (refine Exists.intro _ (And.intro (by (first | assumption | exact (show Sh _ from by assumption).2.2 _ _ _ rfl)) ?_); (conv => whnf)) | (refine bF (nI_ne0 (by decide) (by decide)) ?_; (conv => whnf)) | (refine bT nI_0 ?_; (conv => whnf)) | (refine bN (nI_ne0 (by decide) (by decide)) ?_; (conv => whnf)) | (refine bP nI_0 ?_; (conv => whnf)) | (refine And.intro (by (first | ((with_reducible show vp_in (nI _) _); first | exact vin _ (by assumption) (by omega) (by omega) | exact vin _ ((show Sh _ from by assumption).2.1 _ (by decide)) (by ((conv => rhs; whnf); (show _ < @OfNat.ofNat Nat _ (instOfNatNat _)); omega)) (by decide)) | (simp only [nI_add, pk_mul]; (with_reducible show vp_in (nI _) _); first | exact vin _ (by assumption) (by omega) (by omega) | exact vin _ ((show Sh _ from by assumption).2.1 _ (by decide)) (by ((conv => rhs; whnf); (show _ < @OfNat.ofNat Nat _ (instOfNatNat _)); omega)) (by decide)) | (simp (disch := omega) only [nI_add, pk_mul, ofN, Nat.add_zero, nI_clamp, nI_leI, nI_ltI, nI_eq, nI_add, rI_s, rI_k, rI_a]; (with_reducible show vp_in (nI _) _); first | exact vin _ (by assumption) (by omega) (by omega) | exact vin _ ((show Sh _ from by assumption).2.1 _ (by decide)) (by ((conv => rhs; whnf); (show _ < @OfNat.ofNat Nat _ (instOfNatNat _)); omega)) (by decide)))) ?_; (conv => whnf)) | (refine And.intro (by decide) ?_; (conv => whnf)) | (refine bT (by decide) ?_; (conv => whnf)) | (refine bF (by decide) ?_; (conv => whnf)) | (refine bN (by decide) ?_; (conv => whnf)) | (refine bP (by decide) ?_; (conv => whnf)) | (refine bT (by (simp (disch := omega) only [nI_add, pk_mul, ofN, Nat.add_zero, nI_clamp, nI_leI, nI_ltI, nI_eq, nI_add]); first | done | omega) ?_; (conv => whnf)) | (refine bF (by (simp (disch := omega) only [nI_add, pk_mul, ofN, Nat.add_zero, nI_clamp, nI_leI, nI_ltI, nI_eq, nI_add]); first | done | omega) ?_; (conv => whnf)) | (refine bN (by (simp (disch := omega) only [nI_add, pk_mul, ofN, Nat.add_zero, nI_clamp, nI_leI, nI_ltI, nI_eq, nI_add]); first | done | omega) ?_; (conv => whnf)) | (refine bP (by (simp (disch := omega) only [nI_add, pk_mul, ofN, Nat.add_zero, nI_clamp, nI_leI, nI_ltI, nI_eq, nI_add]); first | done | omega) ?_; (conv => whnf)) | (refine And.intro (by (exact cpb _ _ (by assumption) (by omega) (by omega))) ?_; (conv => whnf))))
  simp (disch := omega) only [rI_a, rA_a, nI_clamp]
  refine lp 4 0 _ (by omega) ?_ (fun k hk => absurd hk (by omega)) (FrT_Fr ?_)
  · refine ⟨?_, fun k hk => ?_, fun k hk => ?_, fun k hk => ?_⟩
    · simp (disch := omega) only [rI_a, rA_a, rI_s, rI_k, a1, a2, a3, a4, and_self]
    · simp (disch := omega) only [rI_a, rA_a, rA_s, pk_cpy_in]
      simp only [Nat.zero_add, Nat.sub_zero]
      exact b1 k hk
    · simp (disch := omega) only [rI_a, rA_a, rA_s, pk_cpy_in]
      simp only [Nat.zero_add, Nat.sub_zero]
      exact c1 k hk
    · simp (disch := omega) only [rI_a, rA_a, rA_s, pk_cpy_in]
      simp only [Nat.zero_add, Nat.sub_zero]
      exact d1 k hk
  · repeat (first | exact Fr_re | refine Fr_tr ?_ (Fr_sI ⟨by omega, by omega⟩) | refine Fr_tr ?_ (Fr_sA (fun _ => Or.inl ⟨by omega, by omega⟩)))
end IT
