/-! ===== contracts of the class: whether one was nobbled, whose law (mine) ===== -/
def nbW (tx : Nat → Tx) (s : Sv) (k y : Nat) : Bool := nbb tx s k (y / 5) (y % 5 + 1) 12
def nbC (tx : Nat → Tx) (s : Sv) (k : Nat) : Nat → Nat
  | 0 => 0
  | n + 1 => nbC tx s k n + (if nbW tx s k n then 1 else 0)
def nbF (tx : Nat → Tx) (s : Sv) (k : Nat) : Nat → Nat → Int32
  | 0, _ => -1
  | r + 1, n => if nbW tx s k n then nI (10 * (n / 5) + (n % 5 + 1)) else nbF tx s k r (n + 1)
theorem nbC_le (tx : Nat → Tx) (s : Sv) (k n : Nat) : nbC tx s k n ≤ n := by
  induction n with
  | zero => exact Nat.le_refl _
  | succ n ih => show nbC tx s k n + (if nbW tx s k n then 1 else 0) ≤ n + 1; split <;> omega
section NB
variable {d : Nat} {h : Hp} {Q : Option Value → Hp → Prop} {s : Sv} {tx : Nat → Tx}
theorem oc_isAsSeen (hd : 10 ≤ d) (S : Sh h) (C : CR h 7 16 29 37 s) (W0 : WF s) (X : TXC h s tx) {k b w : Nat} (hk : k < s 18 0) (hb : b ≤ 5) (hw : w ≤ 5) (q1 : nbb tx s k b w 12 = true → ∀ h', CR h' 7 16 29 37 s → Fr cA h h' → Q (some (.int (nI 1))) h') (q0 : nbb tx s k b w 12 = false → ∀ h', CR h' 7 16 29 37 s → Fr cA h h' → Q (some (.int (nI 0))) h') : ab_Ok d n_X11_isAsSeen [.ref 5, .int (nI k), .int (nI b), .int (nI w)] h Q := by
  have W1 := ((WF_iff s).mp W0).1
  have b0 := W1.1.1
  have b1 := W1.1.2.1
  have fz : ∀ r i, i + r = 12 → nbb tx s k b w i = false → nbb tx s k b w 12 = false := by
    intro r
    induction r with
    | zero => intro i e z; rw [← e]; exact z
    | succ r ih => intro i e z; exact ih (i + 1) (by omega) (by show (nbb tx s k b w i && _) = false; rw [z]; rfl)
  refine ab_go mr_X11_isAsSeen rfl (by omega) (fun call W hc hW => ?_); (conv => whnf)
  (repeat (first | (refine And.intro (by (first | assumption | exact (show Sh _ from by assumption).1 _ (by decide) | exact Or.inl rfl | exact Or.inr rfl | exact Nat.le_of_ble_eq_true rfl)) ?_; (conv => whnf)) | (refine Exists.intro _ (And.intro (by (first | assumption | exact (show Sh _ from by assumption).2.2 _ _ _ rfl)) ?_); (conv => whnf)) | (refine bF (nI_ne0 (by decide) (by decide)) ?_; (conv => whnf)) | (refine bT nI_0 ?_; (conv => whnf)) | (refine bN (nI_ne0 (by decide) (by decide)) ?_; (conv => whnf)) | (refine bP nI_0 ?_; (conv => whnf)) | (refine And.intro (by (first | ((with_reducible show vp_in (nI _) _); first | exact vin _ (by assumption) (by omega) (by omega) | exact vin _ ((show Sh _ from by assumption).2.1 _ (by decide)) (by ((conv => rhs; whnf); (show _ < @OfNat.ofNat Nat _ (instOfNatNat _)); omega)) (by decide)) | (simp only [nI_add, pk_mul]; (with_reducible show vp_in (nI _) _); first | exact vin _ (by assumption) (by omega) (by omega) | exact vin _ ((show Sh _ from by assumption).2.1 _ (by decide)) (by ((conv => rhs; whnf); (show _ < @OfNat.ofNat Nat _ (instOfNatNat _)); omega)) (by decide)) | (simp (disch := omega) only [nI_add, pk_mul, ofN, Nat.add_zero, nI_clamp, nI_leI, nI_ltI, nI_eq, nI_add, rI_s, rI_k, rI_a]; (with_reducible show vp_in (nI _) _); first | exact vin _ (by assumption) (by omega) (by omega) | exact vin _ ((show Sh _ from by assumption).2.1 _ (by decide)) (by ((conv => rhs; whnf); (show _ < @OfNat.ofNat Nat _ (instOfNatNat _)); omega)) (by decide)))) ?_; (conv => whnf))))
  refine hc _ _ _ _ (oc_take (by omega) S C (fun h1 G1 F1 => ?_))
  (conv => whnf)
  have F1 := fPg F1
  have S1 := Fr_Sh F1 S
  have K1 := (GSh_of S1 tG_l.2.2).1
  (repeat (first | (refine And.intro (by (first | assumption | exact (show Sh _ from by assumption).1 _ (by decide) | exact Or.inl rfl | exact Or.inr rfl | exact Nat.le_of_ble_eq_true rfl)) ?_; (conv => whnf)) | (refine Exists.intro _ (And.intro (by (first | assumption | exact (show Sh _ from by assumption).2.2 _ _ _ rfl)) ?_); (conv => whnf)) | (refine bF (nI_ne0 (by decide) (by decide)) ?_; (conv => whnf)) | (refine bT nI_0 ?_; (conv => whnf)) | (refine bN (nI_ne0 (by decide) (by decide)) ?_; (conv => whnf)) | (refine bP nI_0 ?_; (conv => whnf)) | (refine And.intro (by (first | ((with_reducible show vp_in (nI _) _); first | exact vin _ (by assumption) (by omega) (by omega) | exact vin _ ((show Sh _ from by assumption).2.1 _ (by decide)) (by ((conv => rhs; whnf); (show _ < @OfNat.ofNat Nat _ (instOfNatNat _)); omega)) (by decide)) | (simp only [nI_add, pk_mul]; (with_reducible show vp_in (nI _) _); first | exact vin _ (by assumption) (by omega) (by omega) | exact vin _ ((show Sh _ from by assumption).2.1 _ (by decide)) (by ((conv => rhs; whnf); (show _ < @OfNat.ofNat Nat _ (instOfNatNat _)); omega)) (by decide)) | (simp (disch := omega) only [nI_add, pk_mul, ofN, Nat.add_zero, nI_clamp, nI_leI, nI_ltI, nI_eq, nI_add, rI_s, rI_k, rI_a]; (with_reducible show vp_in (nI _) _); first | exact vin _ (by assumption) (by omega) (by omega) | exact vin _ ((show Sh _ from by assumption).2.1 _ (by decide)) (by ((conv => rhs; whnf); (show _ < @OfNat.ofNat Nat _ (instOfNatNat _)); omega)) (by decide)))) ?_; (conv => whnf))))
  rw [nI_clamp (by omega)]
  have G2 := gu_cel G1 (q := k) 0
  have F2 : Fr (fP 560) h (ab_sI h1 561 k (nI 0)) := Fr_tr F1 (fPg (fF _ _ _ (by omega) (by omega)))
  obtain ⟨h2, e2⟩ : ∃ h2, h2 = ab_sI h1 561 k (nI 0) := ⟨_, rfl⟩
  have G2 : GR h2 560 (s 18 1) (nbs tx s k b w 0) 0 := by rw [e2]; exact G2
  rw [← e2] at F2 ⊢
  have S2 := Fr_Sh F2 S
  have C2 := CR_t C F2
  have X2 : TXC h2 s tx := TXC_fr F2 (fP5 (by omega)) X rfl
  (repeat (first | (refine And.intro (by (first | assumption | exact (show Sh _ from by assumption).1 _ (by decide) | exact Or.inl rfl | exact Or.inr rfl | exact Nat.le_of_ble_eq_true rfl)) ?_; (conv => whnf)) | (refine Exists.intro _ (And.intro (by (first | assumption | exact (show Sh _ from by assumption).2.2 _ _ _ rfl)) ?_); (conv => whnf)) | (refine bF (nI_ne0 (by decide) (by decide)) ?_; (conv => whnf)) | (refine bT nI_0 ?_; (conv => whnf)) | (refine bN (nI_ne0 (by decide) (by decide)) ?_; (conv => whnf)) | (refine bP nI_0 ?_; (conv => whnf)) | (refine And.intro (by (first | ((with_reducible show vp_in (nI _) _); first | exact vin _ (by assumption) (by omega) (by omega) | exact vin _ ((show Sh _ from by assumption).2.1 _ (by decide)) (by ((conv => rhs; whnf); (show _ < @OfNat.ofNat Nat _ (instOfNatNat _)); omega)) (by decide)) | (simp only [nI_add, pk_mul]; (with_reducible show vp_in (nI _) _); first | exact vin _ (by assumption) (by omega) (by omega) | exact vin _ ((show Sh _ from by assumption).2.1 _ (by decide)) (by ((conv => rhs; whnf); (show _ < @OfNat.ofNat Nat _ (instOfNatNat _)); omega)) (by decide)) | (simp (disch := omega) only [nI_add, pk_mul, ofN, Nat.add_zero, nI_clamp, nI_leI, nI_ltI, nI_eq, nI_add, rI_s, rI_k, rI_a]; (with_reducible show vp_in (nI _) _); first | exact vin _ (by assumption) (by omega) (by omega) | exact vin _ ((show Sh _ from by assumption).2.1 _ (by decide)) (by ((conv => rhs; whnf); (show _ < @OfNat.ofNat Nat _ (instOfNatNat _)); omega)) (by decide)))) ?_; (conv => whnf))))
  refine hc _ _ _ _ (oc_law (tx := tx) (by omega) S2 C2.1 X2 W1.2.2.2.1 W1.2.2.2.2 (fun v V => ?_))
  rcases LV_c V with rfl | ⟨c, rfl⟩
  all_goals
    (conv => whnf)
    have lp : ∀ r i h', i + r = 12 → nbb tx s k b w i = true → GR h' 560 (s 18 1) (nbs tx s k b w i) 0 → Fr (fP 560) h h' → Fr (fP 560) h2 h' → W 33 [.ref 5, .int (nI k), .int (nI b), .int (nI w), vOf V, .int (nI i)] h' 0 0 := by
      intro r
      induction r with
      | zero =>
        intro i h' e ed G F Fv
        obtain rfl : i = 12 := by omega
        refine hW _ _ _ _ _ ?_
        (conv => whnf)
        refine bT (by decide) ?_
        (conv => whnf)
        (repeat (first | (refine And.intro (by (first | assumption | exact (show Sh _ from by assumption).1 _ (by decide) | exact Or.inl rfl | exact Or.inr rfl | exact Nat.le_of_ble_eq_true rfl)) ?_; (conv => whnf)) | (refine Exists.intro _ (And.intro (by (first | assumption | exact (show Sh _ from by assumption).2.2 _ _ _ rfl)) ?_); (conv => whnf)) | (refine bF (nI_ne0 (by decide) (by decide)) ?_; (conv => whnf)) | (refine bT nI_0 ?_; (conv => whnf)) | (refine bN (nI_ne0 (by decide) (by decide)) ?_; (conv => whnf)) | (refine bP nI_0 ?_; (conv => whnf)) | (refine And.intro (by (first | ((with_reducible show vp_in (nI _) _); first | exact vin _ (by assumption) (by omega) (by omega) | exact vin _ ((show Sh _ from by assumption).2.1 _ (by decide)) (by ((conv => rhs; whnf); (show _ < @OfNat.ofNat Nat _ (instOfNatNat _)); omega)) (by decide)) | (simp only [nI_add, pk_mul]; (with_reducible show vp_in (nI _) _); first | exact vin _ (by assumption) (by omega) (by omega) | exact vin _ ((show Sh _ from by assumption).2.1 _ (by decide)) (by ((conv => rhs; whnf); (show _ < @OfNat.ofNat Nat _ (instOfNatNat _)); omega)) (by decide)) | (simp (disch := omega) only [nI_add, pk_mul, ofN, Nat.add_zero, nI_clamp, nI_leI, nI_ltI, nI_eq, nI_add, rI_s, rI_k, rI_a]; (with_reducible show vp_in (nI _) _); first | exact vin _ (by assumption) (by omega) (by omega) | exact vin _ ((show Sh _ from by assumption).2.1 _ (by decide)) (by ((conv => rhs; whnf); (show _ < @OfNat.ofNat Nat _ (instOfNatNat _)); omega)) (by decide)))) ?_; (conv => whnf))))
        exact q1 ed h' (CR_t C F) (fPA (Or.inr rfl) F)
      | succ r ih =>
        intro i h' e ed G F Fv
        have S3 := Fr_Sh F S
        have C3 := CR_t C F
        have B3 := nbs_B (tx := tx) W1.1 hk b w i
        have o3 : ∀ a j, 6 ≤ a → nbs tx s k b w i a j = s a j := fun a j ha => nbs_o _ _ _ _ _ _ (by omega) (by omega) _
        have e1 : nbb tx s k b w (i + 1) = (nbb tx s k b w i && agr s (i + 1) (nbs tx s k b w (i + 1) 0 k) (s 18 5)) := rfl
        rw [ed, Bool.true_and] at e1
        refine hW _ _ _ _ _ ?_
        (conv => whnf)
        refine bF (nI_ge (by omega) (by omega)) ?_
        (conv => whnf)
        (repeat (first | (refine And.intro (by (first | assumption | exact (show Sh _ from by assumption).1 _ (by decide) | exact Or.inl rfl | exact Or.inr rfl | exact Nat.le_of_ble_eq_true rfl)) ?_; (conv => whnf)) | (refine Exists.intro _ (And.intro (by (first | assumption | exact (show Sh _ from by assumption).2.2 _ _ _ rfl)) ?_); (conv => whnf)) | (refine bF (nI_ne0 (by decide) (by decide)) ?_; (conv => whnf)) | (refine bT nI_0 ?_; (conv => whnf)) | (refine bN (nI_ne0 (by decide) (by decide)) ?_; (conv => whnf)) | (refine bP nI_0 ?_; (conv => whnf)) | (refine And.intro (by (first | ((with_reducible show vp_in (nI _) _); first | exact vin _ (by assumption) (by omega) (by omega) | exact vin _ ((show Sh _ from by assumption).2.1 _ (by decide)) (by ((conv => rhs; whnf); (show _ < @OfNat.ofNat Nat _ (instOfNatNat _)); omega)) (by decide)) | (simp only [nI_add, pk_mul]; (with_reducible show vp_in (nI _) _); first | exact vin _ (by assumption) (by omega) (by omega) | exact vin _ ((show Sh _ from by assumption).2.1 _ (by decide)) (by ((conv => rhs; whnf); (show _ < @OfNat.ofNat Nat _ (instOfNatNat _)); omega)) (by decide)) | (simp (disch := omega) only [nI_add, pk_mul, ofN, Nat.add_zero, nI_clamp, nI_leI, nI_ltI, nI_eq, nI_add, rI_s, rI_k, rI_a]; (with_reducible show vp_in (nI _) _); first | exact vin _ (by assumption) (by omega) (by omega) | exact vin _ ((show Sh _ from by assumption).2.1 _ (by decide)) (by ((conv => rhs; whnf); (show _ < @OfNat.ofNat Nat _ (instOfNatNat _)); omega)) (by decide)))) ?_; (conv => whnf))))
        refine hc _ _ _ _ (oc_air (tx := tx) (by omega) S3 (TR_c C3.1 (fun _ _ _ _ => rfl) (fun j _ => o3 _ _ (by omega)) (fun a j _ _ => o3 _ _ (by omega))) (GSh_of S3 tG_l.2.2) (by omega) (by omega) (by rw [o3 _ _ (by omega)]; exact G) B3 (by rw [o3 _ _ (by omega)]; exact LV_fP (by omega) Fv V) (k := k) (by omega) (fun h4 G4 F4 => ?_))
        (conv => whnf)
        rw [o3 _ _ (by omega)] at G4
        have F44 := Fr_tr F F4
        have Fv4 := Fr_tr Fv F4
        have S4 := Fr_Sh F44 S
        have C4 := CR_t C F44
        have B4 := dra_B (tx := tx) B3 k b1
        have o4 : ∀ a j, 6 ≤ a → dra tx (nbs tx s k b w i) k (s 18 1) a j = s a j := fun a j ha => by rw [dra_o _ _ _ _ (by omega), o3 a j ha]
        have go : ∀ m, m ≤ 5 → m = (if b ≤ i then w else 0) → ∀ R : Option Value → Hp → Prop, (∀ h5, GR h5 560 (s 18 1) (nbs tx s k b w (i + 1)) 0 → Fr (fP 560) h4 h5 → R none h5) → call n_X0_goOn [.ref 6, vOf V, .ref 560, .int (nI k), .int (nI m)] h4 R := by
          intro m m5 em R hR
          refine hc _ _ _ _ (oc_goOn (tx := tx) (by omega) S4 (TR_c C4.1 (fun _ _ _ _ => rfl) (fun j _ => o4 _ _ (by omega)) (fun a j _ _ => o4 _ _ (by omega))) (GSh_of S4 tG_l.2.2) (by omega) (by omega) (by rw [o4 _ _ (by omega)]; exact G4) B4 (by rw [o4 _ _ (by omega)]; exact LV_fP (by omega) Fv4 V) (k := k) (by omega) m5 (fun h5 G5 F5 => ?_))
          rw [o4 _ _ (by omega), em] at G5
          exact hR h5 G5 F5
        have rest : ∀ h5, GR h5 560 (s 18 1) (nbs tx s k b w (i + 1)) 0 → Fr (fP 560) h4 h5 → (∀ R : Option Value → Hp → Prop, (agr s (i + 1) (nbs tx s k b w (i + 1) 0 k) (s 18 5) = true → R (some (.int (nI 1))) h5) → (agr s (i + 1) (nbs tx s k b w (i + 1) 0 k) (s 18 5) = false → R (some (.int (nI 0))) h5) → call n_X2_agrees [.ref 16, .int (nI (i + 1)), .int (nI (nbs tx s k b w (i + 1) 0 k))] h5 R) := by
          intro h5 G5 F5 R r1 r0
          have F55 := Fr_tr F44 F5
          have B5 := nbs_B (tx := tx) W1.1 hk b w (i + 1)
          have c5 := ((GB_WL B5).2.2.2.1 k (by omega)).1
          exact hc _ _ _ _ (oc_agrees (s := s) (by omega) (Fr_Sh F55 S) (CR_t C F55).2.1 W0.1.2.2.2.2.2.1 (fun j hj => wb_see W0 hj) (by omega) (by omega) r1 r0)
        (repeat (first | (refine And.intro (by (first | assumption | exact (show Sh _ from by assumption).1 _ (by decide) | exact Or.inl rfl | exact Or.inr rfl | exact Nat.le_of_ble_eq_true rfl)) ?_; (conv => whnf)) | (refine Exists.intro _ (And.intro (by (first | assumption | exact (show Sh _ from by assumption).2.2 _ _ _ rfl)) ?_); (conv => whnf)) | (refine bF (nI_ne0 (by decide) (by decide)) ?_; (conv => whnf)) | (refine bT nI_0 ?_; (conv => whnf)) | (refine bN (nI_ne0 (by decide) (by decide)) ?_; (conv => whnf)) | (refine bP nI_0 ?_; (conv => whnf)) | (refine And.intro (by (first | ((with_reducible show vp_in (nI _) _); first | exact vin _ (by assumption) (by omega) (by omega) | exact vin _ ((show Sh _ from by assumption).2.1 _ (by decide)) (by ((conv => rhs; whnf); (show _ < @OfNat.ofNat Nat _ (instOfNatNat _)); omega)) (by decide)) | (simp only [nI_add, pk_mul]; (with_reducible show vp_in (nI _) _); first | exact vin _ (by assumption) (by omega) (by omega) | exact vin _ ((show Sh _ from by assumption).2.1 _ (by decide)) (by ((conv => rhs; whnf); (show _ < @OfNat.ofNat Nat _ (instOfNatNat _)); omega)) (by decide)) | (simp (disch := omega) only [nI_add, pk_mul, ofN, Nat.add_zero, nI_clamp, nI_leI, nI_ltI, nI_eq, nI_add, rI_s, rI_k, rI_a]; (with_reducible show vp_in (nI _) _); first | exact vin _ (by assumption) (by omega) (by omega) | exact vin _ ((show Sh _ from by assumption).2.1 _ (by decide)) (by ((conv => rhs; whnf); (show _ < @OfNat.ofNat Nat _ (instOfNatNat _)); omega)) (by decide)))) ?_; (conv => whnf))))
        refine ⟨fun f => ?_, fun f => ?_⟩ <;> rw [nI_ltI (by omega) (by omega)] at f <;> (conv => whnf) <;> (repeat (first | (refine And.intro (by (first | assumption | exact (show Sh _ from by assumption).1 _ (by decide) | exact Or.inl rfl | exact Or.inr rfl | exact Nat.le_of_ble_eq_true rfl)) ?_; (conv => whnf)) | (refine Exists.intro _ (And.intro (by (first | assumption | exact (show Sh _ from by assumption).2.2 _ _ _ rfl)) ?_); (conv => whnf)) | (refine bF (nI_ne0 (by decide) (by decide)) ?_; (conv => whnf)) | (refine bT nI_0 ?_; (conv => whnf)) | (refine bN (nI_ne0 (by decide) (by decide)) ?_; (conv => whnf)) | (refine bP nI_0 ?_; (conv => whnf)) | (refine And.intro (by (first | ((with_reducible show vp_in (nI _) _); first | exact vin _ (by assumption) (by omega) (by omega) | exact vin _ ((show Sh _ from by assumption).2.1 _ (by decide)) (by ((conv => rhs; whnf); (show _ < @OfNat.ofNat Nat _ (instOfNatNat _)); omega)) (by decide)) | (simp only [nI_add, pk_mul]; (with_reducible show vp_in (nI _) _); first | exact vin _ (by assumption) (by omega) (by omega) | exact vin _ ((show Sh _ from by assumption).2.1 _ (by decide)) (by ((conv => rhs; whnf); (show _ < @OfNat.ofNat Nat _ (instOfNatNat _)); omega)) (by decide)) | (simp (disch := omega) only [nI_add, pk_mul, ofN, Nat.add_zero, nI_clamp, nI_leI, nI_ltI, nI_eq, nI_add, rI_s, rI_k, rI_a]; (with_reducible show vp_in (nI _) _); first | exact vin _ (by assumption) (by omega) (by omega) | exact vin _ ((show Sh _ from by assumption).2.1 _ (by decide)) (by ((conv => rhs; whnf); (show _ < @OfNat.ofNat Nat _ (instOfNatNat _)); omega)) (by decide)))) ?_; (conv => whnf))))
        · refine go 0 (by omega) (by rw [if_neg (by omega)]) _ (fun h5 G5 F5 => ?_)
          (conv => whnf)
          have F55 := Fr_tr F44 F5
          have S5 := Fr_Sh F55 S
          have c5 : ab_I h5 561 k = _ := g_cel G5 (k := k) (by omega)
          (repeat (first | (refine And.intro (by (first | assumption | exact (show Sh _ from by assumption).1 _ (by decide) | exact Or.inl rfl | exact Or.inr rfl | exact Nat.le_of_ble_eq_true rfl)) ?_; (conv => whnf)) | (refine Exists.intro _ (And.intro (by (first | assumption | exact (show Sh _ from by assumption).2.2 _ _ _ rfl)) ?_); (conv => whnf)) | (refine bF (nI_ne0 (by decide) (by decide)) ?_; (conv => whnf)) | (refine bT nI_0 ?_; (conv => whnf)) | (refine bN (nI_ne0 (by decide) (by decide)) ?_; (conv => whnf)) | (refine bP nI_0 ?_; (conv => whnf)) | (refine And.intro (by (first | ((with_reducible show vp_in (nI _) _); first | exact vin _ (by assumption) (by omega) (by omega) | exact vin _ ((show Sh _ from by assumption).2.1 _ (by decide)) (by ((conv => rhs; whnf); (show _ < @OfNat.ofNat Nat _ (instOfNatNat _)); omega)) (by decide)) | (simp only [nI_add, pk_mul]; (with_reducible show vp_in (nI _) _); first | exact vin _ (by assumption) (by omega) (by omega) | exact vin _ ((show Sh _ from by assumption).2.1 _ (by decide)) (by ((conv => rhs; whnf); (show _ < @OfNat.ofNat Nat _ (instOfNatNat _)); omega)) (by decide)) | (simp (disch := omega) only [nI_add, pk_mul, ofN, Nat.add_zero, nI_clamp, nI_leI, nI_ltI, nI_eq, nI_add, rI_s, rI_k, rI_a]; (with_reducible show vp_in (nI _) _); first | exact vin _ (by assumption) (by omega) (by omega) | exact vin _ ((show Sh _ from by assumption).2.1 _ (by decide)) (by ((conv => rhs; whnf); (show _ < @OfNat.ofNat Nat _ (instOfNatNat _)); omega)) (by decide)))) ?_; (conv => whnf))))
          rw [nI_clamp (by omega), c5, nI_add]
          refine rest h5 G5 F5 _ (fun z => ?_) (fun z => ?_) <;> (conv => whnf) <;> (repeat (first | (refine And.intro (by (first | assumption | exact (show Sh _ from by assumption).1 _ (by decide) | exact Or.inl rfl | exact Or.inr rfl | exact Nat.le_of_ble_eq_true rfl)) ?_; (conv => whnf)) | (refine Exists.intro _ (And.intro (by (first | assumption | exact (show Sh _ from by assumption).2.2 _ _ _ rfl)) ?_); (conv => whnf)) | (refine bF (nI_ne0 (by decide) (by decide)) ?_; (conv => whnf)) | (refine bT nI_0 ?_; (conv => whnf)) | (refine bN (nI_ne0 (by decide) (by decide)) ?_; (conv => whnf)) | (refine bP nI_0 ?_; (conv => whnf)) | (refine And.intro (by (first | ((with_reducible show vp_in (nI _) _); first | exact vin _ (by assumption) (by omega) (by omega) | exact vin _ ((show Sh _ from by assumption).2.1 _ (by decide)) (by ((conv => rhs; whnf); (show _ < @OfNat.ofNat Nat _ (instOfNatNat _)); omega)) (by decide)) | (simp only [nI_add, pk_mul]; (with_reducible show vp_in (nI _) _); first | exact vin _ (by assumption) (by omega) (by omega) | exact vin _ ((show Sh _ from by assumption).2.1 _ (by decide)) (by ((conv => rhs; whnf); (show _ < @OfNat.ofNat Nat _ (instOfNatNat _)); omega)) (by decide)) | (simp (disch := omega) only [nI_add, pk_mul, ofN, Nat.add_zero, nI_clamp, nI_leI, nI_ltI, nI_eq, nI_add, rI_s, rI_k, rI_a]; (with_reducible show vp_in (nI _) _); first | exact vin _ (by assumption) (by omega) (by omega) | exact vin _ ((show Sh _ from by assumption).2.1 _ (by decide)) (by ((conv => rhs; whnf); (show _ < @OfNat.ofNat Nat _ (instOfNatNat _)); omega)) (by decide)))) ?_; (conv => whnf))))
          · exact W_h rfl (by (try simp (disch := omega) only [nI_add, Nat.add_zero]) <;> rfl) (ih (i + 1) h5 (by omega) (by rw [e1, z]) G5 F55 (Fr_tr Fv4 F5))
          · exact q0 (fz r (i + 1) (by omega) (by rw [e1, z])) h5 (CR_t C F55) (fPA (Or.inr rfl) F55)
        · refine go w hw (by rw [if_pos (by omega)]) _ (fun h5 G5 F5 => ?_)
          (conv => whnf)
          have F55 := Fr_tr F44 F5
          have S5 := Fr_Sh F55 S
          have c5 : ab_I h5 561 k = _ := g_cel G5 (k := k) (by omega)
          (repeat (first | (refine And.intro (by (first | assumption | exact (show Sh _ from by assumption).1 _ (by decide) | exact Or.inl rfl | exact Or.inr rfl | exact Nat.le_of_ble_eq_true rfl)) ?_; (conv => whnf)) | (refine Exists.intro _ (And.intro (by (first | assumption | exact (show Sh _ from by assumption).2.2 _ _ _ rfl)) ?_); (conv => whnf)) | (refine bF (nI_ne0 (by decide) (by decide)) ?_; (conv => whnf)) | (refine bT nI_0 ?_; (conv => whnf)) | (refine bN (nI_ne0 (by decide) (by decide)) ?_; (conv => whnf)) | (refine bP nI_0 ?_; (conv => whnf)) | (refine And.intro (by (first | ((with_reducible show vp_in (nI _) _); first | exact vin _ (by assumption) (by omega) (by omega) | exact vin _ ((show Sh _ from by assumption).2.1 _ (by decide)) (by ((conv => rhs; whnf); (show _ < @OfNat.ofNat Nat _ (instOfNatNat _)); omega)) (by decide)) | (simp only [nI_add, pk_mul]; (with_reducible show vp_in (nI _) _); first | exact vin _ (by assumption) (by omega) (by omega) | exact vin _ ((show Sh _ from by assumption).2.1 _ (by decide)) (by ((conv => rhs; whnf); (show _ < @OfNat.ofNat Nat _ (instOfNatNat _)); omega)) (by decide)) | (simp (disch := omega) only [nI_add, pk_mul, ofN, Nat.add_zero, nI_clamp, nI_leI, nI_ltI, nI_eq, nI_add, rI_s, rI_k, rI_a]; (with_reducible show vp_in (nI _) _); first | exact vin _ (by assumption) (by omega) (by omega) | exact vin _ ((show Sh _ from by assumption).2.1 _ (by decide)) (by ((conv => rhs; whnf); (show _ < @OfNat.ofNat Nat _ (instOfNatNat _)); omega)) (by decide)))) ?_; (conv => whnf))))
          rw [nI_clamp (by omega), c5, nI_add]
          refine rest h5 G5 F5 _ (fun z => ?_) (fun z => ?_) <;> (conv => whnf) <;> (repeat (first | (refine And.intro (by (first | assumption | exact (show Sh _ from by assumption).1 _ (by decide) | exact Or.inl rfl | exact Or.inr rfl | exact Nat.le_of_ble_eq_true rfl)) ?_; (conv => whnf)) | (refine Exists.intro _ (And.intro (by (first | assumption | exact (show Sh _ from by assumption).2.2 _ _ _ rfl)) ?_); (conv => whnf)) | (refine bF (nI_ne0 (by decide) (by decide)) ?_; (conv => whnf)) | (refine bT nI_0 ?_; (conv => whnf)) | (refine bN (nI_ne0 (by decide) (by decide)) ?_; (conv => whnf)) | (refine bP nI_0 ?_; (conv => whnf)) | (refine And.intro (by (first | ((with_reducible show vp_in (nI _) _); first | exact vin _ (by assumption) (by omega) (by omega) | exact vin _ ((show Sh _ from by assumption).2.1 _ (by decide)) (by ((conv => rhs; whnf); (show _ < @OfNat.ofNat Nat _ (instOfNatNat _)); omega)) (by decide)) | (simp only [nI_add, pk_mul]; (with_reducible show vp_in (nI _) _); first | exact vin _ (by assumption) (by omega) (by omega) | exact vin _ ((show Sh _ from by assumption).2.1 _ (by decide)) (by ((conv => rhs; whnf); (show _ < @OfNat.ofNat Nat _ (instOfNatNat _)); omega)) (by decide)) | (simp (disch := omega) only [nI_add, pk_mul, ofN, Nat.add_zero, nI_clamp, nI_leI, nI_ltI, nI_eq, nI_add, rI_s, rI_k, rI_a]; (with_reducible show vp_in (nI _) _); first | exact vin _ (by assumption) (by omega) (by omega) | exact vin _ ((show Sh _ from by assumption).2.1 _ (by decide)) (by ((conv => rhs; whnf); (show _ < @OfNat.ofNat Nat _ (instOfNatNat _)); omega)) (by decide)))) ?_; (conv => whnf))))
          · exact W_h rfl (by (try simp (disch := omega) only [nI_add, Nat.add_zero]) <;> rfl) (ih (i + 1) h5 (by omega) (by rw [e1, z]) G5 F55 (Fr_tr Fv4 F5))
          · exact q0 (fz r (i + 1) (by omega) (by rw [e1, z])) h5 (CR_t C F55) (fPA (Or.inr rfl) F55)
    exact lp 12 0 h2 (by omega) rfl G2 F2 Fr_re
/-- 0 in how many ways, 1 whether without, 2 the lowest way -/
def nbV (tx : Nat → Tx) (s : Sv) (k w : Nat) : Int32 := if w = 1 then (if nbb tx s k 0 0 12 then nI 1 else nI 0) else if w = 0 then nI (nbC tx s k 30) else nbF tx s k 30 0
theorem oc_nobbled (hd : 11 ≤ d) (S : Sh h) (C : CR h 7 16 29 37 s) (W0 : WF s) (X : TXC h s tx) (x y : Int32) (hy : ∀ k w, k < s 18 0 → w ≤ 2 → x = nI k → y = nI w → ∀ h', CR h' 7 16 29 37 s → Fr cA h h' → Q (some (.int (nbV tx s k w))) h') (hn : (∀ k w, k < s 18 0 → w ≤ 2 → x = nI k → y ≠ nI w) → Q (some (.int (-2))) h) : ab_Ok d n_X11_nobbled [.ref 5, .int x, .int y] h Q := by
  have W1 := ((WF_iff s).mp W0).1
  have b0 := W1.1.1
  refine ab_go mr_X11_nobbled rfl (by omega) (fun call W hc hW => ?_); (conv => whnf)
  (repeat (first | (refine And.intro (by (first | assumption | exact (show Sh _ from by assumption).1 _ (by decide) | exact Or.inl rfl | exact Or.inr rfl | exact Nat.le_of_ble_eq_true rfl)) ?_; (conv => whnf)) | (refine Exists.intro _ (And.intro (by (first | assumption | exact (show Sh _ from by assumption).2.2 _ _ _ rfl)) ?_); (conv => whnf)) | (refine bF (nI_ne0 (by decide) (by decide)) ?_; (conv => whnf)) | (refine bT nI_0 ?_; (conv => whnf)) | (refine bN (nI_ne0 (by decide) (by decide)) ?_; (conv => whnf)) | (refine bP nI_0 ?_; (conv => whnf)) | (refine And.intro (by (first | ((with_reducible show vp_in (nI _) _); first | exact vin _ (by assumption) (by omega) (by omega) | exact vin _ ((show Sh _ from by assumption).2.1 _ (by decide)) (by ((conv => rhs; whnf); (show _ < @OfNat.ofNat Nat _ (instOfNatNat _)); omega)) (by decide)) | (simp only [nI_add, pk_mul]; (with_reducible show vp_in (nI _) _); first | exact vin _ (by assumption) (by omega) (by omega) | exact vin _ ((show Sh _ from by assumption).2.1 _ (by decide)) (by ((conv => rhs; whnf); (show _ < @OfNat.ofNat Nat _ (instOfNatNat _)); omega)) (by decide)) | (simp (disch := omega) only [nI_add, pk_mul, ofN, Nat.add_zero, nI_clamp, nI_leI, nI_ltI, nI_eq, nI_add, rI_s, rI_k, rI_a]; (with_reducible show vp_in (nI _) _); first | exact vin _ (by assumption) (by omega) (by omega) | exact vin _ ((show Sh _ from by assumption).2.1 _ (by decide)) (by ((conv => rhs; whnf); (show _ < @OfNat.ofNat Nat _ (instOfNatNat _)); omega)) (by decide)))) ?_; (conv => whnf))))
  refine hc _ _ _ _ (oc_isHorse (by omega) S C b0 (fun k hk ek => ?_) (fun ek => ?_)) <;> (conv => whnf) <;> (repeat (first | (refine And.intro (by (first | assumption | exact (show Sh _ from by assumption).1 _ (by decide) | exact Or.inl rfl | exact Or.inr rfl | exact Nat.le_of_ble_eq_true rfl)) ?_; (conv => whnf)) | (refine Exists.intro _ (And.intro (by (first | assumption | exact (show Sh _ from by assumption).2.2 _ _ _ rfl)) ?_); (conv => whnf)) | (refine bF (nI_ne0 (by decide) (by decide)) ?_; (conv => whnf)) | (refine bT nI_0 ?_; (conv => whnf)) | (refine bN (nI_ne0 (by decide) (by decide)) ?_; (conv => whnf)) | (refine bP nI_0 ?_; (conv => whnf)) | (refine And.intro (by (first | ((with_reducible show vp_in (nI _) _); first | exact vin _ (by assumption) (by omega) (by omega) | exact vin _ ((show Sh _ from by assumption).2.1 _ (by decide)) (by ((conv => rhs; whnf); (show _ < @OfNat.ofNat Nat _ (instOfNatNat _)); omega)) (by decide)) | (simp only [nI_add, pk_mul]; (with_reducible show vp_in (nI _) _); first | exact vin _ (by assumption) (by omega) (by omega) | exact vin _ ((show Sh _ from by assumption).2.1 _ (by decide)) (by ((conv => rhs; whnf); (show _ < @OfNat.ofNat Nat _ (instOfNatNat _)); omega)) (by decide)) | (simp (disch := omega) only [nI_add, pk_mul, ofN, Nat.add_zero, nI_clamp, nI_leI, nI_ltI, nI_eq, nI_add, rI_s, rI_k, rI_a]; (with_reducible show vp_in (nI _) _); first | exact vin _ (by assumption) (by omega) (by omega) | exact vin _ ((show Sh _ from by assumption).2.1 _ (by decide)) (by ((conv => rhs; whnf); (show _ < @OfNat.ofNat Nat _ (instOfNatNat _)); omega)) (by decide)))) ?_; (conv => whnf))))
  · refine hc _ _ _ _ (ok_wiN (by omega) 0 2 y (by omega) (by omega) (fun w _ w2 ew => ?_) (fun ew => ?_)) <;> (conv => whnf) <;> (repeat (first | (refine And.intro (by (first | assumption | exact (show Sh _ from by assumption).1 _ (by decide) | exact Or.inl rfl | exact Or.inr rfl | exact Nat.le_of_ble_eq_true rfl)) ?_; (conv => whnf)) | (refine Exists.intro _ (And.intro (by (first | assumption | exact (show Sh _ from by assumption).2.2 _ _ _ rfl)) ?_); (conv => whnf)) | (refine bF (nI_ne0 (by decide) (by decide)) ?_; (conv => whnf)) | (refine bT nI_0 ?_; (conv => whnf)) | (refine bN (nI_ne0 (by decide) (by decide)) ?_; (conv => whnf)) | (refine bP nI_0 ?_; (conv => whnf)) | (refine And.intro (by (first | ((with_reducible show vp_in (nI _) _); first | exact vin _ (by assumption) (by omega) (by omega) | exact vin _ ((show Sh _ from by assumption).2.1 _ (by decide)) (by ((conv => rhs; whnf); (show _ < @OfNat.ofNat Nat _ (instOfNatNat _)); omega)) (by decide)) | (simp only [nI_add, pk_mul]; (with_reducible show vp_in (nI _) _); first | exact vin _ (by assumption) (by omega) (by omega) | exact vin _ ((show Sh _ from by assumption).2.1 _ (by decide)) (by ((conv => rhs; whnf); (show _ < @OfNat.ofNat Nat _ (instOfNatNat _)); omega)) (by decide)) | (simp (disch := omega) only [nI_add, pk_mul, ofN, Nat.add_zero, nI_clamp, nI_leI, nI_ltI, nI_eq, nI_add, rI_s, rI_k, rI_a]; (with_reducible show vp_in (nI _) _); first | exact vin _ (by assumption) (by omega) (by omega) | exact vin _ ((show Sh _ from by assumption).2.1 _ (by decide)) (by ((conv => rhs; whnf); (show _ < @OfNat.ofNat Nat _ (instOfNatNat _)); omega)) (by decide)))) ?_; (conv => whnf))))
    · subst ek ew
      have hy := hy k w hk w2 rfl rfl
      by_cases w1 : w = 1
      · subst w1
        refine bP rfl ?_
        (conv => whnf)
        (repeat (first | (refine And.intro (by (first | assumption | exact (show Sh _ from by assumption).1 _ (by decide) | exact Or.inl rfl | exact Or.inr rfl | exact Nat.le_of_ble_eq_true rfl)) ?_; (conv => whnf)) | (refine Exists.intro _ (And.intro (by (first | assumption | exact (show Sh _ from by assumption).2.2 _ _ _ rfl)) ?_); (conv => whnf)) | (refine bF (nI_ne0 (by decide) (by decide)) ?_; (conv => whnf)) | (refine bT nI_0 ?_; (conv => whnf)) | (refine bN (nI_ne0 (by decide) (by decide)) ?_; (conv => whnf)) | (refine bP nI_0 ?_; (conv => whnf)) | (refine And.intro (by (first | ((with_reducible show vp_in (nI _) _); first | exact vin _ (by assumption) (by omega) (by omega) | exact vin _ ((show Sh _ from by assumption).2.1 _ (by decide)) (by ((conv => rhs; whnf); (show _ < @OfNat.ofNat Nat _ (instOfNatNat _)); omega)) (by decide)) | (simp only [nI_add, pk_mul]; (with_reducible show vp_in (nI _) _); first | exact vin _ (by assumption) (by omega) (by omega) | exact vin _ ((show Sh _ from by assumption).2.1 _ (by decide)) (by ((conv => rhs; whnf); (show _ < @OfNat.ofNat Nat _ (instOfNatNat _)); omega)) (by decide)) | (simp (disch := omega) only [nI_add, pk_mul, ofN, Nat.add_zero, nI_clamp, nI_leI, nI_ltI, nI_eq, nI_add, rI_s, rI_k, rI_a]; (with_reducible show vp_in (nI _) _); first | exact vin _ (by assumption) (by omega) (by omega) | exact vin _ ((show Sh _ from by assumption).2.1 _ (by decide)) (by ((conv => rhs; whnf); (show _ < @OfNat.ofNat Nat _ (instOfNatNat _)); omega)) (by decide)))) ?_; (conv => whnf))))
        refine hc _ _ _ _ (oc_isAsSeen (tx := tx) (by omega) S C W0 X hk (b := 0) (w := 0) (by omega) (by omega) (fun z h1 C1 F1 => ?_) (fun z h1 C1 F1 => ?_)) <;> (conv => whnf) <;> (repeat (first | (refine And.intro (by (first | assumption | exact (show Sh _ from by assumption).1 _ (by decide) | exact Or.inl rfl | exact Or.inr rfl | exact Nat.le_of_ble_eq_true rfl)) ?_; (conv => whnf)) | (refine Exists.intro _ (And.intro (by (first | assumption | exact (show Sh _ from by assumption).2.2 _ _ _ rfl)) ?_); (conv => whnf)) | (refine bF (nI_ne0 (by decide) (by decide)) ?_; (conv => whnf)) | (refine bT nI_0 ?_; (conv => whnf)) | (refine bN (nI_ne0 (by decide) (by decide)) ?_; (conv => whnf)) | (refine bP nI_0 ?_; (conv => whnf)) | (refine And.intro (by (first | ((with_reducible show vp_in (nI _) _); first | exact vin _ (by assumption) (by omega) (by omega) | exact vin _ ((show Sh _ from by assumption).2.1 _ (by decide)) (by ((conv => rhs; whnf); (show _ < @OfNat.ofNat Nat _ (instOfNatNat _)); omega)) (by decide)) | (simp only [nI_add, pk_mul]; (with_reducible show vp_in (nI _) _); first | exact vin _ (by assumption) (by omega) (by omega) | exact vin _ ((show Sh _ from by assumption).2.1 _ (by decide)) (by ((conv => rhs; whnf); (show _ < @OfNat.ofNat Nat _ (instOfNatNat _)); omega)) (by decide)) | (simp (disch := omega) only [nI_add, pk_mul, ofN, Nat.add_zero, nI_clamp, nI_leI, nI_ltI, nI_eq, nI_add, rI_s, rI_k, rI_a]; (with_reducible show vp_in (nI _) _); first | exact vin _ (by assumption) (by omega) (by omega) | exact vin _ ((show Sh _ from by assumption).2.1 _ (by decide)) (by ((conv => rhs; whnf); (show _ < @OfNat.ofNat Nat _ (instOfNatNat _)); omega)) (by decide)))) ?_; (conv => whnf))))
        · have q := hy h1 C1 F1
          rw [show nbV tx s k 1 = nI 1 by unfold nbV; rw [if_pos rfl, if_pos z]] at q
          exact q
        · have q := hy h1 C1 F1
          rw [show nbV tx s k 1 = nI 0 by unfold nbV; rw [if_pos rfl, if_neg (by rw [z]; decide)]] at q
          exact q
      · refine bN (by rw [nI_eq (by omega) (by omega)]; exact w1) ?_
        (conv => whnf)
        obtain ⟨wy, hwy⟩ : ∃ wy : Nat → Nat, wy = fun n => if w = 0 then nbC tx s k n else 0 := ⟨_, rfl⟩
        have wle : ∀ n, n ≤ 30 → wy n ≤ 30 := fun n hn => by have := nbC_le tx s k n; rw [hwy]; show (if w = 0 then nbC tx s k n else 0) ≤ 30; split <;> omega
        have inner : ∀ bb, bb ≤ 5 → (∀ h', (w = 2 → nbF tx s k (30 - (5 * bb + 5)) (5 * bb + 5) = nbF tx s k 30 0) → CR h' 7 16 29 37 s → Fr cA h h' → W 46 [.ref 5, .int (nI k), .int (nI w), .int (nI (wy (5 * bb + 5))), .int (nI (bb + 1))] h' 0 0) → ∀ r sk h', sk + r = 5 → (w = 2 → nbF tx s k (30 - (5 * bb + sk)) (5 * bb + sk) = nbF tx s k 30 0) → CR h' 7 16 29 37 s → Fr cA h h' → W 55 [.ref 5, .int (nI k), .int (nI w), .int (nI (wy (5 * bb + sk))), .int (nI bb), .int (nI (sk + 1))] h' 0 0 := by
          intro bb hbb nxt r
          induction r with
          | zero =>
            intro sk h' e iv C' F'
            obtain rfl : sk = 5 := by omega
            refine hW _ _ _ _ _ ?_
            (conv => whnf)
            refine bT (by decide) ?_
            (conv => whnf)
            exact W_h rfl (by (try simp (disch := omega) only [nI_add, Nat.add_zero]) <;> rfl) (nxt h' iv C' F')
          | succ r ih =>
            intro sk h' e iv C' F'
            have S' := Fr_Sh F' S
            have X' : TXC h' s tx := TXC_fr F' cA5 X rfl
            have en : nbW tx s k (5 * bb + sk) = nbb tx s k bb (sk + 1) 12 := by unfold nbW; rw [show (5 * bb + sk) / 5 = bb by omega, show (5 * bb + sk) % 5 + 1 = sk + 1 by omega]
            have ef : nbF tx s k (30 - (5 * bb + sk)) (5 * bb + sk) = if nbW tx s k (5 * bb + sk) then nI (10 * ((5 * bb + sk) / 5) + ((5 * bb + sk) % 5 + 1)) else nbF tx s k (30 - (5 * bb + (sk + 1))) (5 * bb + (sk + 1)) := by
              rw [show 30 - (5 * bb + sk) = (30 - (5 * bb + (sk + 1))) + 1 by omega]
              rfl
            have ec : nbC tx s k (5 * bb + (sk + 1)) = nbC tx s k (5 * bb + sk) + (if nbW tx s k (5 * bb + sk) then 1 else 0) := rfl
            refine hW _ _ _ _ _ ?_
            (conv => whnf)
            refine bF (nI_nlt (by omega) (by omega)) ?_
            (conv => whnf)
            (repeat (first | (refine And.intro (by (first | assumption | exact (show Sh _ from by assumption).1 _ (by decide) | exact Or.inl rfl | exact Or.inr rfl | exact Nat.le_of_ble_eq_true rfl)) ?_; (conv => whnf)) | (refine Exists.intro _ (And.intro (by (first | assumption | exact (show Sh _ from by assumption).2.2 _ _ _ rfl)) ?_); (conv => whnf)) | (refine bF (nI_ne0 (by decide) (by decide)) ?_; (conv => whnf)) | (refine bT nI_0 ?_; (conv => whnf)) | (refine bN (nI_ne0 (by decide) (by decide)) ?_; (conv => whnf)) | (refine bP nI_0 ?_; (conv => whnf)) | (refine And.intro (by (first | ((with_reducible show vp_in (nI _) _); first | exact vin _ (by assumption) (by omega) (by omega) | exact vin _ ((show Sh _ from by assumption).2.1 _ (by decide)) (by ((conv => rhs; whnf); (show _ < @OfNat.ofNat Nat _ (instOfNatNat _)); omega)) (by decide)) | (simp only [nI_add, pk_mul]; (with_reducible show vp_in (nI _) _); first | exact vin _ (by assumption) (by omega) (by omega) | exact vin _ ((show Sh _ from by assumption).2.1 _ (by decide)) (by ((conv => rhs; whnf); (show _ < @OfNat.ofNat Nat _ (instOfNatNat _)); omega)) (by decide)) | (simp (disch := omega) only [nI_add, pk_mul, ofN, Nat.add_zero, nI_clamp, nI_leI, nI_ltI, nI_eq, nI_add, rI_s, rI_k, rI_a]; (with_reducible show vp_in (nI _) _); first | exact vin _ (by assumption) (by omega) (by omega) | exact vin _ ((show Sh _ from by assumption).2.1 _ (by decide)) (by ((conv => rhs; whnf); (show _ < @OfNat.ofNat Nat _ (instOfNatNat _)); omega)) (by decide)))) ?_; (conv => whnf))))
            refine hc _ _ _ _ (oc_isAsSeen (tx := tx) (by omega) S' C' W0 X' hk (b := bb) (w := sk + 1) hbb (by omega) (fun z h1 C1 F1 => ?_) (fun z h1 C1 F1 => ?_)) <;> rw [← en] at z <;> (conv => whnf) <;> (repeat (first | (refine And.intro (by (first | assumption | exact (show Sh _ from by assumption).1 _ (by decide) | exact Or.inl rfl | exact Or.inr rfl | exact Nat.le_of_ble_eq_true rfl)) ?_; (conv => whnf)) | (refine Exists.intro _ (And.intro (by (first | assumption | exact (show Sh _ from by assumption).2.2 _ _ _ rfl)) ?_); (conv => whnf)) | (refine bF (nI_ne0 (by decide) (by decide)) ?_; (conv => whnf)) | (refine bT nI_0 ?_; (conv => whnf)) | (refine bN (nI_ne0 (by decide) (by decide)) ?_; (conv => whnf)) | (refine bP nI_0 ?_; (conv => whnf)) | (refine And.intro (by (first | ((with_reducible show vp_in (nI _) _); first | exact vin _ (by assumption) (by omega) (by omega) | exact vin _ ((show Sh _ from by assumption).2.1 _ (by decide)) (by ((conv => rhs; whnf); (show _ < @OfNat.ofNat Nat _ (instOfNatNat _)); omega)) (by decide)) | (simp only [nI_add, pk_mul]; (with_reducible show vp_in (nI _) _); first | exact vin _ (by assumption) (by omega) (by omega) | exact vin _ ((show Sh _ from by assumption).2.1 _ (by decide)) (by ((conv => rhs; whnf); (show _ < @OfNat.ofNat Nat _ (instOfNatNat _)); omega)) (by decide)) | (simp (disch := omega) only [nI_add, pk_mul, ofN, Nat.add_zero, nI_clamp, nI_leI, nI_ltI, nI_eq, nI_add, rI_s, rI_k, rI_a]; (with_reducible show vp_in (nI _) _); first | exact vin _ (by assumption) (by omega) (by omega) | exact vin _ ((show Sh _ from by assumption).2.1 _ (by decide)) (by ((conv => rhs; whnf); (show _ < @OfNat.ofNat Nat _ (instOfNatNat _)); omega)) (by decide)))) ?_; (conv => whnf))))
            · by_cases w2' : w = 2
              · subst w2'
                refine bP rfl ?_
                (conv => whnf)
                rw [pk_mul, nI_add]
                have q := hy h1 C1 (Fr_tr F' F1)
                rw [show nbV tx s k 2 = nbF tx s k 30 0 by unfold nbV; rw [if_neg (by decide), if_neg (by decide)], ← iv rfl, ef, if_pos z, show (5 * bb + sk) / 5 = bb by omega, show (5 * bb + sk) % 5 + 1 = sk + 1 by omega] at q
                exact q
              · refine bN (by rw [nI_eq (by omega) (by omega)]; exact w2') ?_
                (conv => whnf)
                have ew : wy (5 * bb + (sk + 1)) = wy (5 * bb + sk) + 1 := by
                  rw [hwy]
                  show (if w = 0 then nbC tx s k (5 * bb + (sk + 1)) else 0) = (if w = 0 then nbC tx s k (5 * bb + sk) else 0) + 1
                  rw [if_pos (by omega), if_pos (by omega), ec, if_pos z]
                exact W_h rfl (by (try simp (disch := omega) only [nI_add, Nat.add_zero, ew]) <;> rfl) (ih (sk + 1) h1 (by omega) (fun z => absurd z w2') C1 (Fr_tr F' F1))
            · have ew : wy (5 * bb + (sk + 1)) = wy (5 * bb + sk) := by
                rw [hwy]
                show (if w = 0 then nbC tx s k (5 * bb + (sk + 1)) else 0) = (if w = 0 then nbC tx s k (5 * bb + sk) else 0)
                rw [show nbC tx s k (5 * bb + (sk + 1)) = nbC tx s k (5 * bb + sk) by rw [ec, z]; rfl]
              exact W_h rfl (by (try simp (disch := omega) only [nI_add, Nat.add_zero, ew]) <;> rfl) (ih (sk + 1) h1 (by omega) (fun z2 => by rw [← iv z2, ef, if_neg (by rw [z]; decide)]) C1 (Fr_tr F' F1))
        have outer : ∀ r bb h', bb + r = 6 → (w = 2 → nbF tx s k (30 - 5 * bb) (5 * bb) = nbF tx s k 30 0) → CR h' 7 16 29 37 s → Fr cA h h' → W 46 [.ref 5, .int (nI k), .int (nI w), .int (nI (wy (5 * bb))), .int (nI bb)] h' 0 0 := by
          intro r
          induction r with
          | zero =>
            intro bb h' e iv C' F'
            obtain rfl : bb = 6 := by omega
            refine hW _ _ _ _ _ ?_
            (conv => whnf)
            refine bT (by decide) ?_
            (conv => whnf)
            have q := hy h' C' F'
            by_cases w2' : w = 2
            · subst w2'
              refine bP rfl ?_
              (conv => whnf)
              rw [show nbV tx s k 2 = nbF tx s k 30 0 by unfold nbV; rw [if_neg (by decide), if_neg (by decide)], ← iv rfl] at q
              exact q
            · refine bN (by rw [nI_eq (by omega) (by omega)]; exact w2') ?_
              (conv => whnf)
              have w0 : w = 0 := by omega
              subst w0
              rw [show nbV tx s k 0 = nI (nbC tx s k 30) by unfold nbV; rw [if_neg (by decide), if_pos rfl]] at q
              rw [show wy (5 * 6) = nbC tx s k 30 by rw [hwy]; rfl]
              exact q
          | succ r ih =>
            intro bb h' e iv C' F'
            refine hW _ _ _ _ _ ?_
            (conv => whnf)
            refine bF (nI_nlt (by omega) (by omega)) ?_
            (conv => whnf)
            exact inner bb (by omega) (fun h1 iv1 C1 F1 => ih (bb + 1) h1 (by omega) iv1 C1 F1) 5 0 h' rfl iv C' F'
        exact W_h rfl (by rw [hwy]; simp only []; (first | rfl | (split <;> rfl))) (outer 6 0 h rfl (fun _ => rfl) C Fr_re)
    · exact hn (fun k w _ w2 _ e => ew w (by omega) w2 e)
  · exact hn (fun k w hk _ e => absurd e (ek k hk))
end NB
