/-! ===== what the laws say, and their contracts on the class's side (mine) ===== -/
/-- texts: how many clauses; a clause's kind and numbers; the laws -/
abbrev Tx : Type := Nat × (Nat → Nat → Nat) × (Nat → Option Vf)
/-- the names' values for a horse, with some weight more; for a piece on it -/
def ev (s : Sv) (k more : Nat) : Nat → Nat := fun i => if i = 0 then s 4 0 else if i = 1 then s 4 2 else if i = 2 then s 10 (s 0 k) else if i = 3 then s 6 k else if i = 4 then ld s k (s 18 1) + more else if i = 5 then s 0 k else k
def evp (s : Sv) (k p : Nat) : Nat → Nat := fun i => if i = 7 then s 7 p else if i = 8 then s 8 p else if i = 9 then s 2 p else ev s k 0 i
def cl0 (z : Int) (t : Nat) : Nat := min z.toNat t
/-- the law of a kind by THE TEXT (t 0: none) -/
def lw (tx : Nat → Tx) (t k : Nat) : Option Vf := if t = 0 then none else (tx (t - 1)).2.2 k
def pcs (tx : Nat → Tx) (s : Sv) (k more : Nat) : Nat := match lw tx (s 18 3) 0 with
  | none => 1 + (if 5 < s 6 k then 1 else 0) + (if ld s k (s 18 1) + more < 20 then 1 else 0)
  | some v => cl0 (v (ev s k more) (s 10)) 3
def shd (tx : Nat → Tx) (s : Sv) (k : Nat) : Nat := match lw tx (s 18 3) 2 with
  | none => 1
  | some v => cl0 (v (ev s k 0) (s 10)) 10
/-- dries of a piece on a horse, by text t (0: none) -/
def drs (tx : Nat → Tx) (t : Nat) (s : Sv) (p k : Nat) : Nat := match lw tx t 1 with
  | none => 1 + (s 4 2 + s 10 (s 0 k)) / 5
  | some v => cl0 (v (evp s k p) (s 10)) 20
/-- a law's code in a text's cells -/
def CLw (h : Hp) (t len k : Nat) (o : Option Vf) : Prop := match o with
  | none => ab_I h (t + 4) k = -1
  | some v => ∃ a r c m, EX (if k = 1 then 10 else 7) 0 a r c m v ∧ m ≤ 62 ∧ ab_I h (t + 4) k = nI a ∧ ab_I h (t + 5) k = nI (a + c.length) ∧ a + c.length ≤ len ∧ Seg h (t + 3) a c
/-- a kind of a clause, as the class numbers it -/
def kc (k : Nat) : Nat := if k = 5 then 8 else if k = 6 then 5 else if k = 7 then 6 else if k = 8 then 7 else k
/-- how many numbers a clause has -/
def ar (k : Nat) : Nat := if k = 3 ∨ k = 9 then 1 else if k = 4 then 3 else if k = 5 ∨ k = 6 ∨ k = 7 then 2 else 0
/-- a text's cells hold a text -/
def TC (h : Hp) (t : Nat) (T : Tx) : Prop := ∃ len, TO h t T.1 len ∧ (∀ i, i < T.1 → ab_I h (t + 1) i = nI (kc (T.2.1 i 0)) ∧ T.2.1 i 0 ≤ 9 ∧ ∀ j, j < ar (T.2.1 i 0) → ab_I h (t + 2) (3 * i + j) = nI (T.2.1 i (j + 1)) ∧ T.2.1 i (j + 1) ≤ 60) ∧ ∀ k, k < 3 → CLw h t len k (T.2.2 k)
/-- the law as the class hands it on: null, or a text -/
def LV (h : Hp) (tx : Nat → Tx) (t : Nat) (v : Value) : Prop := (t = 0 ∧ v = .null) ∨ ∃ c, 1 ≤ t ∧ v = .ref c ∧ TC h c (tx (t - 1))
theorem Seg_fr {h h' : Hp} {P : Nat → Nat → Prop} (F : Fr P h h') {t a : Nat} {c : List Nat} (hP : ∀ k, ¬ P t k) (S : Seg h t a c) : Seg h' t a c := sg_fr S F hP
theorem TC_fr {h h' : Hp} {P : Nat → Nat → Prop} (F : Fr P h h') (hP : ∀ a k, P a k → a < 594) {t : Nat} {T : Tx} (H : TC h t T) : TC h' t T := by
  obtain ⟨len, a, b, c⟩ := H
  have ht : 594 ≤ t := a.1
  have f : ∀ x k, 594 ≤ x → ab_I h' x k = ab_I h x k := fun x k hx => F.2.2.2.2 x k (fun z => by have := hP x k z; omega)
  refine ⟨len, TO_fr F a, fun i hi => ?_, fun k hk => ?_⟩
  · obtain ⟨b1, b2, b3⟩ := b i hi
    refine ⟨by rw [f _ _ (by omega)]; exact b1, b2, fun j hj => ?_⟩
    rw [f _ _ (by omega)]
    exact b3 j hj
  · have q := c k hk
    unfold CLw at q ⊢
    cases hT : T.2.2 k with
    | none => rw [hT] at q; rw [f _ _ (by omega)]; exact q
    | some v =>
      rw [hT] at q
      obtain ⟨a, r, c, m, q1, q2, q3, q4, q5, q6⟩ := q
      refine ⟨a, r, c, m, q1, q2, ?_, ?_, q5, Seg_fr F (fun k z => by have := hP _ _ z; omega) q6⟩
      · rw [f _ _ (by omega)]; exact q3
      · rw [f _ _ (by omega)]; exact q4
theorem LV_fr {h h' : Hp} {P : Nat → Nat → Prop} (F : Fr P h h') (hP : ∀ a k, P a k → a < 594) {tx : Nat → Tx} {t : Nat} {v : Value} (H : LV h tx t v) : LV h' tx t v := by
  rcases H with H | ⟨c, h1, h2, h3⟩
  · exact Or.inl H
  · exact Or.inr ⟨c, h1, h2, TC_fr F hP h3⟩
/-- what the laws' contracts need of the state's numbers -/
def WL (s : Sv) : Prop := s 18 0 ≤ 5 ∧ s 18 1 ≤ 10 ∧ (s 4 0 ≤ 9999 ∧ s 4 2 ≤ 9) ∧ (∀ k, k < 5 → s 0 k ≤ 11 ∧ s 6 k ≤ 9) ∧ (∀ p, p < 10 → s 2 p ≤ 20 ∧ s 3 p ≤ s 18 0 ∧ s 7 p ≤ 3 ∧ s 8 p ≤ 9) ∧ ∀ c, c < 12 → s 10 c ≤ 9
theorem ev_b {s : Sv} (B : WL s) {k more : Nat} (hk : k < 5) (hm : more ≤ 5) : Eb (ev s k more) (s 10) := by
  obtain ⟨b0, b1, b2, b3, b4, b5⟩ := B
  refine ⟨fun i hi => ?_, b5⟩
  have q0 := b3 k hk
  have q1 := b5 (s 0 k) (by omega)
  have q2 := ld_le s k (s 18 1) (fun p hp => ⟨(b4 p (by omega)).2.2.2, (b4 p (by omega)).1⟩)
  unfold ev
  (repeat' split) <;> omega
theorem evp_b {s : Sv} (B : WL s) {k p : Nat} (hk : k < 5) (hp : p < 10) : Eb (evp s k p) (s 10) := by
  have q := ev_b B hk (show 0 ≤ 5 by omega)
  have b4 := B.2.2.2.2.1 p hp
  refine ⟨fun i hi => ?_, q.2⟩
  have q1 := q.1 i hi
  unfold evp
  (repeat' split) <;> omega
/-- what a law's reckoning may write on the class's side -/
def f14 (a _ : Nat) : Prop := a = 14 ∨ a = 15
section CL
variable {d : Nat} {h : Hp} {Q : Option Value → Hp → Prop} {s : Sv} {g kn : Nat}
theorem oc_weightOn (hd : 1 ≤ d) (S : Sh h) (T : TR h 7 s) (H : GSh h g) (G : GR h g kn s 0) (B : WL s) {k : Nat} (hk : k < 5) (hq : Q (some (.int (nI (ld s k (s 18 1))))) h) : ab_Ok d n_X0_weightOn [.ref 6, .ref g, .int (nI k)] h Q := by
  obtain ⟨⟨k0, k1, k2, k3, k4, k5, k6, k7⟩, ⟨r0, r1, r2, r3, r4, r5, r6⟩, ⟨l1, l2, l3, l4, l5, l6, l7⟩⟩ := H
  obtain ⟨b0, b1, b2, b3, b4, b5⟩ := B
  have t1 := T.1.2.1
  have t2 : ∀ {p}, p < 10 → ab_I h 10 p = nI (s 8 p) := fun {p} hp => (T.2.2.1 p hp).2.1
  refine ab_go mr_X0_weightOn rfl (by omega) (fun call W hc hW => ?_); (conv => whnf)
  have lp : ∀ r p, p + r = s 18 1 → W 5 [.ref 6, .ref g, .int (nI k), .int (nI (ld s k p)), .int (nI p)] h 0 0 := by
    intro r
    induction r with
    | zero =>
      intro p e
      obtain rfl : p = s 18 1 := by omega
      refine hW _ _ _ _ _ ?_
      (conv => whnf)
      (repeat (first | (refine And.intro (by (first | assumption | exact (show Sh _ from by assumption).1 _ (by decide) | exact Or.inl rfl | exact Or.inr rfl | exact Nat.le_of_ble_eq_true rfl)) ?_; (conv => whnf)) | (refine Exists.intro _ (And.intro (by (first | assumption | exact (show Sh _ from by assumption).2.2 _ _ _ rfl)) ?_); (conv => whnf)) | (refine bF (nI_ne0 (by decide) (by decide)) ?_; (conv => whnf)) | (refine bT nI_0 ?_; (conv => whnf)) | (refine bN (nI_ne0 (by decide) (by decide)) ?_; (conv => whnf)) | (refine bP nI_0 ?_; (conv => whnf)) | (refine And.intro (by (first | ((with_reducible show vp_in (nI _) _); first | exact vin _ (by assumption) (by omega) (by omega) | exact vin _ ((show Sh _ from by assumption).2.1 _ (by decide)) (by ((conv => rhs; whnf); (show _ < @OfNat.ofNat Nat _ (instOfNatNat _)); omega)) (by decide)) | (simp only [nI_add, pk_mul]; (with_reducible show vp_in (nI _) _); first | exact vin _ (by assumption) (by omega) (by omega) | exact vin _ ((show Sh _ from by assumption).2.1 _ (by decide)) (by ((conv => rhs; whnf); (show _ < @OfNat.ofNat Nat _ (instOfNatNat _)); omega)) (by decide)) | (simp (disch := omega) only [nI_add, pk_mul, ofN, Nat.add_zero, nI_clamp, nI_leI, nI_ltI, nI_eq, t1, rI_s, rI_k, rI_a]; (with_reducible show vp_in (nI _) _); first | exact vin _ (by assumption) (by omega) (by omega) | exact vin _ ((show Sh _ from by assumption).2.1 _ (by decide)) (by ((conv => rhs; whnf); (show _ < @OfNat.ofNat Nat _ (instOfNatNat _)); omega)) (by decide)))) ?_; (conv => whnf)) | (refine And.intro (by decide) ?_; (conv => whnf)) | (refine bT (by decide) ?_; (conv => whnf)) | (refine bF (by decide) ?_; (conv => whnf)) | (refine bN (by decide) ?_; (conv => whnf)) | (refine bP (by decide) ?_; (conv => whnf)) | (refine bT (by (simp (disch := omega) only [nI_add, pk_mul, ofN, Nat.add_zero, nI_clamp, nI_leI, nI_ltI, nI_eq, t1]); first | done | omega) ?_; (conv => whnf)) | (refine bF (by (simp (disch := omega) only [nI_add, pk_mul, ofN, Nat.add_zero, nI_clamp, nI_leI, nI_ltI, nI_eq, t1]); first | done | omega) ?_; (conv => whnf)) | (refine bN (by (simp (disch := omega) only [nI_add, pk_mul, ofN, Nat.add_zero, nI_clamp, nI_leI, nI_ltI, nI_eq, t1]); first | done | omega) ?_; (conv => whnf)) | (refine bP (by (simp (disch := omega) only [nI_add, pk_mul, ofN, Nat.add_zero, nI_clamp, nI_leI, nI_ltI, nI_eq, t1]); first | done | omega) ?_; (conv => whnf))))
      exact hq
    | succ r ih =>
      intro p e
      have q1 := b4 p (by omega)
      refine hW _ _ _ _ _ ?_
      (conv => whnf)
      (repeat (first | (refine And.intro (by (first | assumption | exact (show Sh _ from by assumption).1 _ (by decide) | exact Or.inl rfl | exact Or.inr rfl | exact Nat.le_of_ble_eq_true rfl)) ?_; (conv => whnf)) | (refine Exists.intro _ (And.intro (by (first | assumption | exact (show Sh _ from by assumption).2.2 _ _ _ rfl)) ?_); (conv => whnf)) | (refine bF (nI_ne0 (by decide) (by decide)) ?_; (conv => whnf)) | (refine bT nI_0 ?_; (conv => whnf)) | (refine bN (nI_ne0 (by decide) (by decide)) ?_; (conv => whnf)) | (refine bP nI_0 ?_; (conv => whnf)) | (refine And.intro (by (first | ((with_reducible show vp_in (nI _) _); first | exact vin _ (by assumption) (by omega) (by omega) | exact vin _ ((show Sh _ from by assumption).2.1 _ (by decide)) (by ((conv => rhs; whnf); (show _ < @OfNat.ofNat Nat _ (instOfNatNat _)); omega)) (by decide)) | (simp only [nI_add, pk_mul]; (with_reducible show vp_in (nI _) _); first | exact vin _ (by assumption) (by omega) (by omega) | exact vin _ ((show Sh _ from by assumption).2.1 _ (by decide)) (by ((conv => rhs; whnf); (show _ < @OfNat.ofNat Nat _ (instOfNatNat _)); omega)) (by decide)) | (simp (disch := omega) only [nI_add, pk_mul, ofN, Nat.add_zero, nI_clamp, nI_leI, nI_ltI, nI_eq, t1, rI_s, rI_k, rI_a]; (with_reducible show vp_in (nI _) _); first | exact vin _ (by assumption) (by omega) (by omega) | exact vin _ ((show Sh _ from by assumption).2.1 _ (by decide)) (by ((conv => rhs; whnf); (show _ < @OfNat.ofNat Nat _ (instOfNatNat _)); omega)) (by decide)))) ?_; (conv => whnf)) | (refine And.intro (by decide) ?_; (conv => whnf)) | (refine bT (by decide) ?_; (conv => whnf)) | (refine bF (by decide) ?_; (conv => whnf)) | (refine bN (by decide) ?_; (conv => whnf)) | (refine bP (by decide) ?_; (conv => whnf)) | (refine bT (by (simp (disch := omega) only [nI_add, pk_mul, ofN, Nat.add_zero, nI_clamp, nI_leI, nI_ltI, nI_eq, t1]); first | done | omega) ?_; (conv => whnf)) | (refine bF (by (simp (disch := omega) only [nI_add, pk_mul, ofN, Nat.add_zero, nI_clamp, nI_leI, nI_ltI, nI_eq, t1]); first | done | omega) ?_; (conv => whnf)) | (refine bN (by (simp (disch := omega) only [nI_add, pk_mul, ofN, Nat.add_zero, nI_clamp, nI_leI, nI_ltI, nI_eq, t1]); first | done | omega) ?_; (conv => whnf)) | (refine bP (by (simp (disch := omega) only [nI_add, pk_mul, ofN, Nat.add_zero, nI_clamp, nI_leI, nI_ltI, nI_eq, t1]); first | done | omega) ?_; (conv => whnf))))
      refine ⟨fun f => ?_, fun f => ?_⟩ <;> simp (disch := omega) only [nI_add, pk_mul, ofN, Nat.add_zero, nI_clamp, nI_leI, nI_ltI, nI_eq, g_kn G, g_sun G, g_hou G, g_x G, g_wr G, g_cel G, g_ran G, g_wet G, g_on G, g_b0 G, g_b1 G, g_b2 G, nm_eq] at f <;> (conv => whnf) <;> (repeat (first | (refine And.intro (by (first | assumption | exact (show Sh _ from by assumption).1 _ (by decide) | exact Or.inl rfl | exact Or.inr rfl | exact Nat.le_of_ble_eq_true rfl)) ?_; (conv => whnf)) | (refine Exists.intro _ (And.intro (by (first | assumption | exact (show Sh _ from by assumption).2.2 _ _ _ rfl)) ?_); (conv => whnf)) | (refine bF (nI_ne0 (by decide) (by decide)) ?_; (conv => whnf)) | (refine bT nI_0 ?_; (conv => whnf)) | (refine bN (nI_ne0 (by decide) (by decide)) ?_; (conv => whnf)) | (refine bP nI_0 ?_; (conv => whnf)) | (refine And.intro (by (first | ((with_reducible show vp_in (nI _) _); first | exact vin _ (by assumption) (by omega) (by omega) | exact vin _ ((show Sh _ from by assumption).2.1 _ (by decide)) (by ((conv => rhs; whnf); (show _ < @OfNat.ofNat Nat _ (instOfNatNat _)); omega)) (by decide)) | (simp only [nI_add, pk_mul]; (with_reducible show vp_in (nI _) _); first | exact vin _ (by assumption) (by omega) (by omega) | exact vin _ ((show Sh _ from by assumption).2.1 _ (by decide)) (by ((conv => rhs; whnf); (show _ < @OfNat.ofNat Nat _ (instOfNatNat _)); omega)) (by decide)) | (simp (disch := omega) only [nI_add, pk_mul, ofN, Nat.add_zero, nI_clamp, nI_leI, nI_ltI, nI_eq, g_kn G, g_sun G, g_hou G, g_x G, g_wr G, g_cel G, g_ran G, g_wet G, g_on G, g_b0 G, g_b1 G, g_b2 G, rI_s, rI_k, rI_a]; (with_reducible show vp_in (nI _) _); first | exact vin _ (by assumption) (by omega) (by omega) | exact vin _ ((show Sh _ from by assumption).2.1 _ (by decide)) (by ((conv => rhs; whnf); (show _ < @OfNat.ofNat Nat _ (instOfNatNat _)); omega)) (by decide)))) ?_; (conv => whnf)) | (refine And.intro (by decide) ?_; (conv => whnf)) | (refine bT (by decide) ?_; (conv => whnf)) | (refine bF (by decide) ?_; (conv => whnf)) | (refine bN (by decide) ?_; (conv => whnf)) | (refine bP (by decide) ?_; (conv => whnf)) | (refine bT (by (simp (disch := omega) only [nI_add, pk_mul, ofN, Nat.add_zero, nI_clamp, nI_leI, nI_ltI, nI_eq, g_kn G, g_sun G, g_hou G, g_x G, g_wr G, g_cel G, g_ran G, g_wet G, g_on G, g_b0 G, g_b1 G, g_b2 G]); first | done | omega) ?_; (conv => whnf)) | (refine bF (by (simp (disch := omega) only [nI_add, pk_mul, ofN, Nat.add_zero, nI_clamp, nI_leI, nI_ltI, nI_eq, g_kn G, g_sun G, g_hou G, g_x G, g_wr G, g_cel G, g_ran G, g_wet G, g_on G, g_b0 G, g_b1 G, g_b2 G]); first | done | omega) ?_; (conv => whnf)) | (refine bN (by (simp (disch := omega) only [nI_add, pk_mul, ofN, Nat.add_zero, nI_clamp, nI_leI, nI_ltI, nI_eq, g_kn G, g_sun G, g_hou G, g_x G, g_wr G, g_cel G, g_ran G, g_wet G, g_on G, g_b0 G, g_b1 G, g_b2 G]); first | done | omega) ?_; (conv => whnf)) | (refine bP (by (simp (disch := omega) only [nI_add, pk_mul, ofN, Nat.add_zero, nI_clamp, nI_leI, nI_ltI, nI_eq, g_kn G, g_sun G, g_hou G, g_x G, g_wr G, g_cel G, g_ran G, g_wet G, g_on G, g_b0 G, g_b1 G, g_b2 G]); first | done | omega) ?_; (conv => whnf))))
      · exact W_h rfl (by (try simp (disch := omega) only [nI_add, Nat.add_zero, ld, if_neg f]) <;> rfl) (ih (p + 1) (by omega))
      · exact W_h rfl (by (try simp (disch := omega) only [nI_add, nI_clamp, Nat.add_zero, ld, if_pos f, t2, g_kn G, g_sun G, g_hou G, g_x G, g_wr G, g_cel G, g_ran G, g_wet G, g_on G, g_b0 G, g_b1 G, g_b2 G]) <;> rfl) (ih (p + 1) (by omega))
  exact lp (s 18 1) 0 (by omega)
theorem oc_nameHorse (hd : 2 ≤ d) (S : Sh h) (T : TR h 7 s) (H : GSh h g) (hg : 16 ≤ g) (G : GR h g kn s 0) (B : WL s) {k n : Nat} (hk : k < 5) (more : Nat) (hn : n = ld s k (s 18 1) + more) (hq : ∀ h', Fr (fun a _ => a = 14) h h' → (∀ i, i < 7 → ab_I h' 14 (tn i) = nI (ev s k more i)) → Q none h') : ab_Ok d n_X0_nameHorse [.ref 6, .ref g, .int (nI k), .int (nI n)] h Q := by
  subst hn
  obtain ⟨⟨k0, k1, k2, k3, k4, k5, k6, k7⟩, ⟨r0, r1, r2, r3, r4, r5, r6⟩, ⟨l1, l2, l3, l4, l5, l6, l7⟩⟩ := H
  obtain ⟨b0, b1, b2, b3, b4, b5⟩ := B
  have q0 := b3 k hk
  have t2 : ∀ {p}, p < 5 → ab_I h 8 p = nI (s 6 p) := fun {p} hp => T.2.1 p hp
  refine ab_go mr_X0_nameHorse rfl (by omega) (fun call W hc hW => ?_); (conv => whnf)
  (repeat (first | (refine And.intro (by (first | assumption | exact (show Sh _ from by assumption).1 _ (by decide) | exact Or.inl rfl | exact Or.inr rfl | exact Nat.le_of_ble_eq_true rfl)) ?_; (conv => whnf)) | (refine Exists.intro _ (And.intro (by (first | assumption | exact (show Sh _ from by assumption).2.2 _ _ _ rfl)) ?_); (conv => whnf)) | (refine bF (nI_ne0 (by decide) (by decide)) ?_; (conv => whnf)) | (refine bT nI_0 ?_; (conv => whnf)) | (refine bN (nI_ne0 (by decide) (by decide)) ?_; (conv => whnf)) | (refine bP nI_0 ?_; (conv => whnf)) | (refine And.intro (by (first | ((with_reducible show vp_in (nI _) _); first | exact vin _ (by assumption) (by omega) (by omega) | exact vin _ ((show Sh _ from by assumption).2.1 _ (by decide)) (by ((conv => rhs; whnf); (show _ < @OfNat.ofNat Nat _ (instOfNatNat _)); omega)) (by decide)) | (simp only [nI_add, pk_mul]; (with_reducible show vp_in (nI _) _); first | exact vin _ (by assumption) (by omega) (by omega) | exact vin _ ((show Sh _ from by assumption).2.1 _ (by decide)) (by ((conv => rhs; whnf); (show _ < @OfNat.ofNat Nat _ (instOfNatNat _)); omega)) (by decide)) | (simp (disch := omega) only [nI_add, pk_mul, ofN, Nat.add_zero, nI_clamp, nI_leI, nI_ltI, nI_eq, g_kn G, g_sun G, g_hou G, g_x G, g_wr G, g_cel G, g_ran G, g_wet G, g_on G, g_b0 G, g_b1 G, g_b2 G, rI_s, rI_k, rI_a]; (with_reducible show vp_in (nI _) _); first | exact vin _ (by assumption) (by omega) (by omega) | exact vin _ ((show Sh _ from by assumption).2.1 _ (by decide)) (by ((conv => rhs; whnf); (show _ < @OfNat.ofNat Nat _ (instOfNatNat _)); omega)) (by decide)))) ?_; (conv => whnf)) | (refine And.intro (by decide) ?_; (conv => whnf)) | (refine bT (by decide) ?_; (conv => whnf)) | (refine bF (by decide) ?_; (conv => whnf)) | (refine bN (by decide) ?_; (conv => whnf)) | (refine bP (by decide) ?_; (conv => whnf)) | (refine bT (by (simp (disch := omega) only [nI_add, pk_mul, ofN, Nat.add_zero, nI_clamp, nI_leI, nI_ltI, nI_eq, g_kn G, g_sun G, g_hou G, g_x G, g_wr G, g_cel G, g_ran G, g_wet G, g_on G, g_b0 G, g_b1 G, g_b2 G]); first | done | omega) ?_; (conv => whnf)) | (refine bF (by (simp (disch := omega) only [nI_add, pk_mul, ofN, Nat.add_zero, nI_clamp, nI_leI, nI_ltI, nI_eq, g_kn G, g_sun G, g_hou G, g_x G, g_wr G, g_cel G, g_ran G, g_wet G, g_on G, g_b0 G, g_b1 G, g_b2 G]); first | done | omega) ?_; (conv => whnf)) | (refine bN (by (simp (disch := omega) only [nI_add, pk_mul, ofN, Nat.add_zero, nI_clamp, nI_leI, nI_ltI, nI_eq, g_kn G, g_sun G, g_hou G, g_x G, g_wr G, g_cel G, g_ran G, g_wet G, g_on G, g_b0 G, g_b1 G, g_b2 G]); first | done | omega) ?_; (conv => whnf)) | (refine bP (by (simp (disch := omega) only [nI_add, pk_mul, ofN, Nat.add_zero, nI_clamp, nI_leI, nI_ltI, nI_eq, g_kn G, g_sun G, g_hou G, g_x G, g_wr G, g_cel G, g_ran G, g_wet G, g_on G, g_b0 G, g_b1 G, g_b2 G]); first | done | omega) ?_; (conv => whnf))))
  refine cl hc (oc_windOfN (w := s 10) (n := s 0 k) (by omega) (Fr_Sh (Fr_tr (Fr_sI (P := fun a _ => a = 14) rfl) (Fr_sI rfl)) S) (fun c hc => by simp (disch := omega) only [rI_a]; exact T.2.2.2 c hc) (by omega) ?_) (by simp (disch := omega) only [nI_add, pk_mul, ofN, Nat.add_zero, nI_clamp, nI_leI, nI_ltI, nI_eq, rI_a, g_kn G, g_sun G, g_hou G, g_x G, g_wr G, g_cel G, g_ran G, g_wet G, g_on G, g_b0 G, g_b1 G, g_b2 G])
  (conv => whnf)
  (repeat (first | (refine And.intro (by (first | assumption | exact (show Sh _ from by assumption).1 _ (by decide) | exact Or.inl rfl | exact Or.inr rfl | exact Nat.le_of_ble_eq_true rfl)) ?_; (conv => whnf)) | (refine Exists.intro _ (And.intro (by (first | assumption | exact (show Sh _ from by assumption).2.2 _ _ _ rfl)) ?_); (conv => whnf)) | (refine bF (nI_ne0 (by decide) (by decide)) ?_; (conv => whnf)) | (refine bT nI_0 ?_; (conv => whnf)) | (refine bN (nI_ne0 (by decide) (by decide)) ?_; (conv => whnf)) | (refine bP nI_0 ?_; (conv => whnf)) | (refine And.intro (by (first | ((with_reducible show vp_in (nI _) _); first | exact vin _ (by assumption) (by omega) (by omega) | exact vin _ ((show Sh _ from by assumption).2.1 _ (by decide)) (by ((conv => rhs; whnf); (show _ < @OfNat.ofNat Nat _ (instOfNatNat _)); omega)) (by decide)) | (simp only [nI_add, pk_mul]; (with_reducible show vp_in (nI _) _); first | exact vin _ (by assumption) (by omega) (by omega) | exact vin _ ((show Sh _ from by assumption).2.1 _ (by decide)) (by ((conv => rhs; whnf); (show _ < @OfNat.ofNat Nat _ (instOfNatNat _)); omega)) (by decide)) | (simp (disch := omega) only [nI_add, pk_mul, ofN, Nat.add_zero, nI_clamp, nI_leI, nI_ltI, nI_eq, g_kn G, g_sun G, g_hou G, g_x G, g_wr G, g_cel G, g_ran G, g_wet G, g_on G, g_b0 G, g_b1 G, g_b2 G, rI_s, rI_k, rI_a]; (with_reducible show vp_in (nI _) _); first | exact vin _ (by assumption) (by omega) (by omega) | exact vin _ ((show Sh _ from by assumption).2.1 _ (by decide)) (by ((conv => rhs; whnf); (show _ < @OfNat.ofNat Nat _ (instOfNatNat _)); omega)) (by decide)))) ?_; (conv => whnf)) | (refine And.intro (by decide) ?_; (conv => whnf)) | (refine bT (by decide) ?_; (conv => whnf)) | (refine bF (by decide) ?_; (conv => whnf)) | (refine bN (by decide) ?_; (conv => whnf)) | (refine bP (by decide) ?_; (conv => whnf)) | (refine bT (by (simp (disch := omega) only [nI_add, pk_mul, ofN, Nat.add_zero, nI_clamp, nI_leI, nI_ltI, nI_eq, g_kn G, g_sun G, g_hou G, g_x G, g_wr G, g_cel G, g_ran G, g_wet G, g_on G, g_b0 G, g_b1 G, g_b2 G]); first | done | omega) ?_; (conv => whnf)) | (refine bF (by (simp (disch := omega) only [nI_add, pk_mul, ofN, Nat.add_zero, nI_clamp, nI_leI, nI_ltI, nI_eq, g_kn G, g_sun G, g_hou G, g_x G, g_wr G, g_cel G, g_ran G, g_wet G, g_on G, g_b0 G, g_b1 G, g_b2 G]); first | done | omega) ?_; (conv => whnf)) | (refine bN (by (simp (disch := omega) only [nI_add, pk_mul, ofN, Nat.add_zero, nI_clamp, nI_leI, nI_ltI, nI_eq, g_kn G, g_sun G, g_hou G, g_x G, g_wr G, g_cel G, g_ran G, g_wet G, g_on G, g_b0 G, g_b1 G, g_b2 G]); first | done | omega) ?_; (conv => whnf)) | (refine bP (by (simp (disch := omega) only [nI_add, pk_mul, ofN, Nat.add_zero, nI_clamp, nI_leI, nI_ltI, nI_eq, g_kn G, g_sun G, g_hou G, g_x G, g_wr G, g_cel G, g_ran G, g_wet G, g_on G, g_b0 G, g_b1 G, g_b2 G]); first | done | omega) ?_; (conv => whnf))))
  simp (disch := omega) only [nI_add, pk_mul, ofN, Nat.add_zero, nI_clamp, nI_leI, nI_ltI, nI_eq, rI_a, g_kn G, g_sun G, g_hou G, g_x G, g_wr G, g_cel G, g_ran G, g_wet G, g_on G, g_b0 G, g_b1 G, g_b2 G, t2]
  refine hq _ ?_ (fun i hi => ?_)
  · repeat (first | exact Fr_re | refine Fr_tr ?_ (Fr_sI rfl))
  · rcases (show i = 0 ∨ i = 1 ∨ i = 2 ∨ i = 3 ∨ i = 4 ∨ i = 5 ∨ i = 6 by omega) with rfl | rfl | rfl | rfl | rfl | rfl | rfl <;> simp (disch := decide) only [tn, ev, if_pos, if_neg, rI_k, rI_s] <;> first | rfl | (simp (disch := omega) only [rI_k, rI_s])
end CL
