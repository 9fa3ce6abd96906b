/-! ===== contracts: heats on the reference's side (mine) ===== -/
theorem lsC_mo (c all : Nat) : ∀ r i, lsC c all i ≤ lsC c all (i + r) := by
  intro r
  induction r with
  | zero => intro i; exact Nat.le_refl _
  | succ r ih =>
    intro i
    refine Nat.le_trans (ih i) ?_
    show lsC c all (i + r) ≤ (if c / 2 ^ (all - 1 - (i + r)) % 2 = 1 then lsC c all (i + r) + 1 else lsC c all (i + r))
    split <;> omega
theorem lsB_st (st : Nat → Nat) (c all j : Nat) : ∀ r i, j < lsC c all i → lsB st c all (i + r) j = lsB st c all i j := by
  intro r
  induction r with
  | zero => intro i _; rfl
  | succ r ih =>
    intro i hj
    have m := lsC_mo c all r i
    show (if c / 2 ^ (all - 1 - (i + r)) % 2 = 1 then fun j => if j = lsC c all (i + r) then st (i + r) else lsB st c all (i + r) j else lsB st c all (i + r)) j = _
    split
    · show (if j = lsC c all (i + r) then st (i + r) else lsB st c all (i + r) j) = _
      rw [if_neg (by omega)]
      exact ih i hj
    · exact ih i hj
theorem lsB_at (st : Nat → Nat) (c all i : Nat) (hi : i < all) (b : c / 2 ^ (all - 1 - i) % 2 = 1) : lsC c all i < lsC c all all ∧ lsB st c all all (lsC c all i) = st i := by
  have e1 : lsC c all (i + 1) = if c / 2 ^ (all - 1 - i) % 2 = 1 then lsC c all i + 1 else lsC c all i := rfl
  rw [if_pos b] at e1
  have m := lsC_mo c all (all - (i + 1)) (i + 1)
  have q := lsB_st st c all (lsC c all i) (all - (i + 1)) (i + 1) (by omega)
  rw [show i + 1 + (all - (i + 1)) = all by omega] at m q
  refine ⟨by omega, q.trans ?_⟩
  show (if c / 2 ^ (all - 1 - i) % 2 = 1 then fun j => if j = lsC c all i then st i else lsB st c all i j else lsB st c all i) (lsC c all i) = st i
  rw [if_pos b]
  show (if lsC c all i = lsC c all i then st i else lsB st c all i (lsC c all i)) = st i
  rw [if_pos rfl]
section MHc
variable {d : Nat} {h : Hp} {Q : Option Value → Hp → Prop} {s : Sv}
theorem ok_inZ (hd : 1 ≤ d) (m : Nat) (x : Int32) (hb : m < 2 ^ 30) (hy : ∀ z, 2 ≤ z → z ≤ m → x = nI z → Q (some (.int (nI 1))) h) (hn : (∀ z, 2 ≤ z → z ≤ m → x ≠ nI z) → Q (some (.int (nI 0))) h) : ab_Ok d n_X12_isIn [.int x, .int (nI 2), .int (nI m)] h Q := by
  by_cases b2 : 2 ≤ m
  · exact ok_inN hd 2 m x b2 hb hy hn
  · refine ok_isIn hd _ _ _ (fun e1 e2 => ?_) (fun e => hn (fun z z1 z2 => by omega))
    have := Int32.le_trans e1 e2
    rw [nI_leI (by omega) (by omega)] at this
    omega
theorem om_heats (hd : 3 ≤ d) (S : Sh h) (M : MS h 581 s) (B : WF s) (x y : Int32) (hy : ∀ z q, 2 ≤ z → z ≤ 4 → z ≤ s 18 0 → x = nI z → q ≤ htC z (s 18 0) → y = nI q - 1 → ∀ h', Fr fJ h h' → Q (some (.int (if q = 0 then nI (htC z (s 18 0)) else nI (htB z (s 18 0) (q - 1))))) h') (hm : ∀ z, 2 ≤ z → z ≤ 4 → z ≤ s 18 0 → x = nI z → (∀ q, q ≤ htC z (s 18 0) → y ≠ nI q - 1) → ∀ h', Fr fJ h h' → Q (some (.int (-2))) h') (hn : (∀ z, 2 ≤ z → z ≤ 4 → z ≤ s 18 0 → x ≠ nI z) → Q (some (.int (-2))) h) : ab_Ok d n_X12_heats [.ref 580, .int x, .int y] h Q := by
  have b0 := (wb_n B).1
  have n0 := ms_n0 M
  refine ab_go mr_X12_heats rfl (by omega) (fun call W hc hW => ?_); (conv => whnf)
  have l3 : ∀ (st : Nat → Nat) (al q c : Nat), al ≤ 10 → c < 1024 → q < lsC c al al → ∀ h', ab_I h' 580 30 = nI al → (∀ j, j < al → ab_I h' 593 j = nI (st j)) → Fr fJ h h' → Q (some (.int (nI (lsB st c al al q)))) h' → ∀ r k l, k + r = al → lsC c al k + l = q → W 118 [.ref 580, .int (nI c), .int (nI l), .int (nI k)] h' 0 0 := by
    intro st al q c ab hcb hq h' p1 p3 F' hQ
    have S' := Fr_Sh F' S
    have lal := lsC_le c al al
    clear hy hm hn
    intro r
    induction r with
    | zero =>
      intro k l e1 e2
      obtain rfl : k = al := by omega
      omega
    | succ r ih =>
      intro k l e1 e2
      have lc := lsC_le c al k
      have ih := ih (k + 1)
      refine hW _ _ _ _ _ ?_
      (conv => whnf)
      refine ⟨S'.1 580 (by decide), ?_⟩
      (conv => whnf)
      rw [p1]
      refine bF (nI_ge (by omega) (by omega)) ?_
      (conv => whnf)
      refine ⟨S'.1 580 (by decide), ?_⟩
      (conv => whnf)
      rw [p1, pk_sub (by omega : 1 ≤ al), pk_sub (by omega : k ≤ al - 1)]
      refine hc _ _ _ _ (om_has (by omega) (by omega) (by omega) (fun b => ?_) (fun b => ?_)) <;> (conv => whnf)
      · refine bN (by decide) ?_
        (conv => whnf)
        have at' := lsB_at st c al k (by omega) b
        rcases Nat.eq_zero_or_pos l with e0 | e0
        · subst e0
          rw [Nat.add_zero] at e2
          refine bP (by decide) ?_
          (conv => whnf)
          refine ⟨S'.1 580 (by decide), 593, S'.2.2 _ _ _ rfl, ?_⟩
          (conv => whnf)
          refine ⟨S'.1 593 (by decide), vin _ (S'.2.1 593 (by decide)) (by show k < 10; omega) (by decide), ?_⟩
          (conv => whnf)
          rw [nI_clamp (by omega), p3 k (by omega), ← at'.2, e2]
          exact hQ
        · refine bN (by rw [← nI_0, nI_eq (by omega) (by omega)]; omega) ?_
          (conv => whnf)
          have e4 : lsC c al (k + 1) = lsC c al k + 1 := if_pos b
          refine W_h rfl ?_ (ih (l - 1) (by omega) (by omega))
          rw [show (-1 : Int32) = - nI 1 from by decide, ← Int32.sub_eq_add_neg, pk_sub (by omega : 1 ≤ l), nI_add]
          rfl
      · refine bP (by decide) ?_
        (conv => whnf)
        have e4 : lsC c al (k + 1) = lsC c al k := if_neg b
        refine W_h rfl ?_ (ih l (by omega) (by omega))
        rw [nI_add]
        rfl
  have l2 : ∀ z, 2 ≤ z → z ≤ 4 → z ≤ s 18 0 → x = nI z → ∀ h', ab_I h' 580 30 = nI (stC z (2 ^ s 18 0)) → (∀ j, j < stC z (2 ^ s 18 0) → ab_I h' 593 j = nI (stB z (2 ^ s 18 0) j)) → Fr fJ h h' → ∀ k c, k < 2 ^ stC z (2 ^ s 18 0) → c < 2 ^ stC z (2 ^ s 18 0) → 1 ≤ c → fnC z (s 18 0) = chs (mtF z (s 18 0)) (pI1 (2 ^ s 18 0 - 1) 5) (stC z (2 ^ s 18 0)) k c → W 50 [.ref 580, .int y, .int (nI c), .int (nI k)] h' 0 0 := by
    intro z z1 z2 z3 ex h' p1 p3 F'
    have hyz := fun q => hy z q z1 z2 z3 ex
    have hmz := hm z z1 z2 z3 ex
    clear hy hm hn
    have S' := Fr_Sh F' S
    have M' := MS_F F' (fun k w => by unfold fJ at w; omega) M
    have ab := stC_b (s 18 0) (by omega) z (by omega) z1
    have q2 : 2 ^ stC z (2 ^ s 18 0) ≤ 2 ^ 10 := Nat.pow_le_pow_right (by decide) ab
    have p2 : 2 ^ s 18 0 ≤ 32 := Nat.pow_le_pow_right (by decide) b0
    have p4 : 1 ≤ 2 ^ s 18 0 := Nat.one_le_two_pow
    intro k
    induction k with
    | zero =>
      intro c _ hc1 hc0 ec
      have ec : fnC z (s 18 0) = c := ec
      have ep : htC z (s 18 0) = popc c := by
        show lsC (fnC z (s 18 0)) (stC z (2 ^ s 18 0)) (stC z (2 ^ s 18 0)) = _
        rw [ec]
        exact ls_pop _ (by omega) c hc1
      have pb : popc c ≤ 10 := popc_b ⟨c, by omega⟩
      refine hW _ _ _ _ _ ?_
      (conv => whnf)
      refine bT (by decide) ?_
      (conv => whnf)
      refine hc _ _ _ _ (om_bits (by omega) (show c < 1024 by omega) ?_)
      (conv => whnf)
      refine hc _ _ _ _ (ok_inM (by omega) (popc c) y (by omega) (fun q q1 eq => ?_) (fun e => ?_)) <;> (conv => whnf)
      · refine bN (by decide) ?_
        (conv => whnf)
        have hyq := hyz q (by omega) eq h' F'
        rw [eq]
        refine ⟨fun f => ?_, fun f => ?_⟩ <;> rw [nm_none (by omega)] at f <;> (conv => whnf)
        · rw [if_neg f] at hyq
          have e5 : htB z (s 18 0) = lsB (stB z (2 ^ s 18 0)) c (stC z (2 ^ s 18 0)) (stC z (2 ^ s 18 0)) := by unfold htB; rw [ec]
          rw [e5] at hyq
          have lp := ls_pop _ (by omega) c hc1
          refine W_h rfl ?_ (l3 (stB z (2 ^ s 18 0)) (stC z (2 ^ s 18 0)) (q - 1) c ab (by omega) (by rw [lp]; omega) h' p1 p3 F' hyq (stC z (2 ^ s 18 0)) 0 (q - 1) (by omega) (by show 0 + (q - 1) = q - 1; omega))
          rw [nm_pos (by omega)]
          rfl
        · rw [if_pos f] at hyq
          refine hc _ _ _ _ (om_bits (by omega) (show c < 1024 by omega) ?_)
          (conv => whnf)
          rw [← ep]
          exact hyq
      · refine bP (by decide) ?_
        (conv => whnf)
        exact hmz (fun q q1 => e q (by omega)) h' F'
    | succ k ih =>
      intro c hk hc1 hc0 ec
      have e1 : chs (mtF z (s 18 0)) (pI1 (2 ^ s 18 0 - 1) 5) (stC z (2 ^ s 18 0)) (k + 1) c = chs (mtF z (s 18 0)) (pI1 (2 ^ s 18 0 - 1) 5) (stC z (2 ^ s 18 0)) k (if popc (k + 1) < popc c ∧ pmt (mtF z (s 18 0)) (k + 1) (stC z (2 ^ s 18 0)) (stC z (2 ^ s 18 0)) = pI1 (2 ^ s 18 0 - 1) 5 then k + 1 else c) := rfl
      have me := met_eq (s 18 0) z (k + 1) b0 z1 z2 z3 hk
      have b1 : popc (k + 1) ≤ 10 := popc_b ⟨k + 1, by omega⟩
      have b2 : popc c ≤ 10 := popc_b ⟨c, by omega⟩
      have dn : nI (k + 1) + (-1) = nI k := by
        rw [show (-1 : Int32) = - nI 1 from by decide, ← Int32.sub_eq_add_neg, pk_sub (by omega)]
        rfl
      refine hW _ _ _ _ _ ?_
      (conv => whnf)
      refine bF (by rw [← nI_0, nI_leI (by omega) (by omega)]; omega) ?_
      (conv => whnf)
      refine hc _ _ _ _ (om_bits (by omega) (show k + 1 < 1024 by omega) ?_)
      (conv => whnf)
      refine hc _ _ _ _ (om_bits (by omega) (show c < 1024 by omega) ?_)
      (conv => whnf)
      refine ⟨fun f => ?_, fun f => ?_⟩ <;> rw [nI_leI (by omega) (by omega)] at f <;> (conv => whnf)
      · rw [if_neg (by omega)] at e1
        rw [dn]
        exact ih c (by omega) hc1 hc0 (ec.trans e1)
      · refine ⟨S'.1 580 (by decide), ?_⟩
        (conv => whnf)
        refine hc _ _ _ _ (om_areMet (by omega) S' M' b0 (st := stB z (2 ^ s 18 0)) (by omega) (by omega) p1 p3 (fun i hi => by have := stB_b z (2 ^ s 18 0) i p4; omega) (fun t => ?_) (fun t => ?_)) <;> (conv => whnf)
        · refine bF (by decide) ?_
          (conv => whnf)
          rw [dn]
          rw [if_pos ⟨by omega, me.mp t⟩] at e1
          exact ih (k + 1) (by omega) hk (by omega) (ec.trans e1)
        · refine bT (by decide) ?_
          (conv => whnf)
          rw [dn]
          rw [if_neg (fun w => by rw [me.mpr w.2] at t; exact Bool.noConfusion t)] at e1
          exact ih c (by omega) hc1 hc0 (ec.trans e1)
  have af : ∀ z, 2 ≤ z → z ≤ 4 → z ≤ s 18 0 → x = nI z → ∀ h', ab_I h' 580 30 = nI (stC z (2 ^ s 18 0)) → (∀ j, j < stC z (2 ^ s 18 0) → ab_I h' 593 j = nI (stB z (2 ^ s 18 0) j)) → Fr fJ h h' → W 50 [.ref 580, .int y, .int (nI (2 ^ stC z (2 ^ s 18 0) - 1)), .int (nI (2 ^ stC z (2 ^ s 18 0) - 1 - 1))] h' 0 0 := by
    intro z z1 z2 z3 ex h' p1 p3 F'
    have ap := stC_p (s 18 0) (by omega) z (by omega) z1 z3
    have q3 : 2 ^ 1 ≤ 2 ^ stC z (2 ^ s 18 0) := Nat.pow_le_pow_right (by decide) ap
    exact l2 z z1 z2 z3 ex h' p1 p3 F' (2 ^ stC z (2 ^ s 18 0) - 1 - 1) (2 ^ stC z (2 ^ s 18 0) - 1) (by omega) (by omega) (by omega) rfl
  clear l2 l3 hy hm
  (repeat (first | (refine And.intro (by (first | assumption | exact (show Sh _ from by assumption).1 _ (by decide) | exact Or.inl rfl | exact Or.inr rfl | exact Nat.le_of_ble_eq_true rfl)) ?_; (conv => whnf)) | (refine Exists.intro _ (And.intro (by (first | assumption | exact (show Sh _ from by assumption).2.2 _ _ _ rfl)) ?_); (conv => whnf)) | (refine bF (nI_ne0 (by decide) (by decide)) ?_; (conv => whnf)) | (refine bT nI_0 ?_; (conv => whnf)) | (refine bN (nI_ne0 (by decide) (by decide)) ?_; (conv => whnf)) | (refine bP nI_0 ?_; (conv => whnf)) | (refine And.intro (by (first | ((with_reducible show vp_in (nI _) _); first | exact vin _ (by assumption) (by omega) (by omega) | exact vin _ ((show Sh _ from by assumption).2.1 _ (by decide)) (by ((conv => rhs; whnf); (show _ < @OfNat.ofNat Nat _ (instOfNatNat _)); omega)) (by decide)) | (simp only [nI_add, pk_mul]; (with_reducible show vp_in (nI _) _); first | exact vin _ (by assumption) (by omega) (by omega) | exact vin _ ((show Sh _ from by assumption).2.1 _ (by decide)) (by ((conv => rhs; whnf); (show _ < @OfNat.ofNat Nat _ (instOfNatNat _)); omega)) (by decide)) | (simp (disch := omega) only [nI_add, pk_mul, ofN, Nat.add_zero, nI_clamp, nI_leI, nI_ltI, nI_eq, nI_add, rI_s, rI_k, rI_a]; (with_reducible show vp_in (nI _) _); first | exact vin _ (by assumption) (by omega) (by omega) | exact vin _ ((show Sh _ from by assumption).2.1 _ (by decide)) (by ((conv => rhs; whnf); (show _ < @OfNat.ofNat Nat _ (instOfNatNat _)); omega)) (by decide)))) ?_; (conv => whnf))))
  rw [nI_clamp (by omega), n0]
  refine ⟨fun f => ?_, fun f => ?_⟩ <;> rw [nI_leI (by omega) (by omega)] at f <;> (conv => whnf) <;> (repeat (first | (refine And.intro (by (first | assumption | exact (show Sh _ from by assumption).1 _ (by decide) | exact Or.inl rfl | exact Or.inr rfl | exact Nat.le_of_ble_eq_true rfl)) ?_; (conv => whnf)) | (refine Exists.intro _ (And.intro (by (first | assumption | exact (show Sh _ from by assumption).2.2 _ _ _ rfl)) ?_); (conv => whnf)) | (refine bF (nI_ne0 (by decide) (by decide)) ?_; (conv => whnf)) | (refine bT nI_0 ?_; (conv => whnf)) | (refine bN (nI_ne0 (by decide) (by decide)) ?_; (conv => whnf)) | (refine bP nI_0 ?_; (conv => whnf)) | (refine And.intro (by (first | ((with_reducible show vp_in (nI _) _); first | exact vin _ (by assumption) (by omega) (by omega) | exact vin _ ((show Sh _ from by assumption).2.1 _ (by decide)) (by ((conv => rhs; whnf); (show _ < @OfNat.ofNat Nat _ (instOfNatNat _)); omega)) (by decide)) | (simp only [nI_add, pk_mul]; (with_reducible show vp_in (nI _) _); first | exact vin _ (by assumption) (by omega) (by omega) | exact vin _ ((show Sh _ from by assumption).2.1 _ (by decide)) (by ((conv => rhs; whnf); (show _ < @OfNat.ofNat Nat _ (instOfNatNat _)); omega)) (by decide)) | (simp (disch := omega) only [nI_add, pk_mul, ofN, Nat.add_zero, nI_clamp, nI_leI, nI_ltI, nI_eq, nI_add, rI_s, rI_k, rI_a]; (with_reducible show vp_in (nI _) _); first | exact vin _ (by assumption) (by omega) (by omega) | exact vin _ ((show Sh _ from by assumption).2.1 _ (by decide)) (by ((conv => rhs; whnf); (show _ < @OfNat.ofNat Nat _ (instOfNatNat _)); omega)) (by decide)))) ?_; (conv => whnf))))
  · refine hc _ _ _ _ (ok_inZ (by omega) 4 x (by omega) (fun z z1 z2 e => ?_) (fun e => ?_)) <;> (conv => whnf) <;> (repeat (first | (refine And.intro (by (first | assumption | exact (show Sh _ from by assumption).1 _ (by decide) | exact Or.inl rfl | exact Or.inr rfl | exact Nat.le_of_ble_eq_true rfl)) ?_; (conv => whnf)) | (refine Exists.intro _ (And.intro (by (first | assumption | exact (show Sh _ from by assumption).2.2 _ _ _ rfl)) ?_); (conv => whnf)) | (refine bF (nI_ne0 (by decide) (by decide)) ?_; (conv => whnf)) | (refine bT nI_0 ?_; (conv => whnf)) | (refine bN (nI_ne0 (by decide) (by decide)) ?_; (conv => whnf)) | (refine bP nI_0 ?_; (conv => whnf)) | (refine And.intro (by (first | ((with_reducible show vp_in (nI _) _); first | exact vin _ (by assumption) (by omega) (by omega) | exact vin _ ((show Sh _ from by assumption).2.1 _ (by decide)) (by ((conv => rhs; whnf); (show _ < @OfNat.ofNat Nat _ (instOfNatNat _)); omega)) (by decide)) | (simp only [nI_add, pk_mul]; (with_reducible show vp_in (nI _) _); first | exact vin _ (by assumption) (by omega) (by omega) | exact vin _ ((show Sh _ from by assumption).2.1 _ (by decide)) (by ((conv => rhs; whnf); (show _ < @OfNat.ofNat Nat _ (instOfNatNat _)); omega)) (by decide)) | (simp (disch := omega) only [nI_add, pk_mul, ofN, Nat.add_zero, nI_clamp, nI_leI, nI_ltI, nI_eq, nI_add, rI_s, rI_k, rI_a]; (with_reducible show vp_in (nI _) _); first | exact vin _ (by assumption) (by omega) (by omega) | exact vin _ ((show Sh _ from by assumption).2.1 _ (by decide)) (by ((conv => rhs; whnf); (show _ < @OfNat.ofNat Nat _ (instOfNatNat _)); omega)) (by decide)))) ?_; (conv => whnf))))
    · rw [e]
      refine hc _ _ _ _ (om_laySets (by omega) S M b0 (by omega) z1 (fun h' p1 p3 F' => ?_))
      have S' := Fr_Sh F' S
      have af := af z z1 (by omega) (by omega) e h' p1 p3 F'
      have ab := stC_b (s 18 0) (by omega) z (by omega) z1
      have ap := stC_p (s 18 0) (by omega) z (by omega) z1 (by omega)
      have q3 : 2 ^ 1 ≤ 2 ^ stC z (2 ^ s 18 0) := Nat.pow_le_pow_right (by decide) ap
      have q2 : 2 ^ stC z (2 ^ s 18 0) ≤ 2 ^ 10 := Nat.pow_le_pow_right (by decide) ab
      have sh2 : nI 1 <<< (nI (stC z (2 ^ s 18 0)) &&& 31) = nI (2 ^ stC z (2 ^ s 18 0)) := by rw [nI_shl (by omega) (by omega), Nat.one_mul]
      clear hn
      (conv => whnf)
      refine ⟨S'.1 580 (by decide), ?_⟩
      (conv => whnf)
      rw [p1, sh2, pk_sub (by omega : 1 ≤ 2 ^ stC z (2 ^ s 18 0)), pk_sub (by omega : 1 ≤ 2 ^ stC z (2 ^ s 18 0) - 1)]
      exact af
    · exact hn (fun z z1 z2 z3 => e z z1 (by omega))
  · rw [nI_clamp (by omega), n0]
    refine hc _ _ _ _ (ok_inZ (by omega) (s 18 0) x (by omega) (fun z z1 z2 e => ?_) (fun e => ?_)) <;> (conv => whnf) <;> (repeat (first | (refine And.intro (by (first | assumption | exact (show Sh _ from by assumption).1 _ (by decide) | exact Or.inl rfl | exact Or.inr rfl | exact Nat.le_of_ble_eq_true rfl)) ?_; (conv => whnf)) | (refine Exists.intro _ (And.intro (by (first | assumption | exact (show Sh _ from by assumption).2.2 _ _ _ rfl)) ?_); (conv => whnf)) | (refine bF (nI_ne0 (by decide) (by decide)) ?_; (conv => whnf)) | (refine bT nI_0 ?_; (conv => whnf)) | (refine bN (nI_ne0 (by decide) (by decide)) ?_; (conv => whnf)) | (refine bP nI_0 ?_; (conv => whnf)) | (refine And.intro (by (first | ((with_reducible show vp_in (nI _) _); first | exact vin _ (by assumption) (by omega) (by omega) | exact vin _ ((show Sh _ from by assumption).2.1 _ (by decide)) (by ((conv => rhs; whnf); (show _ < @OfNat.ofNat Nat _ (instOfNatNat _)); omega)) (by decide)) | (simp only [nI_add, pk_mul]; (with_reducible show vp_in (nI _) _); first | exact vin _ (by assumption) (by omega) (by omega) | exact vin _ ((show Sh _ from by assumption).2.1 _ (by decide)) (by ((conv => rhs; whnf); (show _ < @OfNat.ofNat Nat _ (instOfNatNat _)); omega)) (by decide)) | (simp (disch := omega) only [nI_add, pk_mul, ofN, Nat.add_zero, nI_clamp, nI_leI, nI_ltI, nI_eq, nI_add, rI_s, rI_k, rI_a]; (with_reducible show vp_in (nI _) _); first | exact vin _ (by assumption) (by omega) (by omega) | exact vin _ ((show Sh _ from by assumption).2.1 _ (by decide)) (by ((conv => rhs; whnf); (show _ < @OfNat.ofNat Nat _ (instOfNatNat _)); omega)) (by decide)))) ?_; (conv => whnf))))
    · rw [e]
      refine hc _ _ _ _ (om_laySets (by omega) S M b0 (by omega) z1 (fun h' p1 p3 F' => ?_))
      have S' := Fr_Sh F' S
      have af := af z z1 (by omega) (by omega) e h' p1 p3 F'
      have ab := stC_b (s 18 0) (by omega) z (by omega) z1
      have ap := stC_p (s 18 0) (by omega) z (by omega) z1 (by omega)
      have q3 : 2 ^ 1 ≤ 2 ^ stC z (2 ^ s 18 0) := Nat.pow_le_pow_right (by decide) ap
      have q2 : 2 ^ stC z (2 ^ s 18 0) ≤ 2 ^ 10 := Nat.pow_le_pow_right (by decide) ab
      have sh2 : nI 1 <<< (nI (stC z (2 ^ s 18 0)) &&& 31) = nI (2 ^ stC z (2 ^ s 18 0)) := by rw [nI_shl (by omega) (by omega), Nat.one_mul]
      clear hn
      (conv => whnf)
      refine ⟨S'.1 580 (by decide), ?_⟩
      (conv => whnf)
      rw [p1, sh2, pk_sub (by omega : 1 ≤ 2 ^ stC z (2 ^ s 18 0)), pk_sub (by omega : 1 ≤ 2 ^ stC z (2 ^ s 18 0) - 1)]
      exact af
    · exact hn (fun z z1 z2 z3 => e z z1 (by omega))
end MHc
