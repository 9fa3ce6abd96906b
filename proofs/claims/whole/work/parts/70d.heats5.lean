/-! ===== contracts: heats on the class's side, found (mine) ===== -/
theorem stC_p : ∀ n, n < 6 → ∀ z, z < 5 → 2 ≤ z → z ≤ n → 1 ≤ stC z (2 ^ n) := by decide +kernel
theorem stB_eq (z : Nat) : ∀ r v, stC z (v + r) = stC z v → stB z (v + r) = stB z v := by
  intro r
  induction r with
  | zero => intro v _; rfl
  | succ r ih =>
    intro v e
    have e1 : stC z (v + (r + 1)) = if popc (v + r) = z then stC z (v + r) + 1 else stC z (v + r) := rfl
    have e2 : stB z (v + (r + 1)) = if popc (v + r) = z then fun j => if j = stC z (v + r) then v + r else stB z (v + r) j else stB z (v + r) := rfl
    have m := stC_mo z r v
    by_cases c : popc (v + r) = z
    · rw [if_pos c] at e1
      omega
    · rw [if_neg c] at e1 e2
      rw [e2]
      exact ih v (by omega)
def mtF (z n : Nat) : Nat → Nat := fun i => pI1 (stB z (2 ^ n) i) 5
def fnC (z n : Nat) : Nat := chs (mtF z n) (pI1 (2 ^ n - 1) 5) (stC z (2 ^ n)) (2 ^ stC z (2 ^ n) - 2) (2 ^ stC z (2 ^ n) - 1)
theorem pI1_b : ∀ m : Fin 32, pI1 m.val 5 < 2 ^ 25 := by decide +kernel
theorem stB_b (z : Nat) : ∀ v j, 1 ≤ v → stB z v j < v := by
  intro v
  induction v with
  | zero => intro j h; omega
  | succ v ih =>
    intro j _
    have hv : stB z v j < v + 1 := by
      rcases Nat.eq_zero_or_pos v with e | e
      · subst e; exact Nat.succ_pos _
      · have := ih j e; omega
    show (if popc v = z then fun j => if j = stC z v then v else stB z v j else stB z v) j < v + 1
    by_cases c : popc v = z
    · rw [if_pos c]
      show (if j = stC z v then v else stB z v j) < v + 1
      split
      · omega
      · exact hv
    · rw [if_neg c]
      exact hv
theorem pmt_b {mt : Nat → Nat} {c all : Nat} (h : ∀ i, i < all → mt i < 2 ^ 25) : ∀ i, i ≤ all → pmt mt c all i < 2 ^ 25 := by
  intro i
  induction i with
  | zero => intro _; exact Nat.two_pow_pos _
  | succ i ih =>
    intro hi
    show (if c / 2 ^ (all - 1 - i) % 2 = 1 then pmt mt c all i ||| mt i else pmt mt c all i) < 2 ^ 25
    split
    · exact Nat.or_lt_two_pow (ih (by omega)) (h i (by omega))
    · exact ih (by omega)
section HI
variable {d : Nat} {h : Hp} {Q : Option Value → Hp → Prop} {s : Sv}
theorem oc_find (hd : 2 ≤ d) (S : Sh h) {n z : Nat} (hn : n ≤ 5) (hz : z ≤ 4) (hz2 : 2 ≤ z) (hzn : z ≤ n) (hq : ∀ h', ab_I h' 576 3 = nI (lsC (fnC z n) (stC z (2 ^ n)) (stC z (2 ^ n))) → (∀ j, j < lsC (fnC z n) (stC z (2 ^ n)) (stC z (2 ^ n)) → ab_I h' 579 j = nI (lsB (stB z (2 ^ n)) (fnC z n) (stC z (2 ^ n)) (stC z (2 ^ n)) j)) → Fr fH h h' → Q none h') : ab_Ok d n_X3_find [.ref 576, .int (nI n), .int (nI z)] h Q := by
  have ab := stC_b n (by omega) z (by omega) hz2
  have ap := stC_p n (by omega) z (by omega) hz2 hzn
  have p2 : 2 ^ n ≤ 32 := Nat.pow_le_pow_right (by decide) hn
  have p3 : 1 ≤ 2 ^ n := Nat.one_le_two_pow
  have q2 : 2 ^ stC z (2 ^ n) ≤ 2 ^ 10 := Nat.pow_le_pow_right (by decide) ab
  have q3 : 2 ^ 1 ≤ 2 ^ stC z (2 ^ n) := Nat.pow_le_pow_right (by decide) ap
  have sh1 : nI 1 <<< (nI n &&& 31) = nI (2 ^ n) := by rw [nI_shl (by omega) (by omega), Nat.one_mul]
  have sh2 : nI 1 <<< (nI (stC z (2 ^ n)) &&& 31) = nI (2 ^ stC z (2 ^ n)) := by rw [nI_shl (by omega) (by omega), Nat.one_mul]
  have mb : ∀ i, mtF z n i < 2 ^ 25 := fun i => pI1_b ⟨stB z (2 ^ n) i, by have := stB_b z (2 ^ n) i p3; omega⟩
  have db : pI1 (2 ^ n - 1) 5 < 2 ^ 25 := pI1_b ⟨2 ^ n - 1, by omega⟩
  refine ab_go mr_X3_find rfl (by omega) (fun call W hc hW => ?_); (conv => whnf)
  have l2 : ∀ k c h', k < 1024 → c < 1024 → 1 ≤ c → fnC z n = chs (mtF z n) (pI1 (2 ^ n - 1) 5) (stC z (2 ^ n)) k c → (∀ i, i < stC z (2 ^ n) → ab_I h' 577 i = nI (stB z (2 ^ n) i) ∧ ab_I h' 578 i = nI (mtF z n i)) → Fr fH h h' → W 79 [.ref 576, .int (nI (stC z (2 ^ n))), .int (nI (pI1 (2 ^ n - 1) 5)), .int (nI c), .int (nI k)] h' 0 0 := by
    intro k
    induction k with
    | zero =>
      intro c h' _ hc1 _ ec p F'
      have S' := Fr_Sh F' S
      refine hW _ _ _ _ _ ?_
      (conv => whnf)
      refine bT (by decide) ?_
      (conv => whnf)
      (repeat (first | (refine And.intro (by (first | assumption | exact (show Sh _ from by assumption).1 _ (by decide) | exact Or.inl rfl | exact Or.inr rfl | exact Nat.le_of_ble_eq_true rfl)) ?_; (conv => whnf)) | (refine Exists.intro _ (And.intro (by (first | assumption | exact (show Sh _ from by assumption).2.2 _ _ _ rfl)) ?_); (conv => whnf)) | (refine bF (nI_ne0 (by decide) (by decide)) ?_; (conv => whnf)) | (refine bT nI_0 ?_; (conv => whnf)) | (refine bN (nI_ne0 (by decide) (by decide)) ?_; (conv => whnf)) | (refine bP nI_0 ?_; (conv => whnf)) | (refine And.intro (by (first | ((with_reducible show vp_in (nI _) _); first | exact vin _ (by assumption) (by omega) (by omega) | exact vin _ ((show Sh _ from by assumption).2.1 _ (by decide)) (by ((conv => rhs; whnf); (show _ < @OfNat.ofNat Nat _ (instOfNatNat _)); omega)) (by decide)) | (simp only [nI_add, pk_mul]; (with_reducible show vp_in (nI _) _); first | exact vin _ (by assumption) (by omega) (by omega) | exact vin _ ((show Sh _ from by assumption).2.1 _ (by decide)) (by ((conv => rhs; whnf); (show _ < @OfNat.ofNat Nat _ (instOfNatNat _)); omega)) (by decide)) | (simp (disch := omega) only [nI_add, pk_mul, ofN, Nat.add_zero, nI_clamp, nI_leI, nI_ltI, nI_eq, nI_add, rI_s, rI_k, rI_a]; (with_reducible show vp_in (nI _) _); first | exact vin _ (by assumption) (by omega) (by omega) | exact vin _ ((show Sh _ from by assumption).2.1 _ (by decide)) (by ((conv => rhs; whnf); (show _ < @OfNat.ofNat Nat _ (instOfNatNat _)); omega)) (by decide)))) ?_; (conv => whnf))))
      refine hc _ _ _ _ (oc_list (by omega) S' (st := stB z (2 ^ n)) (by omega) ab (fun i hi => (p i hi).1) (fun h1 r1 r2 F1 => ?_))
      (conv => whnf)
      have ec : fnC z n = c := ec
      rw [ec] at hq
      exact hq h1 r1 r2 (Fr_tr F' F1)
    | succ k ih =>
      intro c h' hk hc1 hc0 ec p F'
      have S' := Fr_Sh F' S
      have e1 : chs (mtF z n) (pI1 (2 ^ n - 1) 5) (stC z (2 ^ n)) (k + 1) c = chs (mtF z n) (pI1 (2 ^ n - 1) 5) (stC z (2 ^ n)) k (if popc (k + 1) < popc c ∧ pmt (mtF z n) (k + 1) (stC z (2 ^ n)) (stC z (2 ^ n)) = pI1 (2 ^ n - 1) 5 then k + 1 else c) := rfl
      have b1 : popc (k + 1) ≤ 10 := popc_b ⟨k + 1, hk⟩
      have b2 : popc c ≤ 10 := popc_b ⟨c, hc1⟩
      have dn : nI (k + 1) + (-1) = nI k := by
        rw [show (-1 : Int32) = - nI 1 from by decide, ← Int32.sub_eq_add_neg, pk_sub (by omega)]
        rfl
      refine hW _ _ _ _ _ ?_
      (conv => whnf)
      refine bF (by rw [← nI_0, nI_leI (by omega) (by omega)]; omega) ?_
      (conv => whnf)
      refine hc _ _ _ _ (ok_bitCount (by omega) hk ?_)
      (conv => whnf)
      refine hc _ _ _ _ (ok_bitCount (by omega) hc1 ?_)
      (conv => whnf)
      refine ⟨fun f => ?_, fun f => ?_⟩ <;> rw [nI_leI (by omega) (by omega)] at f <;> (conv => whnf)
      · rw [if_neg (by omega)] at e1
        rw [dn]
        exact W_h rfl (by (try simp (disch := omega) only [nI_add, Nat.add_zero]) <;> rfl) (ih c h' (by omega) hc1 hc0 (ec.trans e1) p F')
      · (repeat (first | (refine And.intro (by (first | assumption | exact (show Sh _ from by assumption).1 _ (by decide) | exact Or.inl rfl | exact Or.inr rfl | exact Nat.le_of_ble_eq_true rfl)) ?_; (conv => whnf)) | (refine Exists.intro _ (And.intro (by (first | assumption | exact (show Sh _ from by assumption).2.2 _ _ _ rfl)) ?_); (conv => whnf)) | (refine bF (nI_ne0 (by decide) (by decide)) ?_; (conv => whnf)) | (refine bT nI_0 ?_; (conv => whnf)) | (refine bN (nI_ne0 (by decide) (by decide)) ?_; (conv => whnf)) | (refine bP nI_0 ?_; (conv => whnf)) | (refine And.intro (by (first | ((with_reducible show vp_in (nI _) _); first | exact vin _ (by assumption) (by omega) (by omega) | exact vin _ ((show Sh _ from by assumption).2.1 _ (by decide)) (by ((conv => rhs; whnf); (show _ < @OfNat.ofNat Nat _ (instOfNatNat _)); omega)) (by decide)) | (simp only [nI_add, pk_mul]; (with_reducible show vp_in (nI _) _); first | exact vin _ (by assumption) (by omega) (by omega) | exact vin _ ((show Sh _ from by assumption).2.1 _ (by decide)) (by ((conv => rhs; whnf); (show _ < @OfNat.ofNat Nat _ (instOfNatNat _)); omega)) (by decide)) | (simp (disch := omega) only [nI_add, pk_mul, ofN, Nat.add_zero, nI_clamp, nI_leI, nI_ltI, nI_eq, nI_add, rI_s, rI_k, rI_a]; (with_reducible show vp_in (nI _) _); first | exact vin _ (by assumption) (by omega) (by omega) | exact vin _ ((show Sh _ from by assumption).2.1 _ (by decide)) (by ((conv => rhs; whnf); (show _ < @OfNat.ofNat Nat _ (instOfNatNat _)); omega)) (by decide)))) ?_; (conv => whnf))))
        have pb := pmt_b (c := k + 1) (fun i (_ : i < stC z (2 ^ n)) => mb i) (stC z (2 ^ n)) (Nat.le_refl _)
        refine hc _ _ _ _ (oc_pairsMet (by omega) S' (mt := mtF z n) (by omega) ab (fun i hi => (p i hi).2) ?_)
        (conv => whnf)
        refine ⟨fun g => ?_, fun g => ?_⟩ <;> rw [nI_eq (by omega) (by omega)] at g <;> (conv => whnf) <;> rw [dn]
        · rw [if_neg (fun y => g y.2)] at e1
          exact W_h rfl (by (try simp (disch := omega) only [nI_add, Nat.add_zero]) <;> rfl) (ih c h' (by omega) hc1 hc0 (ec.trans e1) p F')
        · rw [if_pos ⟨by omega, g⟩] at e1
          exact W_h rfl (by (try simp (disch := omega) only [nI_add, Nat.add_zero]) <;> rfl) (ih (k + 1) h' (by omega) hk (by omega) (ec.trans e1) p F')
  have l1 : ∀ r v h', v + r = 2 ^ n → 1 ≤ v → (∀ i, i < stC z v → ab_I h' 577 i = nI (stB z v i) ∧ ab_I h' 578 i = nI (pI1 (stB z v i) 5)) → Fr fH h h' → W 5 [.ref 576, .int (nI n), .int (nI z), .int (nI (stC z v)), .int (nI v)] h' 0 0 := by
    have fin : ∀ v h', v ≤ 2 ^ n → stC z v = stC z (2 ^ n) → (∀ i, i < stC z v → ab_I h' 577 i = nI (stB z v i) ∧ ab_I h' 578 i = nI (pI1 (stB z v i) 5)) → Fr fH h h' → (∀ i, i < stC z (2 ^ n) → ab_I h' 577 i = nI (stB z (2 ^ n) i) ∧ ab_I h' 578 i = nI (mtF z n i)) := by
      intro v h' hv e p F' i hi
      have q : stB z (2 ^ n) = stB z v := by
        have := stB_eq z (2 ^ n - v) v (by rw [show v + (2 ^ n - v) = 2 ^ n by omega]; exact e.symm)
        rw [show v + (2 ^ n - v) = 2 ^ n by omega] at this
        exact this
      unfold mtF
      rw [q]
      exact p i (by omega)
    intro r
    induction r with
    | zero =>
      intro v h' e hv p F'
      obtain rfl : v = 2 ^ n := by omega
      refine hW _ _ _ _ _ ?_
      (conv => whnf)
      rw [sh1]
      refine bT (nI_le (Nat.le_refl _) (by omega)) ?_
      (conv => whnf)
      rw [sh1, pk_sub (by omega : 1 ≤ 2 ^ n)]
      refine hc _ _ _ _ (oc_pairsIn (by omega) (by omega) ?_)
      (conv => whnf)
      rw [sh2, pk_sub (by omega : 1 ≤ 2 ^ stC z (2 ^ n)), pk_sub (by omega : 1 ≤ 2 ^ stC z (2 ^ n) - 1)]
      exact l2 (2 ^ stC z (2 ^ n) - 1 - 1) (2 ^ stC z (2 ^ n) - 1) h' (by omega) (by omega) (by omega) rfl (fin _ h' (Nat.le_refl _) rfl p F') F'
    | succ r ih =>
      intro v h' e hv p F'
      have S' := Fr_Sh F' S
      have mo : stC z v ≤ stC z (2 ^ n) := by
        have := stC_mo z (r + 1) v
        rw [e] at this
        exact this
      have e1 : stC z (v + 1) = if popc v = z then stC z v + 1 else stC z v := rfl
      have e2 : stB z (v + 1) = if popc v = z then fun j => if j = stC z v then v else stB z v j else stB z v := rfl
      have pb : popc v ≤ 10 := popc_b ⟨v, by omega⟩
      have ih := ih (v + 1)
      refine hW _ _ _ _ _ ?_
      (conv => whnf)
      rw [sh1]
      refine bF (nI_ge (by omega) (by omega)) ?_
      (conv => whnf)
      refine ⟨fun f => ?_, fun f => ?_⟩ <;> rw [nI_leI (by omega) (by omega)] at f <;> (conv => whnf)
      · have ev : stC z v = stC z (2 ^ n) := by omega
        rw [sh1, pk_sub (by omega : 1 ≤ 2 ^ n)]
        refine hc _ _ _ _ (oc_pairsIn (by omega) (by omega) ?_)
        (conv => whnf)
        rw [ev, sh2, pk_sub (by omega : 1 ≤ 2 ^ stC z (2 ^ n)), pk_sub (by omega : 1 ≤ 2 ^ stC z (2 ^ n) - 1)]
        exact l2 (2 ^ stC z (2 ^ n) - 1 - 1) (2 ^ stC z (2 ^ n) - 1) h' (by omega) (by omega) (by omega) rfl (fin v h' (by omega) ev p F') F'
      · refine hc _ _ _ _ (ok_bitCount (by omega) (show v < 1024 by omega) ?_)
        (conv => whnf)
        refine ⟨fun g => ?_, fun g => ?_⟩ <;> rw [nI_eq (by omega) (by omega)] at g <;> (conv => whnf)
        · rw [if_neg g] at e1 e2
          rw [e1, e2] at ih
          exact W_h rfl (by (try simp (disch := omega) only [nI_add, Nat.add_zero]) <;> rfl) (ih h' (by omega) (by omega) p F')
        · rw [if_pos g] at e1 e2
          rw [e1, e2] at ih
          clear hq l2 fin
          refine ⟨S'.1 576 (by decide), 577, S'.2.2 _ _ _ rfl, ?_⟩
          (conv => whnf)
          refine ⟨S'.1 577 (by decide), vin _ (S'.2.1 577 (by decide)) (by show stC z v < 10; omega) (by decide), ?_⟩
          (conv => whnf)
          refine ⟨S'.1 576 (by decide), 578, S'.2.2 _ _ _ rfl, ?_⟩
          (conv => whnf)
          rw [nI_clamp (by omega)]
          obtain ⟨h1, e3⟩ : ∃ h1, h1 = ab_sI h' 577 (stC z v) (nI v) := ⟨_, rfl⟩
          have F1 : Fr fH h' h1 := by rw [e3]; exact Fr_sI ⟨by omega, by omega⟩
          have S1 := Fr_Sh F1 S'
          rw [← e3]
          clear S'
          refine hc _ _ _ _ (oc_pairsIn (by omega) (show v < 32 by omega) ?_)
          (conv => whnf)
          refine ⟨S1.1 578 (by decide), vin _ (S1.2.1 578 (by decide)) (by show stC z v < 10; omega) (by decide), ?_⟩
          (conv => whnf)
          rw [nI_clamp (by omega)]
          refine W_h rfl (by (try simp (disch := omega) only [nI_add, Nat.add_zero]) <;> rfl) (ih _ (by omega) (by omega) (fun i hi => ?_) (Fr_tr F' (Fr_tr F1 (Fr_sI ⟨by omega, by omega⟩))))
          rw [rI_a _ _ _ _ (by decide)]
          show ab_I h1 577 i = nI (if i = stC z v then v else stB z v i) ∧ ab_I (ab_sI h1 578 (stC z v) (nI (pI1 v 5))) 578 i = nI (pI1 (if i = stC z v then v else stB z v i) 5)
          by_cases ei : i = stC z v
          · rw [if_pos ei, ei, rI_s, e3, rI_s]
            exact ⟨rfl, rfl⟩
          · rw [if_neg ei, rI_k _ _ _ (by omega), e3, rI_k _ _ _ (by omega), rI_a _ _ _ _ (by decide)]
            exact p i (by omega)
  have z1 : stC z 1 = 0 := by
    show (if popc 0 = z then 0 + 1 else 0) = 0
    rw [if_neg (fun y => by have : popc 0 = 0 := rfl; omega)]
  have q := l1 (2 ^ n - 1) 1 h (by omega) (by omega) (fun i hi => absurd hi (by omega)) Fr_re
  rw [z1] at q
  exact W_h rfl (by (try simp (disch := omega) only [nI_add, Nat.add_zero]) <;> rfl) q
end HI
