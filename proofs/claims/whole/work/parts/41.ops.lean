/-! ===== contracts: the laws' operations, on both sides (mine) ===== -/
theorem xor10 (a : Int32) : 0 ≤ a ^^^ nI 10 ↔ 0 ≤ a := by
  have m : (a.toBitVec ^^^ (nI 10).toBitVec).msb = a.toBitVec.msb := by
    rw [BitVec.msb_xor, show (nI 10).toBitVec.msb = false by decide, Bool.xor_false]
  rw [BitVec.msb_eq_toInt, BitVec.msb_eq_toInt] at m
  have m2 : decide ((a ^^^ nI 10).toInt < 0) = decide (a.toInt < 0) := m
  have z : (0 : Int32).toInt = 0 := rfl
  rw [fa_le, fa_le, z]
  have m3 := decide_eq_decide.mp m2
  omega
theorem tdiv10 (z : Int) : (0 ≤ z → z.tdiv 10 = z / 10) ∧ (z < 0 → z.tdiv 10 = -((-z) / 10)) := by
  refine ⟨fun h => Int.tdiv_eq_ediv_of_nonneg h, fun h => ?_⟩
  have e : z = -(-z) := by omega
  have q : (-(-z)).tdiv 10 = -((-z) / 10) := by rw [Int.neg_tdiv, Int.tdiv_eq_ediv_of_nonneg (by omega)]
  rw [← e] at q
  exact q
theorem mulb {x y : Int} (hx : -1000000 ≤ x ∧ x ≤ 1000000) (hy : -1000000 ≤ y ∧ y ≤ 1000000) : -1000000000000 ≤ x * y ∧ x * y ≤ 1000000000000 := by
  have h1 : x.natAbs ≤ 1000000 := by omega
  have h2 : y.natAbs ≤ 1000000 := by omega
  have h3 := Nat.mul_le_mul h1 h2
  rw [← Int.natAbs_mul] at h3
  omega
theorem divb {x y : Int} (hx : -1000000 ≤ x ∧ x ≤ 1000000) : -1000000 ≤ x.tdiv y ∧ x.tdiv y ≤ 1000000 := by
  have h : (x.tdiv y).natAbs ≤ x.natAbs := by rw [Int.natAbs_tdiv]; exact Nat.div_le_self _ _
  omega
theorem ldivZ {x y : Int} (hx : -1000000 ≤ x ∧ x ≤ 1000000) (hy : -1000000 ≤ y ∧ y ≤ 1000000) : lZ x / lZ y = lZ (x.tdiv y) := by
  refine lZ_of ?_
  rw [Jvm.Kit.i64_div (by rw [lZ_t (by omega) (by omega)]; omega), lZ_t (by omega) (by omega), lZ_t (by omega) (by omega)]
section OPS
variable {d : Nat} {h : Hp} {Q : Option Value → Hp → Prop}
theorem oc_limited (hd : 2 ≤ d) {v : Int64} {z : Int} {a b : Int32} {lo hi : Int} (hv : v.toInt = z) (ha : a.toInt = lo) (hb : b.toInt = hi) (hq : Q (some (.int (iZ (max lo (min hi z))))) h) : ab_Ok d n_X0_limited [.long v, .int a, .int b] h Q := by
  have A : a.toInt64.toInt = lo := by rw [Int32.toInt_toInt64, ha]
  have B : b.toInt64.toInt = hi := by rw [Int32.toInt_toInt64, hb]
  have e : (if a.toInt64 < (if v < b.toInt64 then v else b.toInt64) then (if v < b.toInt64 then v else b.toInt64) else a.toInt64) = lZ (max lo (min hi z)) := by
    refine lZ_of ?_
    by_cases h1 : v < b.toInt64
    · rw [if_pos h1]
      by_cases h2 : a.toInt64 < v
      · rw [if_pos h2]
        rw [fa_lt64, A, hv] at h2
        rw [fa_lt64, B, hv] at h1
        omega
      · rw [if_neg h2]
        rw [fa_lt64, A, hv] at h2
        rw [fa_lt64, B, hv] at h1
        omega
    · rw [if_neg h1]
      by_cases h2 : a.toInt64 < b.toInt64
      · rw [if_pos h2]
        rw [fa_lt64, A, B] at h2
        rw [fa_lt64, B, hv] at h1
        omega
      · rw [if_neg h2]
        rw [fa_lt64, A, B] at h2
        rw [fa_lt64, B, hv] at h1
        omega
  refine ab_go mr_X0_limited rfl (by omega) (fun call W hc hW => ?_); (conv => whnf)
  refine hc _ _ _ _ (ok_minL (by omega) _ _ ?_)
  (conv => whnf)
  refine hc _ _ _ _ (ok_maxL (by omega) _ _ ?_)
  (conv => whnf)
  rw [e, lZ_i]
  exact hq
theorem oc_windOf (hd : 1 ≤ d) (S : Sh h) {w : Nat → Nat} (hw : ∀ c, c < 12 → ab_I h 12 c = nI (w c)) {z : Int} (b1 : -1000000 ≤ z) (b2 : z ≤ 1000000) (hw9 : ∀ c, c < 12 → w c ≤ 9) (hq : Q (some (.int (iZ (u1 w 2 z)))) h) : ab_Ok d n_X10_windOf [.ref 7, .int (iZ z)] h Q := by
  have u := u1_2 w z
  by_cases hz : 0 ≤ z
  · obtain ⟨n, rfl⟩ : ∃ n : Nat, z = (n : Int) := ⟨z.toNat, by omega⟩
    rw [iZ_n (by omega)]
    refine ab_go mr_X10_windOf rfl (by omega) (fun call W hc hW => ?_); (conv => whnf)
    refine bF (by rw [z0, nI_ltI (by omega) (by omega)]; omega) ?_
    (conv => whnf)
    refine ⟨fun e => ?_, fun e => ?_⟩ <;> simp (disch := omega) only [nI_add, pk_mul, ofN, Nat.add_zero, nI_clamp, nI_leI, nI_ltI, nI_eq] at e <;> (conv => whnf)
    · rw [u, if_neg (by omega)] at hq
      exact hq
    · (repeat (first | (refine And.intro (by (first | assumption | exact (show Sh _ from by assumption).1 _ (by decide) | exact Or.inl rfl | exact Or.inr rfl | exact Nat.le_of_ble_eq_true rfl)) ?_; (conv => whnf)) | (refine Exists.intro _ (And.intro (by (first | assumption | exact (show Sh _ from by assumption).2.2 _ _ _ rfl)) ?_); (conv => whnf)) | (refine bF (nI_ne0 (by decide) (by decide)) ?_; (conv => whnf)) | (refine bT nI_0 ?_; (conv => whnf)) | (refine bN (nI_ne0 (by decide) (by decide)) ?_; (conv => whnf)) | (refine bP nI_0 ?_; (conv => whnf)) | (refine And.intro (by (first | ((with_reducible show vp_in (nI _) _); first | exact vin _ (by assumption) (by omega) (by omega) | exact vin _ ((show Sh _ from by assumption).2.1 _ (by decide)) (by ((conv => rhs; whnf); (show _ < @OfNat.ofNat Nat _ (instOfNatNat _)); omega)) (by decide)) | (simp only [nI_add, pk_mul]; (with_reducible show vp_in (nI _) _); first | exact vin _ (by assumption) (by omega) (by omega) | exact vin _ ((show Sh _ from by assumption).2.1 _ (by decide)) (by ((conv => rhs; whnf); (show _ < @OfNat.ofNat Nat _ (instOfNatNat _)); omega)) (by decide)) | (simp (disch := omega) only [nI_add, pk_mul, ofN, Nat.add_zero, nI_clamp, nI_leI, nI_ltI, nI_eq, nI_add, rI_s, rI_k, rI_a]; (with_reducible show vp_in (nI _) _); first | exact vin _ (by assumption) (by omega) (by omega) | exact vin _ ((show Sh _ from by assumption).2.1 _ (by decide)) (by ((conv => rhs; whnf); (show _ < @OfNat.ofNat Nat _ (instOfNatNat _)); omega)) (by decide)))) ?_; (conv => whnf)) | (refine And.intro (by decide) ?_; (conv => whnf)) | (refine bT (by decide) ?_; (conv => whnf)) | (refine bF (by decide) ?_; (conv => whnf)) | (refine bN (by decide) ?_; (conv => whnf)) | (refine bP (by decide) ?_; (conv => whnf)) | (refine bT (by (simp (disch := omega) only [nI_add, pk_mul, ofN, Nat.add_zero, nI_clamp, nI_leI, nI_ltI, nI_eq, nI_add]); first | done | omega) ?_; (conv => whnf)) | (refine bF (by (simp (disch := omega) only [nI_add, pk_mul, ofN, Nat.add_zero, nI_clamp, nI_leI, nI_ltI, nI_eq, nI_add]); first | done | omega) ?_; (conv => whnf)) | (refine bN (by (simp (disch := omega) only [nI_add, pk_mul, ofN, Nat.add_zero, nI_clamp, nI_leI, nI_ltI, nI_eq, nI_add]); first | done | omega) ?_; (conv => whnf)) | (refine bP (by (simp (disch := omega) only [nI_add, pk_mul, ofN, Nat.add_zero, nI_clamp, nI_leI, nI_ltI, nI_eq, nI_add]); first | done | omega) ?_; (conv => whnf))))
      rw [u, if_pos (by omega), show ((n : Int)).toNat = n by omega, iZ_n (by have := hw9 n (by omega); omega)] at hq
      rw [nI_clamp (by omega), hw n (by omega)]
      exact hq
  · refine ab_go mr_X10_windOf rfl (by omega) (fun call W hc hW => ?_); (conv => whnf)
    refine bT (by rw [fa_lt, iZ_t (by omega) (by omega)]; show z < 0; omega) ?_
    (conv => whnf)
    rw [u, if_neg (by omega)] at hq
    exact hq
theorem oc_windOfN (hd : 1 ≤ d) (S : Sh h) {w : Nat → Nat} (hw : ∀ c, c < 12 → ab_I h 12 c = nI (w c)) {n : Nat} (hn : n < 12) (hq : Q (some (.int (nI (w n)))) h) : ab_Ok d n_X10_windOf [.ref 7, .int (nI n)] h Q := by
  refine ab_go mr_X10_windOf rfl (by omega) (fun call W hc hW => ?_); (conv => whnf)
  refine bF (by rw [z0, nI_ltI (by omega) (by omega)]; omega) ?_
  (conv => whnf)
  refine bF (nI_ge (by omega) (by omega)) ?_
  (conv => whnf)
  (repeat (first | (refine And.intro (by (first | assumption | exact (show Sh _ from by assumption).1 _ (by decide) | exact Or.inl rfl | exact Or.inr rfl | exact Nat.le_of_ble_eq_true rfl)) ?_; (conv => whnf)) | (refine Exists.intro _ (And.intro (by (first | assumption | exact (show Sh _ from by assumption).2.2 _ _ _ rfl)) ?_); (conv => whnf)) | (refine bF (nI_ne0 (by decide) (by decide)) ?_; (conv => whnf)) | (refine bT nI_0 ?_; (conv => whnf)) | (refine bN (nI_ne0 (by decide) (by decide)) ?_; (conv => whnf)) | (refine bP nI_0 ?_; (conv => whnf)) | (refine And.intro (by (first | ((with_reducible show vp_in (nI _) _); first | exact vin _ (by assumption) (by omega) (by omega) | exact vin _ ((show Sh _ from by assumption).2.1 _ (by decide)) (by ((conv => rhs; whnf); (show _ < @OfNat.ofNat Nat _ (instOfNatNat _)); omega)) (by decide)) | (simp only [nI_add, pk_mul]; (with_reducible show vp_in (nI _) _); first | exact vin _ (by assumption) (by omega) (by omega) | exact vin _ ((show Sh _ from by assumption).2.1 _ (by decide)) (by ((conv => rhs; whnf); (show _ < @OfNat.ofNat Nat _ (instOfNatNat _)); omega)) (by decide)) | (simp (disch := omega) only [nI_add, pk_mul, ofN, Nat.add_zero, nI_clamp, nI_leI, nI_ltI, nI_eq, nI_add, rI_s, rI_k, rI_a]; (with_reducible show vp_in (nI _) _); first | exact vin _ (by assumption) (by omega) (by omega) | exact vin _ ((show Sh _ from by assumption).2.1 _ (by decide)) (by ((conv => rhs; whnf); (show _ < @OfNat.ofNat Nat _ (instOfNatNat _)); omega)) (by decide)))) ?_; (conv => whnf)) | (refine And.intro (by decide) ?_; (conv => whnf)) | (refine bT (by decide) ?_; (conv => whnf)) | (refine bF (by decide) ?_; (conv => whnf)) | (refine bN (by decide) ?_; (conv => whnf)) | (refine bP (by decide) ?_; (conv => whnf)) | (refine bT (by (simp (disch := omega) only [nI_add, pk_mul, ofN, Nat.add_zero, nI_clamp, nI_leI, nI_ltI, nI_eq, nI_add]); first | done | omega) ?_; (conv => whnf)) | (refine bF (by (simp (disch := omega) only [nI_add, pk_mul, ofN, Nat.add_zero, nI_clamp, nI_leI, nI_ltI, nI_eq, nI_add]); first | done | omega) ?_; (conv => whnf)) | (refine bN (by (simp (disch := omega) only [nI_add, pk_mul, ofN, Nat.add_zero, nI_clamp, nI_leI, nI_ltI, nI_eq, nI_add]); first | done | omega) ?_; (conv => whnf)) | (refine bP (by (simp (disch := omega) only [nI_add, pk_mul, ofN, Nat.add_zero, nI_clamp, nI_leI, nI_ltI, nI_eq, nI_add]); first | done | omega) ?_; (conv => whnf))))
  rw [nI_clamp (by omega), hw n (by omega)]
  exact hq
theorem oc_named (hd : 2 ≤ d) (S : Sh h) {i x : Nat} (hi : i < 10) (he : ab_I h 14 (tn i) = nI x) (hq : Q (some (.int (nI x))) h) : ab_Ok d n_X0_named [.ref 6, .int (nI (tn i))] h Q := by
  have t : tn i ≤ 17 := by unfold tn; (repeat' split) <;> omega
  refine ab_go mr_X0_named rfl (by omega) (fun call W hc hW => ?_); (conv => whnf)
  refine hc _ _ _ _ (ok_wiN (by omega) 0 17 _ (by omega) (by omega) (fun k k1 k2 ek => ?_) (fun ek => absurd rfl (ek (tn i) (by omega) t)))
  (conv => whnf)
  (repeat (first | (refine And.intro (by (first | assumption | exact (show Sh _ from by assumption).1 _ (by decide) | exact Or.inl rfl | exact Or.inr rfl | exact Nat.le_of_ble_eq_true rfl)) ?_; (conv => whnf)) | (refine Exists.intro _ (And.intro (by (first | assumption | exact (show Sh _ from by assumption).2.2 _ _ _ rfl)) ?_); (conv => whnf)) | (refine bF (nI_ne0 (by decide) (by decide)) ?_; (conv => whnf)) | (refine bT nI_0 ?_; (conv => whnf)) | (refine bN (nI_ne0 (by decide) (by decide)) ?_; (conv => whnf)) | (refine bP nI_0 ?_; (conv => whnf)) | (refine And.intro (by (first | ((with_reducible show vp_in (nI _) _); first | exact vin _ (by assumption) (by omega) (by omega) | exact vin _ ((show Sh _ from by assumption).2.1 _ (by decide)) (by ((conv => rhs; whnf); (show _ < @OfNat.ofNat Nat _ (instOfNatNat _)); omega)) (by decide)) | (simp only [nI_add, pk_mul]; (with_reducible show vp_in (nI _) _); first | exact vin _ (by assumption) (by omega) (by omega) | exact vin _ ((show Sh _ from by assumption).2.1 _ (by decide)) (by ((conv => rhs; whnf); (show _ < @OfNat.ofNat Nat _ (instOfNatNat _)); omega)) (by decide)) | (simp (disch := omega) only [nI_add, pk_mul, ofN, Nat.add_zero, nI_clamp, nI_leI, nI_ltI, nI_eq, nI_add, rI_s, rI_k, rI_a]; (with_reducible show vp_in (nI _) _); first | exact vin _ (by assumption) (by omega) (by omega) | exact vin _ ((show Sh _ from by assumption).2.1 _ (by decide)) (by ((conv => rhs; whnf); (show _ < @OfNat.ofNat Nat _ (instOfNatNat _)); omega)) (by decide)))) ?_; (conv => whnf)) | (refine And.intro (by decide) ?_; (conv => whnf)) | (refine bT (by decide) ?_; (conv => whnf)) | (refine bF (by decide) ?_; (conv => whnf)) | (refine bN (by decide) ?_; (conv => whnf)) | (refine bP (by decide) ?_; (conv => whnf)) | (refine bT (by (simp (disch := omega) only [nI_add, pk_mul, ofN, Nat.add_zero, nI_clamp, nI_leI, nI_ltI, nI_eq, nI_add]); first | done | omega) ?_; (conv => whnf)) | (refine bF (by (simp (disch := omega) only [nI_add, pk_mul, ofN, Nat.add_zero, nI_clamp, nI_leI, nI_ltI, nI_eq, nI_add]); first | done | omega) ?_; (conv => whnf)) | (refine bN (by (simp (disch := omega) only [nI_add, pk_mul, ofN, Nat.add_zero, nI_clamp, nI_leI, nI_ltI, nI_eq, nI_add]); first | done | omega) ?_; (conv => whnf)) | (refine bP (by (simp (disch := omega) only [nI_add, pk_mul, ofN, Nat.add_zero, nI_clamp, nI_leI, nI_ltI, nI_eq, nI_add]); first | done | omega) ?_; (conv => whnf))))
  rw [nI_clamp (by omega), he]
  exact hq
theorem ok_fDiv (hd : 1 ≤ d) {z : Int} (b1 : -1000000 ≤ z) (b2 : z ≤ 1000000) (hq : Q (some (.int (iZ (z / 10)))) h) : ab_Ok d n_J9_floorDiv_7cf53 [.int (iZ z), .int (nI 10)] h Q := by
  have Z : (iZ z).toInt = z := iZ_t (by omega) (by omega)
  have T : (nI 10).toInt = 10 := rfl
  have D : (iZ z / nI 10).toInt = z.tdiv 10 := by rw [Jvm.Kit.i32_div (by rw [Z]; omega), Z, T]
  have t := tdiv10 z
  refine ab_go mr_J9_floorDiv_7cf53 rfl (by omega) (fun call W hc hW => ?_); (conv => whnf)
  refine ⟨by decide, ?_⟩
  (conv => whnf)
  rw [xor10]
  have z1 : (0 : Int32).toInt = 0 := rfl
  refine ⟨fun e => ?_, fun e => ?_⟩ <;> rw [fa_le, Z, z1] at e <;> (conv => whnf)
  · rw [iZ_of (D.trans (t.1 e))]
    exact hq
  · have M : (iZ z / nI 10 * nI 10).toInt = z.tdiv 10 * 10 := by rw [Jvm.Kit.i32_mul (by rw [D, T]; omega) (by rw [D, T]; omega), D, T]
    refine ⟨fun f => ?_, fun f => ?_⟩ <;> rw [fa_eq, M, Z] at f <;> (conv => whnf)
    · rw [iZ_of (D.trans (show z.tdiv 10 = z / 10 by omega))]
      exact hq
    · have D1 : (iZ z / nI 10 - nI 1).toInt = z / 10 := by
        have o1 : (nI 1).toInt = 1 := rfl
        rw [Jvm.Kit.i32_sub (by rw [D, o1]; omega) (by rw [D, o1]; omega), D, o1]
        omega
      rw [iZ_of D1]
      exact hq
theorem oc_ofOne (hd : 2 ≤ d) (S : Sh h) {w : Nat → Nat} (hw : ∀ c, c < 12 → ab_I h 12 c = nI (w c)) (hw9 : ∀ c, c < 12 → w c ≤ 9) {o : Nat} (ho : o = 2 ∨ o = 4 ∨ o = 5 ∨ o = 20) {z : Int} (b1 : -1000000 ≤ z) (b2 : z ≤ 1000000) (hq : Q (some (.int (iZ (u1 w o z)))) h) : ab_Ok d n_X0_ofOne [.ref 6, .int (nI (tu o)), .int (iZ z)] h Q := by
  rcases ho with rfl | rfl | rfl | rfl
  · show ab_Ok d n_X0_ofOne [.ref 6, .int (nI 29), .int (iZ z)] h Q
    refine ab_go mr_X0_ofOne rfl (by omega) (fun call W hc hW => ?_); (conv => whnf)
    (repeat (first | (refine And.intro (by (first | assumption | exact (show Sh _ from by assumption).1 _ (by decide) | exact Or.inl rfl | exact Or.inr rfl | exact Nat.le_of_ble_eq_true rfl)) ?_; (conv => whnf)) | (refine Exists.intro _ (And.intro (by (first | assumption | exact (show Sh _ from by assumption).2.2 _ _ _ rfl)) ?_); (conv => whnf)) | (refine bF (nI_ne0 (by decide) (by decide)) ?_; (conv => whnf)) | (refine bT nI_0 ?_; (conv => whnf)) | (refine bN (nI_ne0 (by decide) (by decide)) ?_; (conv => whnf)) | (refine bP nI_0 ?_; (conv => whnf)) | (refine And.intro (by (first | ((with_reducible show vp_in (nI _) _); first | exact vin _ (by assumption) (by omega) (by omega) | exact vin _ ((show Sh _ from by assumption).2.1 _ (by decide)) (by ((conv => rhs; whnf); (show _ < @OfNat.ofNat Nat _ (instOfNatNat _)); omega)) (by decide)) | (simp only [nI_add, pk_mul]; (with_reducible show vp_in (nI _) _); first | exact vin _ (by assumption) (by omega) (by omega) | exact vin _ ((show Sh _ from by assumption).2.1 _ (by decide)) (by ((conv => rhs; whnf); (show _ < @OfNat.ofNat Nat _ (instOfNatNat _)); omega)) (by decide)) | (simp (disch := omega) only [nI_add, pk_mul, ofN, Nat.add_zero, nI_clamp, nI_leI, nI_ltI, nI_eq, nI_add, rI_s, rI_k, rI_a]; (with_reducible show vp_in (nI _) _); first | exact vin _ (by assumption) (by omega) (by omega) | exact vin _ ((show Sh _ from by assumption).2.1 _ (by decide)) (by ((conv => rhs; whnf); (show _ < @OfNat.ofNat Nat _ (instOfNatNat _)); omega)) (by decide)))) ?_; (conv => whnf)) | (refine And.intro (by decide) ?_; (conv => whnf)) | (refine bT (by decide) ?_; (conv => whnf)) | (refine bF (by decide) ?_; (conv => whnf)) | (refine bN (by decide) ?_; (conv => whnf)) | (refine bP (by decide) ?_; (conv => whnf)) | (refine bT (by (simp (disch := omega) only [nI_add, pk_mul, ofN, Nat.add_zero, nI_clamp, nI_leI, nI_ltI, nI_eq, nI_add]); first | done | omega) ?_; (conv => whnf)) | (refine bF (by (simp (disch := omega) only [nI_add, pk_mul, ofN, Nat.add_zero, nI_clamp, nI_leI, nI_ltI, nI_eq, nI_add]); first | done | omega) ?_; (conv => whnf)) | (refine bN (by (simp (disch := omega) only [nI_add, pk_mul, ofN, Nat.add_zero, nI_clamp, nI_leI, nI_ltI, nI_eq, nI_add]); first | done | omega) ?_; (conv => whnf)) | (refine bP (by (simp (disch := omega) only [nI_add, pk_mul, ofN, Nat.add_zero, nI_clamp, nI_leI, nI_ltI, nI_eq, nI_add]); first | done | omega) ?_; (conv => whnf))))
    exact hc _ _ _ _ (oc_windOf (by omega) S hw b1 b2 hw9 hq)
  · show ab_Ok d n_X0_ofOne [.ref 6, .int (nI 28), .int (iZ z)] h Q
    refine ab_go mr_X0_ofOne rfl (by omega) (fun call W hc hW => ?_); (conv => whnf)
    (repeat (first | (refine And.intro (by (first | assumption | exact (show Sh _ from by assumption).1 _ (by decide) | exact Or.inl rfl | exact Or.inr rfl | exact Nat.le_of_ble_eq_true rfl)) ?_; (conv => whnf)) | (refine Exists.intro _ (And.intro (by (first | assumption | exact (show Sh _ from by assumption).2.2 _ _ _ rfl)) ?_); (conv => whnf)) | (refine bF (nI_ne0 (by decide) (by decide)) ?_; (conv => whnf)) | (refine bT nI_0 ?_; (conv => whnf)) | (refine bN (nI_ne0 (by decide) (by decide)) ?_; (conv => whnf)) | (refine bP nI_0 ?_; (conv => whnf)) | (refine And.intro (by (first | ((with_reducible show vp_in (nI _) _); first | exact vin _ (by assumption) (by omega) (by omega) | exact vin _ ((show Sh _ from by assumption).2.1 _ (by decide)) (by ((conv => rhs; whnf); (show _ < @OfNat.ofNat Nat _ (instOfNatNat _)); omega)) (by decide)) | (simp only [nI_add, pk_mul]; (with_reducible show vp_in (nI _) _); first | exact vin _ (by assumption) (by omega) (by omega) | exact vin _ ((show Sh _ from by assumption).2.1 _ (by decide)) (by ((conv => rhs; whnf); (show _ < @OfNat.ofNat Nat _ (instOfNatNat _)); omega)) (by decide)) | (simp (disch := omega) only [nI_add, pk_mul, ofN, Nat.add_zero, nI_clamp, nI_leI, nI_ltI, nI_eq, nI_add, rI_s, rI_k, rI_a]; (with_reducible show vp_in (nI _) _); first | exact vin _ (by assumption) (by omega) (by omega) | exact vin _ ((show Sh _ from by assumption).2.1 _ (by decide)) (by ((conv => rhs; whnf); (show _ < @OfNat.ofNat Nat _ (instOfNatNat _)); omega)) (by decide)))) ?_; (conv => whnf)) | (refine And.intro (by decide) ?_; (conv => whnf)) | (refine bT (by decide) ?_; (conv => whnf)) | (refine bF (by decide) ?_; (conv => whnf)) | (refine bN (by decide) ?_; (conv => whnf)) | (refine bP (by decide) ?_; (conv => whnf)) | (refine bT (by (simp (disch := omega) only [nI_add, pk_mul, ofN, Nat.add_zero, nI_clamp, nI_leI, nI_ltI, nI_eq, nI_add]); first | done | omega) ?_; (conv => whnf)) | (refine bF (by (simp (disch := omega) only [nI_add, pk_mul, ofN, Nat.add_zero, nI_clamp, nI_leI, nI_ltI, nI_eq, nI_add]); first | done | omega) ?_; (conv => whnf)) | (refine bN (by (simp (disch := omega) only [nI_add, pk_mul, ofN, Nat.add_zero, nI_clamp, nI_leI, nI_ltI, nI_eq, nI_add]); first | done | omega) ?_; (conv => whnf)) | (refine bP (by (simp (disch := omega) only [nI_add, pk_mul, ofN, Nat.add_zero, nI_clamp, nI_leI, nI_ltI, nI_eq, nI_add]); first | done | omega) ?_; (conv => whnf))))
    rw [u1_4] at hq
    exact hc _ _ _ _ (ok_fDiv (by omega) b1 b2 hq)
  · show ab_Ok d n_X0_ofOne [.ref 6, .int (nI 133), .int (iZ z)] h Q
    refine ab_go mr_X0_ofOne rfl (by omega) (fun call W hc hW => ?_); (conv => whnf)
    (repeat (first | (refine And.intro (by (first | assumption | exact (show Sh _ from by assumption).1 _ (by decide) | exact Or.inl rfl | exact Or.inr rfl | exact Nat.le_of_ble_eq_true rfl)) ?_; (conv => whnf)) | (refine Exists.intro _ (And.intro (by (first | assumption | exact (show Sh _ from by assumption).2.2 _ _ _ rfl)) ?_); (conv => whnf)) | (refine bF (nI_ne0 (by decide) (by decide)) ?_; (conv => whnf)) | (refine bT nI_0 ?_; (conv => whnf)) | (refine bN (nI_ne0 (by decide) (by decide)) ?_; (conv => whnf)) | (refine bP nI_0 ?_; (conv => whnf)) | (refine And.intro (by (first | ((with_reducible show vp_in (nI _) _); first | exact vin _ (by assumption) (by omega) (by omega) | exact vin _ ((show Sh _ from by assumption).2.1 _ (by decide)) (by ((conv => rhs; whnf); (show _ < @OfNat.ofNat Nat _ (instOfNatNat _)); omega)) (by decide)) | (simp only [nI_add, pk_mul]; (with_reducible show vp_in (nI _) _); first | exact vin _ (by assumption) (by omega) (by omega) | exact vin _ ((show Sh _ from by assumption).2.1 _ (by decide)) (by ((conv => rhs; whnf); (show _ < @OfNat.ofNat Nat _ (instOfNatNat _)); omega)) (by decide)) | (simp (disch := omega) only [nI_add, pk_mul, ofN, Nat.add_zero, nI_clamp, nI_leI, nI_ltI, nI_eq, nI_add, rI_s, rI_k, rI_a]; (with_reducible show vp_in (nI _) _); first | exact vin _ (by assumption) (by omega) (by omega) | exact vin _ ((show Sh _ from by assumption).2.1 _ (by decide)) (by ((conv => rhs; whnf); (show _ < @OfNat.ofNat Nat _ (instOfNatNat _)); omega)) (by decide)))) ?_; (conv => whnf)) | (refine And.intro (by decide) ?_; (conv => whnf)) | (refine bT (by decide) ?_; (conv => whnf)) | (refine bF (by decide) ?_; (conv => whnf)) | (refine bN (by decide) ?_; (conv => whnf)) | (refine bP (by decide) ?_; (conv => whnf)) | (refine bT (by (simp (disch := omega) only [nI_add, pk_mul, ofN, Nat.add_zero, nI_clamp, nI_leI, nI_ltI, nI_eq, nI_add]); first | done | omega) ?_; (conv => whnf)) | (refine bF (by (simp (disch := omega) only [nI_add, pk_mul, ofN, Nat.add_zero, nI_clamp, nI_leI, nI_ltI, nI_eq, nI_add]); first | done | omega) ?_; (conv => whnf)) | (refine bN (by (simp (disch := omega) only [nI_add, pk_mul, ofN, Nat.add_zero, nI_clamp, nI_leI, nI_ltI, nI_eq, nI_add]); first | done | omega) ?_; (conv => whnf)) | (refine bP (by (simp (disch := omega) only [nI_add, pk_mul, ofN, Nat.add_zero, nI_clamp, nI_leI, nI_ltI, nI_eq, nI_add]); first | done | omega) ?_; (conv => whnf))))
    rw [show -iZ z = iZ (-z) from (Int32.ofInt_neg z).symm]
    rw [u1_5] at hq
    exact hq
  · show ab_Ok d n_X0_ofOne [.ref 6, .int (nI 27), .int (iZ z)] h Q
    have u := u1_20 w z
    refine ab_go mr_X0_ofOne rfl (by omega) (fun call W hc hW => ?_); (conv => whnf)
    (repeat (first | (refine And.intro (by (first | assumption | exact (show Sh _ from by assumption).1 _ (by decide) | exact Or.inl rfl | exact Or.inr rfl | exact Nat.le_of_ble_eq_true rfl)) ?_; (conv => whnf)) | (refine Exists.intro _ (And.intro (by (first | assumption | exact (show Sh _ from by assumption).2.2 _ _ _ rfl)) ?_); (conv => whnf)) | (refine bF (nI_ne0 (by decide) (by decide)) ?_; (conv => whnf)) | (refine bT nI_0 ?_; (conv => whnf)) | (refine bN (nI_ne0 (by decide) (by decide)) ?_; (conv => whnf)) | (refine bP nI_0 ?_; (conv => whnf)) | (refine And.intro (by (first | ((with_reducible show vp_in (nI _) _); first | exact vin _ (by assumption) (by omega) (by omega) | exact vin _ ((show Sh _ from by assumption).2.1 _ (by decide)) (by ((conv => rhs; whnf); (show _ < @OfNat.ofNat Nat _ (instOfNatNat _)); omega)) (by decide)) | (simp only [nI_add, pk_mul]; (with_reducible show vp_in (nI _) _); first | exact vin _ (by assumption) (by omega) (by omega) | exact vin _ ((show Sh _ from by assumption).2.1 _ (by decide)) (by ((conv => rhs; whnf); (show _ < @OfNat.ofNat Nat _ (instOfNatNat _)); omega)) (by decide)) | (simp (disch := omega) only [nI_add, pk_mul, ofN, Nat.add_zero, nI_clamp, nI_leI, nI_ltI, nI_eq, nI_add, rI_s, rI_k, rI_a]; (with_reducible show vp_in (nI _) _); first | exact vin _ (by assumption) (by omega) (by omega) | exact vin _ ((show Sh _ from by assumption).2.1 _ (by decide)) (by ((conv => rhs; whnf); (show _ < @OfNat.ofNat Nat _ (instOfNatNat _)); omega)) (by decide)))) ?_; (conv => whnf)) | (refine And.intro (by decide) ?_; (conv => whnf)) | (refine bT (by decide) ?_; (conv => whnf)) | (refine bF (by decide) ?_; (conv => whnf)) | (refine bN (by decide) ?_; (conv => whnf)) | (refine bP (by decide) ?_; (conv => whnf)) | (refine bT (by (simp (disch := omega) only [nI_add, pk_mul, ofN, Nat.add_zero, nI_clamp, nI_leI, nI_ltI, nI_eq, nI_add]); first | done | omega) ?_; (conv => whnf)) | (refine bF (by (simp (disch := omega) only [nI_add, pk_mul, ofN, Nat.add_zero, nI_clamp, nI_leI, nI_ltI, nI_eq, nI_add]); first | done | omega) ?_; (conv => whnf)) | (refine bN (by (simp (disch := omega) only [nI_add, pk_mul, ofN, Nat.add_zero, nI_clamp, nI_leI, nI_ltI, nI_eq, nI_add]); first | done | omega) ?_; (conv => whnf)) | (refine bP (by (simp (disch := omega) only [nI_add, pk_mul, ofN, Nat.add_zero, nI_clamp, nI_leI, nI_ltI, nI_eq, nI_add]); first | done | omega) ?_; (conv => whnf))))
    have z1 : (0 : Int32).toInt = 0 := rfl
    refine ⟨fun e => ?_, fun e => ?_⟩ <;> rw [fa_eq, iZ_t (by omega) (by omega), z1] at e <;> (conv => whnf)
    · rw [u, if_neg e] at hq
      exact hq
    · rw [u, if_pos e] at hq
      exact hq
theorem oc_tw6 (hd : 1 ≤ d) {x y : Int} (hx : -1000000 ≤ x ∧ x ≤ 1000000) (hy : -1000000 ≤ y ∧ y ≤ 1000000) (hq : ∀ z : Int, -1000000000000 ≤ z → z ≤ 1000000000000 → clp z = b2 6 x y → Q (some (.long (lZ z))) h) : ab_Ok d n_X0_ofTwo [.int (nI 43), .long (lZ x), .long (lZ y)] h Q := by
  have X : (lZ x).toInt = x := lZ_t (by omega) (by omega)
  have Y : (lZ y).toInt = y := lZ_t (by omega) (by omega)
  have c1 : clp 1 = 1 := by unfold clp; (repeat' split) <;> omega
  have c0 : clp 0 = 0 := by unfold clp; (repeat' split) <;> omega
  have l1 : lZ 1 = lN 1 := by decide
  have l0 : lZ 0 = lN 0 := by decide
  have q1 : b2 6 x y = 1 → Q (some (.long (lN 1))) h := fun e => by rw [← l1]; exact hq 1 (by omega) (by omega) (by rw [c1, e])
  have q0 : b2 6 x y = 0 → Q (some (.long (lN 0))) h := fun e => by rw [← l0]; exact hq 0 (by omega) (by omega) (by rw [c0, e])
  refine ab_go mr_X0_ofTwo rfl (by omega) (fun call W hc hW => ?_); (conv => whnf)
  (repeat (first | (refine And.intro (by (first | assumption | exact (show Sh _ from by assumption).1 _ (by decide) | exact Or.inl rfl | exact Or.inr rfl | exact Nat.le_of_ble_eq_true rfl)) ?_; (conv => whnf)) | (refine Exists.intro _ (And.intro (by (first | assumption | exact (show Sh _ from by assumption).2.2 _ _ _ rfl)) ?_); (conv => whnf)) | (refine bF (nI_ne0 (by decide) (by decide)) ?_; (conv => whnf)) | (refine bT nI_0 ?_; (conv => whnf)) | (refine bN (nI_ne0 (by decide) (by decide)) ?_; (conv => whnf)) | (refine bP nI_0 ?_; (conv => whnf)) | (refine And.intro (by (first | ((with_reducible show vp_in (nI _) _); first | exact vin _ (by assumption) (by omega) (by omega) | exact vin _ ((show Sh _ from by assumption).2.1 _ (by decide)) (by ((conv => rhs; whnf); (show _ < @OfNat.ofNat Nat _ (instOfNatNat _)); omega)) (by decide)) | (simp only [nI_add, pk_mul]; (with_reducible show vp_in (nI _) _); first | exact vin _ (by assumption) (by omega) (by omega) | exact vin _ ((show Sh _ from by assumption).2.1 _ (by decide)) (by ((conv => rhs; whnf); (show _ < @OfNat.ofNat Nat _ (instOfNatNat _)); omega)) (by decide)) | (simp (disch := omega) only [nI_add, pk_mul, ofN, Nat.add_zero, nI_clamp, nI_leI, nI_ltI, nI_eq, nI_add, rI_s, rI_k, rI_a]; (with_reducible show vp_in (nI _) _); first | exact vin _ (by assumption) (by omega) (by omega) | exact vin _ ((show Sh _ from by assumption).2.1 _ (by decide)) (by ((conv => rhs; whnf); (show _ < @OfNat.ofNat Nat _ (instOfNatNat _)); omega)) (by decide)))) ?_; (conv => whnf)) | (refine And.intro (by decide) ?_; (conv => whnf)) | (refine bT (by decide) ?_; (conv => whnf)) | (refine bF (by decide) ?_; (conv => whnf)) | (refine bN (by decide) ?_; (conv => whnf)) | (refine bP (by decide) ?_; (conv => whnf)) | (refine bT (by (simp (disch := omega) only [nI_add, pk_mul, ofN, Nat.add_zero, nI_clamp, nI_leI, nI_ltI, nI_eq, nI_add]); first | done | omega) ?_; (conv => whnf)) | (refine bF (by (simp (disch := omega) only [nI_add, pk_mul, ofN, Nat.add_zero, nI_clamp, nI_leI, nI_ltI, nI_eq, nI_add]); first | done | omega) ?_; (conv => whnf)) | (refine bN (by (simp (disch := omega) only [nI_add, pk_mul, ofN, Nat.add_zero, nI_clamp, nI_leI, nI_ltI, nI_eq, nI_add]); first | done | omega) ?_; (conv => whnf)) | (refine bP (by (simp (disch := omega) only [nI_add, pk_mul, ofN, Nat.add_zero, nI_clamp, nI_leI, nI_ltI, nI_eq, nI_add]); first | done | omega) ?_; (conv => whnf))))
  rw [show lZ x + lZ y = lZ (x + y) from (Int64.ofInt_add x y).symm]
  exact hq _ (by omega) (by omega) (b2_6 x y).symm
theorem oc_tw7 (hd : 1 ≤ d) {x y : Int} (hx : -1000000 ≤ x ∧ x ≤ 1000000) (hy : -1000000 ≤ y ∧ y ≤ 1000000) (hq : ∀ z : Int, -1000000000000 ≤ z → z ≤ 1000000000000 → clp z = b2 7 x y → Q (some (.long (lZ z))) h) : ab_Ok d n_X0_ofTwo [.int (nI 45), .long (lZ x), .long (lZ y)] h Q := by
  have X : (lZ x).toInt = x := lZ_t (by omega) (by omega)
  have Y : (lZ y).toInt = y := lZ_t (by omega) (by omega)
  have c1 : clp 1 = 1 := by unfold clp; (repeat' split) <;> omega
  have c0 : clp 0 = 0 := by unfold clp; (repeat' split) <;> omega
  have l1 : lZ 1 = lN 1 := by decide
  have l0 : lZ 0 = lN 0 := by decide
  have q1 : b2 7 x y = 1 → Q (some (.long (lN 1))) h := fun e => by rw [← l1]; exact hq 1 (by omega) (by omega) (by rw [c1, e])
  have q0 : b2 7 x y = 0 → Q (some (.long (lN 0))) h := fun e => by rw [← l0]; exact hq 0 (by omega) (by omega) (by rw [c0, e])
  refine ab_go mr_X0_ofTwo rfl (by omega) (fun call W hc hW => ?_); (conv => whnf)
  (repeat (first | (refine And.intro (by (first | assumption | exact (show Sh _ from by assumption).1 _ (by decide) | exact Or.inl rfl | exact Or.inr rfl | exact Nat.le_of_ble_eq_true rfl)) ?_; (conv => whnf)) | (refine Exists.intro _ (And.intro (by (first | assumption | exact (show Sh _ from by assumption).2.2 _ _ _ rfl)) ?_); (conv => whnf)) | (refine bF (nI_ne0 (by decide) (by decide)) ?_; (conv => whnf)) | (refine bT nI_0 ?_; (conv => whnf)) | (refine bN (nI_ne0 (by decide) (by decide)) ?_; (conv => whnf)) | (refine bP nI_0 ?_; (conv => whnf)) | (refine And.intro (by (first | ((with_reducible show vp_in (nI _) _); first | exact vin _ (by assumption) (by omega) (by omega) | exact vin _ ((show Sh _ from by assumption).2.1 _ (by decide)) (by ((conv => rhs; whnf); (show _ < @OfNat.ofNat Nat _ (instOfNatNat _)); omega)) (by decide)) | (simp only [nI_add, pk_mul]; (with_reducible show vp_in (nI _) _); first | exact vin _ (by assumption) (by omega) (by omega) | exact vin _ ((show Sh _ from by assumption).2.1 _ (by decide)) (by ((conv => rhs; whnf); (show _ < @OfNat.ofNat Nat _ (instOfNatNat _)); omega)) (by decide)) | (simp (disch := omega) only [nI_add, pk_mul, ofN, Nat.add_zero, nI_clamp, nI_leI, nI_ltI, nI_eq, nI_add, rI_s, rI_k, rI_a]; (with_reducible show vp_in (nI _) _); first | exact vin _ (by assumption) (by omega) (by omega) | exact vin _ ((show Sh _ from by assumption).2.1 _ (by decide)) (by ((conv => rhs; whnf); (show _ < @OfNat.ofNat Nat _ (instOfNatNat _)); omega)) (by decide)))) ?_; (conv => whnf)) | (refine And.intro (by decide) ?_; (conv => whnf)) | (refine bT (by decide) ?_; (conv => whnf)) | (refine bF (by decide) ?_; (conv => whnf)) | (refine bN (by decide) ?_; (conv => whnf)) | (refine bP (by decide) ?_; (conv => whnf)) | (refine bT (by (simp (disch := omega) only [nI_add, pk_mul, ofN, Nat.add_zero, nI_clamp, nI_leI, nI_ltI, nI_eq, nI_add]); first | done | omega) ?_; (conv => whnf)) | (refine bF (by (simp (disch := omega) only [nI_add, pk_mul, ofN, Nat.add_zero, nI_clamp, nI_leI, nI_ltI, nI_eq, nI_add]); first | done | omega) ?_; (conv => whnf)) | (refine bN (by (simp (disch := omega) only [nI_add, pk_mul, ofN, Nat.add_zero, nI_clamp, nI_leI, nI_ltI, nI_eq, nI_add]); first | done | omega) ?_; (conv => whnf)) | (refine bP (by (simp (disch := omega) only [nI_add, pk_mul, ofN, Nat.add_zero, nI_clamp, nI_leI, nI_ltI, nI_eq, nI_add]); first | done | omega) ?_; (conv => whnf))))
  rw [show lZ x - lZ y = lZ (x - y) from (Int64.ofInt_sub x y).symm]
  exact hq _ (by omega) (by omega) (b2_7 x y).symm
theorem oc_tw8 (hd : 1 ≤ d) {x y : Int} (hx : -1000000 ≤ x ∧ x ≤ 1000000) (hy : -1000000 ≤ y ∧ y ≤ 1000000) (hq : ∀ z : Int, -1000000000000 ≤ z → z ≤ 1000000000000 → clp z = b2 8 x y → Q (some (.long (lZ z))) h) : ab_Ok d n_X0_ofTwo [.int (nI 42), .long (lZ x), .long (lZ y)] h Q := by
  have X : (lZ x).toInt = x := lZ_t (by omega) (by omega)
  have Y : (lZ y).toInt = y := lZ_t (by omega) (by omega)
  have c1 : clp 1 = 1 := by unfold clp; (repeat' split) <;> omega
  have c0 : clp 0 = 0 := by unfold clp; (repeat' split) <;> omega
  have l1 : lZ 1 = lN 1 := by decide
  have l0 : lZ 0 = lN 0 := by decide
  have q1 : b2 8 x y = 1 → Q (some (.long (lN 1))) h := fun e => by rw [← l1]; exact hq 1 (by omega) (by omega) (by rw [c1, e])
  have q0 : b2 8 x y = 0 → Q (some (.long (lN 0))) h := fun e => by rw [← l0]; exact hq 0 (by omega) (by omega) (by rw [c0, e])
  have m := mulb hx hy
  refine ab_go mr_X0_ofTwo rfl (by omega) (fun call W hc hW => ?_); (conv => whnf)
  (repeat (first | (refine And.intro (by (first | assumption | exact (show Sh _ from by assumption).1 _ (by decide) | exact Or.inl rfl | exact Or.inr rfl | exact Nat.le_of_ble_eq_true rfl)) ?_; (conv => whnf)) | (refine Exists.intro _ (And.intro (by (first | assumption | exact (show Sh _ from by assumption).2.2 _ _ _ rfl)) ?_); (conv => whnf)) | (refine bF (nI_ne0 (by decide) (by decide)) ?_; (conv => whnf)) | (refine bT nI_0 ?_; (conv => whnf)) | (refine bN (nI_ne0 (by decide) (by decide)) ?_; (conv => whnf)) | (refine bP nI_0 ?_; (conv => whnf)) | (refine And.intro (by (first | ((with_reducible show vp_in (nI _) _); first | exact vin _ (by assumption) (by omega) (by omega) | exact vin _ ((show Sh _ from by assumption).2.1 _ (by decide)) (by ((conv => rhs; whnf); (show _ < @OfNat.ofNat Nat _ (instOfNatNat _)); omega)) (by decide)) | (simp only [nI_add, pk_mul]; (with_reducible show vp_in (nI _) _); first | exact vin _ (by assumption) (by omega) (by omega) | exact vin _ ((show Sh _ from by assumption).2.1 _ (by decide)) (by ((conv => rhs; whnf); (show _ < @OfNat.ofNat Nat _ (instOfNatNat _)); omega)) (by decide)) | (simp (disch := omega) only [nI_add, pk_mul, ofN, Nat.add_zero, nI_clamp, nI_leI, nI_ltI, nI_eq, nI_add, rI_s, rI_k, rI_a]; (with_reducible show vp_in (nI _) _); first | exact vin _ (by assumption) (by omega) (by omega) | exact vin _ ((show Sh _ from by assumption).2.1 _ (by decide)) (by ((conv => rhs; whnf); (show _ < @OfNat.ofNat Nat _ (instOfNatNat _)); omega)) (by decide)))) ?_; (conv => whnf)) | (refine And.intro (by decide) ?_; (conv => whnf)) | (refine bT (by decide) ?_; (conv => whnf)) | (refine bF (by decide) ?_; (conv => whnf)) | (refine bN (by decide) ?_; (conv => whnf)) | (refine bP (by decide) ?_; (conv => whnf)) | (refine bT (by (simp (disch := omega) only [nI_add, pk_mul, ofN, Nat.add_zero, nI_clamp, nI_leI, nI_ltI, nI_eq, nI_add]); first | done | omega) ?_; (conv => whnf)) | (refine bF (by (simp (disch := omega) only [nI_add, pk_mul, ofN, Nat.add_zero, nI_clamp, nI_leI, nI_ltI, nI_eq, nI_add]); first | done | omega) ?_; (conv => whnf)) | (refine bN (by (simp (disch := omega) only [nI_add, pk_mul, ofN, Nat.add_zero, nI_clamp, nI_leI, nI_ltI, nI_eq, nI_add]); first | done | omega) ?_; (conv => whnf)) | (refine bP (by (simp (disch := omega) only [nI_add, pk_mul, ofN, Nat.add_zero, nI_clamp, nI_leI, nI_ltI, nI_eq, nI_add]); first | done | omega) ?_; (conv => whnf))))
  rw [show lZ x * lZ y = lZ (x * y) from (Int64.ofInt_mul x y).symm]
  exact hq _ m.1 m.2 (b2_8 x y).symm
theorem oc_tw9 (hd : 1 ≤ d) {x y : Int} (hx : -1000000 ≤ x ∧ x ≤ 1000000) (hy : -1000000 ≤ y ∧ y ≤ 1000000) (hq : ∀ z : Int, -1000000000000 ≤ z → z ≤ 1000000000000 → clp z = b2 9 x y → Q (some (.long (lZ z))) h) : ab_Ok d n_X0_ofTwo [.int (nI 47), .long (lZ x), .long (lZ y)] h Q := by
  have X : (lZ x).toInt = x := lZ_t (by omega) (by omega)
  have Y : (lZ y).toInt = y := lZ_t (by omega) (by omega)
  have c1 : clp 1 = 1 := by unfold clp; (repeat' split) <;> omega
  have c0 : clp 0 = 0 := by unfold clp; (repeat' split) <;> omega
  have l1 : lZ 1 = lN 1 := by decide
  have l0 : lZ 0 = lN 0 := by decide
  have q1 : b2 9 x y = 1 → Q (some (.long (lN 1))) h := fun e => by rw [← l1]; exact hq 1 (by omega) (by omega) (by rw [c1, e])
  have q0 : b2 9 x y = 0 → Q (some (.long (lN 0))) h := fun e => by rw [← l0]; exact hq 0 (by omega) (by omega) (by rw [c0, e])
  have B := b2_9 x y
  have dv := @divb x y hx
  have L0 : (lN 0).toInt = 0 := rfl
  refine ab_go mr_X0_ofTwo rfl (by omega) (fun call W hc hW => ?_); (conv => whnf)
  (repeat (first | (refine And.intro (by (first | assumption | exact (show Sh _ from by assumption).1 _ (by decide) | exact Or.inl rfl | exact Or.inr rfl | exact Nat.le_of_ble_eq_true rfl)) ?_; (conv => whnf)) | (refine Exists.intro _ (And.intro (by (first | assumption | exact (show Sh _ from by assumption).2.2 _ _ _ rfl)) ?_); (conv => whnf)) | (refine bF (nI_ne0 (by decide) (by decide)) ?_; (conv => whnf)) | (refine bT nI_0 ?_; (conv => whnf)) | (refine bN (nI_ne0 (by decide) (by decide)) ?_; (conv => whnf)) | (refine bP nI_0 ?_; (conv => whnf)) | (refine And.intro (by (first | ((with_reducible show vp_in (nI _) _); first | exact vin _ (by assumption) (by omega) (by omega) | exact vin _ ((show Sh _ from by assumption).2.1 _ (by decide)) (by ((conv => rhs; whnf); (show _ < @OfNat.ofNat Nat _ (instOfNatNat _)); omega)) (by decide)) | (simp only [nI_add, pk_mul]; (with_reducible show vp_in (nI _) _); first | exact vin _ (by assumption) (by omega) (by omega) | exact vin _ ((show Sh _ from by assumption).2.1 _ (by decide)) (by ((conv => rhs; whnf); (show _ < @OfNat.ofNat Nat _ (instOfNatNat _)); omega)) (by decide)) | (simp (disch := omega) only [nI_add, pk_mul, ofN, Nat.add_zero, nI_clamp, nI_leI, nI_ltI, nI_eq, nI_add, rI_s, rI_k, rI_a]; (with_reducible show vp_in (nI _) _); first | exact vin _ (by assumption) (by omega) (by omega) | exact vin _ ((show Sh _ from by assumption).2.1 _ (by decide)) (by ((conv => rhs; whnf); (show _ < @OfNat.ofNat Nat _ (instOfNatNat _)); omega)) (by decide)))) ?_; (conv => whnf)) | (refine And.intro (by decide) ?_; (conv => whnf)) | (refine bT (by decide) ?_; (conv => whnf)) | (refine bF (by decide) ?_; (conv => whnf)) | (refine bN (by decide) ?_; (conv => whnf)) | (refine bP (by decide) ?_; (conv => whnf)) | (refine bT (by (simp (disch := omega) only [nI_add, pk_mul, ofN, Nat.add_zero, nI_clamp, nI_leI, nI_ltI, nI_eq, nI_add]); first | done | omega) ?_; (conv => whnf)) | (refine bF (by (simp (disch := omega) only [nI_add, pk_mul, ofN, Nat.add_zero, nI_clamp, nI_leI, nI_ltI, nI_eq, nI_add]); first | done | omega) ?_; (conv => whnf)) | (refine bN (by (simp (disch := omega) only [nI_add, pk_mul, ofN, Nat.add_zero, nI_clamp, nI_leI, nI_ltI, nI_eq, nI_add]); first | done | omega) ?_; (conv => whnf)) | (refine bP (by (simp (disch := omega) only [nI_add, pk_mul, ofN, Nat.add_zero, nI_clamp, nI_leI, nI_ltI, nI_eq, nI_add]); first | done | omega) ?_; (conv => whnf))))
  refine ⟨fun e => ?_, fun e => ?_⟩ <;> rw [lc_eq, fa_eq64, Y, L0] at e <;> (conv => whnf)
  · refine ⟨fun f => e (by rw [fa_eq64, Y] at f; exact f), ?_⟩
    (conv => whnf)
    rw [ldivZ hx hy]
    exact hq _ (by omega) (by omega) (by rw [B, if_neg e])
  · exact q0 (by rw [B, if_pos e])
theorem oc_tw10 (hd : 1 ≤ d) {x y : Int} (hx : -1000000 ≤ x ∧ x ≤ 1000000) (hy : -1000000 ≤ y ∧ y ≤ 1000000) (hq : ∀ z : Int, -1000000000000 ≤ z → z ≤ 1000000000000 → clp z = b2 10 x y → Q (some (.long (lZ z))) h) : ab_Ok d n_X0_ofTwo [.int (nI 60), .long (lZ x), .long (lZ y)] h Q := by
  have X : (lZ x).toInt = x := lZ_t (by omega) (by omega)
  have Y : (lZ y).toInt = y := lZ_t (by omega) (by omega)
  have c1 : clp 1 = 1 := by unfold clp; (repeat' split) <;> omega
  have c0 : clp 0 = 0 := by unfold clp; (repeat' split) <;> omega
  have l1 : lZ 1 = lN 1 := by decide
  have l0 : lZ 0 = lN 0 := by decide
  have q1 : b2 10 x y = 1 → Q (some (.long (lN 1))) h := fun e => by rw [← l1]; exact hq 1 (by omega) (by omega) (by rw [c1, e])
  have q0 : b2 10 x y = 0 → Q (some (.long (lN 0))) h := fun e => by rw [← l0]; exact hq 0 (by omega) (by omega) (by rw [c0, e])
  have B := b2_10 x y
  refine ab_go mr_X0_ofTwo rfl (by omega) (fun call W hc hW => ?_); (conv => whnf)
  (repeat (first | (refine And.intro (by (first | assumption | exact (show Sh _ from by assumption).1 _ (by decide) | exact Or.inl rfl | exact Or.inr rfl | exact Nat.le_of_ble_eq_true rfl)) ?_; (conv => whnf)) | (refine Exists.intro _ (And.intro (by (first | assumption | exact (show Sh _ from by assumption).2.2 _ _ _ rfl)) ?_); (conv => whnf)) | (refine bF (nI_ne0 (by decide) (by decide)) ?_; (conv => whnf)) | (refine bT nI_0 ?_; (conv => whnf)) | (refine bN (nI_ne0 (by decide) (by decide)) ?_; (conv => whnf)) | (refine bP nI_0 ?_; (conv => whnf)) | (refine And.intro (by (first | ((with_reducible show vp_in (nI _) _); first | exact vin _ (by assumption) (by omega) (by omega) | exact vin _ ((show Sh _ from by assumption).2.1 _ (by decide)) (by ((conv => rhs; whnf); (show _ < @OfNat.ofNat Nat _ (instOfNatNat _)); omega)) (by decide)) | (simp only [nI_add, pk_mul]; (with_reducible show vp_in (nI _) _); first | exact vin _ (by assumption) (by omega) (by omega) | exact vin _ ((show Sh _ from by assumption).2.1 _ (by decide)) (by ((conv => rhs; whnf); (show _ < @OfNat.ofNat Nat _ (instOfNatNat _)); omega)) (by decide)) | (simp (disch := omega) only [nI_add, pk_mul, ofN, Nat.add_zero, nI_clamp, nI_leI, nI_ltI, nI_eq, nI_add, rI_s, rI_k, rI_a]; (with_reducible show vp_in (nI _) _); first | exact vin _ (by assumption) (by omega) (by omega) | exact vin _ ((show Sh _ from by assumption).2.1 _ (by decide)) (by ((conv => rhs; whnf); (show _ < @OfNat.ofNat Nat _ (instOfNatNat _)); omega)) (by decide)))) ?_; (conv => whnf)) | (refine And.intro (by decide) ?_; (conv => whnf)) | (refine bT (by decide) ?_; (conv => whnf)) | (refine bF (by decide) ?_; (conv => whnf)) | (refine bN (by decide) ?_; (conv => whnf)) | (refine bP (by decide) ?_; (conv => whnf)) | (refine bT (by (simp (disch := omega) only [nI_add, pk_mul, ofN, Nat.add_zero, nI_clamp, nI_leI, nI_ltI, nI_eq, nI_add]); first | done | omega) ?_; (conv => whnf)) | (refine bF (by (simp (disch := omega) only [nI_add, pk_mul, ofN, Nat.add_zero, nI_clamp, nI_leI, nI_ltI, nI_eq, nI_add]); first | done | omega) ?_; (conv => whnf)) | (refine bN (by (simp (disch := omega) only [nI_add, pk_mul, ofN, Nat.add_zero, nI_clamp, nI_leI, nI_ltI, nI_eq, nI_add]); first | done | omega) ?_; (conv => whnf)) | (refine bP (by (simp (disch := omega) only [nI_add, pk_mul, ofN, Nat.add_zero, nI_clamp, nI_leI, nI_ltI, nI_eq, nI_add]); first | done | omega) ?_; (conv => whnf))))
  refine ⟨fun e => ?_, fun e => ?_⟩ <;> simp only [lc_lt, lc_ge, lc_gt, lc_le, lc_eq, fa_lt64, fa_le64, fa_eq64, X, Y] at e <;> (conv => whnf)
  · exact q0 (by rw [B, if_neg (by omega)])
  · exact q1 (by rw [B, if_pos (by omega)])
theorem oc_tw11 (hd : 1 ≤ d) {x y : Int} (hx : -1000000 ≤ x ∧ x ≤ 1000000) (hy : -1000000 ≤ y ∧ y ≤ 1000000) (hq : ∀ z : Int, -1000000000000 ≤ z → z ≤ 1000000000000 → clp z = b2 11 x y → Q (some (.long (lZ z))) h) : ab_Ok d n_X0_ofTwo [.int (nI 128), .long (lZ x), .long (lZ y)] h Q := by
  have X : (lZ x).toInt = x := lZ_t (by omega) (by omega)
  have Y : (lZ y).toInt = y := lZ_t (by omega) (by omega)
  have c1 : clp 1 = 1 := by unfold clp; (repeat' split) <;> omega
  have c0 : clp 0 = 0 := by unfold clp; (repeat' split) <;> omega
  have l1 : lZ 1 = lN 1 := by decide
  have l0 : lZ 0 = lN 0 := by decide
  have q1 : b2 11 x y = 1 → Q (some (.long (lN 1))) h := fun e => by rw [← l1]; exact hq 1 (by omega) (by omega) (by rw [c1, e])
  have q0 : b2 11 x y = 0 → Q (some (.long (lN 0))) h := fun e => by rw [← l0]; exact hq 0 (by omega) (by omega) (by rw [c0, e])
  have B := b2_11 x y
  refine ab_go mr_X0_ofTwo rfl (by omega) (fun call W hc hW => ?_); (conv => whnf)
  (repeat (first | (refine And.intro (by (first | assumption | exact (show Sh _ from by assumption).1 _ (by decide) | exact Or.inl rfl | exact Or.inr rfl | exact Nat.le_of_ble_eq_true rfl)) ?_; (conv => whnf)) | (refine Exists.intro _ (And.intro (by (first | assumption | exact (show Sh _ from by assumption).2.2 _ _ _ rfl)) ?_); (conv => whnf)) | (refine bF (nI_ne0 (by decide) (by decide)) ?_; (conv => whnf)) | (refine bT nI_0 ?_; (conv => whnf)) | (refine bN (nI_ne0 (by decide) (by decide)) ?_; (conv => whnf)) | (refine bP nI_0 ?_; (conv => whnf)) | (refine And.intro (by (first | ((with_reducible show vp_in (nI _) _); first | exact vin _ (by assumption) (by omega) (by omega) | exact vin _ ((show Sh _ from by assumption).2.1 _ (by decide)) (by ((conv => rhs; whnf); (show _ < @OfNat.ofNat Nat _ (instOfNatNat _)); omega)) (by decide)) | (simp only [nI_add, pk_mul]; (with_reducible show vp_in (nI _) _); first | exact vin _ (by assumption) (by omega) (by omega) | exact vin _ ((show Sh _ from by assumption).2.1 _ (by decide)) (by ((conv => rhs; whnf); (show _ < @OfNat.ofNat Nat _ (instOfNatNat _)); omega)) (by decide)) | (simp (disch := omega) only [nI_add, pk_mul, ofN, Nat.add_zero, nI_clamp, nI_leI, nI_ltI, nI_eq, nI_add, rI_s, rI_k, rI_a]; (with_reducible show vp_in (nI _) _); first | exact vin _ (by assumption) (by omega) (by omega) | exact vin _ ((show Sh _ from by assumption).2.1 _ (by decide)) (by ((conv => rhs; whnf); (show _ < @OfNat.ofNat Nat _ (instOfNatNat _)); omega)) (by decide)))) ?_; (conv => whnf)) | (refine And.intro (by decide) ?_; (conv => whnf)) | (refine bT (by decide) ?_; (conv => whnf)) | (refine bF (by decide) ?_; (conv => whnf)) | (refine bN (by decide) ?_; (conv => whnf)) | (refine bP (by decide) ?_; (conv => whnf)) | (refine bT (by (simp (disch := omega) only [nI_add, pk_mul, ofN, Nat.add_zero, nI_clamp, nI_leI, nI_ltI, nI_eq, nI_add]); first | done | omega) ?_; (conv => whnf)) | (refine bF (by (simp (disch := omega) only [nI_add, pk_mul, ofN, Nat.add_zero, nI_clamp, nI_leI, nI_ltI, nI_eq, nI_add]); first | done | omega) ?_; (conv => whnf)) | (refine bN (by (simp (disch := omega) only [nI_add, pk_mul, ofN, Nat.add_zero, nI_clamp, nI_leI, nI_ltI, nI_eq, nI_add]); first | done | omega) ?_; (conv => whnf)) | (refine bP (by (simp (disch := omega) only [nI_add, pk_mul, ofN, Nat.add_zero, nI_clamp, nI_leI, nI_ltI, nI_eq, nI_add]); first | done | omega) ?_; (conv => whnf))))
  refine ⟨fun e => ?_, fun e => ?_⟩ <;> simp only [lc_lt, lc_ge, lc_gt, lc_le, lc_eq, fa_lt64, fa_le64, fa_eq64, X, Y] at e <;> (conv => whnf)
  · exact q0 (by rw [B, if_neg (by omega)])
  · exact q1 (by rw [B, if_pos (by omega)])
theorem oc_tw12 (hd : 1 ≤ d) {x y : Int} (hx : -1000000 ≤ x ∧ x ≤ 1000000) (hy : -1000000 ≤ y ∧ y ≤ 1000000) (hq : ∀ z : Int, -1000000000000 ≤ z → z ≤ 1000000000000 → clp z = b2 12 x y → Q (some (.long (lZ z))) h) : ab_Ok d n_X0_ofTwo [.int (nI 62), .long (lZ x), .long (lZ y)] h Q := by
  have X : (lZ x).toInt = x := lZ_t (by omega) (by omega)
  have Y : (lZ y).toInt = y := lZ_t (by omega) (by omega)
  have c1 : clp 1 = 1 := by unfold clp; (repeat' split) <;> omega
  have c0 : clp 0 = 0 := by unfold clp; (repeat' split) <;> omega
  have l1 : lZ 1 = lN 1 := by decide
  have l0 : lZ 0 = lN 0 := by decide
  have q1 : b2 12 x y = 1 → Q (some (.long (lN 1))) h := fun e => by rw [← l1]; exact hq 1 (by omega) (by omega) (by rw [c1, e])
  have q0 : b2 12 x y = 0 → Q (some (.long (lN 0))) h := fun e => by rw [← l0]; exact hq 0 (by omega) (by omega) (by rw [c0, e])
  have B := b2_12 x y
  refine ab_go mr_X0_ofTwo rfl (by omega) (fun call W hc hW => ?_); (conv => whnf)
  (repeat (first | (refine And.intro (by (first | assumption | exact (show Sh _ from by assumption).1 _ (by decide) | exact Or.inl rfl | exact Or.inr rfl | exact Nat.le_of_ble_eq_true rfl)) ?_; (conv => whnf)) | (refine Exists.intro _ (And.intro (by (first | assumption | exact (show Sh _ from by assumption).2.2 _ _ _ rfl)) ?_); (conv => whnf)) | (refine bF (nI_ne0 (by decide) (by decide)) ?_; (conv => whnf)) | (refine bT nI_0 ?_; (conv => whnf)) | (refine bN (nI_ne0 (by decide) (by decide)) ?_; (conv => whnf)) | (refine bP nI_0 ?_; (conv => whnf)) | (refine And.intro (by (first | ((with_reducible show vp_in (nI _) _); first | exact vin _ (by assumption) (by omega) (by omega) | exact vin _ ((show Sh _ from by assumption).2.1 _ (by decide)) (by ((conv => rhs; whnf); (show _ < @OfNat.ofNat Nat _ (instOfNatNat _)); omega)) (by decide)) | (simp only [nI_add, pk_mul]; (with_reducible show vp_in (nI _) _); first | exact vin _ (by assumption) (by omega) (by omega) | exact vin _ ((show Sh _ from by assumption).2.1 _ (by decide)) (by ((conv => rhs; whnf); (show _ < @OfNat.ofNat Nat _ (instOfNatNat _)); omega)) (by decide)) | (simp (disch := omega) only [nI_add, pk_mul, ofN, Nat.add_zero, nI_clamp, nI_leI, nI_ltI, nI_eq, nI_add, rI_s, rI_k, rI_a]; (with_reducible show vp_in (nI _) _); first | exact vin _ (by assumption) (by omega) (by omega) | exact vin _ ((show Sh _ from by assumption).2.1 _ (by decide)) (by ((conv => rhs; whnf); (show _ < @OfNat.ofNat Nat _ (instOfNatNat _)); omega)) (by decide)))) ?_; (conv => whnf)) | (refine And.intro (by decide) ?_; (conv => whnf)) | (refine bT (by decide) ?_; (conv => whnf)) | (refine bF (by decide) ?_; (conv => whnf)) | (refine bN (by decide) ?_; (conv => whnf)) | (refine bP (by decide) ?_; (conv => whnf)) | (refine bT (by (simp (disch := omega) only [nI_add, pk_mul, ofN, Nat.add_zero, nI_clamp, nI_leI, nI_ltI, nI_eq, nI_add]); first | done | omega) ?_; (conv => whnf)) | (refine bF (by (simp (disch := omega) only [nI_add, pk_mul, ofN, Nat.add_zero, nI_clamp, nI_leI, nI_ltI, nI_eq, nI_add]); first | done | omega) ?_; (conv => whnf)) | (refine bN (by (simp (disch := omega) only [nI_add, pk_mul, ofN, Nat.add_zero, nI_clamp, nI_leI, nI_ltI, nI_eq, nI_add]); first | done | omega) ?_; (conv => whnf)) | (refine bP (by (simp (disch := omega) only [nI_add, pk_mul, ofN, Nat.add_zero, nI_clamp, nI_leI, nI_ltI, nI_eq, nI_add]); first | done | omega) ?_; (conv => whnf))))
  refine ⟨fun e => ?_, fun e => ?_⟩ <;> simp only [lc_lt, lc_ge, lc_gt, lc_le, lc_eq, fa_lt64, fa_le64, fa_eq64, X, Y] at e <;> (conv => whnf)
  · exact q0 (by rw [B, if_neg (by omega)])
  · exact q1 (by rw [B, if_pos (by omega)])
theorem oc_tw13 (hd : 1 ≤ d) {x y : Int} (hx : -1000000 ≤ x ∧ x ≤ 1000000) (hy : -1000000 ≤ y ∧ y ≤ 1000000) (hq : ∀ z : Int, -1000000000000 ≤ z → z ≤ 1000000000000 → clp z = b2 13 x y → Q (some (.long (lZ z))) h) : ab_Ok d n_X0_ofTwo [.int (nI 129), .long (lZ x), .long (lZ y)] h Q := by
  have X : (lZ x).toInt = x := lZ_t (by omega) (by omega)
  have Y : (lZ y).toInt = y := lZ_t (by omega) (by omega)
  have c1 : clp 1 = 1 := by unfold clp; (repeat' split) <;> omega
  have c0 : clp 0 = 0 := by unfold clp; (repeat' split) <;> omega
  have l1 : lZ 1 = lN 1 := by decide
  have l0 : lZ 0 = lN 0 := by decide
  have q1 : b2 13 x y = 1 → Q (some (.long (lN 1))) h := fun e => by rw [← l1]; exact hq 1 (by omega) (by omega) (by rw [c1, e])
  have q0 : b2 13 x y = 0 → Q (some (.long (lN 0))) h := fun e => by rw [← l0]; exact hq 0 (by omega) (by omega) (by rw [c0, e])
  have B := b2_13 x y
  refine ab_go mr_X0_ofTwo rfl (by omega) (fun call W hc hW => ?_); (conv => whnf)
  (repeat (first | (refine And.intro (by (first | assumption | exact (show Sh _ from by assumption).1 _ (by decide) | exact Or.inl rfl | exact Or.inr rfl | exact Nat.le_of_ble_eq_true rfl)) ?_; (conv => whnf)) | (refine Exists.intro _ (And.intro (by (first | assumption | exact (show Sh _ from by assumption).2.2 _ _ _ rfl)) ?_); (conv => whnf)) | (refine bF (nI_ne0 (by decide) (by decide)) ?_; (conv => whnf)) | (refine bT nI_0 ?_; (conv => whnf)) | (refine bN (nI_ne0 (by decide) (by decide)) ?_; (conv => whnf)) | (refine bP nI_0 ?_; (conv => whnf)) | (refine And.intro (by (first | ((with_reducible show vp_in (nI _) _); first | exact vin _ (by assumption) (by omega) (by omega) | exact vin _ ((show Sh _ from by assumption).2.1 _ (by decide)) (by ((conv => rhs; whnf); (show _ < @OfNat.ofNat Nat _ (instOfNatNat _)); omega)) (by decide)) | (simp only [nI_add, pk_mul]; (with_reducible show vp_in (nI _) _); first | exact vin _ (by assumption) (by omega) (by omega) | exact vin _ ((show Sh _ from by assumption).2.1 _ (by decide)) (by ((conv => rhs; whnf); (show _ < @OfNat.ofNat Nat _ (instOfNatNat _)); omega)) (by decide)) | (simp (disch := omega) only [nI_add, pk_mul, ofN, Nat.add_zero, nI_clamp, nI_leI, nI_ltI, nI_eq, nI_add, rI_s, rI_k, rI_a]; (with_reducible show vp_in (nI _) _); first | exact vin _ (by assumption) (by omega) (by omega) | exact vin _ ((show Sh _ from by assumption).2.1 _ (by decide)) (by ((conv => rhs; whnf); (show _ < @OfNat.ofNat Nat _ (instOfNatNat _)); omega)) (by decide)))) ?_; (conv => whnf)) | (refine And.intro (by decide) ?_; (conv => whnf)) | (refine bT (by decide) ?_; (conv => whnf)) | (refine bF (by decide) ?_; (conv => whnf)) | (refine bN (by decide) ?_; (conv => whnf)) | (refine bP (by decide) ?_; (conv => whnf)) | (refine bT (by (simp (disch := omega) only [nI_add, pk_mul, ofN, Nat.add_zero, nI_clamp, nI_leI, nI_ltI, nI_eq, nI_add]); first | done | omega) ?_; (conv => whnf)) | (refine bF (by (simp (disch := omega) only [nI_add, pk_mul, ofN, Nat.add_zero, nI_clamp, nI_leI, nI_ltI, nI_eq, nI_add]); first | done | omega) ?_; (conv => whnf)) | (refine bN (by (simp (disch := omega) only [nI_add, pk_mul, ofN, Nat.add_zero, nI_clamp, nI_leI, nI_ltI, nI_eq, nI_add]); first | done | omega) ?_; (conv => whnf)) | (refine bP (by (simp (disch := omega) only [nI_add, pk_mul, ofN, Nat.add_zero, nI_clamp, nI_leI, nI_ltI, nI_eq, nI_add]); first | done | omega) ?_; (conv => whnf))))
  refine ⟨fun e => ?_, fun e => ?_⟩ <;> simp only [lc_lt, lc_ge, lc_gt, lc_le, lc_eq, fa_lt64, fa_le64, fa_eq64, X, Y] at e <;> (conv => whnf)
  · exact q0 (by rw [B, if_neg (by omega)])
  · exact q1 (by rw [B, if_pos (by omega)])
theorem oc_tw14 (hd : 1 ≤ d) {x y : Int} (hx : -1000000 ≤ x ∧ x ≤ 1000000) (hy : -1000000 ≤ y ∧ y ≤ 1000000) (hq : ∀ z : Int, -1000000000000 ≤ z → z ≤ 1000000000000 → clp z = b2 14 x y → Q (some (.long (lZ z))) h) : ab_Ok d n_X0_ofTwo [.int (nI 61), .long (lZ x), .long (lZ y)] h Q := by
  have X : (lZ x).toInt = x := lZ_t (by omega) (by omega)
  have Y : (lZ y).toInt = y := lZ_t (by omega) (by omega)
  have c1 : clp 1 = 1 := by unfold clp; (repeat' split) <;> omega
  have c0 : clp 0 = 0 := by unfold clp; (repeat' split) <;> omega
  have l1 : lZ 1 = lN 1 := by decide
  have l0 : lZ 0 = lN 0 := by decide
  have q1 : b2 14 x y = 1 → Q (some (.long (lN 1))) h := fun e => by rw [← l1]; exact hq 1 (by omega) (by omega) (by rw [c1, e])
  have q0 : b2 14 x y = 0 → Q (some (.long (lN 0))) h := fun e => by rw [← l0]; exact hq 0 (by omega) (by omega) (by rw [c0, e])
  have B := b2_14 x y
  refine ab_go mr_X0_ofTwo rfl (by omega) (fun call W hc hW => ?_); (conv => whnf)
  (repeat (first | (refine And.intro (by (first | assumption | exact (show Sh _ from by assumption).1 _ (by decide) | exact Or.inl rfl | exact Or.inr rfl | exact Nat.le_of_ble_eq_true rfl)) ?_; (conv => whnf)) | (refine Exists.intro _ (And.intro (by (first | assumption | exact (show Sh _ from by assumption).2.2 _ _ _ rfl)) ?_); (conv => whnf)) | (refine bF (nI_ne0 (by decide) (by decide)) ?_; (conv => whnf)) | (refine bT nI_0 ?_; (conv => whnf)) | (refine bN (nI_ne0 (by decide) (by decide)) ?_; (conv => whnf)) | (refine bP nI_0 ?_; (conv => whnf)) | (refine And.intro (by (first | ((with_reducible show vp_in (nI _) _); first | exact vin _ (by assumption) (by omega) (by omega) | exact vin _ ((show Sh _ from by assumption).2.1 _ (by decide)) (by ((conv => rhs; whnf); (show _ < @OfNat.ofNat Nat _ (instOfNatNat _)); omega)) (by decide)) | (simp only [nI_add, pk_mul]; (with_reducible show vp_in (nI _) _); first | exact vin _ (by assumption) (by omega) (by omega) | exact vin _ ((show Sh _ from by assumption).2.1 _ (by decide)) (by ((conv => rhs; whnf); (show _ < @OfNat.ofNat Nat _ (instOfNatNat _)); omega)) (by decide)) | (simp (disch := omega) only [nI_add, pk_mul, ofN, Nat.add_zero, nI_clamp, nI_leI, nI_ltI, nI_eq, nI_add, rI_s, rI_k, rI_a]; (with_reducible show vp_in (nI _) _); first | exact vin _ (by assumption) (by omega) (by omega) | exact vin _ ((show Sh _ from by assumption).2.1 _ (by decide)) (by ((conv => rhs; whnf); (show _ < @OfNat.ofNat Nat _ (instOfNatNat _)); omega)) (by decide)))) ?_; (conv => whnf)) | (refine And.intro (by decide) ?_; (conv => whnf)) | (refine bT (by decide) ?_; (conv => whnf)) | (refine bF (by decide) ?_; (conv => whnf)) | (refine bN (by decide) ?_; (conv => whnf)) | (refine bP (by decide) ?_; (conv => whnf)) | (refine bT (by (simp (disch := omega) only [nI_add, pk_mul, ofN, Nat.add_zero, nI_clamp, nI_leI, nI_ltI, nI_eq, nI_add]); first | done | omega) ?_; (conv => whnf)) | (refine bF (by (simp (disch := omega) only [nI_add, pk_mul, ofN, Nat.add_zero, nI_clamp, nI_leI, nI_ltI, nI_eq, nI_add]); first | done | omega) ?_; (conv => whnf)) | (refine bN (by (simp (disch := omega) only [nI_add, pk_mul, ofN, Nat.add_zero, nI_clamp, nI_leI, nI_ltI, nI_eq, nI_add]); first | done | omega) ?_; (conv => whnf)) | (refine bP (by (simp (disch := omega) only [nI_add, pk_mul, ofN, Nat.add_zero, nI_clamp, nI_leI, nI_ltI, nI_eq, nI_add]); first | done | omega) ?_; (conv => whnf))))
  refine ⟨fun e => ?_, fun e => ?_⟩ <;> simp only [lc_lt, lc_ge, lc_gt, lc_le, lc_eq, fa_lt64, fa_le64, fa_eq64, X, Y] at e <;> (conv => whnf)
  · exact q0 (by rw [B, if_neg (by omega)])
  · exact q1 (by rw [B, if_pos (by omega)])
theorem oc_tw15 (hd : 1 ≤ d) {x y : Int} (hx : -1000000 ≤ x ∧ x ≤ 1000000) (hy : -1000000 ≤ y ∧ y ≤ 1000000) (hq : ∀ z : Int, -1000000000000 ≤ z → z ≤ 1000000000000 → clp z = b2 15 x y → Q (some (.long (lZ z))) h) : ab_Ok d n_X0_ofTwo [.int (nI 35), .long (lZ x), .long (lZ y)] h Q := by
  have X : (lZ x).toInt = x := lZ_t (by omega) (by omega)
  have Y : (lZ y).toInt = y := lZ_t (by omega) (by omega)
  have c1 : clp 1 = 1 := by unfold clp; (repeat' split) <;> omega
  have c0 : clp 0 = 0 := by unfold clp; (repeat' split) <;> omega
  have l1 : lZ 1 = lN 1 := by decide
  have l0 : lZ 0 = lN 0 := by decide
  have q1 : b2 15 x y = 1 → Q (some (.long (lN 1))) h := fun e => by rw [← l1]; exact hq 1 (by omega) (by omega) (by rw [c1, e])
  have q0 : b2 15 x y = 0 → Q (some (.long (lN 0))) h := fun e => by rw [← l0]; exact hq 0 (by omega) (by omega) (by rw [c0, e])
  have B := b2_15 x y
  refine ab_go mr_X0_ofTwo rfl (by omega) (fun call W hc hW => ?_); (conv => whnf)
  (repeat (first | (refine And.intro (by (first | assumption | exact (show Sh _ from by assumption).1 _ (by decide) | exact Or.inl rfl | exact Or.inr rfl | exact Nat.le_of_ble_eq_true rfl)) ?_; (conv => whnf)) | (refine Exists.intro _ (And.intro (by (first | assumption | exact (show Sh _ from by assumption).2.2 _ _ _ rfl)) ?_); (conv => whnf)) | (refine bF (nI_ne0 (by decide) (by decide)) ?_; (conv => whnf)) | (refine bT nI_0 ?_; (conv => whnf)) | (refine bN (nI_ne0 (by decide) (by decide)) ?_; (conv => whnf)) | (refine bP nI_0 ?_; (conv => whnf)) | (refine And.intro (by (first | ((with_reducible show vp_in (nI _) _); first | exact vin _ (by assumption) (by omega) (by omega) | exact vin _ ((show Sh _ from by assumption).2.1 _ (by decide)) (by ((conv => rhs; whnf); (show _ < @OfNat.ofNat Nat _ (instOfNatNat _)); omega)) (by decide)) | (simp only [nI_add, pk_mul]; (with_reducible show vp_in (nI _) _); first | exact vin _ (by assumption) (by omega) (by omega) | exact vin _ ((show Sh _ from by assumption).2.1 _ (by decide)) (by ((conv => rhs; whnf); (show _ < @OfNat.ofNat Nat _ (instOfNatNat _)); omega)) (by decide)) | (simp (disch := omega) only [nI_add, pk_mul, ofN, Nat.add_zero, nI_clamp, nI_leI, nI_ltI, nI_eq, nI_add, rI_s, rI_k, rI_a]; (with_reducible show vp_in (nI _) _); first | exact vin _ (by assumption) (by omega) (by omega) | exact vin _ ((show Sh _ from by assumption).2.1 _ (by decide)) (by ((conv => rhs; whnf); (show _ < @OfNat.ofNat Nat _ (instOfNatNat _)); omega)) (by decide)))) ?_; (conv => whnf)) | (refine And.intro (by decide) ?_; (conv => whnf)) | (refine bT (by decide) ?_; (conv => whnf)) | (refine bF (by decide) ?_; (conv => whnf)) | (refine bN (by decide) ?_; (conv => whnf)) | (refine bP (by decide) ?_; (conv => whnf)) | (refine bT (by (simp (disch := omega) only [nI_add, pk_mul, ofN, Nat.add_zero, nI_clamp, nI_leI, nI_ltI, nI_eq, nI_add]); first | done | omega) ?_; (conv => whnf)) | (refine bF (by (simp (disch := omega) only [nI_add, pk_mul, ofN, Nat.add_zero, nI_clamp, nI_leI, nI_ltI, nI_eq, nI_add]); first | done | omega) ?_; (conv => whnf)) | (refine bN (by (simp (disch := omega) only [nI_add, pk_mul, ofN, Nat.add_zero, nI_clamp, nI_leI, nI_ltI, nI_eq, nI_add]); first | done | omega) ?_; (conv => whnf)) | (refine bP (by (simp (disch := omega) only [nI_add, pk_mul, ofN, Nat.add_zero, nI_clamp, nI_leI, nI_ltI, nI_eq, nI_add]); first | done | omega) ?_; (conv => whnf))))
  refine ⟨fun e => ?_, fun e => ?_⟩ <;> simp only [lc_lt, lc_ge, lc_gt, lc_le, lc_eq, fa_lt64, fa_le64, fa_eq64, X, Y] at e <;> (conv => whnf)
  · exact q0 (by rw [B, if_pos (by omega)])
  · exact q1 (by rw [B, if_neg (by omega)])
theorem oc_tw21 (hd : 1 ≤ d) {x y : Int} (hx : -1000000 ≤ x ∧ x ≤ 1000000) (hy : -1000000 ≤ y ∧ y ≤ 1000000) (hb : (x = 0 ∨ x = 1) ∧ (y = 0 ∨ y = 1)) (hq : ∀ z : Int, -1000000000000 ≤ z → z ≤ 1000000000000 → clp z = b2 21 x y → Q (some (.long (lZ z))) h) : ab_Ok d n_X0_ofTwo [.int (nI 26), .long (lZ x), .long (lZ y)] h Q := by
  have X : (lZ x).toInt = x := lZ_t (by omega) (by omega)
  have Y : (lZ y).toInt = y := lZ_t (by omega) (by omega)
  have c1 : clp 1 = 1 := by unfold clp; (repeat' split) <;> omega
  have c0 : clp 0 = 0 := by unfold clp; (repeat' split) <;> omega
  have l1 : lZ 1 = lN 1 := by decide
  have l0 : lZ 0 = lN 0 := by decide
  have q1 : b2 21 x y = 1 → Q (some (.long (lN 1))) h := fun e => by rw [← l1]; exact hq 1 (by omega) (by omega) (by rw [c1, e])
  have q0 : b2 21 x y = 0 → Q (some (.long (lN 0))) h := fun e => by rw [← l0]; exact hq 0 (by omega) (by omega) (by rw [c0, e])
  have B := b2_21 x y
  obtain ⟨ex, ey⟩ := hb
  refine ab_go mr_X0_ofTwo rfl (by omega) (fun call W hc hW => ?_); (conv => whnf)
  (repeat (first | (refine And.intro (by (first | assumption | exact (show Sh _ from by assumption).1 _ (by decide) | exact Or.inl rfl | exact Or.inr rfl | exact Nat.le_of_ble_eq_true rfl)) ?_; (conv => whnf)) | (refine Exists.intro _ (And.intro (by (first | assumption | exact (show Sh _ from by assumption).2.2 _ _ _ rfl)) ?_); (conv => whnf)) | (refine bF (nI_ne0 (by decide) (by decide)) ?_; (conv => whnf)) | (refine bT nI_0 ?_; (conv => whnf)) | (refine bN (nI_ne0 (by decide) (by decide)) ?_; (conv => whnf)) | (refine bP nI_0 ?_; (conv => whnf)) | (refine And.intro (by (first | ((with_reducible show vp_in (nI _) _); first | exact vin _ (by assumption) (by omega) (by omega) | exact vin _ ((show Sh _ from by assumption).2.1 _ (by decide)) (by ((conv => rhs; whnf); (show _ < @OfNat.ofNat Nat _ (instOfNatNat _)); omega)) (by decide)) | (simp only [nI_add, pk_mul]; (with_reducible show vp_in (nI _) _); first | exact vin _ (by assumption) (by omega) (by omega) | exact vin _ ((show Sh _ from by assumption).2.1 _ (by decide)) (by ((conv => rhs; whnf); (show _ < @OfNat.ofNat Nat _ (instOfNatNat _)); omega)) (by decide)) | (simp (disch := omega) only [nI_add, pk_mul, ofN, Nat.add_zero, nI_clamp, nI_leI, nI_ltI, nI_eq, nI_add, rI_s, rI_k, rI_a]; (with_reducible show vp_in (nI _) _); first | exact vin _ (by assumption) (by omega) (by omega) | exact vin _ ((show Sh _ from by assumption).2.1 _ (by decide)) (by ((conv => rhs; whnf); (show _ < @OfNat.ofNat Nat _ (instOfNatNat _)); omega)) (by decide)))) ?_; (conv => whnf)) | (refine And.intro (by decide) ?_; (conv => whnf)) | (refine bT (by decide) ?_; (conv => whnf)) | (refine bF (by decide) ?_; (conv => whnf)) | (refine bN (by decide) ?_; (conv => whnf)) | (refine bP (by decide) ?_; (conv => whnf)) | (refine bT (by (simp (disch := omega) only [nI_add, pk_mul, ofN, Nat.add_zero, nI_clamp, nI_leI, nI_ltI, nI_eq, nI_add]); first | done | omega) ?_; (conv => whnf)) | (refine bF (by (simp (disch := omega) only [nI_add, pk_mul, ofN, Nat.add_zero, nI_clamp, nI_leI, nI_ltI, nI_eq, nI_add]); first | done | omega) ?_; (conv => whnf)) | (refine bN (by (simp (disch := omega) only [nI_add, pk_mul, ofN, Nat.add_zero, nI_clamp, nI_leI, nI_ltI, nI_eq, nI_add]); first | done | omega) ?_; (conv => whnf)) | (refine bP (by (simp (disch := omega) only [nI_add, pk_mul, ofN, Nat.add_zero, nI_clamp, nI_leI, nI_ltI, nI_eq, nI_add]); first | done | omega) ?_; (conv => whnf))))
  have a0 : lN 0 &&& lN 0 = lN 0 := by decide
  have a1 : lN 0 &&& lN 1 = lN 0 := by decide
  have a2 : lN 1 &&& lN 0 = lN 0 := by decide
  have a3 : lN 1 &&& lN 1 = lN 1 := by decide
  rcases ex with rfl | rfl <;> rcases ey with rfl | rfl
  · rw [l0, a0]; exact q0 (by rw [B, if_neg (by omega)])
  · rw [l0, l1, a1]; exact q0 (by rw [B, if_neg (by omega)])
  · rw [l0, l1, a2]; exact q0 (by rw [B, if_neg (by omega)])
  · rw [l1, a3]; exact q1 (by rw [B, if_pos (by omega)])
theorem oc_tw22 (hd : 1 ≤ d) {x y : Int} (hx : -1000000 ≤ x ∧ x ≤ 1000000) (hy : -1000000 ≤ y ∧ y ≤ 1000000) (hb : (x = 0 ∨ x = 1) ∧ (y = 0 ∨ y = 1)) (hq : ∀ z : Int, -1000000000000 ≤ z → z ≤ 1000000000000 → clp z = b2 22 x y → Q (some (.long (lZ z))) h) : ab_Ok d n_X0_ofTwo [.int (nI 25), .long (lZ x), .long (lZ y)] h Q := by
  have X : (lZ x).toInt = x := lZ_t (by omega) (by omega)
  have Y : (lZ y).toInt = y := lZ_t (by omega) (by omega)
  have c1 : clp 1 = 1 := by unfold clp; (repeat' split) <;> omega
  have c0 : clp 0 = 0 := by unfold clp; (repeat' split) <;> omega
  have l1 : lZ 1 = lN 1 := by decide
  have l0 : lZ 0 = lN 0 := by decide
  have q1 : b2 22 x y = 1 → Q (some (.long (lN 1))) h := fun e => by rw [← l1]; exact hq 1 (by omega) (by omega) (by rw [c1, e])
  have q0 : b2 22 x y = 0 → Q (some (.long (lN 0))) h := fun e => by rw [← l0]; exact hq 0 (by omega) (by omega) (by rw [c0, e])
  have B := b2_22 x y
  obtain ⟨ex, ey⟩ := hb
  refine ab_go mr_X0_ofTwo rfl (by omega) (fun call W hc hW => ?_); (conv => whnf)
  (repeat (first | (refine And.intro (by (first | assumption | exact (show Sh _ from by assumption).1 _ (by decide) | exact Or.inl rfl | exact Or.inr rfl | exact Nat.le_of_ble_eq_true rfl)) ?_; (conv => whnf)) | (refine Exists.intro _ (And.intro (by (first | assumption | exact (show Sh _ from by assumption).2.2 _ _ _ rfl)) ?_); (conv => whnf)) | (refine bF (nI_ne0 (by decide) (by decide)) ?_; (conv => whnf)) | (refine bT nI_0 ?_; (conv => whnf)) | (refine bN (nI_ne0 (by decide) (by decide)) ?_; (conv => whnf)) | (refine bP nI_0 ?_; (conv => whnf)) | (refine And.intro (by (first | ((with_reducible show vp_in (nI _) _); first | exact vin _ (by assumption) (by omega) (by omega) | exact vin _ ((show Sh _ from by assumption).2.1 _ (by decide)) (by ((conv => rhs; whnf); (show _ < @OfNat.ofNat Nat _ (instOfNatNat _)); omega)) (by decide)) | (simp only [nI_add, pk_mul]; (with_reducible show vp_in (nI _) _); first | exact vin _ (by assumption) (by omega) (by omega) | exact vin _ ((show Sh _ from by assumption).2.1 _ (by decide)) (by ((conv => rhs; whnf); (show _ < @OfNat.ofNat Nat _ (instOfNatNat _)); omega)) (by decide)) | (simp (disch := omega) only [nI_add, pk_mul, ofN, Nat.add_zero, nI_clamp, nI_leI, nI_ltI, nI_eq, nI_add, rI_s, rI_k, rI_a]; (with_reducible show vp_in (nI _) _); first | exact vin _ (by assumption) (by omega) (by omega) | exact vin _ ((show Sh _ from by assumption).2.1 _ (by decide)) (by ((conv => rhs; whnf); (show _ < @OfNat.ofNat Nat _ (instOfNatNat _)); omega)) (by decide)))) ?_; (conv => whnf)) | (refine And.intro (by decide) ?_; (conv => whnf)) | (refine bT (by decide) ?_; (conv => whnf)) | (refine bF (by decide) ?_; (conv => whnf)) | (refine bN (by decide) ?_; (conv => whnf)) | (refine bP (by decide) ?_; (conv => whnf)) | (refine bT (by (simp (disch := omega) only [nI_add, pk_mul, ofN, Nat.add_zero, nI_clamp, nI_leI, nI_ltI, nI_eq, nI_add]); first | done | omega) ?_; (conv => whnf)) | (refine bF (by (simp (disch := omega) only [nI_add, pk_mul, ofN, Nat.add_zero, nI_clamp, nI_leI, nI_ltI, nI_eq, nI_add]); first | done | omega) ?_; (conv => whnf)) | (refine bN (by (simp (disch := omega) only [nI_add, pk_mul, ofN, Nat.add_zero, nI_clamp, nI_leI, nI_ltI, nI_eq, nI_add]); first | done | omega) ?_; (conv => whnf)) | (refine bP (by (simp (disch := omega) only [nI_add, pk_mul, ofN, Nat.add_zero, nI_clamp, nI_leI, nI_ltI, nI_eq, nI_add]); first | done | omega) ?_; (conv => whnf))))
  have a0 : lN 0 ||| lN 0 = lN 0 := by decide
  have a1 : lN 0 ||| lN 1 = lN 1 := by decide
  have a2 : lN 1 ||| lN 0 = lN 1 := by decide
  have a3 : lN 1 ||| lN 1 = lN 1 := by decide
  rcases ex with rfl | rfl <;> rcases ey with rfl | rfl
  · rw [l0, a0]; exact q0 (by rw [B, if_neg (by omega)])
  · rw [l0, l1, a1]; exact q1 (by rw [B, if_pos (by omega)])
  · rw [l0, l1, a2]; exact q1 (by rw [B, if_pos (by omega)])
  · rw [l1, a3]; exact q1 (by rw [B, if_pos (by omega)])
theorem oc_ofTwo (hd : 1 ≤ d) {o : Nat} (ho : (6 ≤ o ∧ o ≤ 15) ∨ o = 21 ∨ o = 22) {x y : Int} (hx : -1000000 ≤ x ∧ x ≤ 1000000) (hy : -1000000 ≤ y ∧ y ≤ 1000000) (hb : 20 < o → (x = 0 ∨ x = 1) ∧ (y = 0 ∨ y = 1)) (hq : ∀ z : Int, -1000000000000 ≤ z → z ≤ 1000000000000 → clp z = b2 o x y → Q (some (.long (lZ z))) h) : ab_Ok d n_X0_ofTwo [.int (nI (tb o)), .long (lZ x), .long (lZ y)] h Q := by
  rcases (show o = 6 ∨ o = 7 ∨ o = 8 ∨ o = 9 ∨ o = 10 ∨ o = 11 ∨ o = 12 ∨ o = 13 ∨ o = 14 ∨ o = 15 ∨ o = 21 ∨ o = 22 by omega) with rfl | rfl | rfl | rfl | rfl | rfl | rfl | rfl | rfl | rfl | rfl | rfl
  · exact oc_tw6 hd hx hy hq
  · exact oc_tw7 hd hx hy hq
  · exact oc_tw8 hd hx hy hq
  · exact oc_tw9 hd hx hy hq
  · exact oc_tw10 hd hx hy hq
  · exact oc_tw11 hd hx hy hq
  · exact oc_tw12 hd hx hy hq
  · exact oc_tw13 hd hx hy hq
  · exact oc_tw14 hd hx hy hq
  · exact oc_tw15 hd hx hy hq
  · exact oc_tw21 hd hx hy (hb (by decide)) hq
  · exact oc_tw22 hd hx hy (hb (by decide)) hq
/-- how many values an operation takes -/
def tkn (k : Nat) : Nat := if k ≤ 17 ∨ k = 23 ∨ k = 130 then 0 else if k = 22 ∨ k = 27 ∨ k = 28 ∨ k = 29 ∨ k = 133 then 1 else 2
theorem oc_takenBy (hd : 1 ≤ d) {k : Nat} (hk : k < 1000) (hq : Q (some (.int (nI (tkn k)))) h) : ab_Ok d n_X0_takenBy [.int (nI k)] h Q := by
  refine ab_go mr_X0_takenBy rfl (by omega) (fun call W hc hW => ?_); (conv => whnf)
  (repeat' (refine And.intro (fun e => ?_) (fun e => ?_) <;> simp (disch := omega) only [nI_add, pk_mul, ofN, Nat.add_zero, nI_clamp, nI_leI, nI_ltI, nI_eq] at e <;> (conv => whnf)))
  all_goals first | (rw [show tkn k = 0 by unfold tkn; (repeat' split) <;> omega] at hq; exact hq) | (rw [show tkn k = 1 by unfold tkn; (repeat' split) <;> omega] at hq; exact hq) | (rw [show tkn k = 2 by unfold tkn; (repeat' split) <;> omega] at hq; exact hq)
end OPS
