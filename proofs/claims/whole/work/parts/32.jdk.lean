/-! ===== contracts: small ones (mine) ===== -/
theorem ok_within {d : Nat} {h : Hp} {Q : Option Value → Hp → Prop} (hd : 1 ≤ d) (n a b : Int32) (hy : a ≤ n → n ≤ b → Q (some (.int (nI 1))) h) (hn : ¬ (a ≤ n ∧ n ≤ b) → Q (some (.int (nI 0))) h) : ab_Ok d n_X11_within [.int n, .int a, .int b] h Q := by
  refine ab_go mr_X11_within rfl (by omega) (fun call W hc hW => ?_); (conv => whnf)
  refine ⟨fun e => ?_, fun e => ?_⟩
  · (conv => whnf)
    (repeat (first | (refine And.intro (by (first | assumption | exact (show Sh _ from by assumption).1 _ (by decide) | exact Or.inl rfl | exact Or.inr rfl | exact Nat.le_of_ble_eq_true rfl)) ?_; (conv => whnf)) | (refine Exists.intro _ (And.intro (by (first | assumption | exact (show Sh _ from by assumption).2.2 _ _ _ rfl)) ?_); (conv => whnf)) | (refine bF (nI_ne0 (by decide) (by decide)) ?_; (conv => whnf)) | (refine bT nI_0 ?_; (conv => whnf)) | (refine bN (nI_ne0 (by decide) (by decide)) ?_; (conv => whnf)) | (refine bP nI_0 ?_; (conv => whnf)) | (refine And.intro (by (first | ((with_reducible show vp_in (nI _) _); first | exact vin _ (by assumption) (by omega) (by omega) | exact vin _ ((show Sh _ from by assumption).2.1 _ (by decide)) (by ((conv => rhs; whnf); (show _ < @OfNat.ofNat Nat _ (instOfNatNat _)); omega)) (by decide)) | (simp only [nI_add, pk_mul]; (with_reducible show vp_in (nI _) _); first | exact vin _ (by assumption) (by omega) (by omega) | exact vin _ ((show Sh _ from by assumption).2.1 _ (by decide)) (by ((conv => rhs; whnf); (show _ < @OfNat.ofNat Nat _ (instOfNatNat _)); omega)) (by decide)) | (simp (disch := omega) only [nI_add, pk_mul, ofN, Nat.add_zero, nI_clamp, nI_leI, nI_ltI, nI_eq, ms_n0 M, ms_n1 M, ms_n2 M, ms_n4 M, ms_n5 M, ms_n6 M, ms_g0 M, ms_g1 M, ms_g2 M, ms_g3 M, ms_cel M, ms_ran M, ms_wet M, ms_on M, ms_hin M, ms_stu M, ms_wei M, ms_twe M, ms_win M, ms_odd M, ms_bea M, ms_str M, ms_sh M, ms_sc M, ms_sp M, ms_sd M, ms_boo M, rI_s, rI_k, rI_a]; (with_reducible show vp_in (nI _) _); first | exact vin _ (by assumption) (by omega) (by omega) | exact vin _ ((show Sh _ from by assumption).2.1 _ (by decide)) (by ((conv => rhs; whnf); (show _ < @OfNat.ofNat Nat _ (instOfNatNat _)); omega)) (by decide)))) ?_; (conv => whnf))))
    exact hn (fun q => (fa_of_lt e).2.1 q.1)
  · (conv => whnf)
    refine ⟨fun f => ?_, fun f => ?_⟩
    · (conv => whnf)
      (repeat (first | (refine And.intro (by (first | assumption | exact (show Sh _ from by assumption).1 _ (by decide) | exact Or.inl rfl | exact Or.inr rfl | exact Nat.le_of_ble_eq_true rfl)) ?_; (conv => whnf)) | (refine Exists.intro _ (And.intro (by (first | assumption | exact (show Sh _ from by assumption).2.2 _ _ _ rfl)) ?_); (conv => whnf)) | (refine bF (nI_ne0 (by decide) (by decide)) ?_; (conv => whnf)) | (refine bT nI_0 ?_; (conv => whnf)) | (refine bN (nI_ne0 (by decide) (by decide)) ?_; (conv => whnf)) | (refine bP nI_0 ?_; (conv => whnf)) | (refine And.intro (by (first | ((with_reducible show vp_in (nI _) _); first | exact vin _ (by assumption) (by omega) (by omega) | exact vin _ ((show Sh _ from by assumption).2.1 _ (by decide)) (by ((conv => rhs; whnf); (show _ < @OfNat.ofNat Nat _ (instOfNatNat _)); omega)) (by decide)) | (simp only [nI_add, pk_mul]; (with_reducible show vp_in (nI _) _); first | exact vin _ (by assumption) (by omega) (by omega) | exact vin _ ((show Sh _ from by assumption).2.1 _ (by decide)) (by ((conv => rhs; whnf); (show _ < @OfNat.ofNat Nat _ (instOfNatNat _)); omega)) (by decide)) | (simp (disch := omega) only [nI_add, pk_mul, ofN, Nat.add_zero, nI_clamp, nI_leI, nI_ltI, nI_eq, ms_n0 M, ms_n1 M, ms_n2 M, ms_n4 M, ms_n5 M, ms_n6 M, ms_g0 M, ms_g1 M, ms_g2 M, ms_g3 M, ms_cel M, ms_ran M, ms_wet M, ms_on M, ms_hin M, ms_stu M, ms_wei M, ms_twe M, ms_win M, ms_odd M, ms_bea M, ms_str M, ms_sh M, ms_sc M, ms_sp M, ms_sd M, ms_boo M, rI_s, rI_k, rI_a]; (with_reducible show vp_in (nI _) _); first | exact vin _ (by assumption) (by omega) (by omega) | exact vin _ ((show Sh _ from by assumption).2.1 _ (by decide)) (by ((conv => rhs; whnf); (show _ < @OfNat.ofNat Nat _ (instOfNatNat _)); omega)) (by decide)))) ?_; (conv => whnf))))
      exact hn (fun q => (fa_of_lt f).2.1 q.2)
    · (conv => whnf)
      (repeat (first | (refine And.intro (by (first | assumption | exact (show Sh _ from by assumption).1 _ (by decide) | exact Or.inl rfl | exact Or.inr rfl | exact Nat.le_of_ble_eq_true rfl)) ?_; (conv => whnf)) | (refine Exists.intro _ (And.intro (by (first | assumption | exact (show Sh _ from by assumption).2.2 _ _ _ rfl)) ?_); (conv => whnf)) | (refine bF (nI_ne0 (by decide) (by decide)) ?_; (conv => whnf)) | (refine bT nI_0 ?_; (conv => whnf)) | (refine bN (nI_ne0 (by decide) (by decide)) ?_; (conv => whnf)) | (refine bP nI_0 ?_; (conv => whnf)) | (refine And.intro (by (first | ((with_reducible show vp_in (nI _) _); first | exact vin _ (by assumption) (by omega) (by omega) | exact vin _ ((show Sh _ from by assumption).2.1 _ (by decide)) (by ((conv => rhs; whnf); (show _ < @OfNat.ofNat Nat _ (instOfNatNat _)); omega)) (by decide)) | (simp only [nI_add, pk_mul]; (with_reducible show vp_in (nI _) _); first | exact vin _ (by assumption) (by omega) (by omega) | exact vin _ ((show Sh _ from by assumption).2.1 _ (by decide)) (by ((conv => rhs; whnf); (show _ < @OfNat.ofNat Nat _ (instOfNatNat _)); omega)) (by decide)) | (simp (disch := omega) only [nI_add, pk_mul, ofN, Nat.add_zero, nI_clamp, nI_leI, nI_ltI, nI_eq, ms_n0 M, ms_n1 M, ms_n2 M, ms_n4 M, ms_n5 M, ms_n6 M, ms_g0 M, ms_g1 M, ms_g2 M, ms_g3 M, ms_cel M, ms_ran M, ms_wet M, ms_on M, ms_hin M, ms_stu M, ms_wei M, ms_twe M, ms_win M, ms_odd M, ms_bea M, ms_str M, ms_sh M, ms_sc M, ms_sp M, ms_sd M, ms_boo M, rI_s, rI_k, rI_a]; (with_reducible show vp_in (nI _) _); first | exact vin _ (by assumption) (by omega) (by omega) | exact vin _ ((show Sh _ from by assumption).2.1 _ (by decide)) (by ((conv => rhs; whnf); (show _ < @OfNat.ofNat Nat _ (instOfNatNat _)); omega)) (by decide)))) ?_; (conv => whnf))))
      exact hy (fa_of_nlt e) (fa_of_nlt f)
theorem ok_isIn {d : Nat} {h : Hp} {Q : Option Value → Hp → Prop} (hd : 1 ≤ d) (n a b : Int32) (hy : a ≤ n → n ≤ b → Q (some (.int (nI 1))) h) (hn : ¬ (a ≤ n ∧ n ≤ b) → Q (some (.int (nI 0))) h) : ab_Ok d n_X12_isIn [.int n, .int a, .int b] h Q := by
  refine ab_go mr_X12_isIn rfl (by omega) (fun call W hc hW => ?_); (conv => whnf)
  refine ⟨fun e => ?_, fun e => ?_⟩
  · (conv => whnf)
    (repeat (first | (refine And.intro (by (first | assumption | exact (show Sh _ from by assumption).1 _ (by decide) | exact Or.inl rfl | exact Or.inr rfl | exact Nat.le_of_ble_eq_true rfl)) ?_; (conv => whnf)) | (refine Exists.intro _ (And.intro (by (first | assumption | exact (show Sh _ from by assumption).2.2 _ _ _ rfl)) ?_); (conv => whnf)) | (refine bF (nI_ne0 (by decide) (by decide)) ?_; (conv => whnf)) | (refine bT nI_0 ?_; (conv => whnf)) | (refine bN (nI_ne0 (by decide) (by decide)) ?_; (conv => whnf)) | (refine bP nI_0 ?_; (conv => whnf)) | (refine And.intro (by (first | ((with_reducible show vp_in (nI _) _); first | exact vin _ (by assumption) (by omega) (by omega) | exact vin _ ((show Sh _ from by assumption).2.1 _ (by decide)) (by ((conv => rhs; whnf); (show _ < @OfNat.ofNat Nat _ (instOfNatNat _)); omega)) (by decide)) | (simp only [nI_add, pk_mul]; (with_reducible show vp_in (nI _) _); first | exact vin _ (by assumption) (by omega) (by omega) | exact vin _ ((show Sh _ from by assumption).2.1 _ (by decide)) (by ((conv => rhs; whnf); (show _ < @OfNat.ofNat Nat _ (instOfNatNat _)); omega)) (by decide)) | (simp (disch := omega) only [nI_add, pk_mul, ofN, Nat.add_zero, nI_clamp, nI_leI, nI_ltI, nI_eq, ms_n0 M, ms_n1 M, ms_n2 M, ms_n4 M, ms_n5 M, ms_n6 M, ms_g0 M, ms_g1 M, ms_g2 M, ms_g3 M, ms_cel M, ms_ran M, ms_wet M, ms_on M, ms_hin M, ms_stu M, ms_wei M, ms_twe M, ms_win M, ms_odd M, ms_bea M, ms_str M, ms_sh M, ms_sc M, ms_sp M, ms_sd M, ms_boo M, rI_s, rI_k, rI_a]; (with_reducible show vp_in (nI _) _); first | exact vin _ (by assumption) (by omega) (by omega) | exact vin _ ((show Sh _ from by assumption).2.1 _ (by decide)) (by ((conv => rhs; whnf); (show _ < @OfNat.ofNat Nat _ (instOfNatNat _)); omega)) (by decide)))) ?_; (conv => whnf))))
    exact hn (fun q => (fa_of_lt e).2.1 q.1)
  · (conv => whnf)
    refine ⟨fun f => ?_, fun f => ?_⟩
    · (conv => whnf)
      (repeat (first | (refine And.intro (by (first | assumption | exact (show Sh _ from by assumption).1 _ (by decide) | exact Or.inl rfl | exact Or.inr rfl | exact Nat.le_of_ble_eq_true rfl)) ?_; (conv => whnf)) | (refine Exists.intro _ (And.intro (by (first | assumption | exact (show Sh _ from by assumption).2.2 _ _ _ rfl)) ?_); (conv => whnf)) | (refine bF (nI_ne0 (by decide) (by decide)) ?_; (conv => whnf)) | (refine bT nI_0 ?_; (conv => whnf)) | (refine bN (nI_ne0 (by decide) (by decide)) ?_; (conv => whnf)) | (refine bP nI_0 ?_; (conv => whnf)) | (refine And.intro (by (first | ((with_reducible show vp_in (nI _) _); first | exact vin _ (by assumption) (by omega) (by omega) | exact vin _ ((show Sh _ from by assumption).2.1 _ (by decide)) (by ((conv => rhs; whnf); (show _ < @OfNat.ofNat Nat _ (instOfNatNat _)); omega)) (by decide)) | (simp only [nI_add, pk_mul]; (with_reducible show vp_in (nI _) _); first | exact vin _ (by assumption) (by omega) (by omega) | exact vin _ ((show Sh _ from by assumption).2.1 _ (by decide)) (by ((conv => rhs; whnf); (show _ < @OfNat.ofNat Nat _ (instOfNatNat _)); omega)) (by decide)) | (simp (disch := omega) only [nI_add, pk_mul, ofN, Nat.add_zero, nI_clamp, nI_leI, nI_ltI, nI_eq, ms_n0 M, ms_n1 M, ms_n2 M, ms_n4 M, ms_n5 M, ms_n6 M, ms_g0 M, ms_g1 M, ms_g2 M, ms_g3 M, ms_cel M, ms_ran M, ms_wet M, ms_on M, ms_hin M, ms_stu M, ms_wei M, ms_twe M, ms_win M, ms_odd M, ms_bea M, ms_str M, ms_sh M, ms_sc M, ms_sp M, ms_sd M, ms_boo M, rI_s, rI_k, rI_a]; (with_reducible show vp_in (nI _) _); first | exact vin _ (by assumption) (by omega) (by omega) | exact vin _ ((show Sh _ from by assumption).2.1 _ (by decide)) (by ((conv => rhs; whnf); (show _ < @OfNat.ofNat Nat _ (instOfNatNat _)); omega)) (by decide)))) ?_; (conv => whnf))))
      exact hn (fun q => (fa_of_lt f).2.1 q.2)
    · (conv => whnf)
      (repeat (first | (refine And.intro (by (first | assumption | exact (show Sh _ from by assumption).1 _ (by decide) | exact Or.inl rfl | exact Or.inr rfl | exact Nat.le_of_ble_eq_true rfl)) ?_; (conv => whnf)) | (refine Exists.intro _ (And.intro (by (first | assumption | exact (show Sh _ from by assumption).2.2 _ _ _ rfl)) ?_); (conv => whnf)) | (refine bF (nI_ne0 (by decide) (by decide)) ?_; (conv => whnf)) | (refine bT nI_0 ?_; (conv => whnf)) | (refine bN (nI_ne0 (by decide) (by decide)) ?_; (conv => whnf)) | (refine bP nI_0 ?_; (conv => whnf)) | (refine And.intro (by (first | ((with_reducible show vp_in (nI _) _); first | exact vin _ (by assumption) (by omega) (by omega) | exact vin _ ((show Sh _ from by assumption).2.1 _ (by decide)) (by ((conv => rhs; whnf); (show _ < @OfNat.ofNat Nat _ (instOfNatNat _)); omega)) (by decide)) | (simp only [nI_add, pk_mul]; (with_reducible show vp_in (nI _) _); first | exact vin _ (by assumption) (by omega) (by omega) | exact vin _ ((show Sh _ from by assumption).2.1 _ (by decide)) (by ((conv => rhs; whnf); (show _ < @OfNat.ofNat Nat _ (instOfNatNat _)); omega)) (by decide)) | (simp (disch := omega) only [nI_add, pk_mul, ofN, Nat.add_zero, nI_clamp, nI_leI, nI_ltI, nI_eq, ms_n0 M, ms_n1 M, ms_n2 M, ms_n4 M, ms_n5 M, ms_n6 M, ms_g0 M, ms_g1 M, ms_g2 M, ms_g3 M, ms_cel M, ms_ran M, ms_wet M, ms_on M, ms_hin M, ms_stu M, ms_wei M, ms_twe M, ms_win M, ms_odd M, ms_bea M, ms_str M, ms_sh M, ms_sc M, ms_sp M, ms_sd M, ms_boo M, rI_s, rI_k, rI_a]; (with_reducible show vp_in (nI _) _); first | exact vin _ (by assumption) (by omega) (by omega) | exact vin _ ((show Sh _ from by assumption).2.1 _ (by decide)) (by ((conv => rhs; whnf); (show _ < @OfNat.ofNat Nat _ (instOfNatNat _)); omega)) (by decide)))) ?_; (conv => whnf))))
      exact hy (fa_of_nlt e) (fa_of_nlt f)
theorem ok_max {d : Nat} {h : Hp} {Q : Option Value → Hp → Prop} (hd : 1 ≤ d) (a b : Int32) (hq : Q (some (.int (if a < b then b else a))) h) : ab_Ok d n_J9_max_7cf53 [.int a, .int b] h Q := by
  refine ab_go mr_J9_max_7cf53 rfl (by omega) (fun call W hc hW => ?_); (conv => whnf)
  refine ⟨fun e => ?_, fun e => ?_⟩ <;> (conv => whnf)
  · rw [if_pos e] at hq
    exact hq
  · rw [if_neg e] at hq
    exact hq
theorem ok_min {d : Nat} {h : Hp} {Q : Option Value → Hp → Prop} (hd : 1 ≤ d) (a b : Int32) (hq : Q (some (.int (if a ≤ b then a else b))) h) : ab_Ok d n_J9_min_7cf53 [.int a, .int b] h Q := by
  refine ab_go mr_J9_min_7cf53 rfl (by omega) (fun call W hc hW => ?_); (conv => whnf)
  refine ⟨fun e => ?_, fun e => ?_⟩ <;> (conv => whnf)
  · rw [if_neg (fa_of_lt e).2.1] at hq
    exact hq
  · rw [if_pos (fa_of_nlt e)] at hq
    exact hq
theorem ok_maxL {d : Nat} {h : Hp} {Q : Option Value → Hp → Prop} (hd : 1 ≤ d) (a b : Int64) (hq : Q (some (.long (if a < b then b else a))) h) : ab_Ok d n_J9_max_f86c9 [.long a, .long b] h Q := by
  refine ab_go mr_J9_max_f86c9 rfl (by omega) (fun call W hc hW => ?_); (conv => whnf)
  refine ⟨fun e => ?_, fun e => ?_⟩ <;> (conv => whnf) <;> rw [lc_lt] at e
  · rw [if_pos e] at hq
    exact hq
  · rw [if_neg e] at hq
    exact hq
theorem ok_minL {d : Nat} {h : Hp} {Q : Option Value → Hp → Prop} (hd : 1 ≤ d) (a b : Int64) (hq : Q (some (.long (if b < a then b else a))) h) : ab_Ok d n_J9_min_f86c9 [.long a, .long b] h Q := by
  refine ab_go mr_J9_min_f86c9 rfl (by omega) (fun call W hc hW => ?_); (conv => whnf)
  refine ⟨fun e => ?_, fun e => ?_⟩ <;> (conv => whnf) <;> rw [lc_gt] at e
  · rw [if_pos e] at hq
    exact hq
  · rw [if_neg e] at hq
    exact hq
theorem ok_fill {d : Nat} {h : Hp} {Q : Option Value → Hp → Prop} (hd : 1 ≤ d) {a n : Nat} (v : Int32) (hk : ab_K h a = 13) (hl : ab_L h a = n) (hn : n < 2 ^ 31) (hq : Q none (ab_sA h a (fa_fill (fun _ => v) (ab_I h a) n))) : ab_Ok d n_J7_fill_53178 [.ref a, .int v] h Q := by
  refine ab_go mr_J7_fill_53178 rfl (by omega) (fun call W hc hW => ?_); (conv => whnf)
  (repeat (first | (refine And.intro (by (first | assumption | exact (show Sh _ from by assumption).1 _ (by decide) | exact Or.inl rfl | exact Or.inr rfl | exact Nat.le_of_ble_eq_true rfl)) ?_; (conv => whnf)) | (refine Exists.intro _ (And.intro (by (first | assumption | exact (show Sh _ from by assumption).2.2 _ _ _ rfl)) ?_); (conv => whnf)) | (refine bF (nI_ne0 (by decide) (by decide)) ?_; (conv => whnf)) | (refine bT nI_0 ?_; (conv => whnf)) | (refine bN (nI_ne0 (by decide) (by decide)) ?_; (conv => whnf)) | (refine bP nI_0 ?_; (conv => whnf)) | (refine And.intro (by (first | ((with_reducible show vp_in (nI _) _); first | exact vin _ (by assumption) (by omega) (by omega) | exact vin _ ((show Sh _ from by assumption).2.1 _ (by decide)) (by ((conv => rhs; whnf); (show _ < @OfNat.ofNat Nat _ (instOfNatNat _)); omega)) (by decide)) | (simp only [nI_add, pk_mul]; (with_reducible show vp_in (nI _) _); first | exact vin _ (by assumption) (by omega) (by omega) | exact vin _ ((show Sh _ from by assumption).2.1 _ (by decide)) (by ((conv => rhs; whnf); (show _ < @OfNat.ofNat Nat _ (instOfNatNat _)); omega)) (by decide)) | (simp (disch := omega) only [nI_add, pk_mul, ofN, Nat.add_zero, nI_clamp, nI_leI, nI_ltI, nI_eq, ms_n0 M, ms_n1 M, ms_n2 M, ms_n4 M, ms_n5 M, ms_n6 M, ms_g0 M, ms_g1 M, ms_g2 M, ms_g3 M, ms_cel M, ms_ran M, ms_wet M, ms_on M, ms_hin M, ms_stu M, ms_wei M, ms_twe M, ms_win M, ms_odd M, ms_bea M, ms_str M, ms_sh M, ms_sc M, ms_sp M, ms_sd M, ms_boo M, rI_s, rI_k, rI_a]; (with_reducible show vp_in (nI _) _); first | exact vin _ (by assumption) (by omega) (by omega) | exact vin _ ((show Sh _ from by assumption).2.1 _ (by decide)) (by ((conv => rhs; whnf); (show _ < @OfNat.ofNat Nat _ (instOfNatNat _)); omega)) (by decide)))) ?_; (conv => whnf))))
  have lp : ∀ r k, k + r = n → W 5 [.ref a, .int v, .int (nI k), .int (Int32.ofNat (ab_L h a))] (ab_sA h a (fa_fill (fun _ => v) (ab_I h a) k)) 0 0 := by
    intro r
    induction r with
    | zero =>
      intro k e
      obtain rfl : k = n := by omega
      refine hW _ _ _ _ _ ?_
      (conv => whnf)
      refine bT (by rw [hl]; exact nI_le (Nat.le_refl _) hn) ?_
      (conv => whnf)
      exact hq
    | succ r ih =>
      intro k e
      refine hW _ _ _ _ _ ?_
      (conv => whnf)
      refine bF (by rw [hl]; exact nI_ge (by omega) hn) ?_
      (conv => whnf)
      (repeat (first | (refine And.intro (by (first | assumption | exact (show Sh _ from by assumption).1 _ (by decide) | exact Or.inl rfl | exact Or.inr rfl | exact Nat.le_of_ble_eq_true rfl)) ?_; (conv => whnf)) | (refine Exists.intro _ (And.intro (by (first | assumption | exact (show Sh _ from by assumption).2.2 _ _ _ rfl)) ?_); (conv => whnf)) | (refine bF (nI_ne0 (by decide) (by decide)) ?_; (conv => whnf)) | (refine bT nI_0 ?_; (conv => whnf)) | (refine bN (nI_ne0 (by decide) (by decide)) ?_; (conv => whnf)) | (refine bP nI_0 ?_; (conv => whnf)) | (refine And.intro (by (first | ((with_reducible show vp_in (nI _) _); first | exact vin _ (by assumption) (by omega) (by omega) | exact vin _ ((show Sh _ from by assumption).2.1 _ (by decide)) (by ((conv => rhs; whnf); (show _ < @OfNat.ofNat Nat _ (instOfNatNat _)); omega)) (by decide)) | (simp only [nI_add, pk_mul]; (with_reducible show vp_in (nI _) _); first | exact vin _ (by assumption) (by omega) (by omega) | exact vin _ ((show Sh _ from by assumption).2.1 _ (by decide)) (by ((conv => rhs; whnf); (show _ < @OfNat.ofNat Nat _ (instOfNatNat _)); omega)) (by decide)) | (simp (disch := omega) only [nI_add, pk_mul, ofN, Nat.add_zero, nI_clamp, nI_leI, nI_ltI, nI_eq, ms_n0 M, ms_n1 M, ms_n2 M, ms_n4 M, ms_n5 M, ms_n6 M, ms_g0 M, ms_g1 M, ms_g2 M, ms_g3 M, ms_cel M, ms_ran M, ms_wet M, ms_on M, ms_hin M, ms_stu M, ms_wei M, ms_twe M, ms_win M, ms_odd M, ms_bea M, ms_str M, ms_sh M, ms_sc M, ms_sp M, ms_sd M, ms_boo M, rI_s, rI_k, rI_a]; (with_reducible show vp_in (nI _) _); first | exact vin _ (by assumption) (by omega) (by omega) | exact vin _ ((show Sh _ from by assumption).2.1 _ (by decide)) (by ((conv => rhs; whnf); (show _ < @OfNat.ofNat Nat _ (instOfNatNat _)); omega)) (by decide)))) ?_; (conv => whnf))))
      refine W_h ?_ (by first | rfl | (simp only [nI_add]; done) | (simp only [nI_add]; rfl)) (ih (k + 1) (by omega))
      rw [hs_IA, nI_clamp (by omega), ← fa_fill_succ]
  refine W_h ?_ (by first | rfl | (simp only [nI_add]; done) | (simp only [nI_add]; rfl)) (lp n 0 (by omega))
  rw [fa_fill_0, hs_A0]
theorem rg_in {x : Int32} {a b : Nat} (hb : b < 2 ^ 31) : (nI a ≤ x ∧ x ≤ nI b ∧ a < 2 ^ 31) → ∃ k, a ≤ k ∧ k ≤ b ∧ x = nI k := by
  rintro ⟨h0, h1, h2⟩
  rw [fa_le, nI_toInt h2] at h0
  rw [fa_le, nI_toInt hb] at h1
  refine ⟨x.toInt.toNat, by omega, by omega, ?_⟩
  rw [fa_eq, nI_toInt (by omega)]
  omega
theorem rg_pr {x : Int32} {n : Nat} (hn : n < 2 ^ 30) : (nI 0 ≤ x ∧ x ≤ nI n - nI 1) ↔ ∃ k, k < n ∧ x = nI k := by
  constructor
  · rintro ⟨h0, h1⟩
    rw [fa_le, nI_toInt (by decide)] at h0
    rw [fa_le, pk_sub_toInt hn (by decide)] at h1
    refine ⟨x.toInt.toNat, by omega, ?_⟩
    rw [fa_eq, nI_toInt (by omega)]
    omega
  · rintro ⟨k, hk, rfl⟩
    rw [fa_le, fa_le, nI_toInt (by decide), nI_toInt (by omega), pk_sub_toInt hn (by decide)]
    omega
theorem rg_mn {x : Int32} {n : Nat} (hn : n < 2 ^ 30) : (-1 ≤ x ∧ x ≤ nI n - nI 1) ↔ ∃ k, k ≤ n ∧ x = nI k - 1 := by
  have m1 : (-1 : Int32).toInt = -1 := rfl
  constructor
  · rintro ⟨h0, h1⟩
    rw [fa_le, m1] at h0
    rw [fa_le, pk_sub_toInt hn (by decide)] at h1
    refine ⟨(x.toInt + 1).toNat, by omega, ?_⟩
    have e1 : (nI (x.toInt + 1).toNat - 1).toInt = ((x.toInt + 1).toNat : Int) - 1 := pk_sub_toInt (b := 1) (by omega) (by decide)
    rw [fa_eq, e1]
    omega
  · rintro ⟨k, hk, rfl⟩
    have e1 : (nI k - 1).toInt = (k : Int) - 1 := pk_sub_toInt (b := 1) (by omega) (by decide)
    rw [fa_le, fa_le, m1, e1, pk_sub_toInt hn (by decide)]
    omega
theorem ok_wiN {d : Nat} {h : Hp} {Q : Option Value → Hp → Prop} (hd : 1 ≤ d) (a b : Nat) (x : Int32) (ha : a ≤ b) (hb : b < 2 ^ 30) (hy : ∀ k, a ≤ k → k ≤ b → x = nI k → Q (some (.int (nI 1))) h) (hn : (∀ k, a ≤ k → k ≤ b → x ≠ nI k) → Q (some (.int (nI 0))) h) : ab_Ok d n_X11_within [.int x, .int (nI a), .int (nI b)] h Q := by
  refine ok_within hd _ _ _ (fun h1 h2 => ?_) (fun h1 => hn (fun k h2 h3 e => ?_))
  · obtain ⟨k, k1, k2, e⟩ := rg_in (by omega) ⟨h1, h2, by omega⟩
    exact hy k k1 k2 e
  · rw [e] at h1
    exact h1 ⟨nI_le h2 (by omega), nI_le h3 (by omega)⟩
theorem ok_wiP {d : Nat} {h : Hp} {Q : Option Value → Hp → Prop} (hd : 1 ≤ d) (n : Nat) (x : Int32) (hb : n < 2 ^ 30) (hy : ∀ k, k < n → x = nI k → Q (some (.int (nI 1))) h) (hn : (∀ k, k < n → x ≠ nI k) → Q (some (.int (nI 0))) h) : ab_Ok d n_X11_within [.int x, .int (nI 0), .int (nI n - nI 1)] h Q := by
  refine ok_within hd _ _ _ (fun h1 h2 => ?_) (fun h1 => hn (fun k h2 e => ?_))
  · obtain ⟨k, k1, e⟩ := (rg_pr hb).mp ⟨h1, h2⟩
    exact hy k k1 e
  · exact h1 ((rg_pr hb).mpr ⟨k, h2, e⟩)
theorem ok_wiM {d : Nat} {h : Hp} {Q : Option Value → Hp → Prop} (hd : 1 ≤ d) (n : Nat) (x : Int32) (hb : n < 2 ^ 30) (hy : ∀ k, k ≤ n → x = nI k - 1 → Q (some (.int (nI 1))) h) (hn : (∀ k, k ≤ n → x ≠ nI k - 1) → Q (some (.int (nI 0))) h) : ab_Ok d n_X11_within [.int x, .int (-1), .int (nI n - nI 1)] h Q := by
  refine ok_within hd _ _ _ (fun h1 h2 => ?_) (fun h1 => hn (fun k h2 e => ?_))
  · obtain ⟨k, k1, e⟩ := (rg_mn hb).mp ⟨h1, h2⟩
    exact hy k k1 e
  · exact h1 ((rg_mn hb).mpr ⟨k, h2, e⟩)
theorem ok_inN {d : Nat} {h : Hp} {Q : Option Value → Hp → Prop} (hd : 1 ≤ d) (a b : Nat) (x : Int32) (ha : a ≤ b) (hb : b < 2 ^ 30) (hy : ∀ k, a ≤ k → k ≤ b → x = nI k → Q (some (.int (nI 1))) h) (hn : (∀ k, a ≤ k → k ≤ b → x ≠ nI k) → Q (some (.int (nI 0))) h) : ab_Ok d n_X12_isIn [.int x, .int (nI a), .int (nI b)] h Q := by
  refine ok_isIn hd _ _ _ (fun h1 h2 => ?_) (fun h1 => hn (fun k h2 h3 e => ?_))
  · obtain ⟨k, k1, k2, e⟩ := rg_in (by omega) ⟨h1, h2, by omega⟩
    exact hy k k1 k2 e
  · rw [e] at h1
    exact h1 ⟨nI_le h2 (by omega), nI_le h3 (by omega)⟩
theorem ok_inP {d : Nat} {h : Hp} {Q : Option Value → Hp → Prop} (hd : 1 ≤ d) (n : Nat) (x : Int32) (hb : n < 2 ^ 30) (hy : ∀ k, k < n → x = nI k → Q (some (.int (nI 1))) h) (hn : (∀ k, k < n → x ≠ nI k) → Q (some (.int (nI 0))) h) : ab_Ok d n_X12_isIn [.int x, .int (nI 0), .int (nI n - nI 1)] h Q := by
  refine ok_isIn hd _ _ _ (fun h1 h2 => ?_) (fun h1 => hn (fun k h2 e => ?_))
  · obtain ⟨k, k1, e⟩ := (rg_pr hb).mp ⟨h1, h2⟩
    exact hy k k1 e
  · exact h1 ((rg_pr hb).mpr ⟨k, h2, e⟩)
theorem ok_inM {d : Nat} {h : Hp} {Q : Option Value → Hp → Prop} (hd : 1 ≤ d) (n : Nat) (x : Int32) (hb : n < 2 ^ 30) (hy : ∀ k, k ≤ n → x = nI k - 1 → Q (some (.int (nI 1))) h) (hn : (∀ k, k ≤ n → x ≠ nI k - 1) → Q (some (.int (nI 0))) h) : ab_Ok d n_X12_isIn [.int x, .int (-1), .int (nI n - nI 1)] h Q := by
  refine ok_isIn hd _ _ _ (fun h1 h2 => ?_) (fun h1 => hn (fun k h2 e => ?_))
  · obtain ⟨k, k1, e⟩ := (rg_mn hb).mp ⟨h1, h2⟩
    exact hy k k1 e
  · exact h1 ((rg_mn hb).mpr ⟨k, h2, e⟩)
