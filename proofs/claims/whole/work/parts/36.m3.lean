/-! ===== contracts of the reference: steps kept and taken back (mine) ===== -/
theorem cpy_0 {α : Type} (f g : Nat → α) (sp dp : Nat) : va_cpy f g sp dp 0 = g := by
  funext k
  exact pk_cpy_out (by omega)
theorem cpy_st (f g : Nat → Int32) (sp dp n : Nat) : upd (va_cpy f g sp dp n) (dp + n) (f (sp + n)) = va_cpy f g sp dp (n + 1) := by
  funext k
  by_cases e : k = dp + n
  · subst e
    rw [pk_us, pk_cpy_in (by omega) (by omega)]
    congr 1
    omega
  · rw [pk_un e]
    by_cases e2 : dp ≤ k ∧ k < dp + n
    · rw [pk_cpy_in e2.1 e2.2, pk_cpy_in e2.1 (by omega)]
    · rw [pk_cpy_out (by omega), pk_cpy_out (by omega)]
def cpR (s : Sv) (j : Nat) : Sv := fun a k => if 1000 + 10 * j ≤ a ∧ a < 1000 + 10 * j + 6 then (if a = 1000 + 10 * j + 4 ∧ k = 4 then s 18 1 else s (a - (1000 + 10 * j)) k) else s a k
def shR (s : Sv) : Sv := fun a k => if 1000 ≤ a ∧ a < 1290 then s (a + 10) k else s a k
def kp (s : Sv) : Sv := if s 18 4 = 30 then cpR (shR s) 29 else st2 (cpR s (s 18 4)) 18 4 (s 18 4 + 1)
theorem y_sh : ∀ o, o < 2036 → 151 ≤ o → (ya (o + 65) = ya o + 10 ∧ yk (o + 65) = yk o ∧ 1000 ≤ ya o ∧ ya o < 1290) := by decide +kernel
theorem y_row : ∀ j, j < 30 → (∀ k, k < 34 → ya (152 + 65 * j + k) = 1000 + 10 * j + ya (7 + k) ∧ yk (152 + 65 * j + k) = yk (7 + k) ∧ ya (7 + k) < 5 ∧ ¬ (ya (7 + k) = 4 ∧ yk (7 + k) = 4)) ∧ (∀ k, k < 30 → ya (186 + 65 * j + k) = 1000 + 10 * j + 5 ∧ yk (186 + 65 * j + k) = k) ∧ ya (151 + 65 * j) = 1000 + 10 * j + 4 ∧ yk (151 + 65 * j) = 4 := by decide +kernel
theorem y_boo : ∀ k, k < 30 → ya (2101 + k) = 5 ∧ yk (2101 + k) = k := by decide +kernel
theorem y_r : ∀ o, o < 2131 → 1000 ≤ ya o → 151 ≤ o ∧ o < 2101 ∧ (ya o - 1000) / 10 = (o - 151) / 65 := by decide +kernel
theorem y_out {j : Nat} (o : Nat) (ho : o < 2131) (hx : o < 151 + 65 * j ∨ 216 + 65 * j ≤ o) : ¬ (1000 + 10 * j ≤ ya o ∧ ya o < 1000 + 10 * j + 6) := by
  intro h
  have := y_r o ho (by omega)
  omega
section M3
variable {d : Nat} {h : Hp} {Q : Option Value → Hp → Prop} {s : Sv}
/-- a row is written as the live state -/
theorem MS_row {h : Hp} {s : Sv} (M : MS h 581 s) {j : Nat} (hj : j < 30) : MS (ab_sA h 581 (va_cpy (va_cpy (upd (ab_I h 581) (151 + 65 * j) (ab_I h 581 1)) (upd (ab_I h 581) (151 + 65 * j) (ab_I h 581 1)) 7 (152 + 65 * j) 34) (va_cpy (upd (ab_I h 581) (151 + 65 * j) (ab_I h 581 1)) (upd (ab_I h 581) (151 + 65 * j) (ab_I h 581 1)) 7 (152 + 65 * j) 34) 2101 (186 + 65 * j) 30)) 581 (cpR s j) := by
  have Y := y_row j hj
  refine ⟨fun o ho h3 => ?_, ?_⟩
  · rw [rA_s]
    by_cases c1 : 186 + 65 * j ≤ o ∧ o < 186 + 65 * j + 30
    · rw [pk_cpy_in c1.1 c1.2, pk_cpy_out (by omega), pk_un (by omega), M.1 _ (by omega) (by omega)]
      have Y1 := Y.2.1 (o - (186 + 65 * j)) (by omega)
      have Y2 := y_boo (o - (186 + 65 * j)) (by omega)
      rw [show 186 + 65 * j + (o - (186 + 65 * j)) = o by omega] at Y1
      rw [Y1.1, Y1.2, Y2.1, Y2.2]
      unfold cpR
      rw [if_pos (by omega), if_neg (by omega), show 1000 + 10 * j + 5 - (1000 + 10 * j) = 5 by omega]
    · rw [pk_cpy_out (by omega)]
      by_cases c2 : 152 + 65 * j ≤ o ∧ o < 152 + 65 * j + 34
      · rw [pk_cpy_in c2.1 c2.2, pk_un (by omega), M.1 _ (by omega) (by omega)]
        have Y1 := Y.1 (o - (152 + 65 * j)) (by omega)
        rw [show 152 + 65 * j + (o - (152 + 65 * j)) = o by omega] at Y1
        rw [Y1.1, Y1.2.1]
        unfold cpR
        rw [if_pos (by omega), if_neg (by omega), show ∀ q, 1000 + 10 * j + q - (1000 + 10 * j) = q from fun q => by omega]
      · rw [pk_cpy_out (by omega)]
        by_cases c3 : o = 151 + 65 * j
        · subst c3
          rw [pk_us, ms_n1 M, Y.2.2.1, Y.2.2.2]
          unfold cpR
          rw [if_pos (by omega), if_pos (by omega)]
        · rw [pk_un c3, M.1 o ho h3]
          unfold cpR
          rw [if_neg (y_out o ho (by omega))]
  · rw [rA_s, pk_cpy_out (by omega), pk_cpy_out (by omega), pk_un (by omega), M.2]
    unfold cpR
    rw [if_neg (by omega)]
theorem MS_sh {h : Hp} {s : Sv} (M : MS h 581 s) : MS (ab_sA h 581 (va_cpy (ab_I h 581) (ab_I h 581) 216 151 1885)) 581 (shR s) := by
  refine ⟨fun o ho h3 => ?_, ?_⟩
  · rw [rA_s]
    by_cases c1 : 151 ≤ o ∧ o < 2036
    · rw [pk_cpy_in c1.1 (by omega), show 216 + (o - 151) = o + 65 by omega, M.1 _ (by omega) (by omega)]
      have Y := y_sh o c1.2 c1.1
      unfold shR
      rw [if_pos Y.2.2, Y.1, Y.2.1]
    · rw [pk_cpy_out (by omega), M.1 _ ho h3]
      unfold shR
      rw [if_neg ?_]
      have := (by decide +kernel : ∀ o, o < 2131 → ¬ (151 ≤ o ∧ o < 2036) → ¬ (1000 ≤ ya o ∧ ya o < 1290)) o ho c1
      exact this
  · rw [rA_s, pk_cpy_out (by omega), M.2]
    unfold shR
    rw [if_neg (by omega)]
theorem kp_30 (h30 : s 18 4 = 30) : st2 (cpR (st2 (shR s) 18 4 29) 29) 18 4 30 = cpR (shR s) 29 := by
  funext a k
  by_cases ha : a = 18
  · subst ha
    by_cases hk : k = 4
    · subst hk
      rw [s2_s]
      unfold cpR shR
      rw [if_neg (by omega), if_neg (by omega), h30]
    · rw [s2_k _ _ _ hk]
      unfold cpR
      rw [if_neg (by omega), if_neg (by omega), s2_k _ _ _ hk]
  · rw [s2_a _ _ _ _ ha]
    unfold cpR
    by_cases hr : 1000 + 10 * 29 ≤ a ∧ a < 1000 + 10 * 29 + 6
    · rw [if_pos hr, if_pos hr, s2_k _ _ _ (by decide), s2_a _ _ _ _ (by omega)]
    · rw [if_neg hr, if_neg hr, s2_a _ _ _ _ ha]
theorem om_keep (hd : 1 ≤ d) (S : Sh h) (M : MS h 581 s) (h4 : s 18 4 ≤ 30) (hq : ∀ h', MS h' 581 (kp s) → Fr mG h h' → Q none h') : ab_Ok d n_X12_keep [.ref 580] h Q := by
  refine ab_go mr_X12_keep rfl (by omega) (fun call W hc hW => ?_); (conv => whnf)
  have lp2 : ∀ {h : Hp} {s : Sv} (S : Sh h) (j : Nat) (hj : j < 30) (f : Nat → Int32) (hf : MS (ab_sA h 581 (va_cpy f f 2101 (186 + 65 * j) 30)) 581 s) (h4 : s 18 4 = j) (hq : ∀ h', MS h' 581 (st2 s 18 4 (j + 1)) → Fr mG h h' → Q none h') r k, k + r = 30 → W 117 [.ref 580, .int (nI (151 + 65 * j)), .int (nI k)] (ab_sA h 581 (va_cpy f f 2101 (186 + 65 * j) k)) 0 0 := by
    intro h s S j hj f M h4 hq r
    induction r with
    | zero =>
      intro k e
      obtain rfl : k = 30 := by omega
      refine hW _ _ _ _ _ ?_
      (conv => whnf)
      refine bT (by (simp (disch := omega) only [nI_add, pk_mul, ofN, Nat.add_zero, nI_clamp, nI_leI, nI_ltI, nI_eq, ms_n0 M, ms_n1 M, ms_n2 M, ms_n4 M, ms_n5 M, ms_n6 M, ms_g0 M, ms_g1 M, ms_g2 M, ms_g3 M, ms_cel M, ms_ran M, ms_wet M, ms_on M, ms_hin M, ms_stu M, ms_wei M, ms_twe M, ms_win M, ms_odd M, ms_bea M, ms_str M, ms_sh M, ms_sc M, ms_sp M, ms_sd M, ms_boo M]); first | done | omega) ?_
      (conv => whnf)
      (repeat (first | (refine And.intro (by (first | assumption | exact (show Sh _ from by assumption).1 _ (by decide) | exact Or.inl rfl | exact Or.inr rfl | exact Nat.le_of_ble_eq_true rfl)) ?_; (conv => whnf)) | (refine Exists.intro _ (And.intro (by (first | assumption | exact (show Sh _ from by assumption).2.2 _ _ _ rfl)) ?_); (conv => whnf)) | (refine bF (nI_ne0 (by decide) (by decide)) ?_; (conv => whnf)) | (refine bT nI_0 ?_; (conv => whnf)) | (refine bN (nI_ne0 (by decide) (by decide)) ?_; (conv => whnf)) | (refine bP nI_0 ?_; (conv => whnf)) | (refine And.intro (by (first | ((with_reducible show vp_in (nI _) _); first | exact vin _ (by assumption) (by omega) (by omega) | exact vin _ ((show Sh _ from by assumption).2.1 _ (by decide)) (by ((conv => rhs; whnf); (show _ < @OfNat.ofNat Nat _ (instOfNatNat _)); omega)) (by decide)) | (simp only [nI_add, pk_mul]; (with_reducible show vp_in (nI _) _); first | exact vin _ (by assumption) (by omega) (by omega) | exact vin _ ((show Sh _ from by assumption).2.1 _ (by decide)) (by ((conv => rhs; whnf); (show _ < @OfNat.ofNat Nat _ (instOfNatNat _)); omega)) (by decide)) | (simp (disch := omega) only [nI_add, pk_mul, ofN, Nat.add_zero, nI_clamp, nI_leI, nI_ltI, nI_eq, ms_n0 M, ms_n1 M, ms_n2 M, ms_n4 M, ms_n5 M, ms_n6 M, ms_g0 M, ms_g1 M, ms_g2 M, ms_g3 M, ms_cel M, ms_ran M, ms_wet M, ms_on M, ms_hin M, ms_stu M, ms_wei M, ms_twe M, ms_win M, ms_odd M, ms_bea M, ms_str M, ms_sh M, ms_sc M, ms_sp M, ms_sd M, ms_boo M, rI_s, rI_k, rI_a]; (with_reducible show vp_in (nI _) _); first | exact vin _ (by assumption) (by omega) (by omega) | exact vin _ ((show Sh _ from by assumption).2.1 _ (by decide)) (by ((conv => rhs; whnf); (show _ < @OfNat.ofNat Nat _ (instOfNatNat _)); omega)) (by decide)))) ?_; (conv => whnf))))
      simp (disch := omega) only [nI_add, pk_mul, ofN, Nat.add_zero, nI_clamp, nI_leI, nI_ltI, nI_eq, ms_n0 M, ms_n1 M, ms_n2 M, ms_n4 M, ms_n5 M, ms_n6 M, ms_g0 M, ms_g1 M, ms_g2 M, ms_g3 M, ms_cel M, ms_ran M, ms_wet M, ms_on M, ms_hin M, ms_stu M, ms_wei M, ms_twe M, ms_win M, ms_odd M, ms_bea M, ms_str M, ms_sh M, ms_sc M, ms_sp M, ms_sd M, ms_boo M, rI_s, rI_k, rI_a, s2_s, s2_k, s2_a]
      rw [h4]
      exact hq _ (mu_n4 M _) (Fr_tr (Fr_sA (fun _ => Or.inl (Or.inl rfl))) (fG _ _ _))
    | succ r ih =>
      intro k e
      refine hW _ _ _ _ _ ?_
      (conv => whnf)
      refine bF (by (simp (disch := omega) only [nI_add, pk_mul, ofN, Nat.add_zero, nI_clamp, nI_leI, nI_ltI, nI_eq, ms_n0 M, ms_n1 M, ms_n2 M, ms_n4 M, ms_n5 M, ms_n6 M, ms_g0 M, ms_g1 M, ms_g2 M, ms_g3 M, ms_cel M, ms_ran M, ms_wet M, ms_on M, ms_hin M, ms_stu M, ms_wei M, ms_twe M, ms_win M, ms_odd M, ms_bea M, ms_str M, ms_sh M, ms_sc M, ms_sp M, ms_sd M, ms_boo M]); first | done | omega) ?_
      (conv => whnf)
      (repeat (first | (refine And.intro (by (first | assumption | exact (show Sh _ from by assumption).1 _ (by decide) | exact Or.inl rfl | exact Or.inr rfl | exact Nat.le_of_ble_eq_true rfl)) ?_; (conv => whnf)) | (refine Exists.intro _ (And.intro (by (first | assumption | exact (show Sh _ from by assumption).2.2 _ _ _ rfl)) ?_); (conv => whnf)) | (refine bF (nI_ne0 (by decide) (by decide)) ?_; (conv => whnf)) | (refine bT nI_0 ?_; (conv => whnf)) | (refine bN (nI_ne0 (by decide) (by decide)) ?_; (conv => whnf)) | (refine bP nI_0 ?_; (conv => whnf)) | (refine And.intro (by (first | ((with_reducible show vp_in (nI _) _); first | exact vin _ (by assumption) (by omega) (by omega) | exact vin _ ((show Sh _ from by assumption).2.1 _ (by decide)) (by ((conv => rhs; whnf); (show _ < @OfNat.ofNat Nat _ (instOfNatNat _)); omega)) (by decide)) | (simp only [nI_add, pk_mul]; (with_reducible show vp_in (nI _) _); first | exact vin _ (by assumption) (by omega) (by omega) | exact vin _ ((show Sh _ from by assumption).2.1 _ (by decide)) (by ((conv => rhs; whnf); (show _ < @OfNat.ofNat Nat _ (instOfNatNat _)); omega)) (by decide)) | (simp (disch := omega) only [nI_add, pk_mul, ofN, Nat.add_zero, nI_clamp, nI_leI, nI_ltI, nI_eq, ms_n0 M, ms_n1 M, ms_n2 M, ms_n4 M, ms_n5 M, ms_n6 M, ms_g0 M, ms_g1 M, ms_g2 M, ms_g3 M, ms_cel M, ms_ran M, ms_wet M, ms_on M, ms_hin M, ms_stu M, ms_wei M, ms_twe M, ms_win M, ms_odd M, ms_bea M, ms_str M, ms_sh M, ms_sc M, ms_sp M, ms_sd M, ms_boo M, rI_s, rI_k, rI_a]; (with_reducible show vp_in (nI _) _); first | exact vin _ (by assumption) (by omega) (by omega) | exact vin _ ((show Sh _ from by assumption).2.1 _ (by decide)) (by ((conv => rhs; whnf); (show _ < @OfNat.ofNat Nat _ (instOfNatNat _)); omega)) (by decide)))) ?_; (conv => whnf))))
      refine W_h ?_ (by (try simp (disch := omega) only [nI_add, Nat.add_zero]) <;> rfl) (ih (k + 1) (by omega))
      simp (disch := omega) only [nI_add, pk_mul, ofN, Nat.add_zero, nI_clamp, nI_leI, nI_ltI, nI_eq, rA_s]
      rw [hs_IA, ← cpy_st, show 151 + 65 * j + 35 + k = 186 + 65 * j + k by omega, pk_cpy_out (j := 2101 + k) (by omega)]
  have lp1 : ∀ {h : Hp} {s : Sv} (S : Sh h) (M : MS h 581 s) (j : Nat) (hj : j < 30) (h4 : s 18 4 = j) (hq : ∀ h', MS h' 581 (st2 (cpR s j) 18 4 (j + 1)) → Fr mG h h' → Q none h') r k, k + r = 34 → W 84 [.ref 580, .int (nI (151 + 65 * j)), .int (nI k)] (ab_sA h 581 (va_cpy (upd (ab_I h 581) (151 + 65 * j) (ab_I h 581 1)) (upd (ab_I h 581) (151 + 65 * j) (ab_I h 581 1)) 7 (152 + 65 * j) k)) 0 0 := by
    intro h s S M j hj h4 hq r
    induction r with
    | zero =>
      intro k e
      obtain rfl : k = 34 := by omega
      refine hW _ _ _ _ _ ?_
      (conv => whnf)
      refine bT (by (simp (disch := omega) only [nI_add, pk_mul, ofN, Nat.add_zero, nI_clamp, nI_leI, nI_ltI, nI_eq, ms_n0 M, ms_n1 M, ms_n2 M, ms_n4 M, ms_n5 M, ms_n6 M, ms_g0 M, ms_g1 M, ms_g2 M, ms_g3 M, ms_cel M, ms_ran M, ms_wet M, ms_on M, ms_hin M, ms_stu M, ms_wei M, ms_twe M, ms_win M, ms_odd M, ms_bea M, ms_str M, ms_sh M, ms_sc M, ms_sp M, ms_sd M, ms_boo M]); first | done | omega) ?_
      (conv => whnf)
      have M' := MS_row M hj
      refine W_h ?_ rfl (lp2 S j hj _ M' (by unfold cpR; rw [if_neg (by omega)]; exact h4) hq 30 0 rfl)
      rw [cpy_0]
    | succ r ih =>
      intro k e
      refine hW _ _ _ _ _ ?_
      (conv => whnf)
      refine bF (by (simp (disch := omega) only [nI_add, pk_mul, ofN, Nat.add_zero, nI_clamp, nI_leI, nI_ltI, nI_eq, ms_n0 M, ms_n1 M, ms_n2 M, ms_n4 M, ms_n5 M, ms_n6 M, ms_g0 M, ms_g1 M, ms_g2 M, ms_g3 M, ms_cel M, ms_ran M, ms_wet M, ms_on M, ms_hin M, ms_stu M, ms_wei M, ms_twe M, ms_win M, ms_odd M, ms_bea M, ms_str M, ms_sh M, ms_sc M, ms_sp M, ms_sd M, ms_boo M]); first | done | omega) ?_
      (conv => whnf)
      (repeat (first | (refine And.intro (by (first | assumption | exact (show Sh _ from by assumption).1 _ (by decide) | exact Or.inl rfl | exact Or.inr rfl | exact Nat.le_of_ble_eq_true rfl)) ?_; (conv => whnf)) | (refine Exists.intro _ (And.intro (by (first | assumption | exact (show Sh _ from by assumption).2.2 _ _ _ rfl)) ?_); (conv => whnf)) | (refine bF (nI_ne0 (by decide) (by decide)) ?_; (conv => whnf)) | (refine bT nI_0 ?_; (conv => whnf)) | (refine bN (nI_ne0 (by decide) (by decide)) ?_; (conv => whnf)) | (refine bP nI_0 ?_; (conv => whnf)) | (refine And.intro (by (first | ((with_reducible show vp_in (nI _) _); first | exact vin _ (by assumption) (by omega) (by omega) | exact vin _ ((show Sh _ from by assumption).2.1 _ (by decide)) (by ((conv => rhs; whnf); (show _ < @OfNat.ofNat Nat _ (instOfNatNat _)); omega)) (by decide)) | (simp only [nI_add, pk_mul]; (with_reducible show vp_in (nI _) _); first | exact vin _ (by assumption) (by omega) (by omega) | exact vin _ ((show Sh _ from by assumption).2.1 _ (by decide)) (by ((conv => rhs; whnf); (show _ < @OfNat.ofNat Nat _ (instOfNatNat _)); omega)) (by decide)) | (simp (disch := omega) only [nI_add, pk_mul, ofN, Nat.add_zero, nI_clamp, nI_leI, nI_ltI, nI_eq, ms_n0 M, ms_n1 M, ms_n2 M, ms_n4 M, ms_n5 M, ms_n6 M, ms_g0 M, ms_g1 M, ms_g2 M, ms_g3 M, ms_cel M, ms_ran M, ms_wet M, ms_on M, ms_hin M, ms_stu M, ms_wei M, ms_twe M, ms_win M, ms_odd M, ms_bea M, ms_str M, ms_sh M, ms_sc M, ms_sp M, ms_sd M, ms_boo M, rI_s, rI_k, rI_a]; (with_reducible show vp_in (nI _) _); first | exact vin _ (by assumption) (by omega) (by omega) | exact vin _ ((show Sh _ from by assumption).2.1 _ (by decide)) (by ((conv => rhs; whnf); (show _ < @OfNat.ofNat Nat _ (instOfNatNat _)); omega)) (by decide)))) ?_; (conv => whnf))))
      refine W_h ?_ (by (try simp (disch := omega) only [nI_add, Nat.add_zero]) <;> rfl) (ih (k + 1) (by omega))
      simp (disch := omega) only [nI_add, pk_mul, ofN, Nat.add_zero, nI_clamp, nI_leI, nI_ltI, nI_eq, rA_s]
      rw [hs_IA, ← cpy_st, show 151 + 65 * j + 1 + k = 152 + 65 * j + k by omega, pk_cpy_out (j := 7 + k) (by omega)]
  have lp0 : ∀ r k, k + r = 1885 → s 18 4 = 30 → W 13 [.ref 580, .int (nI k)] (ab_sA h 581 (va_cpy (ab_I h 581) (ab_I h 581) 216 151 k)) 0 0 := by
    intro r
    induction r with
    | zero =>
      intro k e h30
      obtain rfl : k = 1885 := by omega
      refine hW _ _ _ _ _ ?_
      (conv => whnf)
      refine bT (by (simp (disch := omega) only [nI_add, pk_mul, ofN, Nat.add_zero, nI_clamp, nI_leI, nI_ltI, nI_eq, ms_n0 M, ms_n1 M, ms_n2 M, ms_n4 M, ms_n5 M, ms_n6 M, ms_g0 M, ms_g1 M, ms_g2 M, ms_g3 M, ms_cel M, ms_ran M, ms_wet M, ms_on M, ms_hin M, ms_stu M, ms_wei M, ms_twe M, ms_win M, ms_odd M, ms_bea M, ms_str M, ms_sh M, ms_sc M, ms_sp M, ms_sd M, ms_boo M]); first | done | omega) ?_
      (conv => whnf)
      obtain ⟨h1, e1⟩ : ∃ h1, h1 = ab_sA h 581 (va_cpy (ab_I h 581) (ab_I h 581) 216 151 1885) := ⟨_, rfl⟩
      have M1 := MS_sh M
      have F1 : Fr mG h h1 := by rw [e1]; exact Fr_sA (fun _ => Or.inl (Or.inl rfl))
      rw [← e1] at M1 ⊢
      have S1 := Fr_Sh F1 S
      have M2 := mu_n4 M1 29
      have v1 : ab_I h1 581 (nI 4).toNatClampNeg = nI 30 := by rw [nI_clamp (by decide), ms_n4 M1]; unfold shR; rw [if_neg (by omega), h30]
      have v2 : nI 30 - nI 1 = nI 29 := pk_sub (by decide)
      have v3 : ab_I (ab_sI h1 581 4 (nI 29)) 581 4 = nI 29 := rI_s _ _ _ _
      clear M
      have M := M2
      (repeat (first | (refine And.intro (by (first | assumption | exact (show Sh _ from by assumption).1 _ (by decide) | exact Or.inl rfl | exact Or.inr rfl | exact Nat.le_of_ble_eq_true rfl)) ?_; (conv => whnf)) | (refine Exists.intro _ (And.intro (by (first | assumption | exact (show Sh _ from by assumption).2.2 _ _ _ rfl)) ?_); (conv => whnf)) | (refine bF (nI_ne0 (by decide) (by decide)) ?_; (conv => whnf)) | (refine bT nI_0 ?_; (conv => whnf)) | (refine bN (nI_ne0 (by decide) (by decide)) ?_; (conv => whnf)) | (refine bP nI_0 ?_; (conv => whnf)) | (refine And.intro (by (first | ((with_reducible show vp_in (nI _) _); first | exact vin _ (by assumption) (by omega) (by omega) | exact vin _ ((show Sh _ from by assumption).2.1 _ (by decide)) (by ((conv => rhs; whnf); (show _ < @OfNat.ofNat Nat _ (instOfNatNat _)); omega)) (by decide)) | (simp only [nI_add, pk_mul]; (with_reducible show vp_in (nI _) _); first | exact vin _ (by assumption) (by omega) (by omega) | exact vin _ ((show Sh _ from by assumption).2.1 _ (by decide)) (by ((conv => rhs; whnf); (show _ < @OfNat.ofNat Nat _ (instOfNatNat _)); omega)) (by decide)) | (simp (disch := omega) only [nI_add, pk_mul, ofN, Nat.add_zero, nI_clamp, nI_leI, nI_ltI, nI_eq, ms_n0 M, ms_n1 M, ms_n2 M, ms_n4 M, ms_n5 M, ms_n6 M, ms_g0 M, ms_g1 M, ms_g2 M, ms_g3 M, ms_cel M, ms_ran M, ms_wet M, ms_on M, ms_hin M, ms_stu M, ms_wei M, ms_twe M, ms_win M, ms_odd M, ms_bea M, ms_str M, ms_sh M, ms_sc M, ms_sp M, ms_sd M, ms_boo M, rI_s, rI_k, rI_a]; (with_reducible show vp_in (nI _) _); first | exact vin _ (by assumption) (by omega) (by omega) | exact vin _ ((show Sh _ from by assumption).2.1 _ (by decide)) (by ((conv => rhs; whnf); (show _ < @OfNat.ofNat Nat _ (instOfNatNat _)); omega)) (by decide)))) ?_; (conv => whnf))))
      rw [v1, v2, nI_clamp (n := 4) (by decide)]
      obtain ⟨h2, e2⟩ : ∃ h2, h2 = ab_sI h1 581 4 (nI 29) := ⟨_, rfl⟩
      have F2 : Fr mG h h2 := by rw [e2]; exact Fr_tr F1 (fG _ _ _)
      rw [← e2] at M2 ⊢
      rw [← e2] at v3
      have S2 := Fr_Sh F2 S
      rw [v3, pk_mul, nI_add]
      refine ⟨by first | ((with_reducible show vp_in (nI _) _); first | exact vin _ (by assumption) (by omega) (by omega) | exact vin _ ((show Sh _ from by assumption).2.1 _ (by decide)) (by ((conv => rhs; whnf); (show _ < @OfNat.ofNat Nat _ (instOfNatNat _)); omega)) (by decide)) | (simp only [nI_add, pk_mul]; (with_reducible show vp_in (nI _) _); first | exact vin _ (by assumption) (by omega) (by omega) | exact vin _ ((show Sh _ from by assumption).2.1 _ (by decide)) (by ((conv => rhs; whnf); (show _ < @OfNat.ofNat Nat _ (instOfNatNat _)); omega)) (by decide)) | (simp (disch := omega) only [nI_add, pk_mul, ofN, Nat.add_zero, nI_clamp, nI_leI, nI_ltI, nI_eq, ms_n0 M, ms_n1 M, ms_n2 M, ms_n4 M, ms_n5 M, ms_n6 M, ms_g0 M, ms_g1 M, ms_g2 M, ms_g3 M, ms_cel M, ms_ran M, ms_wet M, ms_on M, ms_hin M, ms_stu M, ms_wei M, ms_twe M, ms_win M, ms_odd M, ms_bea M, ms_str M, ms_sh M, ms_sc M, ms_sp M, ms_sd M, ms_boo M, rI_s, rI_k, rI_a]; (with_reducible show vp_in (nI _) _); first | exact vin _ (by assumption) (by omega) (by omega) | exact vin _ ((show Sh _ from by assumption).2.1 _ (by decide)) (by ((conv => rhs; whnf); (show _ < @OfNat.ofNat Nat _ (instOfNatNat _)); omega)) (by decide)), ?_⟩
      (conv => whnf)
      refine W_h ?_ rfl (lp1 S2 M2 29 (by omega) (s2_s _ _ _ _) (fun h' Mh Fh => hq h' (by unfold kp; rw [if_pos h30, ← kp_30 h30]; exact Mh) (Fr_tr F2 Fh)) 34 0 rfl)
      rw [cpy_0]
      rfl
    | succ r ih =>
      intro k e h30
      refine hW _ _ _ _ _ ?_
      (conv => whnf)
      refine bF (by (simp (disch := omega) only [nI_add, pk_mul, ofN, Nat.add_zero, nI_clamp, nI_leI, nI_ltI, nI_eq, ms_n0 M, ms_n1 M, ms_n2 M, ms_n4 M, ms_n5 M, ms_n6 M, ms_g0 M, ms_g1 M, ms_g2 M, ms_g3 M, ms_cel M, ms_ran M, ms_wet M, ms_on M, ms_hin M, ms_stu M, ms_wei M, ms_twe M, ms_win M, ms_odd M, ms_bea M, ms_str M, ms_sh M, ms_sc M, ms_sp M, ms_sd M, ms_boo M]); first | done | omega) ?_
      (conv => whnf)
      (repeat (first | (refine And.intro (by (first | assumption | exact (show Sh _ from by assumption).1 _ (by decide) | exact Or.inl rfl | exact Or.inr rfl | exact Nat.le_of_ble_eq_true rfl)) ?_; (conv => whnf)) | (refine Exists.intro _ (And.intro (by (first | assumption | exact (show Sh _ from by assumption).2.2 _ _ _ rfl)) ?_); (conv => whnf)) | (refine bF (nI_ne0 (by decide) (by decide)) ?_; (conv => whnf)) | (refine bT nI_0 ?_; (conv => whnf)) | (refine bN (nI_ne0 (by decide) (by decide)) ?_; (conv => whnf)) | (refine bP nI_0 ?_; (conv => whnf)) | (refine And.intro (by (first | ((with_reducible show vp_in (nI _) _); first | exact vin _ (by assumption) (by omega) (by omega) | exact vin _ ((show Sh _ from by assumption).2.1 _ (by decide)) (by ((conv => rhs; whnf); (show _ < @OfNat.ofNat Nat _ (instOfNatNat _)); omega)) (by decide)) | (simp only [nI_add, pk_mul]; (with_reducible show vp_in (nI _) _); first | exact vin _ (by assumption) (by omega) (by omega) | exact vin _ ((show Sh _ from by assumption).2.1 _ (by decide)) (by ((conv => rhs; whnf); (show _ < @OfNat.ofNat Nat _ (instOfNatNat _)); omega)) (by decide)) | (simp (disch := omega) only [nI_add, pk_mul, ofN, Nat.add_zero, nI_clamp, nI_leI, nI_ltI, nI_eq, ms_n0 M, ms_n1 M, ms_n2 M, ms_n4 M, ms_n5 M, ms_n6 M, ms_g0 M, ms_g1 M, ms_g2 M, ms_g3 M, ms_cel M, ms_ran M, ms_wet M, ms_on M, ms_hin M, ms_stu M, ms_wei M, ms_twe M, ms_win M, ms_odd M, ms_bea M, ms_str M, ms_sh M, ms_sc M, ms_sp M, ms_sd M, ms_boo M, rI_s, rI_k, rI_a]; (with_reducible show vp_in (nI _) _); first | exact vin _ (by assumption) (by omega) (by omega) | exact vin _ ((show Sh _ from by assumption).2.1 _ (by decide)) (by ((conv => rhs; whnf); (show _ < @OfNat.ofNat Nat _ (instOfNatNat _)); omega)) (by decide)))) ?_; (conv => whnf))))
      refine W_h ?_ (by (try simp (disch := omega) only [nI_add, Nat.add_zero]) <;> rfl) (ih (k + 1) (by omega) h30)
      simp (disch := omega) only [nI_add, pk_mul, ofN, Nat.add_zero, nI_clamp, nI_leI, nI_ltI, nI_eq, rA_s]
      rw [hs_IA, ← cpy_st, pk_cpy_out (j := 216 + k) (by omega)]
  (repeat (first | (refine And.intro (by (first | assumption | exact (show Sh _ from by assumption).1 _ (by decide) | exact Or.inl rfl | exact Or.inr rfl | exact Nat.le_of_ble_eq_true rfl)) ?_; (conv => whnf)) | (refine Exists.intro _ (And.intro (by (first | assumption | exact (show Sh _ from by assumption).2.2 _ _ _ rfl)) ?_); (conv => whnf)) | (refine bF (nI_ne0 (by decide) (by decide)) ?_; (conv => whnf)) | (refine bT nI_0 ?_; (conv => whnf)) | (refine bN (nI_ne0 (by decide) (by decide)) ?_; (conv => whnf)) | (refine bP nI_0 ?_; (conv => whnf)) | (refine And.intro (by (first | ((with_reducible show vp_in (nI _) _); first | exact vin _ (by assumption) (by omega) (by omega) | exact vin _ ((show Sh _ from by assumption).2.1 _ (by decide)) (by ((conv => rhs; whnf); (show _ < @OfNat.ofNat Nat _ (instOfNatNat _)); omega)) (by decide)) | (simp only [nI_add, pk_mul]; (with_reducible show vp_in (nI _) _); first | exact vin _ (by assumption) (by omega) (by omega) | exact vin _ ((show Sh _ from by assumption).2.1 _ (by decide)) (by ((conv => rhs; whnf); (show _ < @OfNat.ofNat Nat _ (instOfNatNat _)); omega)) (by decide)) | (simp (disch := omega) only [nI_add, pk_mul, ofN, Nat.add_zero, nI_clamp, nI_leI, nI_ltI, nI_eq, ms_n0 M, ms_n1 M, ms_n2 M, ms_n4 M, ms_n5 M, ms_n6 M, ms_g0 M, ms_g1 M, ms_g2 M, ms_g3 M, ms_cel M, ms_ran M, ms_wet M, ms_on M, ms_hin M, ms_stu M, ms_wei M, ms_twe M, ms_win M, ms_odd M, ms_bea M, ms_str M, ms_sh M, ms_sc M, ms_sp M, ms_sd M, ms_boo M, rI_s, rI_k, rI_a]; (with_reducible show vp_in (nI _) _); first | exact vin _ (by assumption) (by omega) (by omega) | exact vin _ ((show Sh _ from by assumption).2.1 _ (by decide)) (by ((conv => rhs; whnf); (show _ < @OfNat.ofNat Nat _ (instOfNatNat _)); omega)) (by decide)))) ?_; (conv => whnf))))
  refine ⟨fun f => ?_, fun f => ?_⟩ <;> simp (disch := omega) only [nI_add, pk_mul, ofN, Nat.add_zero, nI_clamp, nI_leI, nI_ltI, nI_eq, ms_n0 M, ms_n1 M, ms_n2 M, ms_n4 M, ms_n5 M, ms_n6 M, ms_g0 M, ms_g1 M, ms_g2 M, ms_g3 M, ms_cel M, ms_ran M, ms_wet M, ms_on M, ms_hin M, ms_stu M, ms_wei M, ms_twe M, ms_win M, ms_odd M, ms_bea M, ms_str M, ms_sh M, ms_sc M, ms_sp M, ms_sd M, ms_boo M] at f
  · (conv => whnf)
    have v1 : ab_I h 581 (nI 4).toNatClampNeg = nI (s 18 4) := by rw [nI_clamp (by decide), ms_n4 M]
    (repeat (first | (refine And.intro (by (first | assumption | exact (show Sh _ from by assumption).1 _ (by decide) | exact Or.inl rfl | exact Or.inr rfl | exact Nat.le_of_ble_eq_true rfl)) ?_; (conv => whnf)) | (refine Exists.intro _ (And.intro (by (first | assumption | exact (show Sh _ from by assumption).2.2 _ _ _ rfl)) ?_); (conv => whnf)) | (refine bF (nI_ne0 (by decide) (by decide)) ?_; (conv => whnf)) | (refine bT nI_0 ?_; (conv => whnf)) | (refine bN (nI_ne0 (by decide) (by decide)) ?_; (conv => whnf)) | (refine bP nI_0 ?_; (conv => whnf)) | (refine And.intro (by (first | ((with_reducible show vp_in (nI _) _); first | exact vin _ (by assumption) (by omega) (by omega) | exact vin _ ((show Sh _ from by assumption).2.1 _ (by decide)) (by ((conv => rhs; whnf); (show _ < @OfNat.ofNat Nat _ (instOfNatNat _)); omega)) (by decide)) | (simp only [nI_add, pk_mul]; (with_reducible show vp_in (nI _) _); first | exact vin _ (by assumption) (by omega) (by omega) | exact vin _ ((show Sh _ from by assumption).2.1 _ (by decide)) (by ((conv => rhs; whnf); (show _ < @OfNat.ofNat Nat _ (instOfNatNat _)); omega)) (by decide)) | (simp (disch := omega) only [nI_add, pk_mul, ofN, Nat.add_zero, nI_clamp, nI_leI, nI_ltI, nI_eq, ms_n0 M, ms_n1 M, ms_n2 M, ms_n4 M, ms_n5 M, ms_n6 M, ms_g0 M, ms_g1 M, ms_g2 M, ms_g3 M, ms_cel M, ms_ran M, ms_wet M, ms_on M, ms_hin M, ms_stu M, ms_wei M, ms_twe M, ms_win M, ms_odd M, ms_bea M, ms_str M, ms_sh M, ms_sc M, ms_sp M, ms_sd M, ms_boo M, rI_s, rI_k, rI_a]; (with_reducible show vp_in (nI _) _); first | exact vin _ (by assumption) (by omega) (by omega) | exact vin _ ((show Sh _ from by assumption).2.1 _ (by decide)) (by ((conv => rhs; whnf); (show _ < @OfNat.ofNat Nat _ (instOfNatNat _)); omega)) (by decide)))) ?_; (conv => whnf))))
    refine W_h ?_ (by (try simp (disch := omega) only [nI_add, Nat.add_zero, pk_mul, v1]) <;> rfl) (lp1 S M (s 18 4) (by omega) rfl (fun h' Mh Fh => hq h' (by unfold kp; rw [if_neg f]; exact Mh) Fh) 34 0 rfl)
    rw [cpy_0]
    simp (disch := omega) only [nI_add, pk_mul, ofN, Nat.add_zero, nI_clamp, nI_leI, nI_ltI, nI_eq, ms_n4 M]
    rfl
  · (conv => whnf)
    refine W_h ?_ rfl (lp0 1885 0 rfl f)
    rw [cpy_0, hs_A0]
end M3
