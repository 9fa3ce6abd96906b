/-! ===== contracts: lowest terms on both sides (mine) ===== -/
theorem lN_t {n : Nat} (h : n < 2 ^ 62) : (lN n).toInt = n := Int64.toInt_ofNat_of_lt (by omega)
theorem lN_e {a b : Nat} (ha : a < 2 ^ 62) (hb : b < 2 ^ 62) : lN a = lN b ↔ a = b := by rw [fa_eq64, lN_t ha, lN_t hb]; omega
theorem lN_n0 {b : Nat} (h0 : 0 < b) (hb : b < 2 ^ 62) : ¬ lN b = 0 := by rw [show (0 : Int64) = lN 0 from rfl, lN_e hb (by omega)]; omega
theorem lN_div {a b : Nat} (ha : a < 2 ^ 62) (hb : b < 2 ^ 62) : lN a / lN b = lN (a / b) := by
  have := Nat.div_le_self a b
  rw [fa_eq64, Jvm.Kit.i64_div (by rw [lN_t ha]; omega), lN_t ha, lN_t hb, lN_t (by omega), Int.ofNat_tdiv]
theorem lN_mod {a b : Nat} (ha : a < 2 ^ 62) (hb : b < 2 ^ 62) : lN a - lN a / lN b * lN b = lN (a % b) := by
  have h1 := Nat.div_add_mod a b
  rw [Nat.mul_comm] at h1
  rw [lN_div ha hb, lN_mul, lN_sub (by omega), show a - a / b * b = a % b by omega]
theorem eu_half {d r : Nat} (h0 : 0 < r) (h : r < d) : 2 * (d % r) < d := by
  have h1 := Nat.mod_lt d h0
  have h2 := Nat.div_add_mod d r
  have h3 : 1 ≤ d / r := (Nat.le_div_iff_mul_le h0).mpr (by omega)
  have h4 : r * 1 ≤ r * (d / r) := Nat.mul_le_mul_left r h3
  omega
def ltm (u l : Nat) (w : Int32) : Nat := if w = 0 then u / Nat.gcd u l else l / Nat.gcd u l
section LT
variable {d : Nat} {h : Hp} {Q : Option Value → Hp → Prop}
theorem oc_lowestTerms (hd : 1 ≤ d) {u l : Nat} (hu : u < 2 ^ 45) (hl : l < 2 ^ 45) (hu1 : 1 ≤ u) (w : Int32) (hw : w = 0 ∨ w = 1) (hq : Q (some (.long (lN (ltm u l w)))) h) : ab_Ok d n_X11_lowestTerms [.long (lN u), .long (lN l), .int w] h Q := by
  have g1 : 1 ≤ Nat.gcd u l := Nat.gcd_pos_of_pos_left l hu1
  have g2 : Nat.gcd u l ≤ u := Nat.gcd_le_left l hu1
  unfold ltm at hq
  refine ab_go mr_X11_lowestTerms rfl (by omega) (fun call W hc hW => ?_); (conv => whnf)
  have lp : ∀ rr i d r a b : Nat, i + rr = 100 → r < d → d < 2 ^ 45 → d < 2 ^ a → r < 2 ^ b → a + b ≤ rr → Nat.gcd d r = Nat.gcd u l → W 9 [.long (lN u), .long (lN l), .int w, .long (lN d), .long (lN r), .int (nI i)] h 0 0 := by
    have en : ∀ i d r : Nat, r = 0 → d < 2 ^ 45 → Nat.gcd d r = Nat.gcd u l → i ≤ 100 → W 9 [.long (lN u), .long (lN l), .int w, .long (lN d), .long (lN r), .int (nI i)] h 0 0 := by
      intro i d r z hd40 e hi
      subst z
      rw [Nat.gcd_zero_right] at e
      subst e
      have q : W 9 [.long (lN u), .long (lN l), .int w, .long (lN (Nat.gcd u l)), .long (lN 0), .int (nI i)] h 0 0 := by
        refine hW _ _ _ _ _ ?_
        (conv => whnf)
        refine ⟨fun f => ?_, fun f => ?_⟩ <;> (conv => whnf)
        · refine ⟨fun f => ?_, fun f => ?_⟩ <;> rw [lc_eq, lN_e (by omega) (by omega)] at f
          · (conv => whnf)
            refine ⟨fun f => ?_, fun f => ?_⟩ <;> (conv => whnf)
            · refine ⟨lN_n0 (by omega) (by omega), ?_⟩
              (conv => whnf)
              rw [if_pos f, ← lN_div (by omega) (by omega)] at hq
              exact hq
            · refine ⟨lN_n0 (by omega) (by omega), ?_⟩
              (conv => whnf)
              rw [if_neg f, ← lN_div (by omega) (by omega)] at hq
              exact hq
          · omega
        · refine bT (by rw [lc_eq]) ?_
          (conv => whnf)
          refine ⟨fun f => ?_, fun f => ?_⟩ <;> rw [lc_eq, lN_e (by omega) (by omega)] at f
          · (conv => whnf)
            refine ⟨fun f => ?_, fun f => ?_⟩ <;> (conv => whnf)
            · refine ⟨lN_n0 (by omega) (by omega), ?_⟩
              (conv => whnf)
              rw [if_pos f, ← lN_div (by omega) (by omega)] at hq
              exact hq
            · refine ⟨lN_n0 (by omega) (by omega), ?_⟩
              (conv => whnf)
              rw [if_neg f, ← lN_div (by omega) (by omega)] at hq
              exact hq
          · omega
      exact q
    intro rr
    induction rr with
    | zero =>
      intro i d r a b e hr hd4 ha hb hab hg
      obtain rfl : a = 0 := by omega
      obtain rfl : b = 0 := by omega
      omega
    | succ rr ih =>
      intro i d r a b e hr hd4 ha hb hab hg
      rcases Nat.eq_zero_or_pos r with z | z
      · exact en i d r z hd4 hg (by omega)
      · have hh := eu_half z hr
        have a1 : a ≠ 0 := by intro y; subst y; omega
        have a2 : 2 ^ a = 2 * 2 ^ (a - 1) := by
          rw [show a = (a - 1) + 1 by omega, Nat.pow_succ, Nat.add_sub_cancel]
          omega
        refine hW _ _ _ _ _ ?_
        (conv => whnf)
        refine bF (nI_ge (by omega) (by omega)) ?_
        (conv => whnf)
        refine bF (by rw [lc_eq, lN_e (by omega) (by omega)]; omega) ?_
        (conv => whnf)
        refine ⟨lN_n0 (by omega) (by omega), ?_⟩
        (conv => whnf)
        rw [lN_mod (by omega) (by omega)]
        exact W_h rfl (by (try simp (disch := omega) only [nI_add, Nat.add_zero]) <;> rfl) (ih (i + 1) r (d % r) b (a - 1) (by omega) (Nat.mod_lt _ z) (by omega) hb (by omega) (by omega) (by rw [← hg, Nat.gcd_comm d r, Nat.gcd_rec r d, Nat.gcd_comm]))
  refine hW _ _ _ _ _ ?_
  (conv => whnf)
  refine bF (nI_ge (by omega) (by omega)) ?_
  (conv => whnf)
  refine bF (by rw [lc_eq, lN_e (by omega) (by omega)]; omega) ?_
  (conv => whnf)
  refine ⟨lN_n0 (by omega) (by omega), ?_⟩
  (conv => whnf)
  rw [lN_mod (by omega) (by omega)]
  exact W_h rfl (by (try simp (disch := omega) only [nI_add, Nat.add_zero]) <;> rfl) (lp 99 1 u (l % u) 45 45 (by omega) (Nat.mod_lt _ (by omega)) hu hu (by have := Nat.mod_lt l (show 0 < u by omega); omega) (by omega) (by rw [Nat.gcd_rec u l, Nat.gcd_comm]))
theorem om_divisor (hd : 1 ≤ d) {u l : Nat} (hu : u < 2 ^ 45) (hl : l < 2 ^ 45) (hq : Q (some (.long (lN (Nat.gcd u l)))) h) : ab_Ok d n_X12_divisor [.long (lN u), .long (lN l)] h Q := by
  refine ab_go mr_X12_divisor rfl (by omega) (fun call W hc hW => ?_); (conv => whnf)
  have lp : ∀ n d r : Nat, r ≤ n → d < 2 ^ 45 → r < 2 ^ 45 → Nat.gcd d r = Nat.gcd u l → W 6 [.long (lN d), .long (lN r)] h 0 0 := by
    intro n
    induction n with
    | zero =>
      intro d r hr hd4 hr4 hg
      obtain rfl : r = 0 := by omega
      rw [Nat.gcd_zero_right] at hg
      refine hW _ _ _ _ _ ?_
      (conv => whnf)
      refine bT (by rw [lc_eq]) ?_
      (conv => whnf)
      rw [hg]
      exact hq
    | succ n ih =>
      intro d r hr hd4 hr4 hg
      rcases Nat.eq_zero_or_pos r with z | z
      · exact ih d r (by omega) hd4 hr4 hg
      · have := Nat.mod_lt d z
        refine hW _ _ _ _ _ ?_
        (conv => whnf)
        refine bF (by rw [lc_eq, lN_e (by omega) (by omega)]; omega) ?_
        (conv => whnf)
        refine ⟨lN_n0 (by omega) (by omega), ?_⟩
        (conv => whnf)
        rw [lN_mod (by omega) (by omega)]
        exact W_h rfl (by (try simp (disch := omega) only [nI_add, Nat.add_zero]) <;> rfl) (ih r (d % r) (by omega) hr4 (by omega) (by rw [← hg, Nat.gcd_comm d r, Nat.gcd_rec r d, Nat.gcd_comm]))
  exact lp l u l (Nat.le_refl _) hu hl rfl
theorem om_part (hd : 2 ≤ d) {u l : Nat} (hu : u < 2 ^ 45) (hl : l < 2 ^ 45) (hu1 : 1 ≤ u) (w : Int32) (hw : w = 0 ∨ w = 1) (hq : Q (some (.long (lN (ltm u l w)))) h) : ab_Ok d n_X12_part [.long (lN u), .long (lN l), .int w] h Q := by
  have g1 : 1 ≤ Nat.gcd u l := Nat.gcd_pos_of_pos_left l hu1
  have g2 : Nat.gcd u l ≤ u := Nat.gcd_le_left l hu1
  unfold ltm at hq
  refine ab_go mr_X12_part rfl (by omega) (fun call W hc hW => ?_); (conv => whnf)
  refine ⟨fun f => ?_, fun f => ?_⟩ <;> (conv => whnf)
  · refine hc _ _ _ _ (om_divisor (by omega) hu hl ?_)
    (conv => whnf)
    refine ⟨lN_n0 (by omega) (by omega), ?_⟩
    (conv => whnf)
    rw [if_pos f, ← lN_div (by omega) (by omega)] at hq
    exact hq
  · refine hc _ _ _ _ (om_divisor (by omega) hu hl ?_)
    (conv => whnf)
    refine ⟨lN_n0 (by omega) (by omega), ?_⟩
    (conv => whnf)
    rw [if_neg f, ← lN_div (by omega) (by omega)] at hq
    exact hq
end LT
