/-! ===== contracts: the class's reader, levels of the grammar (mine) ===== -/
def nMo (m : Nat) : Nat := if m = 0 then n_X6_one else if m = 1 then n_X6_product else if m = 3 then n_X6_sum else if m = 5 then n_X6_ask else if m = 6 then n_X6_both else n_X6_either
def ntl (m : Nat) : Prop := m = 0 ∨ m = 1 ∨ m = 3 ∨ m = 5 ∨ m = 6 ∨ m = 8
/-- the class reads as the grammar says, with so much fuel -/
def CPok (b : Nat → Nat) (n lw q : Nat) : Prop := ∀ (m o a i d : Nat) (h : Hp) (Q : Option Value → Hp → Prop), ntl m → o ≤ 8 → i ≤ stL b n → 10 * (stL b n - i) + rkm m < q → a + 2 * (stL b n - i) ≤ 600 → 8 * (8 - o) + rkm m + 10 ≤ d → Sh h → RD h b n lw i a → ((ps (stT b n) (stV b n) lw q m o a i).1 = 0 → ∀ h', OKc h h' b n lw a (ps (stT b n) (stV b n) lw q m o a i) → Q (some (.int (nI 1))) h') → ((ps (stT b n) (stV b n) lw q m o a i).1 ≠ 0 → ∀ h', FLc h h' b n (ps (stT b n) (stV b n) lw q m o a i) → Q (some (.int (nI 0))) h') → ab_Ok d (nMo m) [.ref 549, .int (nI o)] h Q
theorem OK_e0 {h h' : Hp} {b : Nat → Nat} {n lw i a : Nat} (R : RD h' b n lw i a) (F : Fr fRo h h') (hj : ∀ j, j < a → ab_I h' 557 j = ab_I h 557 j) : OKc h h' b n lw a (em i [] []) := ⟨R, fun j hj => absurd hj (Nat.not_lt_zero _), hj, F⟩
section CL1
variable {d : Nat} {h : Hp} {Q : Option Value → Hp → Prop} {n lw : Nat} {b : Nat → Nat}
theorem oc_product (hn : n ≤ 300) {q : Nat} (IH : ∀ q', q' ≤ q → CPok b n lw q') : ∀ (o a i d : Nat) (h : Hp) (Q : Option Value → Hp → Prop), o ≤ 8 → i ≤ stL b n → 10 * (stL b n - i) + rkm 1 < q + 1 → a + 2 * (stL b n - i) ≤ 600 → 8 * (8 - o) + rkm 1 + 10 ≤ d → Sh h → RD h b n lw i a → ((ps (stT b n) (stV b n) lw (q + 1) 1 o a i).1 = 0 → ∀ h', OKc h h' b n lw a (ps (stT b n) (stV b n) lw (q + 1) 1 o a i) → Q (some (.int (nI 1))) h') → ((ps (stT b n) (stV b n) lw (q + 1) 1 o a i).1 ≠ 0 → ∀ h', FLc h h' b n (ps (stT b n) (stV b n) lw (q + 1) 1 o a i) → Q (some (.int (nI 0))) h') → ab_Ok d n_X6_product [.ref 549, .int (nI o)] h Q := by
  intro o a i d h Q ho hi hf ha hd S R hy hno
  have ln := stL_n b n
  have rs : rkm 0 + 1 = rkm 1 := rfl
  have rm : rkm 1 ≤ 5 := by decide
  have PB := fun q' m o a i h1 h2 => ps_b (T := stT b n) (V := stV b n) (lw := lw) (L := stL b n) (fun i => stT_e b n) q' m o a i h1 h2
  rw [ps_1] at hy hno
  refine ab_go mr_X6_product rfl (by omega) (fun call W hc hW => ?_); (conv => whnf)
  have bad : ∀ k h1, k < 1000 → Q (some (.int (nI 0))) h1 → W 8 [.ref 549, .int (nI o), .int (nI 0), .int (nI k)] h1 0 0 := by
    clear hy hno
    intro k h1 hk q0
    refine hW _ _ _ _ _ ?_
    (conv => whnf)
    refine ⟨fun f => ?_, fun f => ?_⟩ <;> (conv => whnf)
    · exact ⟨Or.inl rfl, q0⟩
    · refine bT (by decide) ?_
      (conv => whnf)
      exact ⟨Or.inl rfl, q0⟩
  have lp : ∀ t, t ≤ q → ∀ (k a1 i1 : Nat) (h1 : Hp), Sh h1 → RD h1 b n lw i1 a1 → i1 ≤ stL b n → 10 * (stL b n - i1) < t → a1 + 2 * (stL b n - i1) ≤ 600 → k ≤ i1 → ((ps (stT b n) (stV b n) lw t 2 o a1 i1).1 = 0 → ∀ h', OKc h1 h' b n lw a1 (ps (stT b n) (stV b n) lw t 2 o a1 i1) → Q (some (.int (nI 1))) h') → ((ps (stT b n) (stV b n) lw t 2 o a1 i1).1 ≠ 0 → ∀ h', FLc h1 h' b n (ps (stT b n) (stV b n) lw t 2 o a1 i1) → Q (some (.int (nI 0))) h') → W 8 [.ref 549, .int (nI o), .int (nI 1), .int (nI k)] h1 0 0 := by
    clear hy hno
    intro t
    induction t with
    | zero => intro _ k a1 i1 h1 _ _ _ z; omega
    | succ t ih =>
      intro ht k a1 i1 h1 S1 R1 hi1 hf1 ha1 hk hy hno
      have tb' := stT_b b n i1
      rw [ps_2] at hy hno
      by_cases op : stT b n i1 = 42 ∨ stT b n i1 = 47
      · have il : i1 < stL b n := Nat.lt_of_not_le (fun z => by have := (stT_e b n).mpr z; omega)
        rw [if_pos op] at hy hno
        have A := PB t 0 o a1 (i1 + 1) (by omega) (by omega)
        have sub := IH t (by omega) 0 o a1 (i1 + 1)
        obtain ⟨x, ex⟩ : ∃ x, x = ps (stT b n) (stV b n) lw t 0 o a1 (i1 + 1) := ⟨_, rfl⟩
        rw [← ex] at hy hno A sub
        clear ex
        refine hW _ _ _ _ _ ?_
        (conv => whnf)
        refine bF (nI_ge (by omega) (by omega)) ?_
        (conv => whnf)
        refine bF (by decide) ?_
        (conv => whnf)
        refine ⟨S1.1 549 (by decide), 550, S1.2.2 _ _ _ rfl, ?_⟩
        (conv => whnf)
        refine ⟨S1.1 550 (by decide), ?_⟩
        refine hc _ _ _ _ (oc_token (by omega) S1 hn R1.1 ?_)
        (conv => whnf)
        refine ⟨fun f => ?_, fun f => ?_⟩ <;> rw [nI_eq (by omega) (by omega)] at f <;> (conv => whnf)
        · refine ⟨S1.1 549 (by decide), 550, S1.2.2 _ _ _ rfl, ?_⟩
          (conv => whnf)
          refine ⟨S1.1 550 (by decide), ?_⟩
          refine hc _ _ _ _ (oc_token (by omega) S1 hn R1.1 ?_)
          (conv => whnf)
          refine ⟨S1.1 549 (by decide), 550, S1.2.2 _ _ _ rfl, ?_⟩
          (conv => whnf)
          refine ⟨S1.1 550 (by decide), ?_⟩
          refine hc _ _ _ _ (oc_advance (by omega) S1 hn R1.1 (fun h2 C2 F2 => ?_))
          have S2 := Fr_Sh F2 S1
          have R2 : RD h2 b n lw (i1 + 1) a1 := RD_fr57 F2 C2 R1
          (conv => whnf)
          refine ⟨S2.1 549 (by decide), ?_⟩
          refine hc _ _ _ _ (sub _ h2 _ (by unfold ntl; omega) ho (by omega) (by omega) (by omega) (by omega) S2 R2 (fun z h3 A3 => ?_) (fun z h3 L3 => ?_))
          · have S3 := Fr_Sh A3.2.2.2 S2
            obtain ⟨g1, g2, g3, g4⟩ := A.1.1 z
            (conv => whnf)
            refine bF (by decide) ?_
            (conv => whnf)
            refine ⟨S3.1 549 (by decide), ?_⟩
            refine hc _ _ _ _ (oc_put (by omega) S3 A3.1 (by omega) (stT b n i1) (fun h4 A4 => ?_))
            have S4 := Fr_Sh A4.2.2.2 S3
            have A5 : OKc h1 h4 b n lw a1 (sq x (fun i2 _ => em i2 [(opM (stT b n i1), 0)] [stT b n i1])) := OK_tr (f57R F2) (fun j _ => f57c F2 j) (OK_sq (k := fun i2 _ => em i2 [(opM (stT b n i1), 0)] [stT b n i1]) z A3 A4)
            have e5 : sq x (fun i2 _ => em i2 [(opM (stT b n i1), 0)] [stT b n i1]) = (0, x.2.1, x.2.2.1 ++ [(opM (stT b n i1), 0)], x.2.2.2 ++ [stT b n i1]) := sq_s z
            rw [e5] at A5 hy hno
            have l5 : (x.2.2.2 ++ [stT b n i1]).length = x.2.2.2.length + 1 := by rw [List.length_append]; rfl
            (conv => whnf)
            refine bF (by decide) ?_
            (conv => whnf)
            rw [nI_add k 1]
            refine ih (by omega) (k + 1) (a1 + (x.2.2.2 ++ [stT b n i1]).length) x.2.1 h4 S4 A5.1 g2 (by omega) (by omega) (by omega) (fun y h6 A6 => ?_) (fun y h6 L6 => ?_)
            · exact hy (by rw [sq_s rfl]; exact y) h6 (OK_sq (k := fun i2 l => ps (stT b n) (stV b n) lw t 2 o (a1 + l) i2) rfl A5 A6)
            · exact hno (by rw [sq_s rfl]; exact y) h6 (FL_sq (k := fun i2 l => ps (stT b n) (stV b n) lw t 2 o (a1 + l) i2) rfl A5.2.2.2 L6)
          · have e5 : sq x (fun i2 _ => em i2 [(opM (stT b n i1), 0)] [stT b n i1]) = x := sq_f z
            rw [e5, sq_f z] at hno
            have q0 := hno z h3 (FL_tr (f57R F2) L3)
            (conv => whnf)
            refine bT (by decide) ?_
            (conv => whnf)
            rw [nI_add k 1]
            exact bad (k + 1) h3 (by omega) q0
        · refine ⟨S1.1 549 (by decide), 550, S1.2.2 _ _ _ rfl, ?_⟩
          (conv => whnf)
          refine ⟨S1.1 550 (by decide), ?_⟩
          refine hc _ _ _ _ (oc_token (by omega) S1 hn R1.1 ?_)
          (conv => whnf)
          refine bP (by rw [nI_eq (by omega) (by omega)]; omega) ?_
          (conv => whnf)
          refine ⟨S1.1 549 (by decide), 550, S1.2.2 _ _ _ rfl, ?_⟩
          (conv => whnf)
          refine ⟨S1.1 550 (by decide), ?_⟩
          refine hc _ _ _ _ (oc_token (by omega) S1 hn R1.1 ?_)
          (conv => whnf)
          refine ⟨S1.1 549 (by decide), 550, S1.2.2 _ _ _ rfl, ?_⟩
          (conv => whnf)
          refine ⟨S1.1 550 (by decide), ?_⟩
          refine hc _ _ _ _ (oc_advance (by omega) S1 hn R1.1 (fun h2 C2 F2 => ?_))
          have S2 := Fr_Sh F2 S1
          have R2 : RD h2 b n lw (i1 + 1) a1 := RD_fr57 F2 C2 R1
          (conv => whnf)
          refine ⟨S2.1 549 (by decide), ?_⟩
          refine hc _ _ _ _ (sub _ h2 _ (by unfold ntl; omega) ho (by omega) (by omega) (by omega) (by omega) S2 R2 (fun z h3 A3 => ?_) (fun z h3 L3 => ?_))
          · have S3 := Fr_Sh A3.2.2.2 S2
            obtain ⟨g1, g2, g3, g4⟩ := A.1.1 z
            (conv => whnf)
            refine bF (by decide) ?_
            (conv => whnf)
            refine ⟨S3.1 549 (by decide), ?_⟩
            refine hc _ _ _ _ (oc_put (by omega) S3 A3.1 (by omega) (stT b n i1) (fun h4 A4 => ?_))
            have S4 := Fr_Sh A4.2.2.2 S3
            have A5 : OKc h1 h4 b n lw a1 (sq x (fun i2 _ => em i2 [(opM (stT b n i1), 0)] [stT b n i1])) := OK_tr (f57R F2) (fun j _ => f57c F2 j) (OK_sq (k := fun i2 _ => em i2 [(opM (stT b n i1), 0)] [stT b n i1]) z A3 A4)
            have e5 : sq x (fun i2 _ => em i2 [(opM (stT b n i1), 0)] [stT b n i1]) = (0, x.2.1, x.2.2.1 ++ [(opM (stT b n i1), 0)], x.2.2.2 ++ [stT b n i1]) := sq_s z
            rw [e5] at A5 hy hno
            have l5 : (x.2.2.2 ++ [stT b n i1]).length = x.2.2.2.length + 1 := by rw [List.length_append]; rfl
            (conv => whnf)
            refine bF (by decide) ?_
            (conv => whnf)
            rw [nI_add k 1]
            refine ih (by omega) (k + 1) (a1 + (x.2.2.2 ++ [stT b n i1]).length) x.2.1 h4 S4 A5.1 g2 (by omega) (by omega) (by omega) (fun y h6 A6 => ?_) (fun y h6 L6 => ?_)
            · exact hy (by rw [sq_s rfl]; exact y) h6 (OK_sq (k := fun i2 l => ps (stT b n) (stV b n) lw t 2 o (a1 + l) i2) rfl A5 A6)
            · exact hno (by rw [sq_s rfl]; exact y) h6 (FL_sq (k := fun i2 l => ps (stT b n) (stV b n) lw t 2 o (a1 + l) i2) rfl A5.2.2.2 L6)
          · have e5 : sq x (fun i2 _ => em i2 [(opM (stT b n i1), 0)] [stT b n i1]) = x := sq_f z
            rw [e5, sq_f z] at hno
            have q0 := hno z h3 (FL_tr (f57R F2) L3)
            (conv => whnf)
            refine bT (by decide) ?_
            (conv => whnf)
            rw [nI_add k 1]
            exact bad (k + 1) h3 (by omega) q0
      · rw [if_neg op] at hy
        have q1 := hy rfl h1 (OK_e0 R1 Fr_re (fun _ _ => rfl))
        clear ih hy hno
        refine hW _ _ _ _ _ ?_
        (conv => whnf)
        refine ⟨fun f => ?_, fun f => ?_⟩ <;> (conv => whnf)
        · exact ⟨Or.inr rfl, q1⟩
        · refine bF (by decide) ?_
          (conv => whnf)
          refine ⟨S1.1 549 (by decide), 550, S1.2.2 _ _ _ rfl, ?_⟩
          (conv => whnf)
          refine ⟨S1.1 550 (by decide), ?_⟩
          refine hc _ _ _ _ (oc_token (by omega) S1 hn R1.1 ?_)
          (conv => whnf)
          refine bF (by rw [nI_eq (by omega) (by omega)]; omega) ?_
          (conv => whnf)
          refine ⟨S1.1 549 (by decide), 550, S1.2.2 _ _ _ rfl, ?_⟩
          (conv => whnf)
          refine ⟨S1.1 550 (by decide), ?_⟩
          refine hc _ _ _ _ (oc_token (by omega) S1 hn R1.1 ?_)
          (conv => whnf)
          refine bN (by rw [nI_eq (by omega) (by omega)]; omega) ?_
          (conv => whnf)
          exact ⟨Or.inr rfl, q1⟩
  have A := PB q 0 o a i hi (by omega)
  have sub := IH q (Nat.le_refl _) 0 o a i
  obtain ⟨x, ex⟩ : ∃ x, x = ps (stT b n) (stV b n) lw q 0 o a i := ⟨_, rfl⟩
  rw [← ex] at hy hno A sub
  clear ex
  refine ⟨S.1 549 (by decide), ?_⟩
  refine hc _ _ _ _ (sub _ h _ (by unfold ntl; omega) ho hi (by omega) ha (by omega) S R (fun z h3 A3 => ?_) (fun z h3 L3 => ?_))
  · have S3 := Fr_Sh A3.2.2.2 S
    obtain ⟨g1, g2, g3, g4⟩ := A.1.1 z
    have g5 := A.2 (by omega) z
    (conv => whnf)
    refine lp q (Nat.le_refl _) 0 (a + x.2.2.2.length) x.2.1 h3 S3 A3.1 g2 (by omega) (by omega) (by omega) (fun y h6 A6 => ?_) (fun y h6 L6 => ?_)
    · exact hy (by rw [sq_s z]; exact y) h6 (OK_sq (k := fun i2 l => ps (stT b n) (stV b n) lw q 2 o (a + l) i2) z A3 A6)
    · exact hno (by rw [sq_s z]; exact y) h6 (FL_sq (k := fun i2 l => ps (stT b n) (stV b n) lw q 2 o (a + l) i2) z A3.2.2.2 L6)
  · rw [sq_f z] at hno
    have q0 := hno z h3 L3
    (conv => whnf)
    exact bad 0 h3 (by omega) q0
theorem oc_sum (hn : n ≤ 300) {q : Nat} (IH : ∀ q', q' ≤ q → CPok b n lw q') : ∀ (o a i d : Nat) (h : Hp) (Q : Option Value → Hp → Prop), o ≤ 8 → i ≤ stL b n → 10 * (stL b n - i) + rkm 3 < q + 1 → a + 2 * (stL b n - i) ≤ 600 → 8 * (8 - o) + rkm 3 + 10 ≤ d → Sh h → RD h b n lw i a → ((ps (stT b n) (stV b n) lw (q + 1) 3 o a i).1 = 0 → ∀ h', OKc h h' b n lw a (ps (stT b n) (stV b n) lw (q + 1) 3 o a i) → Q (some (.int (nI 1))) h') → ((ps (stT b n) (stV b n) lw (q + 1) 3 o a i).1 ≠ 0 → ∀ h', FLc h h' b n (ps (stT b n) (stV b n) lw (q + 1) 3 o a i) → Q (some (.int (nI 0))) h') → ab_Ok d n_X6_sum [.ref 549, .int (nI o)] h Q := by
  intro o a i d h Q ho hi hf ha hd S R hy hno
  have ln := stL_n b n
  have rs : rkm 1 + 1 = rkm 3 := rfl
  have rm : rkm 3 ≤ 5 := by decide
  have PB := fun q' m o a i h1 h2 => ps_b (T := stT b n) (V := stV b n) (lw := lw) (L := stL b n) (fun i => stT_e b n) q' m o a i h1 h2
  rw [ps_3] at hy hno
  refine ab_go mr_X6_sum rfl (by omega) (fun call W hc hW => ?_); (conv => whnf)
  have bad : ∀ k h1, k < 1000 → Q (some (.int (nI 0))) h1 → W 8 [.ref 549, .int (nI o), .int (nI 0), .int (nI k)] h1 0 0 := by
    clear hy hno
    intro k h1 hk q0
    refine hW _ _ _ _ _ ?_
    (conv => whnf)
    refine ⟨fun f => ?_, fun f => ?_⟩ <;> (conv => whnf)
    · exact ⟨Or.inl rfl, q0⟩
    · refine bT (by decide) ?_
      (conv => whnf)
      exact ⟨Or.inl rfl, q0⟩
  have lp : ∀ t, t ≤ q → ∀ (k a1 i1 : Nat) (h1 : Hp), Sh h1 → RD h1 b n lw i1 a1 → i1 ≤ stL b n → 10 * (stL b n - i1) < t → a1 + 2 * (stL b n - i1) ≤ 600 → k ≤ i1 → ((ps (stT b n) (stV b n) lw t 4 o a1 i1).1 = 0 → ∀ h', OKc h1 h' b n lw a1 (ps (stT b n) (stV b n) lw t 4 o a1 i1) → Q (some (.int (nI 1))) h') → ((ps (stT b n) (stV b n) lw t 4 o a1 i1).1 ≠ 0 → ∀ h', FLc h1 h' b n (ps (stT b n) (stV b n) lw t 4 o a1 i1) → Q (some (.int (nI 0))) h') → W 8 [.ref 549, .int (nI o), .int (nI 1), .int (nI k)] h1 0 0 := by
    clear hy hno
    intro t
    induction t with
    | zero => intro _ k a1 i1 h1 _ _ _ z; omega
    | succ t ih =>
      intro ht k a1 i1 h1 S1 R1 hi1 hf1 ha1 hk hy hno
      have tb' := stT_b b n i1
      rw [ps_4] at hy hno
      by_cases op : stT b n i1 = 43 ∨ stT b n i1 = 45
      · have il : i1 < stL b n := Nat.lt_of_not_le (fun z => by have := (stT_e b n).mpr z; omega)
        rw [if_pos op] at hy hno
        have A := PB t 1 o a1 (i1 + 1) (by omega) (by omega)
        have sub := IH t (by omega) 1 o a1 (i1 + 1)
        obtain ⟨x, ex⟩ : ∃ x, x = ps (stT b n) (stV b n) lw t 1 o a1 (i1 + 1) := ⟨_, rfl⟩
        rw [← ex] at hy hno A sub
        clear ex
        refine hW _ _ _ _ _ ?_
        (conv => whnf)
        refine bF (nI_ge (by omega) (by omega)) ?_
        (conv => whnf)
        refine bF (by decide) ?_
        (conv => whnf)
        refine ⟨S1.1 549 (by decide), 550, S1.2.2 _ _ _ rfl, ?_⟩
        (conv => whnf)
        refine ⟨S1.1 550 (by decide), ?_⟩
        refine hc _ _ _ _ (oc_token (by omega) S1 hn R1.1 ?_)
        (conv => whnf)
        refine ⟨fun f => ?_, fun f => ?_⟩ <;> rw [nI_eq (by omega) (by omega)] at f <;> (conv => whnf)
        · refine ⟨S1.1 549 (by decide), 550, S1.2.2 _ _ _ rfl, ?_⟩
          (conv => whnf)
          refine ⟨S1.1 550 (by decide), ?_⟩
          refine hc _ _ _ _ (oc_token (by omega) S1 hn R1.1 ?_)
          (conv => whnf)
          refine ⟨S1.1 549 (by decide), 550, S1.2.2 _ _ _ rfl, ?_⟩
          (conv => whnf)
          refine ⟨S1.1 550 (by decide), ?_⟩
          refine hc _ _ _ _ (oc_advance (by omega) S1 hn R1.1 (fun h2 C2 F2 => ?_))
          have S2 := Fr_Sh F2 S1
          have R2 : RD h2 b n lw (i1 + 1) a1 := RD_fr57 F2 C2 R1
          (conv => whnf)
          refine ⟨S2.1 549 (by decide), ?_⟩
          refine hc _ _ _ _ (sub _ h2 _ (by unfold ntl; omega) ho (by omega) (by omega) (by omega) (by omega) S2 R2 (fun z h3 A3 => ?_) (fun z h3 L3 => ?_))
          · have S3 := Fr_Sh A3.2.2.2 S2
            obtain ⟨g1, g2, g3, g4⟩ := A.1.1 z
            (conv => whnf)
            refine bF (by decide) ?_
            (conv => whnf)
            refine ⟨S3.1 549 (by decide), ?_⟩
            refine hc _ _ _ _ (oc_put (by omega) S3 A3.1 (by omega) (stT b n i1) (fun h4 A4 => ?_))
            have S4 := Fr_Sh A4.2.2.2 S3
            have A5 : OKc h1 h4 b n lw a1 (sq x (fun i2 _ => em i2 [(opM (stT b n i1), 0)] [stT b n i1])) := OK_tr (f57R F2) (fun j _ => f57c F2 j) (OK_sq (k := fun i2 _ => em i2 [(opM (stT b n i1), 0)] [stT b n i1]) z A3 A4)
            have e5 : sq x (fun i2 _ => em i2 [(opM (stT b n i1), 0)] [stT b n i1]) = (0, x.2.1, x.2.2.1 ++ [(opM (stT b n i1), 0)], x.2.2.2 ++ [stT b n i1]) := sq_s z
            rw [e5] at A5 hy hno
            have l5 : (x.2.2.2 ++ [stT b n i1]).length = x.2.2.2.length + 1 := by rw [List.length_append]; rfl
            (conv => whnf)
            refine bF (by decide) ?_
            (conv => whnf)
            rw [nI_add k 1]
            refine ih (by omega) (k + 1) (a1 + (x.2.2.2 ++ [stT b n i1]).length) x.2.1 h4 S4 A5.1 g2 (by omega) (by omega) (by omega) (fun y h6 A6 => ?_) (fun y h6 L6 => ?_)
            · exact hy (by rw [sq_s rfl]; exact y) h6 (OK_sq (k := fun i2 l => ps (stT b n) (stV b n) lw t 4 o (a1 + l) i2) rfl A5 A6)
            · exact hno (by rw [sq_s rfl]; exact y) h6 (FL_sq (k := fun i2 l => ps (stT b n) (stV b n) lw t 4 o (a1 + l) i2) rfl A5.2.2.2 L6)
          · have e5 : sq x (fun i2 _ => em i2 [(opM (stT b n i1), 0)] [stT b n i1]) = x := sq_f z
            rw [e5, sq_f z] at hno
            have q0 := hno z h3 (FL_tr (f57R F2) L3)
            (conv => whnf)
            refine bT (by decide) ?_
            (conv => whnf)
            rw [nI_add k 1]
            exact bad (k + 1) h3 (by omega) q0
        · refine ⟨S1.1 549 (by decide), 550, S1.2.2 _ _ _ rfl, ?_⟩
          (conv => whnf)
          refine ⟨S1.1 550 (by decide), ?_⟩
          refine hc _ _ _ _ (oc_token (by omega) S1 hn R1.1 ?_)
          (conv => whnf)
          refine bP (by rw [nI_eq (by omega) (by omega)]; omega) ?_
          (conv => whnf)
          refine ⟨S1.1 549 (by decide), 550, S1.2.2 _ _ _ rfl, ?_⟩
          (conv => whnf)
          refine ⟨S1.1 550 (by decide), ?_⟩
          refine hc _ _ _ _ (oc_token (by omega) S1 hn R1.1 ?_)
          (conv => whnf)
          refine ⟨S1.1 549 (by decide), 550, S1.2.2 _ _ _ rfl, ?_⟩
          (conv => whnf)
          refine ⟨S1.1 550 (by decide), ?_⟩
          refine hc _ _ _ _ (oc_advance (by omega) S1 hn R1.1 (fun h2 C2 F2 => ?_))
          have S2 := Fr_Sh F2 S1
          have R2 : RD h2 b n lw (i1 + 1) a1 := RD_fr57 F2 C2 R1
          (conv => whnf)
          refine ⟨S2.1 549 (by decide), ?_⟩
          refine hc _ _ _ _ (sub _ h2 _ (by unfold ntl; omega) ho (by omega) (by omega) (by omega) (by omega) S2 R2 (fun z h3 A3 => ?_) (fun z h3 L3 => ?_))
          · have S3 := Fr_Sh A3.2.2.2 S2
            obtain ⟨g1, g2, g3, g4⟩ := A.1.1 z
            (conv => whnf)
            refine bF (by decide) ?_
            (conv => whnf)
            refine ⟨S3.1 549 (by decide), ?_⟩
            refine hc _ _ _ _ (oc_put (by omega) S3 A3.1 (by omega) (stT b n i1) (fun h4 A4 => ?_))
            have S4 := Fr_Sh A4.2.2.2 S3
            have A5 : OKc h1 h4 b n lw a1 (sq x (fun i2 _ => em i2 [(opM (stT b n i1), 0)] [stT b n i1])) := OK_tr (f57R F2) (fun j _ => f57c F2 j) (OK_sq (k := fun i2 _ => em i2 [(opM (stT b n i1), 0)] [stT b n i1]) z A3 A4)
            have e5 : sq x (fun i2 _ => em i2 [(opM (stT b n i1), 0)] [stT b n i1]) = (0, x.2.1, x.2.2.1 ++ [(opM (stT b n i1), 0)], x.2.2.2 ++ [stT b n i1]) := sq_s z
            rw [e5] at A5 hy hno
            have l5 : (x.2.2.2 ++ [stT b n i1]).length = x.2.2.2.length + 1 := by rw [List.length_append]; rfl
            (conv => whnf)
            refine bF (by decide) ?_
            (conv => whnf)
            rw [nI_add k 1]
            refine ih (by omega) (k + 1) (a1 + (x.2.2.2 ++ [stT b n i1]).length) x.2.1 h4 S4 A5.1 g2 (by omega) (by omega) (by omega) (fun y h6 A6 => ?_) (fun y h6 L6 => ?_)
            · exact hy (by rw [sq_s rfl]; exact y) h6 (OK_sq (k := fun i2 l => ps (stT b n) (stV b n) lw t 4 o (a1 + l) i2) rfl A5 A6)
            · exact hno (by rw [sq_s rfl]; exact y) h6 (FL_sq (k := fun i2 l => ps (stT b n) (stV b n) lw t 4 o (a1 + l) i2) rfl A5.2.2.2 L6)
          · have e5 : sq x (fun i2 _ => em i2 [(opM (stT b n i1), 0)] [stT b n i1]) = x := sq_f z
            rw [e5, sq_f z] at hno
            have q0 := hno z h3 (FL_tr (f57R F2) L3)
            (conv => whnf)
            refine bT (by decide) ?_
            (conv => whnf)
            rw [nI_add k 1]
            exact bad (k + 1) h3 (by omega) q0
      · rw [if_neg op] at hy
        have q1 := hy rfl h1 (OK_e0 R1 Fr_re (fun _ _ => rfl))
        clear ih hy hno
        refine hW _ _ _ _ _ ?_
        (conv => whnf)
        refine ⟨fun f => ?_, fun f => ?_⟩ <;> (conv => whnf)
        · exact ⟨Or.inr rfl, q1⟩
        · refine bF (by decide) ?_
          (conv => whnf)
          refine ⟨S1.1 549 (by decide), 550, S1.2.2 _ _ _ rfl, ?_⟩
          (conv => whnf)
          refine ⟨S1.1 550 (by decide), ?_⟩
          refine hc _ _ _ _ (oc_token (by omega) S1 hn R1.1 ?_)
          (conv => whnf)
          refine bF (by rw [nI_eq (by omega) (by omega)]; omega) ?_
          (conv => whnf)
          refine ⟨S1.1 549 (by decide), 550, S1.2.2 _ _ _ rfl, ?_⟩
          (conv => whnf)
          refine ⟨S1.1 550 (by decide), ?_⟩
          refine hc _ _ _ _ (oc_token (by omega) S1 hn R1.1 ?_)
          (conv => whnf)
          refine bN (by rw [nI_eq (by omega) (by omega)]; omega) ?_
          (conv => whnf)
          exact ⟨Or.inr rfl, q1⟩
  have A := PB q 1 o a i hi (by omega)
  have sub := IH q (Nat.le_refl _) 1 o a i
  obtain ⟨x, ex⟩ : ∃ x, x = ps (stT b n) (stV b n) lw q 1 o a i := ⟨_, rfl⟩
  rw [← ex] at hy hno A sub
  clear ex
  refine ⟨S.1 549 (by decide), ?_⟩
  refine hc _ _ _ _ (sub _ h _ (by unfold ntl; omega) ho hi (by omega) ha (by omega) S R (fun z h3 A3 => ?_) (fun z h3 L3 => ?_))
  · have S3 := Fr_Sh A3.2.2.2 S
    obtain ⟨g1, g2, g3, g4⟩ := A.1.1 z
    have g5 := A.2 (by omega) z
    (conv => whnf)
    refine lp q (Nat.le_refl _) 0 (a + x.2.2.2.length) x.2.1 h3 S3 A3.1 g2 (by omega) (by omega) (by omega) (fun y h6 A6 => ?_) (fun y h6 L6 => ?_)
    · exact hy (by rw [sq_s z]; exact y) h6 (OK_sq (k := fun i2 l => ps (stT b n) (stV b n) lw q 4 o (a + l) i2) z A3 A6)
    · exact hno (by rw [sq_s z]; exact y) h6 (FL_sq (k := fun i2 l => ps (stT b n) (stV b n) lw q 4 o (a + l) i2) z A3.2.2.2 L6)
  · rw [sq_f z] at hno
    have q0 := hno z h3 L3
    (conv => whnf)
    exact bad 0 h3 (by omega) q0
theorem oc_both (hn : n ≤ 300) {q : Nat} (IH : ∀ q', q' ≤ q → CPok b n lw q') : ∀ (o a i d : Nat) (h : Hp) (Q : Option Value → Hp → Prop), o ≤ 8 → i ≤ stL b n → 10 * (stL b n - i) + rkm 6 < q + 1 → a + 2 * (stL b n - i) ≤ 600 → 8 * (8 - o) + rkm 6 + 10 ≤ d → Sh h → RD h b n lw i a → ((ps (stT b n) (stV b n) lw (q + 1) 6 o a i).1 = 0 → ∀ h', OKc h h' b n lw a (ps (stT b n) (stV b n) lw (q + 1) 6 o a i) → Q (some (.int (nI 1))) h') → ((ps (stT b n) (stV b n) lw (q + 1) 6 o a i).1 ≠ 0 → ∀ h', FLc h h' b n (ps (stT b n) (stV b n) lw (q + 1) 6 o a i) → Q (some (.int (nI 0))) h') → ab_Ok d n_X6_both [.ref 549, .int (nI o)] h Q := by
  intro o a i d h Q ho hi hf ha hd S R hy hno
  have ln := stL_n b n
  have rs : rkm 5 + 1 = rkm 6 := rfl
  have rm : rkm 6 ≤ 5 := by decide
  have PB := fun q' m o a i h1 h2 => ps_b (T := stT b n) (V := stV b n) (lw := lw) (L := stL b n) (fun i => stT_e b n) q' m o a i h1 h2
  rw [ps_6] at hy hno
  refine ab_go mr_X6_both rfl (by omega) (fun call W hc hW => ?_); (conv => whnf)
  have bad : ∀ k h1, k < 1000 → Q (some (.int (nI 0))) h1 → W 8 [.ref 549, .int (nI o), .int (nI 0), .int (nI k)] h1 0 0 := by
    clear hy hno
    intro k h1 hk q0
    refine hW _ _ _ _ _ ?_
    (conv => whnf)
    refine ⟨fun f => ?_, fun f => ?_⟩ <;> (conv => whnf)
    · exact ⟨Or.inl rfl, q0⟩
    · refine bT (by decide) ?_
      (conv => whnf)
      exact ⟨Or.inl rfl, q0⟩
  have lp : ∀ t, t ≤ q → ∀ (k a1 i1 : Nat) (h1 : Hp), Sh h1 → RD h1 b n lw i1 a1 → i1 ≤ stL b n → 10 * (stL b n - i1) < t → a1 + 2 * (stL b n - i1) ≤ 600 → k ≤ i1 → ((ps (stT b n) (stV b n) lw t 7 o a1 i1).1 = 0 → ∀ h', OKc h1 h' b n lw a1 (ps (stT b n) (stV b n) lw t 7 o a1 i1) → Q (some (.int (nI 1))) h') → ((ps (stT b n) (stV b n) lw t 7 o a1 i1).1 ≠ 0 → ∀ h', FLc h1 h' b n (ps (stT b n) (stV b n) lw t 7 o a1 i1) → Q (some (.int (nI 0))) h') → W 8 [.ref 549, .int (nI o), .int (nI 1), .int (nI k)] h1 0 0 := by
    clear hy hno
    intro t
    induction t with
    | zero => intro _ k a1 i1 h1 _ _ _ z; omega
    | succ t ih =>
      intro ht k a1 i1 h1 S1 R1 hi1 hf1 ha1 hk hy hno
      have tb' := stT_b b n i1
      rw [ps_7] at hy hno
      by_cases op : stT b n i1 = 26
      · have il : i1 < stL b n := Nat.lt_of_not_le (fun z => by have := (stT_e b n).mpr z; omega)
        rw [if_pos op] at hy hno
        have A := PB t 5 o a1 (i1 + 1) (by omega) (by omega)
        have sub := IH t (by omega) 5 o a1 (i1 + 1)
        obtain ⟨x, ex⟩ : ∃ x, x = ps (stT b n) (stV b n) lw t 5 o a1 (i1 + 1) := ⟨_, rfl⟩
        rw [← ex] at hy hno A sub
        clear ex
        refine hW _ _ _ _ _ ?_
        (conv => whnf)
        refine bF (nI_ge (by omega) (by omega)) ?_
        (conv => whnf)
        refine bF (by decide) ?_
        (conv => whnf)
        refine ⟨S1.1 549 (by decide), 550, S1.2.2 _ _ _ rfl, ?_⟩
        (conv => whnf)
        refine ⟨S1.1 550 (by decide), ?_⟩
        refine hc _ _ _ _ (oc_token (by omega) S1 hn R1.1 ?_)
        (conv => whnf)
        refine bP (by rw [nI_eq (by omega) (by omega)]; omega) ?_
        (conv => whnf)
        refine ⟨S1.1 549 (by decide), 550, S1.2.2 _ _ _ rfl, ?_⟩
        (conv => whnf)
        refine ⟨S1.1 550 (by decide), ?_⟩
        refine hc _ _ _ _ (oc_advance (by omega) S1 hn R1.1 (fun h2 C2 F2 => ?_))
        have S2 := Fr_Sh F2 S1
        have R2 : RD h2 b n lw (i1 + 1) a1 := RD_fr57 F2 C2 R1
        (conv => whnf)
        refine ⟨S2.1 549 (by decide), ?_⟩
        refine hc _ _ _ _ (sub _ h2 _ (by unfold ntl; omega) ho (by omega) (by omega) (by omega) (by omega) S2 R2 (fun z h3 A3 => ?_) (fun z h3 L3 => ?_))
        · have S3 := Fr_Sh A3.2.2.2 S2
          obtain ⟨g1, g2, g3, g4⟩ := A.1.1 z
          (conv => whnf)
          refine bF (by decide) ?_
          (conv => whnf)
          refine ⟨S3.1 549 (by decide), ?_⟩
          refine hc _ _ _ _ (oc_put (by omega) S3 A3.1 (by omega) 26 (fun h4 A4 => ?_))
          have S4 := Fr_Sh A4.2.2.2 S3
          have A5 : OKc h1 h4 b n lw a1 (sq x (fun i2 _ => em i2 [(21, 0)] [26])) := OK_tr (f57R F2) (fun j _ => f57c F2 j) (OK_sq (k := fun i2 _ => em i2 [(21, 0)] [26]) z A3 A4)
          have e5 : sq x (fun i2 _ => em i2 [(21, 0)] [26]) = (0, x.2.1, x.2.2.1 ++ [(21, 0)], x.2.2.2 ++ [26]) := sq_s z
          rw [e5] at A5 hy hno
          have l5 : (x.2.2.2 ++ [26]).length = x.2.2.2.length + 1 := by rw [List.length_append]; rfl
          (conv => whnf)
          refine bF (by decide) ?_
          (conv => whnf)
          rw [nI_add k 1]
          refine ih (by omega) (k + 1) (a1 + (x.2.2.2 ++ [26]).length) x.2.1 h4 S4 A5.1 g2 (by omega) (by omega) (by omega) (fun y h6 A6 => ?_) (fun y h6 L6 => ?_)
          · exact hy (by rw [sq_s rfl]; exact y) h6 (OK_sq (k := fun i2 l => ps (stT b n) (stV b n) lw t 7 o (a1 + l) i2) rfl A5 A6)
          · exact hno (by rw [sq_s rfl]; exact y) h6 (FL_sq (k := fun i2 l => ps (stT b n) (stV b n) lw t 7 o (a1 + l) i2) rfl A5.2.2.2 L6)
        · have e5 : sq x (fun i2 _ => em i2 [(21, 0)] [26]) = x := sq_f z
          rw [e5, sq_f z] at hno
          have q0 := hno z h3 (FL_tr (f57R F2) L3)
          (conv => whnf)
          refine bT (by decide) ?_
          (conv => whnf)
          rw [nI_add k 1]
          exact bad (k + 1) h3 (by omega) q0
      · rw [if_neg op] at hy
        have q1 := hy rfl h1 (OK_e0 R1 Fr_re (fun _ _ => rfl))
        clear ih hy hno
        refine hW _ _ _ _ _ ?_
        (conv => whnf)
        refine ⟨fun f => ?_, fun f => ?_⟩ <;> (conv => whnf)
        · exact ⟨Or.inr rfl, q1⟩
        · refine bF (by decide) ?_
          (conv => whnf)
          refine ⟨S1.1 549 (by decide), 550, S1.2.2 _ _ _ rfl, ?_⟩
          (conv => whnf)
          refine ⟨S1.1 550 (by decide), ?_⟩
          refine hc _ _ _ _ (oc_token (by omega) S1 hn R1.1 ?_)
          (conv => whnf)
          refine bN (by rw [nI_eq (by omega) (by omega)]; omega) ?_
          (conv => whnf)
          exact ⟨Or.inr rfl, q1⟩
  have A := PB q 5 o a i hi (by omega)
  have sub := IH q (Nat.le_refl _) 5 o a i
  obtain ⟨x, ex⟩ : ∃ x, x = ps (stT b n) (stV b n) lw q 5 o a i := ⟨_, rfl⟩
  rw [← ex] at hy hno A sub
  clear ex
  refine ⟨S.1 549 (by decide), ?_⟩
  refine hc _ _ _ _ (sub _ h _ (by unfold ntl; omega) ho hi (by omega) ha (by omega) S R (fun z h3 A3 => ?_) (fun z h3 L3 => ?_))
  · have S3 := Fr_Sh A3.2.2.2 S
    obtain ⟨g1, g2, g3, g4⟩ := A.1.1 z
    have g5 := A.2 (by omega) z
    (conv => whnf)
    refine lp q (Nat.le_refl _) 0 (a + x.2.2.2.length) x.2.1 h3 S3 A3.1 g2 (by omega) (by omega) (by omega) (fun y h6 A6 => ?_) (fun y h6 L6 => ?_)
    · exact hy (by rw [sq_s z]; exact y) h6 (OK_sq (k := fun i2 l => ps (stT b n) (stV b n) lw q 7 o (a + l) i2) z A3 A6)
    · exact hno (by rw [sq_s z]; exact y) h6 (FL_sq (k := fun i2 l => ps (stT b n) (stV b n) lw q 7 o (a + l) i2) z A3.2.2.2 L6)
  · rw [sq_f z] at hno
    have q0 := hno z h3 L3
    (conv => whnf)
    exact bad 0 h3 (by omega) q0
theorem oc_either (hn : n ≤ 300) {q : Nat} (IH : ∀ q', q' ≤ q → CPok b n lw q') : ∀ (o a i d : Nat) (h : Hp) (Q : Option Value → Hp → Prop), o ≤ 8 → i ≤ stL b n → 10 * (stL b n - i) + rkm 8 < q + 1 → a + 2 * (stL b n - i) ≤ 600 → 8 * (8 - o) + rkm 8 + 10 ≤ d → Sh h → RD h b n lw i a → ((ps (stT b n) (stV b n) lw (q + 1) 8 o a i).1 = 0 → ∀ h', OKc h h' b n lw a (ps (stT b n) (stV b n) lw (q + 1) 8 o a i) → Q (some (.int (nI 1))) h') → ((ps (stT b n) (stV b n) lw (q + 1) 8 o a i).1 ≠ 0 → ∀ h', FLc h h' b n (ps (stT b n) (stV b n) lw (q + 1) 8 o a i) → Q (some (.int (nI 0))) h') → ab_Ok d n_X6_either [.ref 549, .int (nI o)] h Q := by
  intro o a i d h Q ho hi hf ha hd S R hy hno
  have ln := stL_n b n
  have rs : rkm 6 + 1 = rkm 8 := rfl
  have rm : rkm 8 ≤ 5 := by decide
  have PB := fun q' m o a i h1 h2 => ps_b (T := stT b n) (V := stV b n) (lw := lw) (L := stL b n) (fun i => stT_e b n) q' m o a i h1 h2
  rw [ps_8] at hy hno
  refine ab_go mr_X6_either rfl (by omega) (fun call W hc hW => ?_); (conv => whnf)
  have bad : ∀ k h1, k < 1000 → Q (some (.int (nI 0))) h1 → W 8 [.ref 549, .int (nI o), .int (nI 0), .int (nI k)] h1 0 0 := by
    clear hy hno
    intro k h1 hk q0
    refine hW _ _ _ _ _ ?_
    (conv => whnf)
    refine ⟨fun f => ?_, fun f => ?_⟩ <;> (conv => whnf)
    · exact ⟨Or.inl rfl, q0⟩
    · refine bT (by decide) ?_
      (conv => whnf)
      exact ⟨Or.inl rfl, q0⟩
  have lp : ∀ t, t ≤ q → ∀ (k a1 i1 : Nat) (h1 : Hp), Sh h1 → RD h1 b n lw i1 a1 → i1 ≤ stL b n → 10 * (stL b n - i1) < t → a1 + 2 * (stL b n - i1) ≤ 600 → k ≤ i1 → ((ps (stT b n) (stV b n) lw t 9 o a1 i1).1 = 0 → ∀ h', OKc h1 h' b n lw a1 (ps (stT b n) (stV b n) lw t 9 o a1 i1) → Q (some (.int (nI 1))) h') → ((ps (stT b n) (stV b n) lw t 9 o a1 i1).1 ≠ 0 → ∀ h', FLc h1 h' b n (ps (stT b n) (stV b n) lw t 9 o a1 i1) → Q (some (.int (nI 0))) h') → W 8 [.ref 549, .int (nI o), .int (nI 1), .int (nI k)] h1 0 0 := by
    clear hy hno
    intro t
    induction t with
    | zero => intro _ k a1 i1 h1 _ _ _ z; omega
    | succ t ih =>
      intro ht k a1 i1 h1 S1 R1 hi1 hf1 ha1 hk hy hno
      have tb' := stT_b b n i1
      rw [ps_9] at hy hno
      by_cases op : stT b n i1 = 25
      · have il : i1 < stL b n := Nat.lt_of_not_le (fun z => by have := (stT_e b n).mpr z; omega)
        rw [if_pos op] at hy hno
        have A := PB t 6 o a1 (i1 + 1) (by omega) (by omega)
        have sub := IH t (by omega) 6 o a1 (i1 + 1)
        obtain ⟨x, ex⟩ : ∃ x, x = ps (stT b n) (stV b n) lw t 6 o a1 (i1 + 1) := ⟨_, rfl⟩
        rw [← ex] at hy hno A sub
        clear ex
        refine hW _ _ _ _ _ ?_
        (conv => whnf)
        refine bF (nI_ge (by omega) (by omega)) ?_
        (conv => whnf)
        refine bF (by decide) ?_
        (conv => whnf)
        refine ⟨S1.1 549 (by decide), 550, S1.2.2 _ _ _ rfl, ?_⟩
        (conv => whnf)
        refine ⟨S1.1 550 (by decide), ?_⟩
        refine hc _ _ _ _ (oc_token (by omega) S1 hn R1.1 ?_)
        (conv => whnf)
        refine bP (by rw [nI_eq (by omega) (by omega)]; omega) ?_
        (conv => whnf)
        refine ⟨S1.1 549 (by decide), 550, S1.2.2 _ _ _ rfl, ?_⟩
        (conv => whnf)
        refine ⟨S1.1 550 (by decide), ?_⟩
        refine hc _ _ _ _ (oc_advance (by omega) S1 hn R1.1 (fun h2 C2 F2 => ?_))
        have S2 := Fr_Sh F2 S1
        have R2 : RD h2 b n lw (i1 + 1) a1 := RD_fr57 F2 C2 R1
        (conv => whnf)
        refine ⟨S2.1 549 (by decide), ?_⟩
        refine hc _ _ _ _ (sub _ h2 _ (by unfold ntl; omega) ho (by omega) (by omega) (by omega) (by omega) S2 R2 (fun z h3 A3 => ?_) (fun z h3 L3 => ?_))
        · have S3 := Fr_Sh A3.2.2.2 S2
          obtain ⟨g1, g2, g3, g4⟩ := A.1.1 z
          (conv => whnf)
          refine bF (by decide) ?_
          (conv => whnf)
          refine ⟨S3.1 549 (by decide), ?_⟩
          refine hc _ _ _ _ (oc_put (by omega) S3 A3.1 (by omega) 25 (fun h4 A4 => ?_))
          have S4 := Fr_Sh A4.2.2.2 S3
          have A5 : OKc h1 h4 b n lw a1 (sq x (fun i2 _ => em i2 [(22, 0)] [25])) := OK_tr (f57R F2) (fun j _ => f57c F2 j) (OK_sq (k := fun i2 _ => em i2 [(22, 0)] [25]) z A3 A4)
          have e5 : sq x (fun i2 _ => em i2 [(22, 0)] [25]) = (0, x.2.1, x.2.2.1 ++ [(22, 0)], x.2.2.2 ++ [25]) := sq_s z
          rw [e5] at A5 hy hno
          have l5 : (x.2.2.2 ++ [25]).length = x.2.2.2.length + 1 := by rw [List.length_append]; rfl
          (conv => whnf)
          refine bF (by decide) ?_
          (conv => whnf)
          rw [nI_add k 1]
          refine ih (by omega) (k + 1) (a1 + (x.2.2.2 ++ [25]).length) x.2.1 h4 S4 A5.1 g2 (by omega) (by omega) (by omega) (fun y h6 A6 => ?_) (fun y h6 L6 => ?_)
          · exact hy (by rw [sq_s rfl]; exact y) h6 (OK_sq (k := fun i2 l => ps (stT b n) (stV b n) lw t 9 o (a1 + l) i2) rfl A5 A6)
          · exact hno (by rw [sq_s rfl]; exact y) h6 (FL_sq (k := fun i2 l => ps (stT b n) (stV b n) lw t 9 o (a1 + l) i2) rfl A5.2.2.2 L6)
        · have e5 : sq x (fun i2 _ => em i2 [(22, 0)] [25]) = x := sq_f z
          rw [e5, sq_f z] at hno
          have q0 := hno z h3 (FL_tr (f57R F2) L3)
          (conv => whnf)
          refine bT (by decide) ?_
          (conv => whnf)
          rw [nI_add k 1]
          exact bad (k + 1) h3 (by omega) q0
      · rw [if_neg op] at hy
        have q1 := hy rfl h1 (OK_e0 R1 Fr_re (fun _ _ => rfl))
        clear ih hy hno
        refine hW _ _ _ _ _ ?_
        (conv => whnf)
        refine ⟨fun f => ?_, fun f => ?_⟩ <;> (conv => whnf)
        · exact ⟨Or.inr rfl, q1⟩
        · refine bF (by decide) ?_
          (conv => whnf)
          refine ⟨S1.1 549 (by decide), 550, S1.2.2 _ _ _ rfl, ?_⟩
          (conv => whnf)
          refine ⟨S1.1 550 (by decide), ?_⟩
          refine hc _ _ _ _ (oc_token (by omega) S1 hn R1.1 ?_)
          (conv => whnf)
          refine bN (by rw [nI_eq (by omega) (by omega)]; omega) ?_
          (conv => whnf)
          exact ⟨Or.inr rfl, q1⟩
  have A := PB q 6 o a i hi (by omega)
  have sub := IH q (Nat.le_refl _) 6 o a i
  obtain ⟨x, ex⟩ : ∃ x, x = ps (stT b n) (stV b n) lw q 6 o a i := ⟨_, rfl⟩
  rw [← ex] at hy hno A sub
  clear ex
  refine ⟨S.1 549 (by decide), ?_⟩
  refine hc _ _ _ _ (sub _ h _ (by unfold ntl; omega) ho hi (by omega) ha (by omega) S R (fun z h3 A3 => ?_) (fun z h3 L3 => ?_))
  · have S3 := Fr_Sh A3.2.2.2 S
    obtain ⟨g1, g2, g3, g4⟩ := A.1.1 z
    have g5 := A.2 (by omega) z
    (conv => whnf)
    refine lp q (Nat.le_refl _) 0 (a + x.2.2.2.length) x.2.1 h3 S3 A3.1 g2 (by omega) (by omega) (by omega) (fun y h6 A6 => ?_) (fun y h6 L6 => ?_)
    · exact hy (by rw [sq_s z]; exact y) h6 (OK_sq (k := fun i2 l => ps (stT b n) (stV b n) lw q 9 o (a + l) i2) z A3 A6)
    · exact hno (by rw [sq_s z]; exact y) h6 (FL_sq (k := fun i2 l => ps (stT b n) (stV b n) lw q 9 o (a + l) i2) z A3.2.2.2 L6)
  · rw [sq_f z] at hno
    have q0 := hno z h3 L3
    (conv => whnf)
    exact bad 0 h3 (by omega) q0
end CL1
