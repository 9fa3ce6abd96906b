/-! ===== contracts: the class's reader, asks and choices (mine) ===== -/
theorem Seg_app {h : Hp} {q a : Nat} {c c' : List Nat} (A : Seg h q a c) (B : Seg h q (a + c.length) c') : Seg h q a (c ++ c') := by
  intro j hj
  rw [List.length_append] at hj
  rw [List.getD_eq_getElem?_getD]
  rcases Nat.lt_or_ge j c.length with z | z
  · rw [List.getElem?_append_left z, ← List.getD_eq_getElem?_getD]
    exact A j z
  · rw [List.getElem?_append_right z, ← List.getD_eq_getElem?_getD]
    have := B (j - c.length) (by omega)
    rw [show a + c.length + (j - c.length) = a + j by omega] at this
    exact this
theorem Seg_eq {h h' : Hp} {q a : Nat} {c : List Nat} (A : Seg h q a c) (e : ∀ j, a ≤ j → j < a + c.length → ab_I h' q j = ab_I h q j) : Seg h' q a c := fun j hj => (e (a + j) (by omega) (by omega)).trans (A j hj)
theorem Seg_2 {h : Hp} {q a x y : Nat} (e1 : ab_I h q a = nI x) (e2 : ab_I h q (a + 1) = nI y) : Seg h q a [x, y] := by
  intro j hj
  have hj : j < 2 := hj
  rcases Nat.eq_zero_or_pos j with z | z
  · subst z; exact e1
  · obtain rfl : j = 1 := by omega
    exact e2
section CO
variable {d : Nat} {h : Hp} {Q : Option Value → Hp → Prop} {n lw : Nat} {b : Nat → Nat}
theorem oc_putJump (hd : 2 ≤ d) (S : Sh h) {i a : Nat} (R : RD h b n lw i a) (ha : a + 2 ≤ 600) (v : Nat) (hq : ∀ h', OKc h h' b n lw a (em i [] [v, 0]) → Q (some (.int (nI (a + 1)))) h') : ab_Ok d n_X6_putJump [.ref 549, .int (nI v)] h Q := by
  refine ab_go mr_X6_putJump rfl (by omega) (fun call W hc hW => ?_); (conv => whnf)
  refine ⟨S.1 549 (by decide), ?_⟩
  refine hc _ _ _ _ (oc_put (by omega) S R (by omega) v (fun h1 A1 => ?_))
  have S1 := Fr_Sh A1.2.2.2 S
  (conv => whnf)
  refine ⟨S1.1 549 (by decide), ?_⟩
  refine hc _ _ _ _ (oc_put (by omega) S1 A1.1 (by show a + 1 < 600; omega) 0 (fun h2 A2 => ?_))
  have S2 := Fr_Sh A2.2.2.2 S1
  have A12 : OKc h h2 b n lw a (sq (em i [] [v]) (fun i1 _ => em i1 [] [0])) := OK_sq (k := fun i1 _ => em i1 [] [0]) rfl A1 A2
  have c5 : ab_I h2 549 5 = nI (a + 2) := A12.1.2.1
  (conv => whnf)
  refine ⟨S2.1 549 (by decide), ?_⟩
  (conv => whnf)
  rw [c5, pk_sub (by omega : 1 ≤ a + 2)]
  exact hq h2 A12
theorem oc_aimHere (hd : 2 ≤ d) (S : Sh h) {i a j : Nat} (R : RD h b n lw i a) (ha : a ≤ 600) (hj : j < a) (hq : ∀ h', RD h' b n lw i a → ab_I h' 557 j = nI a → (∀ k, k ≠ j → ab_I h' 557 k = ab_I h 557 k) → Fr fRo h h' → Q (some (.int (nI 1))) h') : ab_Ok d n_X6_aimHere [.ref 549, .int (nI j)] h Q := by
  obtain ⟨C, c5, c8⟩ := R
  refine ab_go mr_X6_aimHere rfl (by omega) (fun call W hc hW => ?_); (conv => whnf)
  refine ⟨S.1 549 (by decide), ?_⟩
  (conv => whnf)
  rw [c5]
  refine hc _ _ _ _ (ok_wiP (by omega) a (nI j) (by omega) (fun j' h1 e => ?_) (fun e => absurd rfl (e j hj)))
  (conv => whnf)
  refine bF (by decide) ?_
  (conv => whnf)
  refine ⟨S.1 549 (by decide), 557, S.2.2 _ _ _ rfl, ?_⟩
  (conv => whnf)
  refine ⟨S.1 549 (by decide), ?_⟩
  (conv => whnf)
  rw [c5]
  refine ⟨S.1 557 (by decide), vin _ (S.2.1 557 (by decide)) (by show j < 600; omega) (by decide), ?_⟩
  (conv => whnf)
  rw [nI_clamp (by omega)]
  refine ⟨Or.inr rfl, hq _ ⟨?_, ?_, ?_⟩ (rI_s _ _ _ _) (fun k hk => rI_k _ _ _ hk) (Fr_sI (Or.inr (Or.inr rfl)))⟩
  · exact CT_fr (P := fun x k => x = 557) (Fr_sI rfl) (fun w => by omega) (fun w => by omega) (fun x k h1 h2 w => by omega) C
  · rw [rI_a _ _ _ _ (by decide)]; exact c5
  · rw [rI_a _ _ _ _ (by decide)]; exact c8
theorem oc_ask (hn : n ≤ 300) {q : Nat} (IH : ∀ q', q' ≤ q → CPok b n lw q') : ∀ (o a i d : Nat) (h : Hp) (Q : Option Value → Hp → Prop), o ≤ 8 → i ≤ stL b n → 10 * (stL b n - i) + rkm 5 < q + 1 → a + 2 * (stL b n - i) ≤ 600 → 8 * (8 - o) + rkm 5 + 10 ≤ d → Sh h → RD h b n lw i a → ((ps (stT b n) (stV b n) lw (q + 1) 5 o a i).1 = 0 → ∀ h', OKc h h' b n lw a (ps (stT b n) (stV b n) lw (q + 1) 5 o a i) → Q (some (.int (nI 1))) h') → ((ps (stT b n) (stV b n) lw (q + 1) 5 o a i).1 ≠ 0 → ∀ h', FLc h h' b n (ps (stT b n) (stV b n) lw (q + 1) 5 o a i) → Q (some (.int (nI 0))) h') → ab_Ok d n_X6_ask [.ref 549, .int (nI o)] h Q := by
  intro o a i d h Q ho hi hf ha hd S R hy hno
  have ln := stL_n b n
  have r5 : rkm 5 = 3 := rfl
  have r3 : rkm 3 = 2 := rfl
  have tb' := stT_b b n i
  have PB := fun q' m o a i h1 h2 => ps_b (T := stT b n) (V := stV b n) (lw := lw) (L := stL b n) (fun i => stT_e b n) q' m o a i h1 h2
  rw [ps_5] at hy hno
  refine ab_go mr_X6_ask rfl (by omega) (fun call W hc hW => ?_); (conv => whnf)
  refine ⟨S.1 549 (by decide), 550, S.2.2 _ _ _ rfl, ?_⟩
  (conv => whnf)
  refine ⟨S.1 550 (by decide), ?_⟩
  refine hc _ _ _ _ (oc_token (by omega) S hn R.1 ?_)
  (conv => whnf)
  refine ⟨fun f => ?_, fun f => ?_⟩ <;> rw [nI_eq (by omega) (by omega)] at f <;> (conv => whnf)
  · rw [if_neg f] at hy hno
    have A := PB q 3 o a i hi (by omega)
    have sub := IH q (Nat.le_refl _) 3 o a i
    obtain ⟨x, ex⟩ : ∃ x, x = ps (stT b n) (stV b n) lw q 3 o a i := ⟨_, rfl⟩
    rw [← ex] at hy hno A sub
    clear ex
    refine ⟨S.1 549 (by decide), ?_⟩
    refine hc _ _ _ _ (sub _ h _ (by unfold ntl; omega) ho hi (by omega) ha (by omega) S R (fun z h1 A1 => ?_) (fun z h1 L1 => ?_))
    · have S1 := Fr_Sh A1.2.2.2 S
      obtain ⟨g1, g2, g3, g4⟩ := A.1.1 z
      have g5 := A.2 (by omega) z
      have tx := stT_b b n x.2.1
      have hy2 : ∀ y, (if isC (stT b n x.2.1) then sq (ps (stT b n) (stV b n) lw q 3 o (a + x.2.2.2.length) (x.2.1 + 1)) (fun i2 _ => em i2 [(opM (stT b n x.2.1), 0)] [stT b n x.2.1]) else er 1 x.2.1) = y → y.1 = 0 → ∀ h', OKc h1 h' b n lw (a + x.2.2.2.length) y → Q (some (.int (nI 1))) h' := by
        intro y ey y0 h' A'
        subst ey
        exact hy (by rw [sq_s z]; exact y0) h' (OK_sq (k := fun i1 l => if isC (stT b n i1) then sq (ps (stT b n) (stV b n) lw q 3 o (a + l) (i1 + 1)) (fun i2 _ => em i2 [(opM (stT b n i1), 0)] [stT b n i1]) else er 1 i1) z A1 A')
      have hno2 : ∀ y, (if isC (stT b n x.2.1) then sq (ps (stT b n) (stV b n) lw q 3 o (a + x.2.2.2.length) (x.2.1 + 1)) (fun i2 _ => em i2 [(opM (stT b n x.2.1), 0)] [stT b n x.2.1]) else er 1 x.2.1) = y → y.1 ≠ 0 → ∀ h', FLc h1 h' b n y → Q (some (.int (nI 0))) h' := by
        intro y ey y0 h' A'
        subst ey
        exact hno (by rw [sq_s z]; exact y0) h' (FL_sq (k := fun i1 l => if isC (stT b n i1) then sq (ps (stT b n) (stV b n) lw q 3 o (a + l) (i1 + 1)) (fun i2 _ => em i2 [(opM (stT b n i1), 0)] [stT b n i1]) else er 1 i1) z A1.2.2.2 A')
      clear hy hno
      (conv => whnf)
      refine bN (by decide) ?_
      (conv => whnf)
      refine ⟨S1.1 549 (by decide), 550, S1.2.2 _ _ _ rfl, ?_⟩
      (conv => whnf)
      refine ⟨S1.1 550 (by decide), ?_⟩
      refine hc _ _ _ _ (oc_token (by omega) S1 hn A1.1.1 ?_)
      (conv => whnf)
      refine hc _ _ _ _ (oc_isComparison (by omega) (by omega) (fun c => ?_) (fun c => ?_)) <;> (conv => whnf)
      · have il : x.2.1 < stL b n := Nat.lt_of_not_le (fun w => by have := (stT_e b n).mpr w; unfold isC at c; omega)
        have hy3 := hy2 _ (if_pos c)
        have hno3 := hno2 _ (if_pos c)
        clear hy2 hno2
        have B := PB q 3 o (a + x.2.2.2.length) (x.2.1 + 1) (by omega) (by omega)
        have sub2 := IH q (Nat.le_refl _) 3 o (a + x.2.2.2.length) (x.2.1 + 1)
        obtain ⟨y, ey⟩ : ∃ y, y = ps (stT b n) (stV b n) lw q 3 o (a + x.2.2.2.length) (x.2.1 + 1) := ⟨_, rfl⟩
        rw [← ey] at hy3 hno3 B sub2
        clear ey
        refine bN (by decide) ?_
        (conv => whnf)
        refine ⟨S1.1 549 (by decide), 550, S1.2.2 _ _ _ rfl, ?_⟩
        (conv => whnf)
        refine ⟨S1.1 550 (by decide), ?_⟩
        refine hc _ _ _ _ (oc_advance (by omega) S1 hn A1.1.1 (fun h2 C2 F2 => ?_))
        have S2 := Fr_Sh F2 S1
        have R2 : RD h2 b n lw (x.2.1 + 1) (a + x.2.2.2.length) := RD_fr57 F2 C2 A1.1
        (conv => whnf)
        refine ⟨S2.1 549 (by decide), ?_⟩
        refine hc _ _ _ _ (sub2 _ h2 _ (by unfold ntl; omega) ho (by omega) (by omega) (by omega) (by omega) S2 R2 (fun w h3 A3 => ?_) (fun w h3 L3 => ?_))
        · have S3 := Fr_Sh A3.2.2.2 S2
          obtain ⟨k1, k2, k3, k4⟩ := B.1.1 w
          (conv => whnf)
          refine bF (by decide) ?_
          (conv => whnf)
          refine ⟨S3.1 549 (by decide), ?_⟩
          refine hc _ _ _ _ (oc_put (by omega) S3 A3.1 (by omega) (stT b n x.2.1) (fun h4 A4 => ?_))
          have A5 : OKc h1 h4 b n lw (a + x.2.2.2.length) (sq y (fun i2 _ => em i2 [(opM (stT b n x.2.1), 0)] [stT b n x.2.1])) := OK_tr (f57R F2) (fun j _ => f57c F2 j) (OK_sq (k := fun i2 _ => em i2 [(opM (stT b n x.2.1), 0)] [stT b n x.2.1]) w A3 A4)
          have q1 := hy3 (by rw [sq_s w]; rfl) h4 A5
          (conv => whnf)
          refine bF (by decide) ?_
          (conv => whnf)
          exact ⟨Or.inr rfl, q1⟩
        · rw [sq_f w] at hno3
          have q0 := hno3 w h3 (FL_tr (f57R F2) L3)
          (conv => whnf)
          refine bT (by decide) ?_
          (conv => whnf)
          exact ⟨Or.inl rfl, q0⟩
      · have hno3 := hno2 _ (if_neg c)
        refine bP (by decide) ?_
        (conv => whnf)
        refine ⟨S1.1 549 (by decide), ?_⟩
        refine hc _ _ _ _ (oc_refuse (by omega) S1 hn A1.1.1 1 (fun h2 L2 => ?_))
        (conv => whnf)
        exact ⟨Or.inl rfl, hno3 (by show ¬ (1 : Nat) = 0; omega) h2 L2⟩
    · rw [sq_f z] at hno
      have q0 := hno z h1 L1
      (conv => whnf)
      refine bP (by decide) ?_
      (conv => whnf)
      exact ⟨Or.inl rfl, q0⟩
  · rw [if_pos f] at hy hno
    have il : i < stL b n := Nat.lt_of_not_le (fun w => by have := (stT_e b n).mpr w; omega)
    refine ⟨fun g => ?_, fun g => ?_⟩ <;> rw [nI_ltI (by omega) (by omega)] at g <;> (conv => whnf)
    · rw [if_neg (by omega)] at hy hno
      have A := PB q 5 (o + 1) a (i + 1) (by omega) (by omega)
      have sub := IH q (Nat.le_refl _) 5 (o + 1) a (i + 1)
      obtain ⟨x, ex⟩ : ∃ x, x = ps (stT b n) (stV b n) lw q 5 (o + 1) a (i + 1) := ⟨_, rfl⟩
      rw [← ex] at hy hno A sub
      clear ex
      refine ⟨S.1 549 (by decide), 550, S.2.2 _ _ _ rfl, ?_⟩
      (conv => whnf)
      refine ⟨S.1 550 (by decide), ?_⟩
      refine hc _ _ _ _ (oc_advance (by omega) S hn R.1 (fun h2 C2 F2 => ?_))
      have S2 := Fr_Sh F2 S
      have R2 : RD h2 b n lw (i + 1) a := RD_fr57 F2 C2 R
      (conv => whnf)
      rw [nI_add]
      refine ⟨S2.1 549 (by decide), ?_⟩
      refine hc _ _ _ _ (sub _ h2 _ (by unfold ntl; omega) (by omega) (by omega) (by omega) (by omega) (by omega) S2 R2 (fun w h3 A3 => ?_) (fun w h3 L3 => ?_))
      · have S3 := Fr_Sh A3.2.2.2 S2
        obtain ⟨k1, k2, k3, k4⟩ := A.1.1 w
        (conv => whnf)
        refine bF (by decide) ?_
        (conv => whnf)
        refine ⟨S3.1 549 (by decide), ?_⟩
        refine hc _ _ _ _ (oc_put (by omega) S3 A3.1 (by omega) 27 (fun h4 A4 => ?_))
        have A5 : OKc h h4 b n lw a (sq x (fun i2 _ => em i2 [(20, 0)] [27])) := OK_tr (f57R F2) (fun j _ => f57c F2 j) (OK_sq (k := fun i2 _ => em i2 [(20, 0)] [27]) w A3 A4)
        have q1 := hy (by rw [sq_s w]; rfl) h4 A5
        (conv => whnf)
        refine bF (by decide) ?_
        (conv => whnf)
        exact ⟨Or.inr rfl, q1⟩
      · rw [sq_f w] at hno
        have q0 := hno w h3 (FL_tr (f57R F2) L3)
        (conv => whnf)
        refine bT (by decide) ?_
        (conv => whnf)
        exact ⟨Or.inl rfl, q0⟩
    · rw [if_pos (by omega)] at hno
      refine ⟨S.1 549 (by decide), ?_⟩
      refine hc _ _ _ _ (oc_refuse (by omega) S hn R.1 3 (fun h2 L2 => ?_))
      (conv => whnf)
      exact ⟨Or.inl rfl, hno (by show ¬ (3 : Nat) = 0; omega) h2 L2⟩
end CO
