/-! ===== one call on both sides: tapes, texts, images (mine) ===== -/
section FC1
variable {h h' : Hp} {L : Nat} {X : Nat → Int32} {s s' si : Sv} {tx : Nat → Tx} {n n' : Nat} {b b' : Nat → Nat} {f p : Int32} {P : Nat → Nat → Prop}
theorem FrC_B {q lo hi : Nat} (F : FrB q lo hi h h') (hq : q = 13 ∨ q = 285) : FrC (fun a _ => lo ≤ a ∧ a < hi) h h' := ⟨by rw [F.2.2.1]; exact Nat.le_refl _, fun x _ => ⟨by rw [F.1], by rw [F.2.1], fun h1 h2 => funext fun k => F.2.2.2.1 x k (by omega), fun k hk => F.2.2.2.2 x k hk⟩⟩
theorem BS_C (F : FrC P h h') (hP : ∀ a k, P a k → 5 ≤ a) (B : BS h L X) : BS h' L X := by
  obtain ⟨S, Z, hN, bl, bi⟩ := B
  have g : ∀ a k, a < 5 → ab_I h' a k = ab_I h a k := fun a k ha => (F.2 a (by omega)).2.2.2 k (fun z => by have := hP _ _ z; omega)
  refine ⟨⟨fun a ha => ?_, fun a ha => ?_, fun a k b e => ?_⟩, ⟨fun k => (g 2 k (by decide)).trans (Z.1 k), fun k => (g 4 k (by decide)).trans (Z.2.1 k), (g 1 1 (by decide)).trans Z.2.2.1, (g 3 1 (by decide)).trans Z.2.2.2⟩, Nat.le_trans hN F.1, by rw [(F.2 0 (by omega)).2.1]; exact bl, (funext fun k => g 0 k (by decide)).trans bi⟩
  · rw [(F.2 a (by omega)).1]; exact S.1 a ha
  · rw [(F.2 a (by omega)).2.1]; exact S.2.1 a ha
  · have l : a < 594 := by
      rcases Nat.lt_or_ge a 594 with z | z
      · exact z
      · rw [tR_out a k z] at e; cases e
    rw [(F.2 a (by omega)).2.2.1 (fun z => ?_) (fun z => ?_)]
    · exact S.2.2 a k b e
    · subst z
      exact absurd (show (none : Option Nat) = some b from e) (by simp)
    · subst z
      exact absurd (show (none : Option Nat) = some b from e) (by simp)
theorem TC_C {c : Nat} {T : Tx} (F : FrC P h h') (hP : ∀ a k, P a k → a < 594) (hc : c + 5 < ab_N h) (H : TC h c T) : TC h' c T := by
  obtain ⟨len, a, b, e⟩ := H
  have ht : 594 ≤ c := a.1
  have F' : ∀ i, i ≤ 5 → ab_K h' (c + i) = ab_K h (c + i) ∧ ab_L h' (c + i) = ab_L h (c + i) ∧ ab_R h' (c + i) = ab_R h (c + i) ∧ ∀ k, ab_I h' (c + i) k = ab_I h (c + i) k := fun i hi => by
    obtain ⟨q1, q2, q3, q4⟩ := F.2 (c + i) (by omega)
    exact ⟨q1, q2, q3 (by omega) (by omega), fun k => q4 k (fun z => by have := hP _ _ z; omega)⟩
  have f1 : ∀ k, ab_I h' (c + 1) k = ab_I h (c + 1) k := (F' 1 (by omega)).2.2.2
  have f2 : ∀ k, ab_I h' (c + 2) k = ab_I h (c + 2) k := (F' 2 (by omega)).2.2.2
  have f3 : ∀ k, ab_I h' (c + 3) k = ab_I h (c + 3) k := (F' 3 (by omega)).2.2.2
  have f4 : ∀ k, ab_I h' (c + 4) k = ab_I h (c + 4) k := (F' 4 (by omega)).2.2.2
  have f5 : ∀ k, ab_I h' (c + 5) k = ab_I h (c + 5) k := (F' 5 (by omega)).2.2.2
  have f0 := F' 0 (by omega)
  rw [Nat.add_zero] at f0
  refine ⟨len, ?_, fun i hi => ?_, fun k hk => ?_⟩
  · unfold TO at a ⊢
    rw [f0.1, f0.2.2.1, (F' 1 (by omega)).1, (F' 2 (by omega)).1, (F' 3 (by omega)).1, (F' 4 (by omega)).1, (F' 5 (by omega)).1, (F' 1 (by omega)).2.1, (F' 2 (by omega)).2.1, (F' 3 (by omega)).2.1, (F' 4 (by omega)).2.1, (F' 5 (by omega)).2.1]
    exact a
  · obtain ⟨b1, b2, b3⟩ := b i hi
    refine ⟨by rw [f1]; exact b1, b2, fun j hj => ?_⟩
    rw [f2]
    exact b3 j hj
  · have q := e k hk
    unfold CLw at q ⊢
    cases hT : T.2.2 k with
    | none => rw [hT] at q; rw [f4]; exact q
    | some v =>
      rw [hT] at q
      obtain ⟨a, r, c0, m, q1, q2, q3, q4, q5, q6⟩ := q
      refine ⟨a, r, c0, m, q1, q2, by rw [f4]; exact q3, by rw [f5]; exact q4, q5, fun j hj => ?_⟩
      rw [f3]
      exact q6 j hj
theorem TM_c {t : Nat} {T : Tx} (g : ∀ k, 705 * t ≤ k → k < 705 * t + 705 → ab_I h' 583 k = ab_I h 583 k) (H : TM h t T) : TM h' t T := by
  obtain ⟨a, b, c, e⟩ := H
  refine ⟨a, by rw [g _ (by omega) (by omega)]; exact b, fun i hi => ?_, fun k hk => ?_⟩
  · obtain ⟨c1, c2, c3⟩ := c i hi
    refine ⟨by rw [g _ (by omega) (by omega)]; exact c1, c2, fun j hj => ?_⟩
    have : ar (T.2.1 i 0) ≤ 3 := by unfold ar; (repeat' split) <;> omega
    rw [g _ (by omega) (by omega)]
    exact c3 j hj
  · have q := e k hk
    unfold MLw at q ⊢
    cases hT : T.2.2 k with
    | none => rw [hT] at q; exact q
    | some v =>
      rw [hT] at q
      obtain ⟨i, q1, q2, q3, i0, a, r, c, m, q4, q5, q6, q7, q8⟩ := q
      refine ⟨i, q1, q2, q3, i0, a, r, c, m, q4, by rw [g _ (by omega) (by omega)]; exact q5, by rw [g _ (by omega) (by omega)]; exact q6, q7, fun j hj => ?_⟩
      rw [g _ (by omega) (by omega), g _ (by omega) (by omega)]
      exact q8 j hj
theorem RSM_C (F : FrC P h h') (hN : 594 ≤ ab_N h) (hP : ∀ a k, P a k → a < 580) (R : RSM h s si tx n b f p) : RSM h' s si tx n b f p := by
  have g : ∀ a k, 580 ≤ a → a < 594 → ab_I h' a k = ab_I h a k := fun a k h1 h2 => (F.2 a (by omega)).2.2.2 k (fun z => by have := hP _ _ z; omega)
  exact RSM_I g (fun T t ht => TM_c (fun k _ _ => g 583 k (by decide) (by decide)) (T t ht)) R
theorem TXI_C2 {q : Nat} (F : FrC P h h') (hP : ∀ a k, P a k → a < 594) {tx' : Nat → Tx} (e : ∀ t, t < s 18 2 → tx' t = tx t) (r : ∀ t, t < s 18 2 → ab_R h' q t = ab_R h q t) (T : TXI h q s tx) : TXI h' q s tx' := fun t ht => by
  obtain ⟨c, c1, c2, c3⟩ := T t ht
  rw [e t ht, r t ht]
  exact ⟨c, c1, Nat.lt_of_lt_of_le c2 F.1, TC_C F hP c2 c3⟩
theorem CS_T (F : Fr fTC h h') (P1 : TP h' 550 2 551 n' b') (C : CS h s si tx n b f p) : CS h' s si tx n' b' f p := by
  obtain ⟨c1, c2, c3, c4, c5, c6, c7⟩ := C
  have g : ∀ a k, a ≠ 550 → a ≠ 551 → ab_I h' a k = ab_I h a k := fun a k h1 h2 => F.2.2.2.2 a k (fun z => by unfold fTC at z; omega)
  have l : ∀ a k, fTC a k → a < 594 := fun a k z => by unfold fTC at z; omega
  exact ⟨CR_I c1 (fun a k ha => g a k (by omega) (by omega)), CR_I c2 (fun a k ha => g a k (by omega) (by omega)), ⟨TXI_fr F l c3.1 rfl, TXI_fr F l c3.2 rfl⟩, ⟨RK_fr F c4.1, RK_fr F c4.2⟩, P1, (g _ _ (by decide) (by decide)).trans c6, (g _ _ (by decide) (by decide)).trans c7⟩
theorem RSM_T (F : Fr fTM h h') (P1 : TP h' 580 4 584 n' b') (R : RSM h s si tx n b f p) : RSM h' s si tx n' b' f p := by
  obtain ⟨c1, c2, c3, c4, c5, c6, c7⟩ := R
  have g : ∀ a k, ¬ fTM a k → ab_I h' a k = ab_I h a k := F.2.2.2.2
  exact ⟨MS_c c1 (fun k _ => g _ k (fun z => by unfold fTM at z; omega)), MS_c c2 (fun k _ => g _ k (fun z => by unfold fTM at z; omega)), TXM_fr F (fun k z => by unfold fTM at z; omega) c3 rfl, P1, (g _ _ (fun z => by unfold fTM at z; omega)).trans c5, (g _ _ (fun z => by unfold fTM at z; omega)).trans c6, (g _ _ (fun z => by unfold fTM at z; omega)).trans c7⟩
end FC1
section LT
variable {d : Nat} {h : Hp} {Q : Option Value → Hp → Prop} {L : Nat} {X : Nat → Int32}
theorem lp_feed (hd : 200 ≤ d) (I : INV h L X) (x1 x2 x3 x4 x5 : Int32) (K : ∀ v h1, Kt d n_X12_feed [.ref 580, .int x1, .int x2, .int x3, .int x4, .int x5] L X (.int v) h1 → Q (some (.int v)) h1) : ab_Ok d n_X11_feed [.ref 5, .int x1, .int x2, .int x3, .int x4, .int x5] h Q := by
  obtain ⟨s, si, tx, n, b, f, p, B, C, R, W, Wi, hsi, hn3⟩ := I; have I0 : INV h L X := ⟨s, si, tx, n, b, f, p, B, C, R, W, Wi, hsi, hn3⟩; have S := B.1; have w2 := W.1.2.2.1
  refine oc_feed (by omega) S C.2.2.2.2.1 hn3 x1 x2 x3 x4 x5 (fun l h1 P1 F1 => ?_) (fun z => ?_)
  · have B1 := BS_fr F1 (fun a k z => by unfold fTC at z; omega) B
    have D1 := CS_T F1 P1 C
    have R1 := RSM_fr F1 (fun a k z => by unfold fTC at z; omega) R
    refine K _ h1 ⟨B1, fun Q2 q2 => om_feed (by omega) B1.1 R1.2.2.2.1 hn3 x1 x2 x3 x4 x5 (fun _ h2 P2 F2 => ?_) (fun z => absurd l z)⟩
    exact q2 h2 ⟨s, si, tx, _, _, f, p, BS_fr F2 (fun a k z => by unfold fTM at z; omega) B1, CS_fr F2 (fun a k z => by unfold fTM at z; omega) D1, RSM_T F2 P2 R1, W, Wi, hsi, by omega⟩
  · exact K _ h ⟨B, fun Q2 q2 => om_feed (by omega) S R.2.2.2.1 hn3 x1 x2 x3 x4 x5 (fun l => absurd l z) (fun _ => q2 h I0)⟩
theorem lp_end (hd : 200 ≤ d) (I : INV h L X) (x : Int32) (K : ∀ v h1, Kt d n_X12_end [.ref 580, .int x] L X (.int v) h1 → Q (some (.int v)) h1) : ab_Ok d n_X11_end [.ref 5, .int x] h Q := by
  obtain ⟨s, si, tx, n, b, f, p, B, C, R, W, Wi, hsi, hn3⟩ := I; have I0 : INV h L X := ⟨s, si, tx, n, b, f, p, B, C, R, W, Wi, hsi, hn3⟩; have S := B.1; have w2 := W.1.2.2.1
  refine oc_end (by omega) S C.2.2.2.2.1 hn3 x (fun m l e h1 P1 F1 => ?_) (fun z => ?_)
  · have B1 := BS_fr F1 (fun a k z => by unfold fTC at z; omega) B
    have D1 := CS_T F1 P1 C
    have R1 := RSM_fr F1 (fun a k z => by unfold fTC at z; omega) R
    refine K _ h1 ⟨B1, fun Q2 q2 => om_end (by omega) B1.1 R1.2.2.2.1 hn3 x (fun m' l' e' h2 P2 F2 => ?_) (fun z => absurd e (z m l))⟩
    obtain rfl := nJ (by omega) (by omega) e e'
    exact q2 h2 ⟨s, si, tx, _, _, f, p, BS_fr F2 (fun a k z => by unfold fTM at z; omega) B1, CS_fr F2 (fun a k z => by unfold fTM at z; omega) D1, RSM_T F2 P2 R1, W, Wi, hsi, by omega⟩
  · exact K _ h ⟨B, fun Q2 q2 => om_end (by omega) S R.2.2.2.1 hn3 x (fun m l e => absurd e (z m l)) (fun _ => q2 h I0)⟩
theorem lp_image (hd : 200 ≤ d) (I : INV h L X) (K : ∀ v h1, Kt d n_X12_image [.ref 580] L X (.int v) h1 → Q (some (.int v)) h1) : ab_Ok d n_X11_image [.ref 5] h Q := by
  obtain ⟨s, si, tx, n, b, f, p, B, C, R, W, Wi, hsi, hn3⟩ := I; have I0 : INV h L X := ⟨s, si, tx, n, b, f, p, B, C, R, W, Wi, hsi, hn3⟩; have S := B.1; have w2 := W.1.2.2.1
  obtain ⟨c1, c2, c3, c4, c5, c6, c7⟩ := C
  refine oc_image (by omega) S c1 (fun k c hk e => (c4.1 k c hk e).1) (fun h1 D1 C1 Q1 F1 => ?_)
  have FC := FrC_B F1 (Or.inr rfl)
  have B1 := BS_C FC (fun a k z => by have := z.1; omega) B
  have g : ∀ a k, ¬ (279 ≤ a ∧ a < 549) → ab_I h1 a k = ab_I h a k := F1.2.2.2.2
  have r13 : ∀ k, ab_R h1 13 k = ab_R h 13 k := fun k => F1.2.2.2.1 13 k (by decide)
  have R1 : RSM h1 s si tx n b f p := RSM_C FC B.2.2.1 (fun a k z => by have := z.2; omega) R
  have T1 : TXI h1 13 s tx := TXI_C2 FC (fun a k z => by have := z.2; omega) (fun _ _ => rfl) (fun t _ => r13 t) c3.1
  have T2 : TXI h1 285 s tx := fun t ht => by
    rw [Q1 t (by omega), ← r13 t]
    exact T1 t ht
  have K1 : RK h1 13 := fun k c hk e => by
    rw [r13] at e
    rw [F1.1, F1.2.2.1]
    exact c4.1 k c hk e
  have K2 : RK h1 285 := fun k c hk e => K1 k c hk (by rw [r13, ← Q1 k hk]; exact e)
  have CS1 : CS h1 s s tx n b f p := ⟨C1, D1, ⟨T1, T2⟩, ⟨K1, K2⟩, ⟨(g _ _ (by omega)).trans c5.1, fun k hk => ⟨(g _ _ (by omega)).trans (c5.2 k hk).1, (c5.2 k hk).2⟩⟩, (g _ _ (by omega)).trans c6, (g _ _ (by omega)).trans c7⟩
  refine K _ h1 ⟨B1, fun Q2 q2 => om_image (by omega) B1.1 R1.1 (fun h2 M2 F2 => ?_)⟩
  have g2 : ∀ a k, a ≠ 582 → ab_I h2 a k = ab_I h1 a k := F2.2.2.2.2
  obtain ⟨d1, _, d3, d4, d5, d6, d7⟩ := R1
  exact q2 h2 ⟨s, s, tx, n, b, f, p, BS_fr F2 (fun a k z => by omega) B1, CS_fr F2 (fun a k z => by omega) CS1, ⟨MS_c d1 (fun k _ => g2 _ k (by decide)), M2, TXM_fr F2 (fun k z => by omega) d3 rfl, ⟨(g2 _ _ (by decide)).trans d4.1, fun k hk => ⟨(g2 _ _ (by decide)).trans (d4.2 k hk).1, (d4.2 k hk).2⟩⟩, (g2 _ _ (by decide)).trans d5, (g2 _ _ (by decide)).trans d6, (g2 _ _ (by decide)).trans d7⟩, W, W, Nat.le_refl _, hn3⟩
theorem lp_back (hd : 200 ≤ d) (I : INV h L X) (K : ∀ v h1, Kt d n_X12_back [.ref 580] L X (.int v) h1 → Q (some (.int v)) h1) : ab_Ok d n_X11_back [.ref 5] h Q := by
  obtain ⟨s, si, tx, n, b, f, p, B, C, R, W, Wi, hsi, hn3⟩ := I; have I0 : INV h L X := ⟨s, si, tx, n, b, f, p, B, C, R, W, Wi, hsi, hn3⟩; have S := B.1; have w2 := W.1.2.2.1
  have wi2 := Wi.1.2.2.1
  obtain ⟨c1, c2, c3, c4, c5, c6, c7⟩ := C
  refine oc_back (by omega) S c2 (fun k c hk e => (c4.2 k c hk e).1) (fun h1 C1 D1 Q1 F1 => ?_)
  have FC := FrC_B F1 (Or.inl rfl)
  have B1 := BS_C FC (fun a k z => by have := z.1; omega) B
  have g : ∀ a k, ¬ (7 ≤ a ∧ a < 279) → ab_I h1 a k = ab_I h a k := F1.2.2.2.2
  have r13 : ∀ k, ab_R h1 285 k = ab_R h 285 k := fun k => F1.2.2.2.1 285 k (by decide)
  have R1 : RSM h1 s si tx n b f p := RSM_C FC B.2.2.1 (fun a k z => by have := z.2; omega) R
  have T2 : TXI h1 285 si tx := TXI_C2 FC (fun a k z => by have := z.2; omega) (fun _ _ => rfl) (fun t _ => r13 t) c3.2
  have T1 : TXI h1 13 si tx := fun t ht => by
    rw [Q1 t (by omega), ← r13 t]
    exact T2 t ht
  have K2 : RK h1 285 := fun k c hk e => by
    rw [r13] at e
    rw [F1.1, F1.2.2.1]
    exact c4.2 k c hk e
  have K1 : RK h1 13 := fun k c hk e => K2 k c hk (by rw [r13, ← Q1 k hk]; exact e)
  have CS1 : CS h1 si si tx n b f p := ⟨C1, D1, ⟨T1, T2⟩, ⟨K1, K2⟩, ⟨(g _ _ (by omega)).trans c5.1, fun k hk => ⟨(g _ _ (by omega)).trans (c5.2 k hk).1, (c5.2 k hk).2⟩⟩, (g _ _ (by omega)).trans c6, (g _ _ (by omega)).trans c7⟩
  refine K _ h1 ⟨B1, fun Q2 q2 => om_back (by omega) B1.1 R1.2.1 (fun h2 M2 F2 => ?_)⟩
  have g2 : ∀ a k, a ≠ 581 → ab_I h2 a k = ab_I h1 a k := F2.2.2.2.2
  obtain ⟨_, d2, d3, d4, d5, d6, d7⟩ := R1
  exact q2 h2 ⟨si, si, tx, n, b, f, p, BS_fr F2 (fun a k z => by omega) B1, CS_fr F2 (fun a k z => by omega) CS1, ⟨M2, MS_c d2 (fun k _ => g2 _ k (by decide)), fun t ht => TXM_fr F2 (fun k z => by omega) d3 rfl t (by omega), ⟨(g2 _ _ (by decide)).trans d4.1, fun k hk => ⟨(g2 _ _ (by decide)).trans (d4.2 k hk).1, (d4.2 k hk).2⟩⟩, (g2 _ _ (by decide)).trans d5, (g2 _ _ (by decide)).trans d6, (g2 _ _ (by decide)).trans d7⟩, Wi, Wi, Nat.le_refl _, hn3⟩
end LT
