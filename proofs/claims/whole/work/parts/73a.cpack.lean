/-! ===== contracts: packing on the class's side (mine) ===== -/
def fPk (a _ : Nat) : Prop := 568 ≤ a ∧ a < 573
theorem fPkA {h h' : Hp} (F : Fr fPk h h') : Fr cA h h' := Fr_mo F (fun a k z => Or.inr ⟨by have := z.1; omega, by have := z.2; omega⟩)
section PC
variable {d : Nat} {h : Hp} {Q : Option Value → Hp → Prop} {s : Sv}
theorem oc_placeP {H n : Nat} {w : Nat → Nat} (hH : H ≤ 5) (hn : n ≤ 8) (hw : ∀ k, k < n → w k ≤ 29) : ∀ (m d : Nat) (h : Hp) (Q : Option Value → Hp → Prop) (f l : Nat → Nat) (g : Nat) (st : RS), m ≤ n → m + 2 ≤ d → Sh h → (∀ k, k < n → ab_I h 569 k = nI (w k)) → (∀ x, l x ≤ 29 * (n - m)) → g ≤ 29 * (n - m) → st.1 ≤ 1000000 → ab_I h 568 3 = nI H → ab_I h 568 4 = nI n → ab_I h 568 6 = nI st.1 → (∀ x, x < H → ab_I h 570 x = nI (l x)) → (∀ j, j < n - m → ab_I h 571 j = nI (f j)) → (st.1 < 1000000 → ∀ j, j < n → ab_I h 572 j = nI (st.2 j)) → (∀ h', ab_I h' 568 6 = nI (pC H n w m f l g st).1 → (∀ x, x < H → ab_I h' 570 x = nI (l x)) → (∀ j, j < n - m → ab_I h' 571 j = nI (f j)) → ((pC H n w m f l g st).1 < 1000000 → ∀ j, j < n → ab_I h' 572 j = nI ((pC H n w m f l g st).2 j)) → ab_I h' 568 3 = nI H → ab_I h' 568 4 = nI n → (∀ k, k < n → ab_I h' 569 k = nI (w k)) → Fr fPk h h' → Q none h') → ab_Ok d n_X4_place [.ref 568, .int (nI (n - m)), .int (nI g)] h Q := by
  intro m
  induction m with
  | zero =>
    intro d h Q f l g st _ hd S hb hl hg hL c3 c4 c6 cl ca cb hq
    have e : pC H n w 0 f l g st = if st.1 ≤ g then st else (g, f) := rfl
    rw [e] at hq
    clear e
    refine ab_go mr_X4_place rfl (by omega) (fun call W hc hW => ?_); (conv => whnf)
    refine ⟨S.1 568 (by decide), ?_⟩
    (conv => whnf)
    rw [c6]
    refine ⟨fun y => ?_, fun y => ?_⟩ <;> rw [nI_ltI (by omega) (by omega)] at y <;> (conv => whnf)
    · rw [if_neg (by omega)] at hq
      refine ⟨S.1 568 (by decide), ?_⟩
      (conv => whnf)
      rw [c4]
      refine bF (by rw [nI_ltI (by omega) (by omega)]; omega) ?_
      (conv => whnf)
      refine ⟨S.1 568 (by decide), ?_⟩
      (conv => whnf)
      obtain ⟨h1, e1⟩ : ∃ h1, h1 = ab_sI h 568 6 (nI g) := ⟨_, rfl⟩
      have F1 : Fr fPk h h1 := by rw [e1]; exact Fr_sI ⟨by omega, by omega⟩
      have S1 := Fr_Sh F1 S
      have d6 : ab_I h1 568 6 = nI g := by rw [e1, rI_s]
      have d3 : ab_I h1 568 3 = nI H := by rw [e1, rI_k _ _ _ (by decide)]; exact c3
      have d4 : ab_I h1 568 4 = nI n := by rw [e1, rI_k _ _ _ (by decide)]; exact c4
      have da : ∀ a, a ≠ 568 → ab_I h1 a = ab_I h a := fun a ha => by rw [e1]; exact funext fun j => rI_a _ _ _ _ ha
      rw [← e1]
      clear e1
      refine ⟨S1.1 568 (by decide), 571, S1.2.2 _ _ _ rfl, ?_⟩
      (conv => whnf)
      refine ⟨S1.1 568 (by decide), 572, S1.2.2 _ _ _ rfl, ?_⟩
      (conv => whnf)
      refine ⟨S1.1 568 (by decide), ?_⟩
      (conv => whnf)
      rw [d4]
      refine ⟨S1.1 571 (by decide), S1.1 572 (by decide), by decide, by decide, ?_, ?_, ?_, ?_⟩
      · rw [z0, nI_ltI (by omega) (by omega)]; omega
      · rw [nI_clamp (by omega), nI_clamp (by omega), S1.2.1 571 (by decide)]; show 0 + n ≤ 8; omega
      · rw [nI_clamp (by omega), nI_clamp (by omega), S1.2.1 572 (by decide)]; show 0 + n ≤ 8; omega
      · (conv => whnf)
        rw [nI_clamp (by omega), nI_clamp (by omega), da 571 (by decide)]
        refine hq _ ?_ (fun x hx => ?_) (fun j hj => ?_) (fun _ j hj => ?_) ?_ ?_ (fun k hk => ?_) (Fr_tr F1 (Fr_sA (fun k => Or.inl ⟨by omega, by omega⟩)))
        · rw [rA_a _ _ (by decide)]; exact d6
        · rw [rA_a _ _ (by decide), da _ (by decide)]; exact cl x hx
        · rw [rA_a _ _ (by decide), da _ (by decide)]; exact ca j hj
        · rw [rA_s]
          show (if 0 ≤ j ∧ j < 0 + n then ab_I h 571 (0 + (j - 0)) else ab_I h1 572 j) = nI (f j)
          rw [if_pos ⟨by omega, by omega⟩, show 0 + (j - 0) = j by omega]
          exact ca j hj
        · rw [rA_a _ _ (by decide)]; exact d3
        · rw [rA_a _ _ (by decide)]; exact d4
        · rw [rA_a _ _ (by decide), da _ (by decide)]; exact hb k hk
    · rw [if_pos (by omega)] at hq
      exact hq h c6 cl ca cb c3 c4 hb Fr_re
  | succ m ihm =>
    intro d h Q f l g st hm hd S hb hl hg hL c3 c4 c6 cl ca cb hq
    have e : pC H n w (m + 1) f l g st = if st.1 ≤ g then st else pL (fun x st => pC H n w m (va_up f (n - (m + 1)) x) (va_up l x (l x + w (n - (m + 1)))) (max g (l x + w (n - (m + 1)))) st) l H 0 st := rfl
    rw [e] at hq
    clear e
    have wb := hw (n - (m + 1)) (by omega)
    refine ab_go mr_X4_place rfl (by omega) (fun call W hc hW => ?_); (conv => whnf)
    refine ⟨S.1 568 (by decide), ?_⟩
    (conv => whnf)
    rw [c6]
    refine ⟨fun y => ?_, fun y => ?_⟩ <;> rw [nI_ltI (by omega) (by omega)] at y <;> (conv => whnf)
    · rw [if_neg (by omega)] at hq
      obtain ⟨gg, eg⟩ : ∃ gg : Nat → RS → RS, gg = fun x st => pC H n w m (va_up f (n - (m + 1)) x) (va_up l x (l x + w (n - (m + 1)))) (max g (l x + w (n - (m + 1)))) st := ⟨_, rfl⟩
      rw [← eg] at hq
      have gle : ∀ x st, (gg x st).1 ≤ st.1 := by
        intro x st
        rw [eg]
        exact pC_le m _ _ _ _
      have gq : ∀ x st, gg x st = pC H n w m (va_up f (n - (m + 1)) x) (va_up l x (l x + w (n - (m + 1)))) (max g (l x + w (n - (m + 1)))) st := fun x st => by rw [eg]
      clear eg
      have fin : ∀ (st1 : RS) h' x b, (H ≤ x ∨ b = 1) → x ≤ H → b < 2 → pL gg l H 0 st = st1 → ab_I h' 568 3 = nI H → ab_I h' 568 4 = nI n → ab_I h' 568 6 = nI st1.1 → (∀ x, x < H → ab_I h' 570 x = nI (l x)) → (∀ j, j < n - (m + 1) → ab_I h' 571 j = nI (f j)) → (st1.1 < 1000000 → ∀ j, j < n → ab_I h' 572 j = nI (st1.2 j)) → (∀ k, k < n → ab_I h' 569 k = nI (w k)) → Fr fPk h h' → W 45 [.ref 568, .int (nI (n - (m + 1))), .int (nI g), .int (nI b), .int (nI x)] h' 0 0 := by
        intro st1 h' x b hxb hx hb2 es d3 d4 d6 dl da db dw F'
        have S' := Fr_Sh F' S
        rw [es] at hq
        have q := hq h' d6 dl da db d3 d4 dw F'
        clear hq
        refine hW _ _ _ _ _ ?_
        (conv => whnf)
        refine ⟨S'.1 568 (by decide), ?_⟩
        (conv => whnf)
        rw [d3]
        refine ⟨fun z => ?_, fun z => ?_⟩ <;> rw [nI_leI (by omega) (by omega)] at z <;> (conv => whnf)
        · exact q
        · refine bN (by rw [← nI_0, nI_eq (by omega) (by omega)]; omega) ?_
          (conv => whnf)
          exact q
      have lp : ∀ r x (st1 : RS) h', x + r = H → pL gg l H 0 st = pL gg l r x st1 → st1.1 ≤ 1000000 → ab_I h' 568 3 = nI H → ab_I h' 568 4 = nI n → ab_I h' 568 6 = nI st1.1 → (∀ x, x < H → ab_I h' 570 x = nI (l x)) → (∀ j, j < n - (m + 1) → ab_I h' 571 j = nI (f j)) → (st1.1 < 1000000 → ∀ j, j < n → ab_I h' 572 j = nI (st1.2 j)) → (∀ k, k < n → ab_I h' 569 k = nI (w k)) → Fr fPk h h' → W 45 [.ref 568, .int (nI (n - (m + 1))), .int (nI g), .int (nI 0), .int (nI x)] h' 0 0 := by
        clear hq
        intro r
        induction r with
        | zero =>
          intro x st1 h' ex es _ d3 d4 d6 dl da db dw F'
          exact fin st1 h' x 0 (Or.inl (by omega)) (by omega) (by omega) es d3 d4 d6 dl da db dw F'
        | succ r ih =>
          intro x st1 h' ex es sl d3 d4 d6 dl da db dw F'
          have S' := Fr_Sh F' S
          have es : pL gg l H 0 st = if l x = 0 then gg x st1 else pL gg l r (x + 1) (gg x st1) := es
          have il := gle x st1
          have ih := ih (x + 1) (gg x st1)
          have fin := fin (gg x st1)
          have vx := dl x (by omega)
          have vw := dw (n - (m + 1)) (by omega)
          have lx := hl x
          have gx := gq x st1
          rw [gx] at ih fin es il
          clear gx gq gle
          -- from here on the same for both answers of the question whether the horse is empty
          have body : ∀ b, (b = 1 ∧ l x = 0) ∨ (b = 0 ∧ l x ≠ 0) → ∀ h2, ab_I h2 568 6 = nI (pC H n w m (va_up f (n - (m + 1)) x) (va_up l x (l x + w (n - (m + 1)))) (max g (l x + w (n - (m + 1)))) st1).1 → (∀ x, x < H → ab_I h2 570 x = nI (l x)) → (∀ j, j < n - (m + 1) → ab_I h2 571 j = nI (f j)) → ((pC H n w m (va_up f (n - (m + 1)) x) (va_up l x (l x + w (n - (m + 1)))) (max g (l x + w (n - (m + 1)))) st1).1 < 1000000 → ∀ j, j < n → ab_I h2 572 j = nI ((pC H n w m (va_up f (n - (m + 1)) x) (va_up l x (l x + w (n - (m + 1)))) (max g (l x + w (n - (m + 1)))) st1).2 j)) → ab_I h2 568 3 = nI H → ab_I h2 568 4 = nI n → (∀ k, k < n → ab_I h2 569 k = nI (w k)) → Fr fPk h h2 → W 45 [.ref 568, .int (nI (n - (m + 1))), .int (nI g), .int (nI b), .int (nI (x + 1))] h2 0 0 := by
            intro b hb h2 y6 yl ya yb y3 y4 yw F2
            rcases hb with ⟨e1, e2⟩ | ⟨e1, e2⟩
            · rw [if_pos e2] at es
              rw [e1]
              exact fin h2 (x + 1) 1 (Or.inr rfl) (by omega) (by omega) es y3 y4 y6 yl ya yb yw F2
            · rw [if_neg e2] at es
              rw [e1]
              exact ih h2 (by omega) es (by omega) y3 y4 y6 yl ya yb yw F2
          clear ih fin es
          refine hW _ _ _ _ _ ?_
          (conv => whnf)
          refine ⟨S'.1 568 (by decide), ?_⟩
          (conv => whnf)
          rw [d3]
          refine bF (nI_ge (by omega) (by omega)) ?_
          (conv => whnf)
          refine bP (by decide) ?_
          (conv => whnf)
          refine ⟨S'.1 568 (by decide), 570, S'.2.2 _ _ _ rfl, ?_⟩
          (conv => whnf)
          refine ⟨S'.1 570 (by decide), vin _ (S'.2.1 570 (by decide)) (by show x < 5; omega) (by decide), ?_⟩
          (conv => whnf)
          rw [nI_clamp (by omega), vx]
          refine ⟨fun z => ?_, fun z => ?_⟩ <;> rw [← nI_0, nI_eq (by omega) (by omega)] at z <;> (conv => whnf)
          · have body := body 0 (Or.inr ⟨rfl, z⟩)
            refine ⟨S'.1 568 (by decide), 570, S'.2.2 _ _ _ rfl, ?_⟩
            (conv => whnf)
            refine ⟨S'.1 570 (by decide), vin _ (S'.2.1 570 (by decide)) (by show x < 5; omega) (by decide), ?_⟩
            (conv => whnf)
            refine ⟨S'.1 568 (by decide), 569, S'.2.2 _ _ _ rfl, ?_⟩
            (conv => whnf)
            refine ⟨S'.1 569 (by decide), vin _ (S'.2.1 569 (by decide)) (by show n - (m + 1) < 8; omega) (by decide), ?_⟩
            (conv => whnf)
            refine ⟨S'.1 570 (by decide), vin _ (S'.2.1 570 (by decide)) (by show x < 5; omega) (by decide), ?_⟩
            (conv => whnf)
            rw [nI_clamp (by omega), nI_clamp (by omega), vx, vw, nI_add]
            obtain ⟨h1, e1⟩ : ∃ h1, h1 = ab_sI h' 570 x (nI (l x + w (n - (m + 1)))) := ⟨_, rfl⟩
            have F1 : Fr fPk h' h1 := by rw [e1]; exact Fr_sI ⟨by omega, by omega⟩
            have S1 := Fr_Sh F1 S'
            have x1 : ∀ a, a ≠ 570 → ab_I h1 a = ab_I h' a := fun a ha => by rw [e1]; exact funext fun j => rI_a _ _ _ _ ha
            have x2 : ∀ y, y < H → ab_I h1 570 y = nI (va_up l x (l x + w (n - (m + 1))) y) := by
              intro y hy
              by_cases ey : y = x
              · rw [ey, up_s, e1, rI_s]
              · rw [up_n _ _ ey, e1, rI_k _ _ _ ey]; exact dl y hy
            rw [← e1]
            clear e1
            refine ⟨S1.1 568 (by decide), 571, S1.2.2 _ _ _ rfl, ?_⟩
            (conv => whnf)
            refine ⟨S1.1 571 (by decide), vin _ (S1.2.1 571 (by decide)) (by show n - (m + 1) < 8; omega) (by decide), ?_⟩
            (conv => whnf)
            rw [nI_clamp (by omega)]
            obtain ⟨h2, e2⟩ : ∃ h2, h2 = ab_sI h1 571 (n - (m + 1)) (nI x) := ⟨_, rfl⟩
            have F2 : Fr fPk h1 h2 := by rw [e2]; exact Fr_sI ⟨by omega, by omega⟩
            have S2 := Fr_Sh F2 S1
            have u1 : ∀ a, a ≠ 571 → ab_I h2 a = ab_I h1 a := fun a ha => by rw [e2]; exact funext fun j => rI_a _ _ _ _ ha
            have u2 : ∀ j, j < n - m → ab_I h2 571 j = nI (va_up f (n - (m + 1)) x j) := by
              intro j hj
              by_cases ej : j = n - (m + 1)
              · rw [ej, up_s, e2, rI_s]
              · rw [up_n _ _ ej, e2, rI_k _ _ _ ej, x1 _ (by decide)]; exact da j (by omega)
            have u3 : ∀ y, y < H → ab_I h2 570 y = nI (va_up l x (l x + w (n - (m + 1))) y) := fun y hy => by rw [u1 _ (by decide)]; exact x2 y hy
            rw [← e2]
            clear e2 x2
            refine ⟨S2.1 568 (by decide), 570, S2.2.2 _ _ _ rfl, ?_⟩
            (conv => whnf)
            refine ⟨S2.1 570 (by decide), vin _ (S2.2.1 570 (by decide)) (by show x < 5; omega) (by decide), ?_⟩
            (conv => whnf)
            rw [nI_clamp (by omega), u3 x (by omega), up_s]
            refine hc _ _ _ _ (ok_max (by omega) _ _ ?_)
            rw [nI_max (by omega) (by omega)]
            (conv => whnf)
            refine ⟨S2.1 568 (by decide), ?_⟩
            rw [nI_add, show n - (m + 1) + 1 = n - m by omega]
            have gm : max g (l x + w (n - (m + 1))) ≤ 29 * (n - m) := Nat.max_le.mpr ⟨by omega, by omega⟩
            refine hc _ _ _ _ (ihm _ h2 _ (va_up f (n - (m + 1)) x) (va_up l x (l x + w (n - (m + 1)))) (max g (l x + w (n - (m + 1)))) st1 (by omega) (by omega) S2 (fun k hk => ?_) (fun y => ?_) gm sl ?_ ?_ ?_ u3 u2 (fun z j hj => ?_) (fun h3 y6 yl ya yb y3 y4 yw F3 => ?_))
            · rw [u1 _ (by decide), x1 _ (by decide)]; exact dw k hk
            · by_cases ey : y = x
              · rw [ey, up_s]; omega
              · rw [up_n _ _ ey]; have := hl y; omega
            · rw [u1 _ (by decide), x1 _ (by decide)]; exact d3
            · rw [u1 _ (by decide), x1 _ (by decide)]; exact d4
            · rw [u1 _ (by decide), x1 _ (by decide)]; exact d6
            · rw [u1 _ (by decide), x1 _ (by decide)]; exact db z j hj
            · have S3 := Fr_Sh F3 S2
              have F4 := Fr_tr F' (Fr_tr F1 (Fr_tr F2 F3))
              (conv => whnf)
              refine ⟨S3.1 568 (by decide), 570, S3.2.2 _ _ _ rfl, ?_⟩
              (conv => whnf)
              refine ⟨S3.1 570 (by decide), vin _ (S3.2.1 570 (by decide)) (by show x < 5; omega) (by decide), ?_⟩
              (conv => whnf)
              refine ⟨S3.1 568 (by decide), 569, S3.2.2 _ _ _ rfl, ?_⟩
              (conv => whnf)
              refine ⟨S3.1 569 (by decide), vin _ (S3.2.1 569 (by decide)) (by show n - (m + 1) < 8; omega) (by decide), ?_⟩
              (conv => whnf)
              refine ⟨S3.1 570 (by decide), vin _ (S3.2.1 570 (by decide)) (by show x < 5; omega) (by decide), ?_⟩
              (conv => whnf)
              rw [nI_clamp (by omega), nI_clamp (by omega), yl x (by omega), up_s, yw (n - (m + 1)) (by omega), pk_sub (by omega : w (n - (m + 1)) ≤ l x + w (n - (m + 1))), Nat.add_sub_cancel, nI_add x 1]
              refine body _ ?_ (fun y hy => ?_) (fun j hj => ?_) (fun z j hj => ?_) ?_ ?_ (fun k hk => ?_) (Fr_tr F4 (Fr_sI ⟨by omega, by omega⟩))
              · rw [rI_a _ _ _ _ (by decide)]; exact y6
              · by_cases ey : y = x
                · rw [ey, rI_s]
                · rw [rI_k _ _ _ ey, yl y hy, up_n _ _ ey]
              · rw [rI_a _ _ _ _ (by decide), ya j (by omega), up_n _ _ (by omega)]
              · rw [rI_a _ _ _ _ (by decide)]; exact yb z j hj
              · rw [rI_a _ _ _ _ (by decide)]; exact y3
              · rw [rI_a _ _ _ _ (by decide)]; exact y4
              · rw [rI_a _ _ _ _ (by decide)]; exact yw k hk
          · have body := body 1 (Or.inl ⟨rfl, by omega⟩)
            refine ⟨S'.1 568 (by decide), 570, S'.2.2 _ _ _ rfl, ?_⟩
            (conv => whnf)
            refine ⟨S'.1 570 (by decide), vin _ (S'.2.1 570 (by decide)) (by show x < 5; omega) (by decide), ?_⟩
            (conv => whnf)
            refine ⟨S'.1 568 (by decide), 569, S'.2.2 _ _ _ rfl, ?_⟩
            (conv => whnf)
            refine ⟨S'.1 569 (by decide), vin _ (S'.2.1 569 (by decide)) (by show n - (m + 1) < 8; omega) (by decide), ?_⟩
            (conv => whnf)
            refine ⟨S'.1 570 (by decide), vin _ (S'.2.1 570 (by decide)) (by show x < 5; omega) (by decide), ?_⟩
            (conv => whnf)
            rw [nI_clamp (by omega), nI_clamp (by omega), vx, vw, nI_add]
            obtain ⟨h1, e1⟩ : ∃ h1, h1 = ab_sI h' 570 x (nI (l x + w (n - (m + 1)))) := ⟨_, rfl⟩
            have F1 : Fr fPk h' h1 := by rw [e1]; exact Fr_sI ⟨by omega, by omega⟩
            have S1 := Fr_Sh F1 S'
            have x1 : ∀ a, a ≠ 570 → ab_I h1 a = ab_I h' a := fun a ha => by rw [e1]; exact funext fun j => rI_a _ _ _ _ ha
            have x2 : ∀ y, y < H → ab_I h1 570 y = nI (va_up l x (l x + w (n - (m + 1))) y) := by
              intro y hy
              by_cases ey : y = x
              · rw [ey, up_s, e1, rI_s]
              · rw [up_n _ _ ey, e1, rI_k _ _ _ ey]; exact dl y hy
            rw [← e1]
            clear e1
            refine ⟨S1.1 568 (by decide), 571, S1.2.2 _ _ _ rfl, ?_⟩
            (conv => whnf)
            refine ⟨S1.1 571 (by decide), vin _ (S1.2.1 571 (by decide)) (by show n - (m + 1) < 8; omega) (by decide), ?_⟩
            (conv => whnf)
            rw [nI_clamp (by omega)]
            obtain ⟨h2, e2⟩ : ∃ h2, h2 = ab_sI h1 571 (n - (m + 1)) (nI x) := ⟨_, rfl⟩
            have F2 : Fr fPk h1 h2 := by rw [e2]; exact Fr_sI ⟨by omega, by omega⟩
            have S2 := Fr_Sh F2 S1
            have u1 : ∀ a, a ≠ 571 → ab_I h2 a = ab_I h1 a := fun a ha => by rw [e2]; exact funext fun j => rI_a _ _ _ _ ha
            have u2 : ∀ j, j < n - m → ab_I h2 571 j = nI (va_up f (n - (m + 1)) x j) := by
              intro j hj
              by_cases ej : j = n - (m + 1)
              · rw [ej, up_s, e2, rI_s]
              · rw [up_n _ _ ej, e2, rI_k _ _ _ ej, x1 _ (by decide)]; exact da j (by omega)
            have u3 : ∀ y, y < H → ab_I h2 570 y = nI (va_up l x (l x + w (n - (m + 1))) y) := fun y hy => by rw [u1 _ (by decide)]; exact x2 y hy
            rw [← e2]
            clear e2 x2
            refine ⟨S2.1 568 (by decide), 570, S2.2.2 _ _ _ rfl, ?_⟩
            (conv => whnf)
            refine ⟨S2.1 570 (by decide), vin _ (S2.2.1 570 (by decide)) (by show x < 5; omega) (by decide), ?_⟩
            (conv => whnf)
            rw [nI_clamp (by omega), u3 x (by omega), up_s]
            refine hc _ _ _ _ (ok_max (by omega) _ _ ?_)
            rw [nI_max (by omega) (by omega)]
            (conv => whnf)
            refine ⟨S2.1 568 (by decide), ?_⟩
            rw [nI_add, show n - (m + 1) + 1 = n - m by omega]
            have gm : max g (l x + w (n - (m + 1))) ≤ 29 * (n - m) := Nat.max_le.mpr ⟨by omega, by omega⟩
            refine hc _ _ _ _ (ihm _ h2 _ (va_up f (n - (m + 1)) x) (va_up l x (l x + w (n - (m + 1)))) (max g (l x + w (n - (m + 1)))) st1 (by omega) (by omega) S2 (fun k hk => ?_) (fun y => ?_) gm sl ?_ ?_ ?_ u3 u2 (fun z j hj => ?_) (fun h3 y6 yl ya yb y3 y4 yw F3 => ?_))
            · rw [u1 _ (by decide), x1 _ (by decide)]; exact dw k hk
            · by_cases ey : y = x
              · rw [ey, up_s]; omega
              · rw [up_n _ _ ey]; have := hl y; omega
            · rw [u1 _ (by decide), x1 _ (by decide)]; exact d3
            · rw [u1 _ (by decide), x1 _ (by decide)]; exact d4
            · rw [u1 _ (by decide), x1 _ (by decide)]; exact d6
            · rw [u1 _ (by decide), x1 _ (by decide)]; exact db z j hj
            · have S3 := Fr_Sh F3 S2
              have F4 := Fr_tr F' (Fr_tr F1 (Fr_tr F2 F3))
              (conv => whnf)
              refine ⟨S3.1 568 (by decide), 570, S3.2.2 _ _ _ rfl, ?_⟩
              (conv => whnf)
              refine ⟨S3.1 570 (by decide), vin _ (S3.2.1 570 (by decide)) (by show x < 5; omega) (by decide), ?_⟩
              (conv => whnf)
              refine ⟨S3.1 568 (by decide), 569, S3.2.2 _ _ _ rfl, ?_⟩
              (conv => whnf)
              refine ⟨S3.1 569 (by decide), vin _ (S3.2.1 569 (by decide)) (by show n - (m + 1) < 8; omega) (by decide), ?_⟩
              (conv => whnf)
              refine ⟨S3.1 570 (by decide), vin _ (S3.2.1 570 (by decide)) (by show x < 5; omega) (by decide), ?_⟩
              (conv => whnf)
              rw [nI_clamp (by omega), nI_clamp (by omega), yl x (by omega), up_s, yw (n - (m + 1)) (by omega), pk_sub (by omega : w (n - (m + 1)) ≤ l x + w (n - (m + 1))), Nat.add_sub_cancel, nI_add x 1]
              refine body _ ?_ (fun y hy => ?_) (fun j hj => ?_) (fun z j hj => ?_) ?_ ?_ (fun k hk => ?_) (Fr_tr F4 (Fr_sI ⟨by omega, by omega⟩))
              · rw [rI_a _ _ _ _ (by decide)]; exact y6
              · by_cases ey : y = x
                · rw [ey, rI_s]
                · rw [rI_k _ _ _ ey, yl y hy, up_n _ _ ey]
              · rw [rI_a _ _ _ _ (by decide), ya j (by omega), up_n _ _ (by omega)]
              · rw [rI_a _ _ _ _ (by decide)]; exact yb z j hj
              · rw [rI_a _ _ _ _ (by decide)]; exact y3
              · rw [rI_a _ _ _ _ (by decide)]; exact y4
              · rw [rI_a _ _ _ _ (by decide)]; exact yw k hk
      refine ⟨S.1 568 (by decide), ?_⟩
      (conv => whnf)
      rw [c4]
      refine bT (by rw [nI_ltI (by omega) (by omega)]; omega) ?_
      (conv => whnf)
      exact lp H 0 st h (by omega) rfl hL c3 c4 c6 cl ca cb hb Fr_re
    · rw [if_pos (by omega)] at hq
      exact hq h c6 cl ca cb c3 c4 hb Fr_re
theorem ok_wiZ (hd : 1 ≤ d) (m : Nat) (x : Int32) (hb : m < 2 ^ 30) (hy : ∀ z, 1 ≤ z → z ≤ m → x = nI z → Q (some (.int (nI 1))) h) (hn : (∀ z, 1 ≤ z → z ≤ m → x ≠ nI z) → Q (some (.int (nI 0))) h) : ab_Ok d n_X11_within [.int x, .int (nI 1), .int (nI m)] h Q := by
  by_cases b2 : 1 ≤ m
  · exact ok_wiN hd 1 m x b2 hb hy hn
  · refine ok_within hd _ _ _ (fun e1 e2 => ?_) (fun e => hn (fun z z1 z2 => by omega))
    have := Int32.le_trans e1 e2
    rw [nI_leI (by omega) (by omega)] at this
    omega
theorem oc_findP (hd : 12 ≤ d) (S : Sh h) (C : CR h 7 16 29 37 s) (B : WF s) {n : Nat} (hn : n ≤ 8) (hq : ∀ h', ab_I h' 568 6 = nI (pC (s 18 0) n (wt s) n (fun _ => 0) (fun _ => 0) 0 (1000000, fun _ => 0)).1 → ((pC (s 18 0) n (wt s) n (fun _ => 0) (fun _ => 0) 0 (1000000, fun _ => 0)).1 < 1000000 → ∀ j, j < n → ab_I h' 572 j = nI ((pC (s 18 0) n (wt s) n (fun _ => 0) (fun _ => 0) 0 (1000000, fun _ => 0)).2 j)) → Fr fPk h h' → Q none h') : ab_Ok d n_X4_find [.ref 568, .ref 7, .ref 29, .int (nI n)] h Q := by
  have b0 := (wb_n B).1
  have n0 := c_n0 C
  have wb : ∀ k, k < n → wt s k ≤ 29 := fun k hk => by
    have := (wb_told B (p := k) (by omega)).2.1
    have := (wb_p B (p := k) (by omega)).1
    unfold wt
    omega
  refine ab_go mr_X4_find rfl (by omega) (fun call W hc hW => ?_); (conv => whnf)
  have lp : ∀ r k h', k + r = n → (∀ j, j < k → ab_I h' 569 j = nI (wt s j)) → ab_I h' 568 3 = nI (s 18 0) → ab_I h' 568 4 = nI n → ab_I h' 568 6 = nI 1000000 → (∀ x, x < 5 → ab_I h' 570 x = nI 0) → Fr fPk h h' → W 30 [.ref 568, .ref 7, .ref 29, .int (nI n), .int (nI k)] h' 0 0 := by
    intro r
    induction r with
    | zero =>
      intro k h' e p c3 c4 c6 cL F'
      obtain rfl : k = n := by omega
      have S' := Fr_Sh F' S
      refine hW _ _ _ _ _ ?_
      (conv => whnf)
      refine bT (nI_le (Nat.le_refl _) (by omega)) ?_
      (conv => whnf)
      refine ⟨S'.1 568 (by decide), ?_⟩
      refine cl hc (oc_placeP b0 hn wb k _ h' _ (fun _ => 0) (fun _ => 0) 0 (1000000, fun _ => 0) (Nat.le_refl _) (by omega) S' p (fun _ => Nat.zero_le _) (Nat.zero_le _) (Nat.le_refl _) c3 c4 c6 (fun x hx => cL x (by omega)) (fun j hj => by omega) (fun z => absurd z (by show ¬ (1000000 : Nat) < 1000000; omega)) (fun h2 y6 _ _ yb _ _ _ F2 => ?_)) (by rw [Nat.sub_self])
      (conv => whnf)
      exact hq h2 y6 yb (Fr_tr F' F2)
    | succ r ih =>
      intro k h' e p c3 c4 c6 cL F'
      have S' := Fr_Sh F' S
      have v1 : ab_I h' 10 k = nI (s 8 k) := (F'.2.2.2.2 10 k (fun w => by have := w.1; omega)).trans (c_wei C (by omega))
      have v2 : ab_I h' 32 k = nI (s 2 k) := (F'.2.2.2.2 32 k (fun w => by have := w.1; omega)).trans (c_wet C (by omega))
      clear hq
      refine hW _ _ _ _ _ ?_
      (conv => whnf)
      refine bF (nI_ge (by omega) (by omega)) ?_
      (conv => whnf)
      refine ⟨S'.1 568 (by decide), 569, S'.2.2 _ _ _ rfl, ?_⟩
      (conv => whnf)
      refine ⟨S'.1 7 (by decide), 10, S'.2.2 _ _ _ rfl, ?_⟩
      (conv => whnf)
      refine ⟨S'.1 10 (by decide), vin _ (S'.2.1 10 (by decide)) (by show k < 10; omega) (by decide), ?_⟩
      (conv => whnf)
      refine ⟨S'.1 29 (by decide), 32, S'.2.2 _ _ _ rfl, ?_⟩
      (conv => whnf)
      refine ⟨S'.1 32 (by decide), vin _ (S'.2.1 32 (by decide)) (by show k < 10; omega) (by decide), ?_⟩
      (conv => whnf)
      refine ⟨S'.1 569 (by decide), vin _ (S'.2.1 569 (by decide)) (by show k < 8; omega) (by decide), ?_⟩
      (conv => whnf)
      rw [nI_clamp (by omega), v1, v2, nI_add k 1, nI_add]
      refine ih (k + 1) _ (by omega) (fun j hj => ?_) ?_ ?_ ?_ (fun x hx => ?_) (Fr_tr F' (Fr_sI ⟨by omega, by omega⟩))
      · by_cases ej : j = k
        · rw [ej, rI_s]; rfl
        · rw [rI_k _ _ _ ej]; exact p j (by omega)
      all_goals rw [rI_a _ _ _ _ (by decide)]
      · exact c3
      · exact c4
      · exact c6
      · exact cL x hx
  refine ⟨S.1 7 (by decide), ?_⟩
  (conv => whnf)
  rw [n0]
  refine ⟨S.1 568 (by decide), ?_⟩
  (conv => whnf)
  obtain ⟨h1, e1⟩ : ∃ h1, h1 = ab_sI (ab_sI (ab_sI h 568 3 (nI (s 18 0))) 568 4 (nI n)) 568 6 (nI 1000000) := ⟨_, rfl⟩
  have F1 : Fr fPk h h1 := by rw [e1]; exact Fr_tr (Fr_sI ⟨by omega, by omega⟩) (Fr_tr (Fr_sI ⟨by omega, by omega⟩) (Fr_sI ⟨by omega, by omega⟩))
  have S1 := Fr_Sh F1 S
  have d6 : ab_I h1 568 6 = nI 1000000 := by rw [e1, rI_s]
  have d4 : ab_I h1 568 4 = nI n := by rw [e1, rI_k _ _ _ (by decide), rI_s]
  have d3 : ab_I h1 568 3 = nI (s 18 0) := by rw [e1, rI_k _ _ _ (by decide), rI_k _ _ _ (by decide), rI_s]
  refine ⟨(Fr_Sh (Fr_sI (P := fPk) ⟨by omega, by omega⟩) S).1 568 (by decide), ?_⟩
  (conv => whnf)
  refine ⟨(Fr_Sh (Fr_tr (Fr_sI (P := fPk) ⟨by omega, by omega⟩) (Fr_sI (P := fPk) ⟨by omega, by omega⟩)) S).1 568 (by decide), ?_⟩
  (conv => whnf)
  rw [← e1]
  clear e1
  refine ⟨S1.1 568 (by decide), 570, S1.2.2 _ _ _ rfl, ?_⟩
  (conv => whnf)
  refine hc _ _ _ _ (ok_fill (by omega) (n := 5) (nI 0) (S1.1 570 (by decide)) (S1.2.1 570 (by decide)) (by decide) ?_)
  (conv => whnf)
  refine lp n 0 _ (by omega) (fun j hj => by omega) ?_ ?_ ?_ (fun x hx => ?_) (Fr_tr F1 (Fr_sA (fun k => Or.inl ⟨by omega, by omega⟩)))
  · rw [rA_a _ _ (by decide)]; exact d3
  · rw [rA_a _ _ (by decide)]; exact d4
  · rw [rA_a _ _ (by decide)]; exact d6
  · rw [rA_s]; exact fa_fill_in hx
theorem oc_pack (hd : 15 ≤ d) (S : Sh h) (C : CR h 7 16 29 37 s) (B : WF s) (x y : Int32) (hy : ∀ n q, 1 ≤ n → n ≤ min 8 (s 18 1) → 1 ≤ s 18 0 → x = nI n → q ≤ n → y = nI q - 1 → ∀ h', CR h' 7 16 29 37 s → Fr cA h h' → Q (some (.int (if q = 0 then nI (pkS s n).1 else nI ((pkS s n).2 (q - 1))))) h') (hno : ¬ (∃ n q, 1 ≤ n ∧ n ≤ min 8 (s 18 1) ∧ 1 ≤ s 18 0 ∧ x = nI n ∧ q ≤ n ∧ y = nI q - 1) → Q (some (.int (-2))) h) : ab_Ok d n_X11_pack [.ref 5, .int x, .int y] h Q := by
  have b0 := (wb_n B).1
  have b1 := (wb_n B).2.1
  have n0 := c_n0 C
  have n1 := c_n1 C
  refine ab_go mr_X11_pack rfl (by omega) (fun call W hc hW => ?_); (conv => whnf)
  refine ⟨S.1 5 (by decide), 7, S.2.2 _ _ _ rfl, ?_⟩
  (conv => whnf)
  refine ⟨S.1 7 (by decide), ?_⟩
  (conv => whnf)
  rw [n1]
  refine hc _ _ _ _ (ok_min (by omega) _ _ ?_)
  rw [nI_min (a := 8) (b := s 18 1) (by omega) (by omega)]
  (conv => whnf)
  refine hc _ _ _ _ (ok_wiZ (by omega) (min 8 (s 18 1)) x (by omega) (fun n z1 z2 e => ?_) (fun e => ?_)) <;> (conv => whnf)
  · refine bF (by decide) ?_
    (conv => whnf)
    refine ⟨S.1 5 (by decide), 7, S.2.2 _ _ _ rfl, ?_⟩
    (conv => whnf)
    refine ⟨S.1 7 (by decide), ?_⟩
    (conv => whnf)
    rw [n0]
    refine ⟨fun f => ?_, fun f => ?_⟩ <;> rw [← nI_0, nI_eq (by omega) (by omega)] at f <;> (conv => whnf)
    · rw [e]
      refine hc _ _ _ _ (ok_wiM (by omega) n y (by omega) (fun q q1 eq => ?_) (fun e2 => ?_)) <;> (conv => whnf)
      · have hyq := hy n q z1 z2 (by omega) e q1 eq
        clear hy hno
        have hn8 : n ≤ 8 := by omega
        refine bN (by decide) ?_
        (conv => whnf)
        refine ⟨S.1 5 (by decide), 568, S.2.2 _ _ _ rfl, ?_⟩
        (conv => whnf)
        refine ⟨S.1 5 (by decide), 7, S.2.2 _ _ _ rfl, ?_⟩
        (conv => whnf)
        refine ⟨S.1 5 (by decide), 29, S.2.2 _ _ _ rfl, ?_⟩
        (conv => whnf)
        refine ⟨S.1 568 (by decide), ?_⟩
        refine hc _ _ _ _ (oc_findP (by omega) S C B hn8 (fun h1 r1 r2 F1 => ?_))
        have pe : pC (s 18 0) n (wt s) n (fun _ => 0) (fun _ => 0) 0 (1000000, fun _ => 0) = pkS s n := pC_pU n _ _ _ _ (fun _ _ _ _ _ => rfl)
        have pl := pkS_lt (s := s) hn8 (by omega) (fun k hk => by have := (wb_told B (p := k) (by omega)).2.1; have := (wb_p B (p := k) (by omega)).1; unfold wt; omega)
        rw [pe] at r1 r2
        have r2 := r2 (by omega)
        have S1 := Fr_Sh F1 S
        have C1 : CR h1 7 16 29 37 s := CR_I C (fun a k ha => F1.2.2.2.2 a k (fun w => by have := w.1; have := w.2; omega))
        have hyq := hyq h1 C1 (fPkA F1)
        (conv => whnf)
        subst eq
        refine ⟨fun f => ?_, fun f => ?_⟩ <;> rw [nm_none (by omega)] at f <;> (conv => whnf)
        · rw [if_neg f] at hyq
          rw [nm_pos (by omega)]
          refine ⟨S1.1 5 (by decide), 568, S1.2.2 _ _ _ rfl, ?_⟩
          (conv => whnf)
          refine ⟨S1.1 568 (by decide), 572, S1.2.2 _ _ _ rfl, ?_⟩
          (conv => whnf)
          refine ⟨S1.1 572 (by decide), vin _ (S1.2.1 572 (by decide)) (by show q - 1 < 8; omega) (by decide), ?_⟩
          (conv => whnf)
          rw [nI_clamp (by omega), r2 (q - 1) (by omega)]
          exact hyq
        · rw [if_pos f] at hyq
          refine ⟨S1.1 5 (by decide), 568, S1.2.2 _ _ _ rfl, ?_⟩
          (conv => whnf)
          refine ⟨S1.1 568 (by decide), ?_⟩
          (conv => whnf)
          rw [r1]
          exact hyq
      · refine bP (by decide) ?_
        (conv => whnf)
        refine hno (fun ⟨n', q, _, _, _, e3, q1, e4⟩ => ?_)
        have : n = n' := (nI_eq (by omega) (by omega)).mp (e.symm.trans e3)
        exact e2 q (by omega) e4
    · exact hno (fun ⟨_, _, _, _, z, _⟩ => by omega)
  · refine bT (by decide) ?_
    (conv => whnf)
    exact hno (fun ⟨n', q, z1, z2, _, e3, _⟩ => e n' z1 z2 e3)
end PC
