/-! ===== contracts: packing on the reference's side (mine) ===== -/
def fV (a _ : Nat) : Prop := a = 590 ∨ a = 591 ∨ a = 592
def lmx (l : Nat → Nat) : Nat → Nat
  | 0 => 0
  | j + 1 => max (lmx l j) (l j)
theorem lmx_lo {l : Nat → Nat} {y v : Nat} : ∀ j, j ≤ y → lmx (va_up l y v) j = lmx l j := by
  intro j
  induction j with
  | zero => intro _; rfl
  | succ j ih =>
    intro h
    show max (lmx (va_up l y v) j) (va_up l y v j) = max (lmx l j) (l j)
    rw [ih (by omega), up_n _ _ (by omega)]
theorem lmx_up {l : Nat → Nat} {y v : Nat} (hv : l y ≤ v) : ∀ j, y < j → lmx (va_up l y v) j = max (lmx l j) v := by
  intro j
  induction j with
  | zero => intro h; omega
  | succ j ih =>
    intro h
    show max (lmx (va_up l y v) j) (va_up l y v j) = max (max (lmx l j) (l j)) v
    by_cases e : j = y
    · subst e
      rw [lmx_lo j (Nat.le_refl _), up_s]
      omega
    · rw [ih (by omega), up_n _ _ e]
      omega
theorem lmx_b {l : Nat → Nat} {b : Nat} (h : ∀ j, l j ≤ b) : ∀ j, lmx l j ≤ b := by
  intro j
  induction j with
  | zero => exact Nat.zero_le _
  | succ j ih => exact Nat.max_le.mpr ⟨ih, h j⟩
section PM
variable {d : Nat} {h : Hp} {Q : Option Value → Hp → Prop} {s : Sv}
theorem om_layPack (hd : 4 ≤ d) (S : Sh h) (M : MS h 581 s) (B : WF s) {n : Nat} (hn1 : 1 ≤ n) (hn : n ≤ 8) (hq : ∀ h', ((pkS s n).1 < 1000000 → ∀ j, j < n → ab_I h' 591 j = nI ((pkS s n).2 j)) → Fr fV h h' → Q (some (.int (nI (pkS s n).1))) h') : ab_Ok d n_X12_layPack [.ref 580, .int (nI n)] h Q := by
  have b0 := (wb_n B).1
  have wb : ∀ k, k < n → wt s k ≤ 29 := fun k hk => by
    have := (wb_told B (p := k) (by omega)).2.1
    have := (wb_p B (p := k) (by omega)).1
    unfold wt
    omega
  refine ab_go mr_X12_layPack rfl (by omega) (fun call W hc hW => ?_); (conv => whnf)
  have CORE : ∀ (k : Nat), k < n → ∀ (f l : Nat → Nat) (st0 : RS) (gg : Nat → RS → RS), (∀ x st, st.1 ≤ l x + wt s k → gg x st = st) → (∀ x st, (gg x st).1 ≤ st.1) → (∀ j, l j ≤ 29 * k) → st0.1 ≤ 1000000 → (∀ h', (∀ j, j < k → ab_I h' 590 j = nI (f j)) → (∀ j, j < 5 → ab_I h' 592 j = nI (l j)) → ((itr gg (s 18 0) st0).1 < 1000000 → ∀ j, j < n → ab_I h' 591 j = nI ((itr gg (s 18 0) st0).2 j)) → Fr fV h h' → W 33 [.ref 580, .int (nI n), .int (nI (itr gg (s 18 0) st0).1), .int (nI k - 1)] h' 0 0) →
      (∀ y (st : RS) h', y < s 18 0 → ¬ st.1 ≤ l y + wt s k → st.1 ≤ 1000000 → (∀ j, j < k → ab_I h' 590 j = nI (f j)) → ab_I h' 590 k = nI y → (∀ j, j < 5 → ab_I h' 592 j = nI (va_up l y (l y + wt s k) j)) → (st.1 < 1000000 → ∀ j, j < n → ab_I h' 591 j = nI (st.2 j)) → Fr fV h h' → (∀ h', (∀ j, j < k → ab_I h' 590 j = nI (f j)) → ab_I h' 590 k = nI (y + 1) - 1 → (∀ j, j < 5 → ab_I h' 592 j = nI (if y + 1 = j + 1 then l j + wt s k else l j)) → ((gg y st).1 < 1000000 → ∀ j, j < n → ab_I h' 591 j = nI ((gg y st).2 j)) → Fr fV h h' → W 33 [.ref 580, .int (nI n), .int (nI (gg y st).1), .int (nI k)] h' 0 0) → (k + 1 < n → ab_I h' 590 (k + 1) = -1 → W 33 [.ref 580, .int (nI n), .int (nI st.1), .int (nI (k + 1))] h' 0 0) ∧ (k + 1 = n → W 190 [.ref 580, .int (nI n), .int (nI st.1), .int (nI k), .int (nI 0), .int (nI 0)] h' 0 0)) →
      ∀ r x, x + r = s 18 0 → (∀ h', (∀ j, j < k → ab_I h' 590 j = nI (f j)) → ab_I h' 590 k = nI x → (∀ j, j < 5 → ab_I h' 592 j = nI (l j)) → ((itr gg x st0).1 < 1000000 → ∀ j, j < n → ab_I h' 591 j = nI ((itr gg x st0).2 j)) → Fr fV h h' → W 75 [.ref 580, .int (nI n), .int (nI (itr gg x st0).1), .int (nI k)] h' 0 0) ∧ (∀ h', (∀ j, j < k → ab_I h' 590 j = nI (f j)) → ab_I h' 590 k = nI x - 1 → (∀ j, j < 5 → ab_I h' 592 j = nI (if x = j + 1 then l j + wt s k else l j)) → ((itr gg x st0).1 < 1000000 → ∀ j, j < n → ab_I h' 591 j = nI ((itr gg x st0).2 j)) → Fr fV h h' → W 33 [.ref 580, .int (nI n), .int (nI (itr gg x st0).1), .int (nI k)] h' 0 0) := by
    clear hq
    intro k hk f l st0 gg gn gle hl hs0 K hst
    have wk := wb k hk
    -- the way from 33 to 75
    have up : ∀ x, x ≤ s 18 0 → (∀ h', (∀ j, j < k → ab_I h' 590 j = nI (f j)) → ab_I h' 590 k = nI x → (∀ j, j < 5 → ab_I h' 592 j = nI (l j)) → ((itr gg x st0).1 < 1000000 → ∀ j, j < n → ab_I h' 591 j = nI ((itr gg x st0).2 j)) → Fr fV h h' → W 75 [.ref 580, .int (nI n), .int (nI (itr gg x st0).1), .int (nI k)] h' 0 0) → (∀ h', (∀ j, j < k → ab_I h' 590 j = nI (f j)) → ab_I h' 590 k = nI x - 1 → (∀ j, j < 5 → ab_I h' 592 j = nI (if x = j + 1 then l j + wt s k else l j)) → ((itr gg x st0).1 < 1000000 → ∀ j, j < n → ab_I h' 591 j = nI ((itr gg x st0).2 j)) → Fr fV h h' → W 33 [.ref 580, .int (nI n), .int (nI (itr gg x st0).1), .int (nI k)] h' 0 0) := by
      clear K hst
      intro x hx q h' c1 c2 c3 c4 F'
      have S' := Fr_Sh F' S
      have M' := MS_F F' (fun k w => by unfold fV at w; omega) M
      have inc : ∀ h1, (∀ j, j < k → ab_I h1 590 j = nI (f j)) → ab_I h1 590 k = nI x - 1 → (∀ j, j < 5 → ab_I h1 592 j = nI (l j)) → ((itr gg x st0).1 < 1000000 → ∀ j, j < n → ab_I h1 591 j = nI ((itr gg x st0).2 j)) → Fr fV h h1 → W 75 [.ref 580, .int (nI n), .int (nI (itr gg x st0).1), .int (nI k)] (ab_sI h1 590 k (nI x)) 0 0 := by
        intro h1 d1 d2 d3 d4 F1
        refine q _ (fun j hj => ?_) (rI_s _ _ _ _) (fun j hj => ?_) (fun z j hj => ?_) (Fr_tr F1 (Fr_sI (Or.inl rfl)))
        · rw [rI_k _ _ _ (by omega)]; exact d1 j hj
        · rw [rI_a _ _ _ _ (by decide)]; exact d3 j hj
        · rw [rI_a _ _ _ _ (by decide)]; exact d4 z j hj
      clear q
      refine hW _ _ _ _ _ ?_
      (conv => whnf)
      refine bF (by rw [z0, nI_ltI (by omega) (by omega)]; omega) ?_
      (conv => whnf)
      refine ⟨S'.1 580 (by decide), 590, S'.2.2 _ _ _ rfl, ?_⟩
      (conv => whnf)
      refine ⟨S'.1 590 (by decide), vin _ (S'.2.1 590 (by decide)) (by show k < 8; omega) (by decide), ?_⟩
      (conv => whnf)
      rw [nI_clamp (by omega), c2]
      rcases Nat.eq_zero_or_pos x with e0 | e0
      · subst e0
        refine bT (by decide) ?_
        (conv => whnf)
        refine ⟨S'.1 580 (by decide), 590, S'.2.2 _ _ _ rfl, ?_⟩
        (conv => whnf)
        refine ⟨S'.1 590 (by decide), vin _ (S'.2.1 590 (by decide)) (by show k < 8; omega) (by decide), ?_⟩
        (conv => whnf)
        refine ⟨S'.1 590 (by decide), vin _ (S'.2.1 590 (by decide)) (by show k < 8; omega) (by decide), ?_⟩
        (conv => whnf)
        rw [nI_clamp (by omega), c2]
        have q := inc h' c1 c2 (fun j hj => by rw [c3 j hj, if_neg (by omega)]) c4 F'
        exact q
      · rw [nm_pos e0]
        refine bF (by rw [z0, nI_ltI (by omega) (by omega)]; omega) ?_
        (conv => whnf)
        rw [nm_pos e0] at c2
        refine ⟨S'.1 580 (by decide), 592, S'.2.2 _ _ _ rfl, ?_⟩
        (conv => whnf)
        refine ⟨S'.1 580 (by decide), 590, S'.2.2 _ _ _ rfl, ?_⟩
        (conv => whnf)
        refine ⟨S'.1 590 (by decide), vin _ (S'.2.1 590 (by decide)) (by show k < 8; omega) (by decide), ?_⟩
        (conv => whnf)
        rw [nI_clamp (by omega), c2]
        refine ⟨S'.1 592 (by decide), vin _ (S'.2.1 592 (by decide)) (by show x - 1 < 5; omega) (by decide), ?_⟩
        (conv => whnf)
        rw [nI_clamp (by omega), c3 (x - 1) (by omega), if_pos (by omega)]
        refine ⟨S'.1 580 (by decide), ?_⟩
        refine hc _ _ _ _ (om_heavy (by omega) S' M' (by omega) ?_)
        (conv => whnf)
        refine ⟨S'.1 592 (by decide), vin _ (S'.2.1 592 (by decide)) (by show x - 1 < 5; omega) (by decide), ?_⟩
        (conv => whnf)
        rw [nI_clamp (by omega), show s 8 k + s 2 k = wt s k from rfl, pk_sub (by omega : wt s k ≤ l (x - 1) + wt s k), Nat.add_sub_cancel]
        obtain ⟨h1, e1⟩ : ∃ h1, h1 = ab_sI h' 592 (x - 1) (nI (l (x - 1))) := ⟨_, rfl⟩
        have F1 : Fr fV h' h1 := by rw [e1]; exact Fr_sI (Or.inr (Or.inr rfl))
        have S1 := Fr_Sh F1 S'
        have x1 : ∀ a, a ≠ 592 → ab_I h1 a = ab_I h' a := fun a ha => by rw [e1]; exact funext fun j => rI_a _ _ _ _ ha
        have x2 : ∀ j, j < 5 → ab_I h1 592 j = nI (l j) := by
          intro j hj
          by_cases ej : j = x - 1
          · rw [ej, e1, rI_s]
          · rw [e1, rI_k _ _ _ ej, c3 j hj, if_neg (by omega)]
        rw [← e1]
        clear e1
        have c2 : ab_I h1 590 k = nI (x - 1) := by rw [x1 _ (by decide)]; exact c2
        refine ⟨S1.1 580 (by decide), 590, S1.2.2 _ _ _ rfl, ?_⟩
        (conv => whnf)
        refine ⟨S1.1 590 (by decide), vin _ (S1.2.1 590 (by decide)) (by show k < 8; omega) (by decide), ?_⟩
        (conv => whnf)
        refine ⟨S1.1 590 (by decide), vin _ (S1.2.1 590 (by decide)) (by show k < 8; omega) (by decide), ?_⟩
        (conv => whnf)
        rw [nI_clamp (by omega), c2, nI_add (x - 1) 1, show x - 1 + 1 = x by omega]
        exact inc h1 (fun j hj => by rw [x1 _ (by decide)]; exact c1 j hj) (by rw [c2, nm_pos e0]) x2 (fun z j hj => by rw [x1 _ (by decide)]; exact c4 z j hj) (Fr_tr F' F1)
    intro r
    induction r with
    | zero =>
      intro x hx
      obtain rfl : x = s 18 0 := by omega
      have main : (∀ h', (∀ j, j < k → ab_I h' 590 j = nI (f j)) → ab_I h' 590 k = nI (s 18 0) → (∀ j, j < 5 → ab_I h' 592 j = nI (l j)) → ((itr gg (s 18 0) st0).1 < 1000000 → ∀ j, j < n → ab_I h' 591 j = nI ((itr gg (s 18 0) st0).2 j)) → Fr fV h h' → W 75 [.ref 580, .int (nI n), .int (nI (itr gg (s 18 0) st0).1), .int (nI k)] h' 0 0) := by
        clear up hst
        intro h' c1 c2 c3 c4 F'
        have S' := Fr_Sh F' S
        have M' := MS_F F' (fun k w => by unfold fV at w; omega) M
        have n0 := ms_n0 M'
        have K := K h' c1 c3 c4 F'
        refine hW _ _ _ _ _ ?_
        (conv => whnf)
        refine ⟨S'.1 580 (by decide), 590, S'.2.2 _ _ _ rfl, ?_⟩
        (conv => whnf)
        refine ⟨S'.1 590 (by decide), vin _ (S'.2.1 590 (by decide)) (by show k < 8; omega) (by decide), ?_⟩
        (conv => whnf)
        refine ⟨S'.1 580 (by decide), 581, S'.2.2 _ _ _ rfl, ?_⟩
        (conv => whnf)
        refine ⟨S'.1 581 (by decide), vin _ (S'.2.1 581 (by decide)) (by show 0 < 2131; omega) (by decide), ?_⟩
        (conv => whnf)
        rw [nI_clamp (by omega), nI_clamp (by omega), c2, n0]
        refine bT (nI_le (Nat.le_refl _) (by omega)) ?_
        (conv => whnf)
        refine ⟨S'.1 580 (by decide), 590, S'.2.2 _ _ _ rfl, ?_⟩
        (conv => whnf)
        refine ⟨S'.1 590 (by decide), vin _ (S'.2.1 590 (by decide)) (by show k < 8; omega) (by decide), ?_⟩
        (conv => whnf)
        refine ⟨S'.1 580 (by decide), 581, S'.2.2 _ _ _ rfl, ?_⟩
        (conv => whnf)
        refine ⟨S'.1 581 (by decide), vin _ (S'.2.1 581 (by decide)) (by show 0 < 2131; omega) (by decide), ?_⟩
        (conv => whnf)
        rw [nI_clamp (by omega), nI_clamp (by omega), c2, n0]
        refine bF (by rw [nI_ltI (by omega) (by omega)]; omega) ?_
        (conv => whnf)
        refine W_h rfl ?_ K
        rw [show (-1 : Int32) = - 1 from rfl, ← Int32.sub_eq_add_neg]
        rfl
      exact ⟨main, up _ (Nat.le_refl _) main⟩
    | succ r ih =>
      intro x hx
      obtain ⟨ih1, ih2⟩ := ih (x + 1) (by omega)
      have ex : itr gg (x + 1) st0 = gg x (itr gg x st0) := rfl
      have il := itr_le gle x st0
      have main : (∀ h', (∀ j, j < k → ab_I h' 590 j = nI (f j)) → ab_I h' 590 k = nI x → (∀ j, j < 5 → ab_I h' 592 j = nI (l j)) → ((itr gg x st0).1 < 1000000 → ∀ j, j < n → ab_I h' 591 j = nI ((itr gg x st0).2 j)) → Fr fV h h' → W 75 [.ref 580, .int (nI n), .int (nI (itr gg x st0).1), .int (nI k)] h' 0 0) := by
        rw [ex] at ih1 ih2
        clear up K ex
        obtain ⟨st, est⟩ : ∃ st, st = itr gg x st0 := ⟨_, rfl⟩
        rw [← est] at ih1 ih2 il ⊢
        clear est
        intro h' c1 c2 c3 c4 F'
        have hst := fun h' => hst x st h' (by omega)
        have S' := Fr_Sh F' S
        have M' := MS_F F' (fun k w => by unfold fV at w; omega) M
        have n0 := ms_n0 M'
        have lx := hl x
        refine hW _ _ _ _ _ ?_
        (conv => whnf)
        refine ⟨S'.1 580 (by decide), 590, S'.2.2 _ _ _ rfl, ?_⟩
        (conv => whnf)
        refine ⟨S'.1 590 (by decide), vin _ (S'.2.1 590 (by decide)) (by show k < 8; omega) (by decide), ?_⟩
        (conv => whnf)
        refine ⟨S'.1 580 (by decide), 581, S'.2.2 _ _ _ rfl, ?_⟩
        (conv => whnf)
        refine ⟨S'.1 581 (by decide), vin _ (S'.2.1 581 (by decide)) (by show 0 < 2131; omega) (by decide), ?_⟩
        (conv => whnf)
        rw [nI_clamp (by omega), nI_clamp (by omega), c2, n0]
        refine bF (nI_ge (by omega) (by omega)) ?_
        (conv => whnf)
        refine ⟨S'.1 580 (by decide), 592, S'.2.2 _ _ _ rfl, ?_⟩
        (conv => whnf)
        refine ⟨S'.1 580 (by decide), 590, S'.2.2 _ _ _ rfl, ?_⟩
        (conv => whnf)
        refine ⟨S'.1 590 (by decide), vin _ (S'.2.1 590 (by decide)) (by show k < 8; omega) (by decide), ?_⟩
        (conv => whnf)
        rw [nI_clamp (by omega), c2]
        refine ⟨S'.1 592 (by decide), vin _ (S'.2.1 592 (by decide)) (by show x < 5; omega) (by decide), ?_⟩
        (conv => whnf)
        rw [nI_clamp (by omega), c3 x (by omega)]
        refine ⟨S'.1 580 (by decide), ?_⟩
        refine hc _ _ _ _ (om_heavy (by omega) S' M' (by omega) ?_)
        (conv => whnf)
        rw [show s 8 k + s 2 k = wt s k from rfl, nI_add]
        refine ⟨fun y => ?_, fun y => ?_⟩ <;> rw [nI_ltI (by omega) (by omega)] at y <;> (conv => whnf)
        · clear ih1
          refine ⟨S'.1 580 (by decide), 590, S'.2.2 _ _ _ rfl, ?_⟩
          (conv => whnf)
          refine ⟨S'.1 590 (by decide), vin _ (S'.2.1 590 (by decide)) (by show k < 8; omega) (by decide), ?_⟩
          (conv => whnf)
          refine ⟨S'.1 580 (by decide), 581, S'.2.2 _ _ _ rfl, ?_⟩
          (conv => whnf)
          refine ⟨S'.1 581 (by decide), vin _ (S'.2.1 581 (by decide)) (by show 0 < 2131; omega) (by decide), ?_⟩
          (conv => whnf)
          rw [nI_clamp (by omega), nI_clamp (by omega), c2, n0]
          refine bT (by rw [nI_ltI (by omega) (by omega)]; omega) ?_
          (conv => whnf)
          refine ⟨S'.1 580 (by decide), 592, S'.2.2 _ _ _ rfl, ?_⟩
          (conv => whnf)
          refine ⟨S'.1 580 (by decide), 590, S'.2.2 _ _ _ rfl, ?_⟩
          (conv => whnf)
          refine ⟨S'.1 590 (by decide), vin _ (S'.2.1 590 (by decide)) (by show k < 8; omega) (by decide), ?_⟩
          (conv => whnf)
          rw [nI_clamp (by omega), c2]
          refine ⟨S'.1 592 (by decide), vin _ (S'.2.1 592 (by decide)) (by show x < 5; omega) (by decide), ?_⟩
          (conv => whnf)
          rw [nI_clamp (by omega), c3 x (by omega)]
          refine ⟨S'.1 580 (by decide), ?_⟩
          refine hc _ _ _ _ (om_heavy (by omega) S' M' (by omega) ?_)
          (conv => whnf)
          refine ⟨S'.1 592 (by decide), vin _ (S'.2.1 592 (by decide)) (by show x < 5; omega) (by decide), ?_⟩
          (conv => whnf)
          rw [nI_clamp (by omega), show s 8 k + s 2 k = wt s k from rfl, nI_add (l x) (wt s k)]
          obtain ⟨h1, e1⟩ : ∃ h1, h1 = ab_sI h' 592 x (nI (l x + wt s k)) := ⟨_, rfl⟩
          have F1 : Fr fV h' h1 := by rw [e1]; exact Fr_sI (Or.inr (Or.inr rfl))
          have S1 := Fr_Sh F1 S'
          have x1 : ∀ a, a ≠ 592 → ab_I h1 a = ab_I h' a := fun a ha => by rw [e1]; exact funext fun j => rI_a _ _ _ _ ha
          have x2 : ∀ j, j < 5 → ab_I h1 592 j = nI (va_up l x (l x + wt s k) j) := by
            intro j hj
            by_cases ej : j = x
            · rw [ej, e1, rI_s, up_s]
            · rw [e1, rI_k _ _ _ ej, c3 j hj, up_n _ _ ej]
          rw [← e1]
          clear e1
          have H := fun h2 (e : ∀ j, j ≤ k → ab_I h2 590 j = ab_I h1 590 j) (e2 : ∀ a, a ≠ 590 → ab_I h2 a = ab_I h1 a) (F2 : Fr fV h1 h2) => hst h2 (by omega) (by omega) (fun j hj => by rw [e j (by omega), x1 _ (by decide)]; exact c1 j hj) (by rw [e k (Nat.le_refl _), x1 _ (by decide)]; exact c2) (fun j hj => by rw [e2 _ (by decide)]; exact x2 j hj) (fun z j hj => by rw [e2 _ (by decide), x1 _ (by decide)]; exact c4 z j hj) (Fr_tr F' (Fr_tr F1 F2)) ih2
          clear hst ih2
          rw [nI_add k 1]
          refine ⟨fun z => ?_, fun z => ?_⟩ <;> rw [nI_leI (by omega) (by omega)] at z <;> (conv => whnf)
          · exact (H h1 (fun _ _ => rfl) (fun _ _ => rfl) Fr_re).2 (by omega)
          · rw [nI_add k 1]
            refine ⟨S1.1 580 (by decide), 590, S1.2.2 _ _ _ rfl, ?_⟩
            (conv => whnf)
            refine ⟨S1.1 590 (by decide), vin _ (S1.2.1 590 (by decide)) (by show k + 1 < 8; omega) (by decide), ?_⟩
            (conv => whnf)
            rw [nI_clamp (by omega)]
            exact (H _ (fun j hj => rI_k _ _ _ (by omega)) (fun a ha => funext fun j => rI_a _ _ _ _ ha) (Fr_sI (Or.inl rfl))).1 (by omega) (rI_s _ _ _ _)
        · clear hst ih2
          rw [gn x st (by omega)] at ih1
          refine ⟨S'.1 580 (by decide), 590, S'.2.2 _ _ _ rfl, ?_⟩
          (conv => whnf)
          refine ⟨S'.1 590 (by decide), vin _ (S'.2.1 590 (by decide)) (by show k < 8; omega) (by decide), ?_⟩
          (conv => whnf)
          refine ⟨S'.1 590 (by decide), vin _ (S'.2.1 590 (by decide)) (by show k < 8; omega) (by decide), ?_⟩
          (conv => whnf)
          rw [nI_clamp (by omega), c2, nI_add x 1]
          refine ih1 _ (fun j hj => ?_) (rI_s _ _ _ _) (fun j hj => ?_) (fun z j hj => ?_) (Fr_tr F' (Fr_sI (Or.inl rfl)))
          · rw [rI_k _ _ _ (by omega)]; exact c1 j hj
          · rw [rI_a _ _ _ _ (by decide)]; exact c3 j hj
          · rw [rI_a _ _ _ _ (by decide)]; exact c4 z j hj
      exact ⟨main, up x (by omega) main⟩
  have LEAF : ∀ (f l : Nat → Nat) (st : RS) (k : Nat) (h' : Hp), k < n → (∀ j, l j ≤ 232) → st.1 ≤ 1000000 → (∀ j, j < n → ab_I h' 590 j = nI (f j)) → (∀ j, j < 5 → ab_I h' 592 j = nI (l j)) → (st.1 < 1000000 → ∀ j, j < n → ab_I h' 591 j = nI (st.2 j)) → Fr fV h h' → (∀ h2, (∀ j, j < n → ab_I h2 590 j = nI (f j)) → (∀ j, j < 5 → ab_I h2 592 j = nI (l j)) → ((if st.1 ≤ lmx l 5 then st else (lmx l 5, f)).1 < 1000000 → ∀ j, j < n → ab_I h2 591 j = nI ((if st.1 ≤ lmx l 5 then st else (lmx l 5, f)).2 j)) → Fr fV h h2 → W 33 [.ref 580, .int (nI n), .int (nI (if st.1 ≤ lmx l 5 then st else (lmx l 5, f)).1), .int (nI k)] h2 0 0) → W 190 [.ref 580, .int (nI n), .int (nI st.1), .int (nI k), .int (nI 0), .int (nI 0)] h' 0 0 := by
    clear hq CORE
    intro f l st k h' hk hl hs c1 c2 c3 F' K
    have S' := Fr_Sh F' S
    have mb := lmx_b hl
    have l2 : ¬ st.1 ≤ lmx l 5 → ∀ r j h2, j + r = n → (∀ j, j < n → ab_I h2 590 j = nI (f j)) → (∀ j, j < 5 → ab_I h2 592 j = nI (l j)) → (∀ i, i < j → ab_I h2 591 i = nI (f i)) → Fr fV h h2 → W 243 [.ref 580, .int (nI n), .int (nI (lmx l 5)), .int (nI k), .int (nI j)] h2 0 0 := by
      intro c
      rw [if_neg c] at K
      intro r
      induction r with
      | zero =>
        intro j h2 e d1 d2 d3 F2
        obtain rfl : j = n := by omega
        have K := K h2 d1 d2 (fun _ => d3) F2
        refine hW _ _ _ _ _ ?_
        (conv => whnf)
        refine bT (nI_le (Nat.le_refl _) (by omega)) ?_
        (conv => whnf)
        exact K
      | succ r ih =>
        intro j h2 e d1 d2 d3 F2
        have S2 := Fr_Sh F2 S
        clear K
        refine hW _ _ _ _ _ ?_
        (conv => whnf)
        refine bF (nI_ge (by omega) (by omega)) ?_
        (conv => whnf)
        refine ⟨S2.1 580 (by decide), 591, S2.2.2 _ _ _ rfl, ?_⟩
        (conv => whnf)
        refine ⟨S2.1 580 (by decide), 590, S2.2.2 _ _ _ rfl, ?_⟩
        (conv => whnf)
        refine ⟨S2.1 590 (by decide), vin _ (S2.2.1 590 (by decide)) (by show j < 8; omega) (by decide), ?_⟩
        (conv => whnf)
        refine ⟨S2.1 591 (by decide), vin _ (S2.2.1 591 (by decide)) (by show j < 8; omega) (by decide), ?_⟩
        (conv => whnf)
        rw [nI_clamp (by omega), d1 j (by omega), nI_add j 1]
        refine ih (j + 1) _ (by omega) (fun i hi => ?_) (fun i hi => ?_) (fun i hi => ?_) (Fr_tr F2 (Fr_sI (Or.inr (Or.inl rfl))))
        · rw [rI_a _ _ _ _ (by decide)]; exact d1 i hi
        · rw [rI_a _ _ _ _ (by decide)]; exact d2 i hi
        · by_cases ei : i = j
          · rw [ei, rI_s]
          · rw [rI_k _ _ _ ei]; exact d3 i (by omega)
    have l1 : ∀ r j, j + r = 5 → W 190 [.ref 580, .int (nI n), .int (nI st.1), .int (nI k), .int (nI (lmx l j)), .int (nI j)] h' 0 0 := by
      intro r
      induction r with
      | zero =>
        intro j e
        obtain rfl : j = 5 := by omega
        have m5 := mb 5
        refine hW _ _ _ _ _ ?_
        (conv => whnf)
        refine bT (nI_le (Nat.le_refl _) (by omega)) ?_
        (conv => whnf)
        refine ⟨fun y => ?_, fun y => ?_⟩ <;> rw [nI_ltI (by omega) (by omega)] at y <;> (conv => whnf)
        · exact l2 (by omega) n 0 h' (by omega) c1 c2 (fun i hi => by omega) F'
        · rw [if_pos (by omega)] at K
          exact K h' c1 c2 c3 F'
      | succ r ih =>
        intro j e
        have ih := ih (j + 1) (by omega)
        have mj := mb j
        have lj := hl j
        have e2 : lmx l (j + 1) = max (lmx l j) (l j) := rfl
        rw [e2] at ih
        clear K l2 e2
        refine hW _ _ _ _ _ ?_
        (conv => whnf)
        refine bF (nI_ge (by omega) (by omega)) ?_
        (conv => whnf)
        refine ⟨S'.1 580 (by decide), 592, S'.2.2 _ _ _ rfl, ?_⟩
        (conv => whnf)
        refine ⟨S'.1 592 (by decide), vin _ (S'.2.1 592 (by decide)) (by show j < 5; omega) (by decide), ?_⟩
        (conv => whnf)
        rw [nI_clamp (by omega), c2 j (by omega)]
        refine ⟨fun y => ?_, fun y => ?_⟩ <;> rw [nI_leI (by omega) (by omega)] at y <;> (conv => whnf)
        · rw [Nat.max_eq_left y] at ih
          exact W_h rfl (by (try simp (disch := omega) only [nI_add, Nat.add_zero]) <;> rfl) ih
        · refine ⟨S'.1 580 (by decide), 592, S'.2.2 _ _ _ rfl, ?_⟩
          (conv => whnf)
          refine ⟨S'.1 592 (by decide), vin _ (S'.2.1 592 (by decide)) (by show j < 5; omega) (by decide), ?_⟩
          (conv => whnf)
          rw [nI_clamp (by omega), c2 j (by omega)]
          rw [Nat.max_eq_right (by omega)] at ih
          exact W_h rfl (by (try simp (disch := omega) only [nI_add, Nat.add_zero]) <;> rfl) ih
    exact l1 5 0 (by omega)
  have LV : ∀ m, m < n → ∀ (f l : Nat → Nat) (g : Nat) (st0 : RS), (∀ j, l j ≤ 29 * (n - (m + 1))) → lmx l 5 = g → st0.1 ≤ 1000000 → (∀ h', (∀ j, j < n - (m + 1) → ab_I h' 590 j = nI (f j)) → (∀ j, j < 5 → ab_I h' 592 j = nI (l j)) → ((pR (s 18 0) n (wt s) (m + 1) f l g st0).1 < 1000000 → ∀ j, j < n → ab_I h' 591 j = nI ((pR (s 18 0) n (wt s) (m + 1) f l g st0).2 j)) → Fr fV h h' → W 33 [.ref 580, .int (nI n), .int (nI (pR (s 18 0) n (wt s) (m + 1) f l g st0).1), .int (nI (n - (m + 1)) - 1)] h' 0 0) → ∀ h', (∀ j, j < n - (m + 1) → ab_I h' 590 j = nI (f j)) → ab_I h' 590 (n - (m + 1)) = -1 → (∀ j, j < 5 → ab_I h' 592 j = nI (l j)) → (st0.1 < 1000000 → ∀ j, j < n → ab_I h' 591 j = nI (st0.2 j)) → Fr fV h h' → W 33 [.ref 580, .int (nI n), .int (nI st0.1), .int (nI (n - (m + 1)))] h' 0 0 := by
    clear hq
    intro m
    induction m with
    | zero =>
      intro hm f l g st0 hl hg hs0 K h' c1 c2 c3 c4 F'
      have wk := wb (n - (0 + 1)) (by omega)
      refine (CORE (n - (0 + 1)) (by omega) f l st0 (fun x st => if st.1 ≤ l x + wt s (n - (0 + 1)) then st else pR (s 18 0) n (wt s) 0 (va_up f (n - (0 + 1)) x) (va_up l x (l x + wt s (n - (0 + 1)))) (max g (l x + wt s (n - (0 + 1)))) st) (fun x st z => if_pos z) (fun x st => ?_) hl hs0 K (fun y st h2 hy hc1 hs d1 d2 d3 d4 F2 K2 => ⟨fun z => by omega, fun _ => ?_⟩) (s 18 0) 0 (by omega)).2 h' c1 c2 (fun j hj => by rw [if_neg (by omega)]; exact c3 j hj) c4 F'
      · show (if st.1 ≤ l x + wt s (n - (0 + 1)) then st else pR (s 18 0) n (wt s) 0 (va_up f (n - (0 + 1)) x) (va_up l x (l x + wt s (n - (0 + 1)))) (max g (l x + wt s (n - (0 + 1)))) st).1 ≤ st.1
        split
        · exact Nat.le_refl _
        · exact pR_le _ _ _ _ _
      · have eg : (if st.1 ≤ l y + wt s (n - (0 + 1)) then st else pR (s 18 0) n (wt s) 0 (va_up f (n - (0 + 1)) y) (va_up l y (l y + wt s (n - (0 + 1)))) (max g (l y + wt s (n - (0 + 1)))) st) = if st.1 ≤ lmx (va_up l y (l y + wt s (n - (0 + 1)))) 5 then st else (lmx (va_up l y (l y + wt s (n - (0 + 1)))) 5, va_up f (n - (0 + 1)) y) := by
          rw [if_neg hc1, lmx_up (by omega) 5 (by omega), hg]
          rfl
        have K2 : ∀ h', (∀ j, j < n - (0 + 1) → ab_I h' 590 j = nI (f j)) → ab_I h' 590 (n - (0 + 1)) = nI (y + 1) - 1 → (∀ j, j < 5 → ab_I h' 592 j = nI (if y + 1 = j + 1 then l j + wt s (n - (0 + 1)) else l j)) → ((if st.1 ≤ l y + wt s (n - (0 + 1)) then st else pR (s 18 0) n (wt s) 0 (va_up f (n - (0 + 1)) y) (va_up l y (l y + wt s (n - (0 + 1)))) (max g (l y + wt s (n - (0 + 1)))) st).1 < 1000000 → ∀ j, j < n → ab_I h' 591 j = nI ((if st.1 ≤ l y + wt s (n - (0 + 1)) then st else pR (s 18 0) n (wt s) 0 (va_up f (n - (0 + 1)) y) (va_up l y (l y + wt s (n - (0 + 1)))) (max g (l y + wt s (n - (0 + 1)))) st).2 j)) → Fr fV h h' → W 33 [.ref 580, .int (nI n), .int (nI (if st.1 ≤ l y + wt s (n - (0 + 1)) then st else pR (s 18 0) n (wt s) 0 (va_up f (n - (0 + 1)) y) (va_up l y (l y + wt s (n - (0 + 1)))) (max g (l y + wt s (n - (0 + 1)))) st).1), .int (nI (n - (0 + 1)))] h' 0 0 := K2
        rw [eg] at K2
        have lb : ∀ j, va_up l y (l y + wt s (n - (0 + 1))) j ≤ 232 := by
          intro j
          have := hl j
          have := hl y
          by_cases ej : j = y
          · rw [ej, up_s]; omega
          · rw [up_n _ _ ej]; omega
        refine LEAF (va_up f (n - (0 + 1)) y) (va_up l y (l y + wt s (n - (0 + 1)))) st (n - (0 + 1)) h2 (by omega) lb hs (fun j hj => ?_) d3 d4 F2 (fun h3 e1 e2 e3 F3 => K2 h3 (fun j hj => ?_) ?_ (fun j hj => ?_) e3 F3)
        · by_cases ej : j = n - (0 + 1)
          · rw [ej, up_s]; exact d2
          · rw [up_n _ _ ej]; exact d1 j (by omega)
        · rw [e1 j (by omega), up_n _ _ (by omega)]
        · rw [e1 _ (by omega), up_s, nm_pos (by omega)]; rfl
        · rw [e2 j hj]
          by_cases ej : j = y
          · rw [ej, up_s, if_pos rfl]
          · rw [up_n _ _ ej, if_neg (by omega)]
    | succ m ihm =>
      intro hm f l g st0 hl hg hs0 K h' c1 c2 c3 c4 F'
      have wk := wb (n - (m + 1 + 1)) (by omega)
      clear LEAF
      refine (CORE (n - (m + 1 + 1)) (by omega) f l st0 (fun x st => if st.1 ≤ l x + wt s (n - (m + 1 + 1)) then st else pR (s 18 0) n (wt s) (m + 1) (va_up f (n - (m + 1 + 1)) x) (va_up l x (l x + wt s (n - (m + 1 + 1)))) (max g (l x + wt s (n - (m + 1 + 1)))) st) (fun x st z => if_pos z) (fun x st => ?_) hl hs0 K (fun y st h2 hy hc1 hs d1 d2 d3 d4 F2 K2 => ⟨fun z z2 => ?_, fun z => by omega⟩) (s 18 0) 0 (by omega)).2 h' c1 c2 (fun j hj => by rw [if_neg (by omega)]; exact c3 j hj) c4 F'
      · show (if st.1 ≤ l x + wt s (n - (m + 1 + 1)) then st else pR (s 18 0) n (wt s) (m + 1) (va_up f (n - (m + 1 + 1)) x) (va_up l x (l x + wt s (n - (m + 1 + 1)))) (max g (l x + wt s (n - (m + 1 + 1)))) st).1 ≤ st.1
        split
        · exact Nat.le_refl _
        · exact pR_le _ _ _ _ _
      · have eg : (if st.1 ≤ l y + wt s (n - (m + 1 + 1)) then st else pR (s 18 0) n (wt s) (m + 1) (va_up f (n - (m + 1 + 1)) y) (va_up l y (l y + wt s (n - (m + 1 + 1)))) (max g (l y + wt s (n - (m + 1 + 1)))) st) = pR (s 18 0) n (wt s) (m + 1) (va_up f (n - (m + 1 + 1)) y) (va_up l y (l y + wt s (n - (m + 1 + 1)))) (max g (l y + wt s (n - (m + 1 + 1)))) st := if_neg hc1
        have K2 : ∀ h', (∀ j, j < n - (m + 1 + 1) → ab_I h' 590 j = nI (f j)) → ab_I h' 590 (n - (m + 1 + 1)) = nI (y + 1) - 1 → (∀ j, j < 5 → ab_I h' 592 j = nI (if y + 1 = j + 1 then l j + wt s (n - (m + 1 + 1)) else l j)) → ((if st.1 ≤ l y + wt s (n - (m + 1 + 1)) then st else pR (s 18 0) n (wt s) (m + 1) (va_up f (n - (m + 1 + 1)) y) (va_up l y (l y + wt s (n - (m + 1 + 1)))) (max g (l y + wt s (n - (m + 1 + 1)))) st).1 < 1000000 → ∀ j, j < n → ab_I h' 591 j = nI ((if st.1 ≤ l y + wt s (n - (m + 1 + 1)) then st else pR (s 18 0) n (wt s) (m + 1) (va_up f (n - (m + 1 + 1)) y) (va_up l y (l y + wt s (n - (m + 1 + 1)))) (max g (l y + wt s (n - (m + 1 + 1)))) st).2 j)) → Fr fV h h' → W 33 [.ref 580, .int (nI n), .int (nI (if st.1 ≤ l y + wt s (n - (m + 1 + 1)) then st else pR (s 18 0) n (wt s) (m + 1) (va_up f (n - (m + 1 + 1)) y) (va_up l y (l y + wt s (n - (m + 1 + 1)))) (max g (l y + wt s (n - (m + 1 + 1)))) st).1), .int (nI (n - (m + 1 + 1)))] h' 0 0 := K2
        rw [eg] at K2
        clear eg CORE
        have ek : n - (m + 1 + 1) + 1 = n - (m + 1) := by omega
        rw [ek] at z2 ⊢
        refine ihm (by omega) (va_up f (n - (m + 1 + 1)) y) (va_up l y (l y + wt s (n - (m + 1 + 1)))) (max g (l y + wt s (n - (m + 1 + 1)))) st (fun j => ?_) (by rw [lmx_up (by omega) 5 (by omega), hg]) hs (fun h3 e1 e2 e3 F3 => ?_) h2 (fun j hj => ?_) z2 d3 d4 F2
        · have := hl j
          have := hl y
          by_cases ej : j = y
          · rw [ej, up_s]; omega
          · rw [up_n _ _ ej]; omega
        · rw [nm_pos (by omega), show n - (m + 1) - 1 = n - (m + 1 + 1) by omega]
          refine K2 h3 (fun j hj => ?_) ?_ (fun j hj => ?_) e3 F3
          · rw [e1 j (by omega), up_n _ _ (by omega)]
          · rw [e1 _ (by omega), up_s, nm_pos (by omega)]; rfl
          · rw [e2 j hj]
            by_cases ej : j = y
            · rw [ej, up_s, if_pos rfl]
            · rw [up_n _ _ ej, if_neg (by omega)]
        · by_cases ej : j = n - (m + 1 + 1)
          · rw [ej, up_s]; exact d2
          · rw [up_n _ _ ej]; exact d1 j (by omega)
  clear CORE LEAF
  have pe : pR (s 18 0) n (wt s) n (fun _ => 0) (fun _ => 0) 0 (1000000, fun _ => 0) = pkS s n := pR_pU n _ _ _ _
  have l0 : ∀ r j h', j + r = 5 → (∀ i, i < j → ab_I h' 592 i = nI 0) → Fr fV h h' → W 6 [.ref 580, .int (nI n), .int (nI 1000000), .int (nI j)] h' 0 0 := by
    intro r
    induction r with
    | zero =>
      intro j h' e p F'
      obtain rfl : j = 5 := by omega
      have S' := Fr_Sh F' S
      have lv := LV (n - 1) (by omega) (fun _ => 0) (fun _ => 0) 0 (1000000, fun _ => 0) (fun _ => Nat.zero_le _) (by decide) (Nat.le_refl _)
      rw [show n - 1 + 1 = n by omega, Nat.sub_self, pe] at lv
      refine hW _ _ _ _ _ ?_
      (conv => whnf)
      refine bT (nI_le (Nat.le_refl _) (by omega)) ?_
      (conv => whnf)
      refine ⟨S'.1 580 (by decide), 590, S'.2.2 _ _ _ rfl, ?_⟩
      (conv => whnf)
      refine ⟨S'.1 590 (by decide), vin _ (S'.2.1 590 (by decide)) (by show 0 < 8; omega) (by decide), ?_⟩
      (conv => whnf)
      refine lv (fun h2 d1 d2 d3 F2 => ?_) _ (fun j hj => by omega) (rI_s _ _ _ _) (fun i hi => ?_) (fun z => absurd z (by show ¬ (1000000 : Nat) < 1000000; omega)) (Fr_tr F' (Fr_sI (Or.inl rfl)))
      · have q := hq h2 d3 F2
        refine hW _ _ _ _ _ ?_
        (conv => whnf)
        refine bT (by decide) ?_
        (conv => whnf)
        exact q
      · rw [rI_a _ _ _ _ (by decide)]; exact p i hi
    | succ r ih =>
      intro j h' e p F'
      have S' := Fr_Sh F' S
      clear hq LV
      refine hW _ _ _ _ _ ?_
      (conv => whnf)
      refine bF (nI_ge (by omega) (by omega)) ?_
      (conv => whnf)
      refine ⟨S'.1 580 (by decide), 592, S'.2.2 _ _ _ rfl, ?_⟩
      (conv => whnf)
      refine ⟨S'.1 592 (by decide), vin _ (S'.2.1 592 (by decide)) (by show j < 5; omega) (by decide), ?_⟩
      (conv => whnf)
      rw [nI_clamp (by omega), nI_add j 1]
      refine ih (j + 1) _ (by omega) (fun i hi => ?_) (Fr_tr F' (Fr_sI (Or.inr (Or.inr rfl))))
      by_cases ei : i = j
      · rw [ei, rI_s]
      · rw [rI_k _ _ _ ei]; exact p i (by omega)
  exact l0 5 0 h (by omega) (fun i hi => by omega) Fr_re
theorem ok_inO (hd : 1 ≤ d) (m : Nat) (x : Int32) (hb : m < 2 ^ 30) (hy : ∀ z, 1 ≤ z → z ≤ m → x = nI z → Q (some (.int (nI 1))) h) (hn : (∀ z, 1 ≤ z → z ≤ m → x ≠ nI z) → Q (some (.int (nI 0))) h) : ab_Ok d n_X12_isIn [.int x, .int (nI 1), .int (nI m)] h Q := by
  by_cases b2 : 1 ≤ m
  · exact ok_inN hd 1 m x b2 hb hy hn
  · refine ok_isIn hd _ _ _ (fun e1 e2 => ?_) (fun e => hn (fun z z1 z2 => by omega))
    have := Int32.le_trans e1 e2
    rw [nI_leI (by omega) (by omega)] at this
    omega
theorem om_pack (hd : 6 ≤ d) (S : Sh h) (M : MS h 581 s) (B : WF s) (x y : Int32) (hy : ∀ n q, 1 ≤ n → n ≤ min 8 (s 18 1) → 1 ≤ s 18 0 → x = nI n → q ≤ n → y = nI q - 1 → ∀ h', Fr fV h h' → Q (some (.int (if q = 0 then nI (pkS s n).1 else nI ((pkS s n).2 (q - 1))))) h') (hno : ¬ (∃ n q, 1 ≤ n ∧ n ≤ min 8 (s 18 1) ∧ 1 ≤ s 18 0 ∧ x = nI n ∧ q ≤ n ∧ y = nI q - 1) → Q (some (.int (-2))) h) : ab_Ok d n_X12_pack [.ref 580, .int x, .int y] h Q := by
  have b0 := (wb_n B).1
  have b1 := (wb_n B).2.1
  have n0 := ms_n0 M
  have n1 := ms_n1 M
  refine ab_go mr_X12_pack rfl (by omega) (fun call W hc hW => ?_); (conv => whnf)
  refine ⟨S.1 580 (by decide), 581, S.2.2 _ _ _ rfl, ?_⟩
  (conv => whnf)
  refine ⟨S.1 581 (by decide), vin _ (S.2.1 581 (by decide)) (by show 0 < 2131; omega) (by decide), ?_⟩
  (conv => whnf)
  rw [nI_clamp (by omega), n0]
  refine ⟨fun f => ?_, fun f => ?_⟩ <;> rw [← nI_0, nI_eq (by omega) (by omega)] at f <;> (conv => whnf)
  · exact hno (fun ⟨_, _, _, _, z, _⟩ => by omega)
  · refine ⟨S.1 580 (by decide), 581, S.2.2 _ _ _ rfl, ?_⟩
    (conv => whnf)
    refine ⟨S.1 581 (by decide), vin _ (S.2.1 581 (by decide)) (by show 1 < 2131; omega) (by decide), ?_⟩
    (conv => whnf)
    rw [nI_clamp (by omega), n1]
    refine ⟨fun g => ?_, fun g => ?_⟩ <;> rw [nI_leI (by omega) (by omega)] at g <;> (conv => whnf)
    · have e8 : min 8 (s 18 1) = 8 := by omega
      rw [e8] at hy hno
      refine hc _ _ _ _ (ok_inO (by omega) 8 x (by omega) (fun n z1 z2 e => ?_) (fun e => ?_)) <;> (conv => whnf)
      · refine bF (by decide) ?_
        (conv => whnf)
        rw [e]
        refine hc _ _ _ _ (ok_inM (by omega) n y (by omega) (fun q q1 eq => ?_) (fun e2 => ?_)) <;> (conv => whnf)
        · have hyq := hy n q z1 z2 (by omega) e q1 eq
          clear hy hno
          have hn8 : n ≤ 8 := by omega
          refine bN (by decide) ?_
          (conv => whnf)
          refine ⟨S.1 580 (by decide), ?_⟩
          refine hc _ _ _ _ (om_layPack (by omega) S M B z1 hn8 (fun h1 r2 F1 => ?_))
          have pl := pkS_lt (s := s) hn8 (by omega) (fun k hk => by have := (wb_told B (p := k) (by omega)).2.1; have := (wb_p B (p := k) (by omega)).1; unfold wt; omega)
          have r2 := r2 (by omega)
          have S1 := Fr_Sh F1 S
          have hyq := hyq h1 F1
          (conv => whnf)
          subst eq
          refine ⟨fun f => ?_, fun f => ?_⟩ <;> rw [nm_none (by omega)] at f <;> (conv => whnf)
          · rw [if_neg f] at hyq
            rw [nm_pos (by omega)]
            refine ⟨S1.1 580 (by decide), 591, S1.2.2 _ _ _ rfl, ?_⟩
            (conv => whnf)
            refine ⟨S1.1 591 (by decide), vin _ (S1.2.1 591 (by decide)) (by show q - 1 < 8; omega) (by decide), ?_⟩
            (conv => whnf)
            rw [nI_clamp (by omega), r2 (q - 1) (by omega)]
            exact hyq
          · rw [if_pos f] at hyq
            exact hyq
        · refine bP (by decide) ?_
          (conv => whnf)
          refine hno (fun ⟨n', q, _, _, _, e3, q1, e4⟩ => ?_)
          have : n = n' := (nI_eq (by omega) (by omega)).mp (e.symm.trans e3)
          exact e2 q (by omega) e4
      · refine bT (by decide) ?_
        (conv => whnf)
        exact hno (fun ⟨n', q, z1, z2, _, e3, _⟩ => e n' z1 z2 e3)
    · have e8 : min 8 (s 18 1) = s 18 1 := by omega
      rw [e8] at hy hno
      refine ⟨S.1 580 (by decide), 581, S.2.2 _ _ _ rfl, ?_⟩
      (conv => whnf)
      refine ⟨S.1 581 (by decide), vin _ (S.2.1 581 (by decide)) (by show 1 < 2131; omega) (by decide), ?_⟩
      (conv => whnf)
      rw [nI_clamp (by omega), n1]
      refine hc _ _ _ _ (ok_inO (by omega) (s 18 1) x (by omega) (fun n z1 z2 e => ?_) (fun e => ?_)) <;> (conv => whnf)
      · refine bF (by decide) ?_
        (conv => whnf)
        rw [e]
        refine hc _ _ _ _ (ok_inM (by omega) n y (by omega) (fun q q1 eq => ?_) (fun e2 => ?_)) <;> (conv => whnf)
        · have hyq := hy n q z1 z2 (by omega) e q1 eq
          clear hy hno
          have hn8 : n ≤ 8 := by omega
          refine bN (by decide) ?_
          (conv => whnf)
          refine ⟨S.1 580 (by decide), ?_⟩
          refine hc _ _ _ _ (om_layPack (by omega) S M B z1 hn8 (fun h1 r2 F1 => ?_))
          have pl := pkS_lt (s := s) hn8 (by omega) (fun k hk => by have := (wb_told B (p := k) (by omega)).2.1; have := (wb_p B (p := k) (by omega)).1; unfold wt; omega)
          have r2 := r2 (by omega)
          have S1 := Fr_Sh F1 S
          have hyq := hyq h1 F1
          (conv => whnf)
          subst eq
          refine ⟨fun f => ?_, fun f => ?_⟩ <;> rw [nm_none (by omega)] at f <;> (conv => whnf)
          · rw [if_neg f] at hyq
            rw [nm_pos (by omega)]
            refine ⟨S1.1 580 (by decide), 591, S1.2.2 _ _ _ rfl, ?_⟩
            (conv => whnf)
            refine ⟨S1.1 591 (by decide), vin _ (S1.2.1 591 (by decide)) (by show q - 1 < 8; omega) (by decide), ?_⟩
            (conv => whnf)
            rw [nI_clamp (by omega), r2 (q - 1) (by omega)]
            exact hyq
          · rw [if_pos f] at hyq
            exact hyq
        · refine bP (by decide) ?_
          (conv => whnf)
          refine hno (fun ⟨n', q, _, _, _, e3, q1, e4⟩ => ?_)
          have : n = n' := (nI_eq (by omega) (by omega)).mp (e.symm.trans e3)
          exact e2 q (by omega) e4
      · refine bT (by decide) ?_
        (conv => whnf)
        exact hno (fun ⟨n', q, z1, z2, _, e3, _⟩ => e n' z1 z2 e3)
end PM
