/-! ===== contracts: ranking on the reference's side (mine) ===== -/
def fW (a _ : Nat) : Prop := a = 590 ∨ a = 591
def f90 (a _ : Nat) : Prop := a = 590
theorem f90W {h h' : Hp} (F : Fr f90 h h') : Fr fW h h' := Fr_mo F (fun a k z => Or.inl z)
def rwH (h : Hp) (n : Nat) (f : Nat → Nat) : Prop := ∀ j, j < n → ab_I h 590 j = nI (f j)
theorem dn1 (k : Nat) (hk : 1 ≤ k) : nI k + (-1) = nI (k - 1) := by rw [show (-1 : Int32) = - nI 1 from by decide, ← Int32.sub_eq_add_neg, pk_sub hk]
theorem dnm (k : Nat) (hk : 1 ≤ k) : nI k - 1 + (-1) = nI (k - 1) - 1 := by
  rw [show (-1 : Int32) = - 1 from rfl, ← Int32.sub_eq_add_neg, nm_pos hk]
section RM
variable {d : Nat} {h : Hp} {Q : Option Value → Hp → Prop} {s : Sv}
theorem om_swap (hd : 1 ≤ d) (S : Sh h) {n i k : Nat} {f : Nat → Nat} (hn : n ≤ 8) (hi : i < n) (hk : k < n) (hf : rwH h n f) (hq : ∀ h', rwH h' n (sw f i k) → Fr f90 h h' → Q none h') : ab_Ok d n_X12_swap [.ref 580, .int (nI i), .int (nI k)] h Q := by
  refine ab_go mr_X12_swap rfl (by omega) (fun call W hc hW => ?_); (conv => whnf)
  refine ⟨S.1 580 (by decide), 590, S.2.2 _ _ _ rfl, ?_⟩
  (conv => whnf)
  refine ⟨S.1 590 (by decide), vin _ (S.2.1 590 (by decide)) (by show i < 8; omega) (by decide), ?_⟩
  (conv => whnf)
  refine ⟨S.1 580 (by decide), 590, S.2.2 _ _ _ rfl, ?_⟩
  (conv => whnf)
  refine ⟨S.1 580 (by decide), 590, S.2.2 _ _ _ rfl, ?_⟩
  (conv => whnf)
  refine ⟨S.1 590 (by decide), vin _ (S.2.1 590 (by decide)) (by show k < 8; omega) (by decide), ?_⟩
  (conv => whnf)
  refine ⟨S.1 590 (by decide), vin _ (S.2.1 590 (by decide)) (by show i < 8; omega) (by decide), ?_⟩
  (conv => whnf)
  rw [nI_clamp (by omega), nI_clamp (by omega)]
  obtain ⟨h1, e1⟩ : ∃ h1, h1 = ab_sI h 590 i (ab_I h 590 k) := ⟨_, rfl⟩
  have F1 : Fr f90 h h1 := by rw [e1]; exact Fr_sI rfl
  have S1 := Fr_Sh F1 S
  rw [← e1]
  refine ⟨S1.1 580 (by decide), 590, S1.2.2 _ _ _ rfl, ?_⟩
  (conv => whnf)
  refine ⟨S1.1 590 (by decide), vin _ (S1.2.1 590 (by decide)) (by show k < 8; omega) (by decide), ?_⟩
  (conv => whnf)
  rw [nI_clamp (by omega)]
  refine hq _ (fun j hj => ?_) (Fr_tr F1 (Fr_sI rfl))
  unfold sw
  by_cases ek : j = k
  · rw [ek, rI_s, up_s]
    exact hf i hi
  · rw [rI_k _ _ _ ek, up_n _ _ ek, e1]
    by_cases ei : j = i
    · rw [ei, rI_s, up_s]
      exact hf k hk
    · rw [rI_k _ _ _ ei, up_n _ _ ei]
      exact hf j hj
theorem om_isNextRow (hd : 2 ≤ d) (S : Sh h) {n : Nat} {f : Nat → Nat} (hn : n ≤ 5) (hb : ∀ j, j < n → f j < n) (hf : rwH h n f) (hy : nxi f (n - 1) ≠ 0 → ∀ h', rwH h' n (nxR n f) → Fr f90 h h' → Q (some (.int (nI 1))) h') (hno : nxi f (n - 1) = 0 → Q (some (.int (nI 0))) h) : ab_Ok d n_X12_isNextRow [.ref 580, .int (nI n)] h Q := by
  refine ab_go mr_X12_isNextRow rfl (by omega) (fun call W hc hW => ?_); (conv => whnf)
  have l3 : nxi f (n - 1) ≠ 0 → ∀ r g p q h', q ≤ p + r → q < n → p ≤ n → rwH h' n g → Fr f90 h h' → rv r g p q = nxR n f → W 78 [.ref 580, .int (nI q), .int (nI p)] h' 0 0 := by
    intro t
    have hy := hy t
    have done : ∀ g p q h', q ≤ p → q < n → p ≤ n → rwH h' n g → Fr f90 h h' → g = nxR n f → W 78 [.ref 580, .int (nI q), .int (nI p)] h' 0 0 := by
      intro g p q h' h1 h2 hp h3 F' e
      rw [e] at h3
      have fin := hy h' h3 F'
      refine hW _ _ _ _ _ ?_
      (conv => whnf)
      refine bT (nI_le h1 (by omega)) ?_
      (conv => whnf)
      exact ⟨Or.inr rfl, fin⟩
    intro r
    induction r with
    | zero =>
      intro g p q h' h1 h2 hp h3 F' e
      exact done g p q h' (by omega) h2 hp h3 F' e
    | succ r ih =>
      intro g p q h' h1 h2 hp h3 F' e
      by_cases c : p < q
      · have e : (if p < q then rv r (sw g p q) (p + 1) (q - 1) else g) = nxR n f := e
        rw [if_pos c] at e
        have S' := Fr_Sh F' S
        refine hW _ _ _ _ _ ?_
        (conv => whnf)
        refine bF (nI_ge (by omega) (by omega)) ?_
        (conv => whnf)
        refine ⟨S'.1 580 (by decide), ?_⟩
        refine hc _ _ _ _ (om_swap (by omega) S' (by omega : n ≤ 8) (by omega) (by omega) h3 (fun h2 r2 F2 => ?_))
        (conv => whnf)
        rw [dn1 q (by omega), nI_add]
        exact ih (sw g p q) (p + 1) (q - 1) h2 (by omega) (by omega) (by omega) r2 (Fr_tr F' F2) e
      · have e : (if p < q then rv r (sw g p q) (p + 1) (q - 1) else g) = nxR n f := e
        rw [if_neg c] at e
        exact done g p q h' (by omega) h2 hp h3 F' e
  have l2 : nxi f (n - 1) ≠ 0 → ∀ k, nxi f (n - 1) ≤ k → k < n → nxk f (f (nxi f (n - 1) - 1)) k = nxk f (f (nxi f (n - 1) - 1)) (n - 1) → W 41 [.ref 580, .int (nI n), .int (nI (nxi f (n - 1) - 1)), .int (nI k)] h 0 0 := by
    intro t k
    obtain ⟨t1, t2⟩ := nxi_p f (n - 1) t
    have nxe : nxR n f = rv n (sw f (nxi f (n - 1) - 1) (nxk f (f (nxi f (n - 1) - 1)) (n - 1))) (nxi f (n - 1)) (n - 1) := rfl
    obtain ⟨i, ei⟩ : ∃ i, nxi f (n - 1) = i + 1 := ⟨nxi f (n - 1) - 1, by omega⟩
    have l3 := l3 t
    rw [ei] at t1 t2 nxe ⊢
    rw [show i + 1 - 1 = i by omega] at t2 nxe ⊢
    have fb := hb i (by omega)
    induction k with
    | zero => intro h1; omega
    | succ k ih =>
      intro h1 h2 e
      have fk := hb (k + 1) h2
      have e2 : nxk f (f i) (k + 1) = if f (k + 1) < f i then nxk f (f i) k else k + 1 := rfl
      have v1 := hf (k + 1) h2
      have v2 := hf i (by omega)
      refine hW _ _ _ _ _ ?_
      (conv => whnf)
      refine ⟨S.1 580 (by decide), 590, S.2.2 _ _ _ rfl, ?_⟩
      (conv => whnf)
      refine ⟨S.1 590 (by decide), vin _ (S.2.1 590 (by decide)) (by show k + 1 < 8; omega) (by decide), ?_⟩
      (conv => whnf)
      refine ⟨S.1 580 (by decide), 590, S.2.2 _ _ _ rfl, ?_⟩
      (conv => whnf)
      refine ⟨S.1 590 (by decide), vin _ (S.2.1 590 (by decide)) (by show i < 8; omega) (by decide), ?_⟩
      (conv => whnf)
      rw [nI_clamp (by omega), nI_clamp (by omega), v1, v2]
      refine ⟨fun w => ?_, fun w => ?_⟩ <;> rw [nI_leI (by omega) (by omega)] at w <;> (conv => whnf)
      · rw [if_neg (by omega)] at e2
        refine ⟨S.1 580 (by decide), ?_⟩
        refine hc _ _ _ _ (om_swap (by omega) S (by omega : n ≤ 8) (by omega) (by omega) hf (fun h2 r2 F2 => ?_))
        (conv => whnf)
        rw [pk_sub (by omega : 1 ≤ n), nI_add]
        rw [← e, e2] at nxe
        exact l3 n (sw f i (k + 1)) (i + 1) (n - 1) h2 (by omega) (by omega) (by omega) r2 F2 nxe.symm
      · rw [if_pos (by omega)] at e2
        have : k ≠ i := fun z => by rw [z] at w; omega
        rw [dn1 (k + 1) (by omega)]
        exact ih (by omega) (by omega) (e2.symm.trans e)
  have l1 : ∀ t, t < n → nxi f t = nxi f (n - 1) → W 4 [.ref 580, .int (nI n), .int (nI t - 1)] h 0 0 := by
    intro t
    induction t with
    | zero =>
      intro _ e
      have e := hno e.symm
      refine hW _ _ _ _ _ ?_
      (conv => whnf)
      refine bT (by decide) ?_
      (conv => whnf)
      refine bF (by decide) ?_
      (conv => whnf)
      exact ⟨Or.inl rfl, e⟩
    | succ t ih =>
      intro h1 e
      have e2 : nxi f (t + 1) = if f (t + 1) < f t then nxi f t else t + 1 := rfl
      have v1 := hf (t + 1) h1
      have v2 := hf t (by omega)
      have b1 := hb (t + 1) h1
      have b2 := hb t (by omega)
      rw [nm_pos (by omega), show t + 1 - 1 = t by omega]
      refine hW _ _ _ _ _ ?_
      (conv => whnf)
      refine bF (by rw [z0, nI_ltI (by omega) (by omega)]; omega) ?_
      (conv => whnf)
      refine ⟨S.1 580 (by decide), 590, S.2.2 _ _ _ rfl, ?_⟩
      (conv => whnf)
      refine ⟨S.1 590 (by decide), vin _ (S.2.1 590 (by decide)) (by show t < 8; omega) (by decide), ?_⟩
      (conv => whnf)
      refine ⟨S.1 580 (by decide), 590, S.2.2 _ _ _ rfl, ?_⟩
      (conv => whnf)
      rw [nI_add]
      refine ⟨S.1 590 (by decide), vin _ (S.2.1 590 (by decide)) (by show t + 1 < 8; omega) (by decide), ?_⟩
      (conv => whnf)
      rw [nI_clamp (by omega), nI_clamp (by omega), v1, v2]
      refine ⟨fun w => ?_, fun w => ?_⟩ <;> rw [nI_leI (by omega) (by omega)] at w <;> (conv => whnf)
      · rw [if_neg (by omega)] at e2
        refine bT (by rw [z0, nI_leI (by omega) (by omega)]; omega) ?_
        (conv => whnf)
        rw [pk_sub (by omega : 1 ≤ n)]
        have q := l2 (by omega) (n - 1) (by omega) (by omega) rfl
        rw [← e, e2, show t + 1 - 1 = t by omega] at q
        exact q
      · rw [if_pos (by omega)] at e2
        refine W_h rfl ?_ (ih (by omega) (e2.symm.trans e))
        rw [show (-1 : Int32) = - 1 from rfl, ← Int32.sub_eq_add_neg]
        rfl
  rcases Nat.eq_zero_or_pos n with e0 | e0
  · subst e0
    have fin := hno rfl
    refine hW _ _ _ _ _ ?_
    (conv => whnf)
    refine bT (by decide) ?_
    (conv => whnf)
    refine bF (by decide) ?_
    (conv => whnf)
    exact ⟨Or.inl rfl, fin⟩
  · have e2 : nI n - nI 2 = nI (n - 1) - 1 := by
      rw [← pk_sub (by omega : 1 ≤ n), Int32.sub_sub]
      rfl
    rw [e2]
    exact l1 (n - 1) (by omega) rfl
theorem om_upsets (hd : 1 ≤ d) (S : Sh h) (M : MS h 581 s) {n : Nat} {f : Nat → Nat} (hn : n ≤ 5) (hb : ∀ j, j < n → f j < 5) (hf : rwH h n f) (hq : Q (some (.int (nI (uA (s 12) f n)))) h) : ab_Ok d n_X12_upsets [.ref 580, .int (nI n)] h Q := by
  rw [← rO_u] at hq
  refine ab_go mr_X12_upsets rfl (by omega) (fun call W hc hW => ?_); (conv => whnf)
  have l1 : ∀ r i, i + r = n → W 4 [.ref 580, .int (nI n), .int (nI (rO (s 12) f n i)), .int (nI i)] h 0 0 := by
    intro r
    induction r with
    | zero =>
      intro i e
      obtain rfl : i = n := by omega
      refine hW _ _ _ _ _ ?_
      (conv => whnf)
      refine bT (nI_le (Nat.le_refl _) (by omega)) ?_
      (conv => whnf)
      exact hq
    | succ r ih =>
      intro i e
      have ih := ih (i + 1) (by omega)
      have lq : ∀ r' k, k + r' = n → i < k → W 14 [.ref 580, .int (nI n), .int (nI (rO (s 12) f n i + rI1 (s 12) f i k)), .int (nI i), .int (nI k)] h 0 0 := by
        intro r'
        induction r' with
        | zero =>
          intro k e' _
          obtain rfl : k = n := by omega
          refine hW _ _ _ _ _ ?_
          (conv => whnf)
          refine bT (nI_le (Nat.le_refl _) (by omega)) ?_
          (conv => whnf)
          exact W_h rfl (by (try simp (disch := omega) only [nI_add, Nat.add_zero]) <;> rfl) ih
        | succ r' ih' =>
          intro k e' hik
          have ih' := ih' (k + 1) (by omega) (by omega)
          have e2 : rI1 (s 12) f i (k + 1) = rI1 (s 12) f i k + (if i < k then s 12 (5 * f k + f i) else 0) := rfl
          rw [if_pos hik] at e2
          rw [e2] at ih'
          have v1 := hf k (by omega)
          have v2 := hf i (by omega)
          have b1 := hb k (by omega)
          have b2 := hb i (by omega)
          have vb := ms_bea M b1 b2
          have i1 : nI 93 + nI 5 * nI (f k) + nI (f i) = nI (93 + 5 * f k + f i) := by rw [pk_mul, nI_add, nI_add]
          clear e2
          refine hW _ _ _ _ _ ?_
          (conv => whnf)
          refine bF (nI_ge (by omega) (by omega)) ?_
          (conv => whnf)
          refine ⟨S.1 580 (by decide), 581, S.2.2 _ _ _ rfl, ?_⟩
          (conv => whnf)
          refine ⟨S.1 580 (by decide), 590, S.2.2 _ _ _ rfl, ?_⟩
          (conv => whnf)
          refine ⟨S.1 590 (by decide), vin _ (S.2.1 590 (by decide)) (by show k < 8; omega) (by decide), ?_⟩
          (conv => whnf)
          refine ⟨S.1 580 (by decide), 590, S.2.2 _ _ _ rfl, ?_⟩
          (conv => whnf)
          refine ⟨S.1 590 (by decide), vin _ (S.2.1 590 (by decide)) (by show i < 8; omega) (by decide), ?_⟩
          (conv => whnf)
          rw [nI_clamp (by omega), nI_clamp (by omega), v1, v2, i1]
          refine ⟨S.1 581 (by decide), vin _ (S.2.1 581 (by decide)) (by show 93 + 5 * f k + f i < 2131; omega) (by decide), ?_⟩
          (conv => whnf)
          rw [nI_clamp (by omega), vb, nI_add]
          rw [← Nat.add_assoc] at ih'
          exact W_h rfl (by (try simp (disch := omega) only [nI_add, Nat.add_zero]) <;> rfl) ih'
      refine hW _ _ _ _ _ ?_
      (conv => whnf)
      refine bF (nI_ge (by omega) (by omega)) ?_
      (conv => whnf)
      have q := lq (n - (i + 1)) (i + 1) (by omega) (by omega)
      rw [rI1_0 _ _ _ _ (Nat.le_refl _), Nat.add_zero] at q
      exact W_h rfl (by (try simp (disch := omega) only [nI_add, Nat.add_zero]) <;> rfl) q
  exact l1 n 0 (by omega)
theorem om_ranking (hd : 5 ≤ d) (S : Sh h) (M : MS h 581 s) (B : WF s) (x : Int32) (hy : ∀ q, q ≤ s 18 0 → x = nI q - 1 → ∀ h', Fr fW h h' → Q (some (.int (if q = 0 then nI (rkS s).1 else nI ((rkS s).2 (q - 1))))) h') (hn : (∀ q, q ≤ s 18 0 → x ≠ nI q - 1) → Q (some (.int (-2))) h) : ab_Ok d n_X12_ranking [.ref 580, .int x] h Q := by
  have b0 := (wb_n B).1
  have n0 := ms_n0 M
  have b9 : ∀ k, k < 25 → s 12 k ≤ 99 := fun k hk => wb_bea B hk
  have rl := rk_lt b0 b9
  obtain ⟨f0, t0, el, ct, fi⟩ := lv_hd (n := s 18 0) (by omega)
  have re : rkS s = (f0 :: t0).foldl (stp (s 12) (s 18 0)) (1000000, fun _ => 0) := by unfold rkS; rw [el]
  refine ab_go mr_X12_ranking rfl (by omega) (fun call W hc hW => ?_); (conv => whnf)
  have l4 : ∀ q, q ≤ s 18 0 → x = nI q - 1 → ∀ h', (∀ j, j < s 18 0 → ab_I h' 591 j = nI ((rkS s).2 j)) → Fr fW h h' → W 48 [.ref 580, .int x, .int (nI (s 18 0)), .int (nI (rkS s).1), .int (nI 0)] h' 0 0 := by
    intro q q1 eq h' p F'
    have S' := Fr_Sh F' S
    have hyq := hy q q1 eq h' F'
    subst eq
    refine hW _ _ _ _ _ ?_
    (conv => whnf)
    refine bT (by decide) ?_
    (conv => whnf)
    refine ⟨fun f => ?_, fun f => ?_⟩ <;> rw [nm_none (by omega)] at f <;> (conv => whnf)
    · rw [if_neg f] at hyq
      rw [nm_pos (by omega)]
      refine ⟨S'.1 580 (by decide), 591, S'.2.2 _ _ _ rfl, ?_⟩
      (conv => whnf)
      refine ⟨S'.1 591 (by decide), vin _ (S'.2.1 591 (by decide)) (by show q - 1 < 8; omega) (by decide), ?_⟩
      (conv => whnf)
      rw [nI_clamp (by omega), p (q - 1) (by omega)]
      exact hyq
    · rw [if_pos f] at hyq
      exact hyq
  have bd : ∀ (f : Nat → Nat) (st : RS) (h' : Hp), (∀ j, j < s 18 0 → f j < s 18 0) → rwH h' (s 18 0) f → st.1 ≤ 1000000 → (st.1 < 1000000 → ∀ j, j < s 18 0 → ab_I h' 591 j = nI (st.2 j)) → Fr fW h h' → (nxi f (s 18 0 - 1) ≠ 0 → ∀ h2, rwH h2 (s 18 0) (nxR (s 18 0) f) → ((stp (s 12) (s 18 0) st f).1 < 1000000 → ∀ j, j < s 18 0 → ab_I h2 591 j = nI ((stp (s 12) (s 18 0) st f).2 j)) → Fr fW h h2 → W 48 [.ref 580, .int x, .int (nI (s 18 0)), .int (nI (stp (s 12) (s 18 0) st f).1), .int (nI 1)] h2 0 0) → (nxi f (s 18 0 - 1) = 0 → ∀ h2, ((stp (s 12) (s 18 0) st f).1 < 1000000 → ∀ j, j < s 18 0 → ab_I h2 591 j = nI ((stp (s 12) (s 18 0) st f).2 j)) → Fr fW h h2 → W 48 [.ref 580, .int x, .int (nI (s 18 0)), .int (nI (stp (s 12) (s 18 0) st f).1), .int (nI 0)] h2 0 0) → W 48 [.ref 580, .int x, .int (nI (s 18 0)), .int (nI st.1), .int (nI 1)] h' 0 0 := by
    clear hy hn l4
    intro f st h' fb cf sl p F' k1 k0
    have S' := Fr_Sh F' S
    have M' := MS_F F' (fun k w => by unfold fW at w; omega) M
    have ub := uA_b (f := f) b9 (s 18 0) b0 (fun j hj => by have := fb j hj; omega)
    have es : stp (s 12) (s 18 0) st f = if st.1 ≤ uA (s 12) f (s 18 0) then st else (uA (s 12) f (s 18 0), f) := rfl
    have lc : st.1 ≤ uA (s 12) f (s 18 0) ∨ ∀ r j h2, j + r = s 18 0 → rwH h2 (s 18 0) f → (∀ i, i < j → ab_I h2 591 i = nI (f i)) → Fr fW h h2 → W 72 [.ref 580, .int x, .int (nI (s 18 0)), .int (nI (uA (s 12) f (s 18 0))), .int (nI j)] h2 0 0 := by
      rcases Nat.lt_or_ge (uA (s 12) f (s 18 0)) st.1 with c | c
      · right
        rw [if_neg (by omega)] at es
        rw [es] at k1 k0
        clear es
        intro r
        induction r with
        | zero =>
          intro j h2 e cf2 p2 F2
          obtain rfl : j = s 18 0 := by omega
          have S2 := Fr_Sh F2 S
          refine hW _ _ _ _ _ ?_
          (conv => whnf)
          refine bT (nI_le (Nat.le_refl _) (by omega)) ?_
          (conv => whnf)
          refine ⟨S2.1 580 (by decide), ?_⟩
          refine hc _ _ _ _ (om_isNextRow (by omega) S2 b0 fb cf2 (fun t h3 r3 F3 => ?_) (fun t => ?_)) <;> (conv => whnf)
          · exact k1 t h3 r3 (fun _ j hj => (F3.2.2.2.2 591 j (fun w => by unfold f90 at w; omega)).trans (p2 j hj)) (Fr_tr F2 (f90W F3))
          · exact k0 t h2 (fun _ => p2) F2
        | succ r ih =>
          intro j h2 e cf2 p2 F2
          have S2 := Fr_Sh F2 S
          have v := cf2 j (by omega)
          refine hW _ _ _ _ _ ?_
          (conv => whnf)
          refine bF (nI_ge (by omega) (by omega)) ?_
          (conv => whnf)
          refine ⟨S2.1 580 (by decide), 591, S2.2.2 _ _ _ rfl, ?_⟩
          (conv => whnf)
          refine ⟨S2.1 580 (by decide), 590, S2.2.2 _ _ _ rfl, ?_⟩
          (conv => whnf)
          refine ⟨S2.1 590 (by decide), vin _ (S2.2.1 590 (by decide)) (by show j < 8; omega) (by decide), ?_⟩
          (conv => whnf)
          refine ⟨S2.1 591 (by decide), vin _ (S2.2.1 591 (by decide)) (by show j < 8; omega) (by decide), ?_⟩
          (conv => whnf)
          rw [nI_clamp (by omega), v]
          refine W_h rfl (by (try simp (disch := omega) only [nI_add, Nat.add_zero]) <;> rfl) (ih (j + 1) _ (by omega) (fun i hi => ?_) (fun i hi => ?_) (Fr_tr F2 (Fr_sI (Or.inr rfl))))
          · rw [rI_a _ _ _ _ (by decide)]; exact cf2 i hi
          · by_cases ei : i = j
            · rw [ei, rI_s]
            · rw [rI_k _ _ _ ei]; exact p2 i (by omega)
      · exact Or.inl c
    refine hW _ _ _ _ _ ?_
    (conv => whnf)
    refine bF (by decide) ?_
    (conv => whnf)
    refine ⟨S'.1 580 (by decide), ?_⟩
    refine hc _ _ _ _ (om_upsets (by omega) S' M' b0 (fun j hj => by have := fb j hj; omega) cf ?_)
    (conv => whnf)
    refine ⟨fun w => ?_, fun w => ?_⟩ <;> rw [nI_leI (by omega) (by omega)] at w <;> (conv => whnf)
    · rw [if_pos w] at es
      rw [es] at k1 k0
      refine ⟨S'.1 580 (by decide), ?_⟩
      refine hc _ _ _ _ (om_isNextRow (by omega) S' b0 fb cf (fun t h3 r3 F3 => ?_) (fun t => ?_)) <;> (conv => whnf)
      · exact k1 t h3 r3 (fun z j hj => (F3.2.2.2.2 591 j (fun w => by unfold f90 at w; omega)).trans (p z j hj)) (Fr_tr F' (f90W F3))
      · exact k0 t h' p F'
    · rcases lc with c | c
      · omega
      · exact c (s 18 0) 0 h' (by omega) cf (fun i hi => by omega) F'
  have l2 : ∀ q, q ≤ s 18 0 → x = nI q - 1 → ∀ (l : List (Nat → Nat)) (f : Nat → Nat) (st : RS) (h' : Hp), ck (s 18 0) (f :: l) = true → rwH h' (s 18 0) f → st.1 ≤ 1000000 → (st.1 < 1000000 → ∀ j, j < s 18 0 → ab_I h' 591 j = nI (st.2 j)) → Fr fW h h' → rkS s = (f :: l).foldl (stp (s 12) (s 18 0)) st → W 48 [.ref 580, .int x, .int (nI (s 18 0)), .int (nI st.1), .int (nI 1)] h' 0 0 := by
    intro q q1 eq l
    have l4 := l4 q q1 eq
    induction l with
    | nil =>
      intro f st h' c cf sl p F' e
      have e : rkS s = stp (s 12) (s 18 0) st f := e
      have z := ck_1 c
      refine bd f st h' (ck_b c) cf sl p F' (fun t => absurd z t) (fun _ h2 p2 F2 => ?_)
      rw [← e] at p2 ⊢
      exact l4 h2 (p2 rl) F2
    | cons g l ih =>
      intro f st h' c cf sl p F' e
      obtain ⟨z1, z2, z3⟩ := ck_2 c
      have e : rkS s = (g :: l).foldl (stp (s 12) (s 18 0)) (stp (s 12) (s 18 0) st f) := e
      refine bd f st h' (ck_b c) cf sl p F' (fun _ h2 r2 p2 F2 => ?_) (fun t => absurd t z1)
      exact ih g _ h2 z3 (fun j hj => by rw [r2 j hj, z2 j hj]) (Nat.le_trans (stp_le _ _ _ _).1 sl) p2 F2 e
  have l1 : ∀ q, q ≤ s 18 0 → x = nI q - 1 → ∀ r j h', j + r = s 18 0 → (∀ i, i < j → ab_I h' 590 i = nI i) → Fr fW h h' → W 23 [.ref 580, .int x, .int (nI (s 18 0)), .int (nI j)] h' 0 0 := by
    intro q q1 eq r
    have l2 := l2 q q1 eq t0 f0 (1000000, fun _ => 0)
    clear hy hn l4 bd
    induction r with
    | zero =>
      intro j h' e p F'
      obtain rfl : j = s 18 0 := by omega
      refine hW _ _ _ _ _ ?_
      (conv => whnf)
      refine bT (nI_le (Nat.le_refl _) (by omega)) ?_
      (conv => whnf)
      exact l2 h' ct (fun j hj => by rw [fi j hj]; exact p j hj) (Nat.le_refl _) (fun w => absurd w (by show ¬ (1000000 : Nat) < 1000000; omega)) F' re
    | succ r ih =>
      intro j h' e p F'
      have S' := Fr_Sh F' S
      refine hW _ _ _ _ _ ?_
      (conv => whnf)
      refine bF (nI_ge (by omega) (by omega)) ?_
      (conv => whnf)
      refine ⟨S'.1 580 (by decide), 590, S'.2.2 _ _ _ rfl, ?_⟩
      (conv => whnf)
      refine ⟨S'.1 590 (by decide), vin _ (S'.2.1 590 (by decide)) (by show j < 8; omega) (by decide), ?_⟩
      (conv => whnf)
      rw [nI_clamp (by omega)]
      refine W_h rfl (by (try simp (disch := omega) only [nI_add, Nat.add_zero]) <;> rfl) (ih (j + 1) _ (by omega) (fun i hi => ?_) (Fr_tr F' (Fr_sI (Or.inl rfl))))
      by_cases ei : i = j
      · rw [ei, rI_s]
      · rw [rI_k _ _ _ ei]; exact p i (by omega)
  refine ⟨S.1 580 (by decide), 581, S.2.2 _ _ _ rfl, ?_⟩
  (conv => whnf)
  refine ⟨S.1 581 (by decide), vin _ (S.2.1 581 (by decide)) (by show 0 < 2131; omega) (by decide), ?_⟩
  (conv => whnf)
  rw [nI_clamp (by omega), n0]
  refine hc _ _ _ _ (ok_inM (by omega) (s 18 0) x (by omega) (fun q q1 eq => ?_) (fun e => ?_)) <;> (conv => whnf)
  · refine bN (by decide) ?_
    (conv => whnf)
    exact l1 q q1 eq (s 18 0) 0 h (by omega) (fun i hi => by omega) Fr_re
  · refine bP (by decide) ?_
    (conv => whnf)
    exact hn e
end RM
