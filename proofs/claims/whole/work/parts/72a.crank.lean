/-! ===== contracts: ranking on the class's side (mine) ===== -/
def fR (a _ : Nat) : Prop := 573 ≤ a ∧ a < 576
theorem fRA {h h' : Hp} (F : Fr fR h h') : Fr cA h h' := Fr_mo F (fun a k z => Or.inr ⟨by have := z.1; omega, by have := z.2; omega⟩)
theorem sh_row {h : Hp} (S : Sh h) {a : Nat} (ha : a < 5) : ab_R h 18 a = some (19 + a) ∧ ab_K h (19 + a) = 13 ∧ ab_L h (19 + a) = 5 := by
  have t := (by decide +kernel : ∀ a, a < 5 → tR 18 a = some (19 + a) ∧ tK (19 + a) = 13 ∧ tL (19 + a) = 5) a ha
  exact ⟨S.2.2 _ _ _ t.1, (S.1 _ (by omega)).trans t.2.1, (S.2.1 _ (by omega)).trans t.2.2⟩
theorem pbit {p x : Nat} (hp : p < 32) (hx : x < 5) : p ||| 2 ^ x < 32 := Nat.or_lt_two_pow (n := 5) hp (Nat.pow_lt_pow_right (by decide) hx)
section RK
variable {d : Nat} {h : Hp} {Q : Option Value → Hp → Prop} {s : Sv}
theorem oc_upsetsOf (hd : 1 ≤ d) (S : Sh h) {bt f : Nat → Nat} {x n : Nat} (hx : x < 5) (hn : n ≤ 5) (hb : ∀ j, j < 5 → ab_I h (19 + x) j = nI (bt (5 * x + j))) (hf : ∀ j, f j < 5) (hp : ∀ j, j < n → ab_I h 574 j = nI (f j)) (hq : Q (some (.int (nI (uO bt x f n)))) h) : ab_Ok d n_X5_upsetsOf [.ref 573, .ref (19 + x), .int (nI n)] h Q := by
  obtain ⟨r1, k1, l1⟩ := sh_row S hx
  refine ab_go mr_X5_upsetsOf rfl (by omega) (fun call W hc hW => ?_); (conv => whnf)
  have lp : ∀ r i, i + r = n → W 5 [.ref 573, .ref (19 + x), .int (nI n), .int (nI (uO bt x f i)), .int (nI i)] h 0 0 := by
    intro r
    induction r with
    | zero =>
      intro i e
      obtain rfl : i = n := by omega
      refine hW _ _ _ _ _ ?_
      (conv => whnf)
      refine bT (nI_le (Nat.le_refl _) (by omega)) ?_
      (conv => whnf)
      exact hq
    | succ r ih =>
      intro i e
      have v := hp i (by omega)
      have vf := hf i
      have w := hb (f i) vf
      refine hW _ _ _ _ _ ?_
      (conv => whnf)
      refine bF (nI_ge (by omega) (by omega)) ?_
      (conv => whnf)
      refine ⟨S.1 573 (by decide), 574, S.2.2 _ _ _ rfl, ?_⟩
      (conv => whnf)
      refine ⟨S.1 574 (by decide), vin _ (S.2.1 574 (by decide)) (by show i < 5; omega) (by decide), ?_⟩
      (conv => whnf)
      rw [nI_clamp (by omega), v]
      refine ⟨k1, vin _ l1 vf (by decide), ?_⟩
      (conv => whnf)
      rw [nI_clamp (by omega), w, nI_add (uO bt x f i)]
      exact W_h rfl (by (try simp (disch := omega) only [nI_add, Nat.add_zero]) <;> rfl) (ih (i + 1) (by omega))
  exact lp n 0 (by omega)
theorem oc_place {bt : Nat → Nat} {n : Nat} (hn : n ≤ 5) (hb9 : ∀ k, k < 25 → bt k ≤ 99) : ∀ (m d : Nat) (h : Hp) (Q : Option Value → Hp → Prop) (f : Nat → Nat) (p u : Nat) (st : RS), m ≤ n → m + 2 ≤ d → Sh h → (∀ x j, x < 5 → j < 5 → ab_I h (19 + x) j = nI (bt (5 * x + j))) → (∀ j, f j < 5) → p < 32 → u ≤ 495 * (n - m) → st.1 ≤ 1000000 → ab_I h 573 1 = nI n → ab_I h 573 3 = nI st.1 → (∀ j, j < n - m → ab_I h 574 j = nI (f j)) → (st.1 < 1000000 → ∀ j, j < n → ab_I h 575 j = nI (st.2 j)) → (∀ h', ab_I h' 573 3 = nI (rD bt n m f p u st).1 → (∀ j, j < n - m → ab_I h' 574 j = nI (f j)) → ((rD bt n m f p u st).1 < 1000000 → ∀ j, j < n → ab_I h' 575 j = nI ((rD bt n m f p u st).2 j)) → ab_I h' 573 1 = nI n → Fr fR h h' → Q none h') → ab_Ok d n_X5_place [.ref 573, .ref 18, .int (nI (n - m)), .int (nI p), .int (nI u)] h Q := by
  intro m
  induction m with
  | zero =>
    intro d h Q f p u st _ hd S hb hf hp hu hL c1 c3 c4 c5 hq
    have e : rD bt n 0 f p u st = if st.1 ≤ u then st else (u, f) := rfl
    rw [e] at hq
    clear e
    refine ab_go mr_X5_place rfl (by omega) (fun call W hc hW => ?_); (conv => whnf)
    refine ⟨S.1 573 (by decide), ?_⟩
    (conv => whnf)
    rw [c3]
    refine ⟨fun g => ?_, fun g => ?_⟩ <;> rw [nI_ltI (by omega) (by omega)] at g <;> (conv => whnf)
    · rw [if_neg (by omega)] at hq
      refine ⟨S.1 573 (by decide), ?_⟩
      (conv => whnf)
      rw [c1]
      refine bF (by rw [nI_ltI (by omega) (by omega)]; omega) ?_
      (conv => whnf)
      refine ⟨S.1 573 (by decide), ?_⟩
      (conv => whnf)
      obtain ⟨h1, e1⟩ : ∃ h1, h1 = ab_sI h 573 3 (nI u) := ⟨_, rfl⟩
      have F1 : Fr fR h h1 := by rw [e1]; exact Fr_sI ⟨by omega, by omega⟩
      have S1 := Fr_Sh F1 S
      have d3 : ab_I h1 573 3 = nI u := by rw [e1, rI_s]
      have d1 : ab_I h1 573 1 = nI n := by rw [e1, rI_k _ _ _ (by decide)]; exact c1
      have d4 : ab_I h1 574 = ab_I h 574 := by rw [e1]; exact funext fun j => rI_a _ _ _ _ (by decide)
      rw [← e1]
      clear e1
      refine ⟨S1.1 573 (by decide), 574, S1.2.2 _ _ _ rfl, ?_⟩
      (conv => whnf)
      refine ⟨S1.1 573 (by decide), 575, S1.2.2 _ _ _ rfl, ?_⟩
      (conv => whnf)
      refine ⟨S1.1 573 (by decide), ?_⟩
      (conv => whnf)
      rw [d1]
      refine ⟨S1.1 574 (by decide), S1.1 575 (by decide), by decide, by decide, ?_, ?_, ?_, ?_⟩
      · rw [z0, nI_ltI (by omega) (by omega)]; omega
      · rw [nI_clamp (by omega), nI_clamp (by omega), S1.2.1 574 (by decide)]; show 0 + n ≤ 5; omega
      · rw [nI_clamp (by omega), nI_clamp (by omega), S1.2.1 575 (by decide)]; show 0 + n ≤ 5; omega
      · (conv => whnf)
        rw [nI_clamp (by omega), nI_clamp (by omega), d4]
        refine hq _ ?_ (fun j hj => ?_) (fun _ j hj => ?_) ?_ (Fr_tr F1 (Fr_sA (fun k => Or.inl ⟨by omega, by omega⟩)))
        · rw [rA_a _ _ (by decide)]; exact d3
        · rw [rA_a _ _ (by decide), d4]; exact c4 j hj
        · rw [rA_s]
          show (if 0 ≤ j ∧ j < 0 + n then ab_I h 574 (0 + (j - 0)) else ab_I h1 575 j) = nI (f j)
          rw [if_pos ⟨by omega, by omega⟩, show 0 + (j - 0) = j by omega]
          exact c4 j hj
        · rw [rA_a _ _ (by decide)]; exact d1
    · rw [if_pos (by omega)] at hq
      exact hq h c3 c4 c5 c1 Fr_re
  | succ m ihm =>
    intro d h Q f p u st hm hd S hb hf hp hu hL c1 c3 c4 c5 hq
    have e : rD bt n (m + 1) f p u st = if st.1 ≤ u then st else itr (fun x st => if p / 2 ^ x % 2 = 0 then rD bt n m (va_up f (n - (m + 1)) x) (p ||| 2 ^ x) (u + uO bt x f (n - (m + 1))) st else st) n st := rfl
    rw [e] at hq
    clear e
    refine ab_go mr_X5_place rfl (by omega) (fun call W hc hW => ?_); (conv => whnf)
    refine ⟨S.1 573 (by decide), ?_⟩
    (conv => whnf)
    rw [c3]
    refine ⟨fun g => ?_, fun g => ?_⟩ <;> rw [nI_ltI (by omega) (by omega)] at g <;> (conv => whnf)
    · rw [if_neg (by omega)] at hq
      obtain ⟨gg, eg⟩ : ∃ gg : Nat → RS → RS, gg = fun x st => if p / 2 ^ x % 2 = 0 then rD bt n m (va_up f (n - (m + 1)) x) (p ||| 2 ^ x) (u + uO bt x f (n - (m + 1))) st else st := ⟨_, rfl⟩
      rw [← eg] at hq
      have gle : ∀ x st, (gg x st).1 ≤ st.1 := by
        intro x st
        rw [eg]
        show (if p / 2 ^ x % 2 = 0 then rD bt n m (va_up f (n - (m + 1)) x) (p ||| 2 ^ x) (u + uO bt x f (n - (m + 1))) st else st).1 ≤ st.1
        split
        · exact rD_le bt n m _ _ _ _
        · exact Nat.le_refl _
      have lp : ∀ r x h', x + r = n → ab_I h' 573 1 = nI n → ab_I h' 573 3 = nI (itr gg x st).1 → (∀ j, j < n - (m + 1) → ab_I h' 574 j = nI (f j)) → ((itr gg x st).1 < 1000000 → ∀ j, j < n → ab_I h' 575 j = nI ((itr gg x st).2 j)) → Fr fR h h' → W 45 [.ref 573, .ref 18, .int (nI (n - (m + 1))), .int (nI p), .int (nI u), .int (nI x)] h' 0 0 := by
        intro r
        induction r with
        | zero =>
          intro x h' ex d1 d3 d4 d5 F'
          obtain rfl : x = n := by omega
          have S' := Fr_Sh F' S
          refine hW _ _ _ _ _ ?_
          (conv => whnf)
          refine ⟨S'.1 573 (by decide), ?_⟩
          (conv => whnf)
          rw [d1]
          refine bT (nI_le (Nat.le_refl _) (by omega)) ?_
          (conv => whnf)
          exact hq h' d3 d4 d5 d1 F'
        | succ r ih =>
          intro x h' ex d1 d3 d4 d5 F'
          have S' := Fr_Sh F' S
          have hb' : ∀ x j, x < 5 → j < 5 → ab_I h' (19 + x) j = nI (bt (5 * x + j)) := fun x j hx hj => (F'.2.2.2.2 (19 + x) j (fun w => by have := w.1; omega)).trans (hb x j hx hj)
          have ih := ih (x + 1)
          have e1 : itr gg (x + 1) st = gg x (itr gg x st) := rfl
          have il := itr_le gle x st
          have ub := uO_b (f := f) (x := x) hb9 (by omega) (n - (m + 1)) (fun j _ => hf j)
          obtain ⟨st1, es⟩ : ∃ st1, st1 = itr gg x st := ⟨_, rfl⟩
          rw [e1, ← es] at ih
          rw [← es] at d3 d5 il
          clear e1 es
          have eb : nI p >>> (nI x &&& 31) &&& nI 1 = nI (p / 2 ^ x % 2) := nI_bit (by omega) (by omega)
          have p2 : 2 ^ x ≤ 2 ^ 4 := Nat.pow_le_pow_right (by decide) (by omega)
          have e2 : gg x st1 = if p / 2 ^ x % 2 = 0 then rD bt n m (va_up f (n - (m + 1)) x) (p ||| 2 ^ x) (u + uO bt x f (n - (m + 1))) st1 else st1 := by rw [eg]
          rw [e2] at ih
          have sh2 : nI 1 <<< (nI x &&& 31) = nI (2 ^ x) := by rw [nI_shl (by omega) (by omega), Nat.one_mul]
          have qa : p / 2 ^ x % 2 < 2 := Nat.mod_lt _ (by decide)
          clear hq eg e2
          refine hW _ _ _ _ _ ?_
          (conv => whnf)
          refine ⟨S'.1 573 (by decide), ?_⟩
          (conv => whnf)
          rw [d1]
          refine bF (nI_ge (by omega) (by omega)) ?_
          (conv => whnf)
          rw [eb]
          refine ⟨fun w => ?_, fun w => ?_⟩ <;> rw [← nI_0, nI_eq (by omega) (by omega)] at w <;> (conv => whnf)
          · rw [if_neg w] at ih
            exact W_h rfl (by (try simp (disch := omega) only [nI_add, Nat.add_zero]) <;> rfl) (ih h' (by omega) d1 d3 d4 d5 F')
          · rw [if_pos w] at ih
            refine ⟨S'.1 573 (by decide), 574, S'.2.2 _ _ _ rfl, ?_⟩
            (conv => whnf)
            refine ⟨S'.1 574 (by decide), vin _ (S'.2.1 574 (by decide)) (by show n - (m + 1) < 5; omega) (by decide), ?_⟩
            (conv => whnf)
            rw [nI_clamp (by omega)]
            obtain ⟨h1, e1⟩ : ∃ h1, h1 = ab_sI h' 574 (n - (m + 1)) (nI x) := ⟨_, rfl⟩
            have F1 : Fr fR h' h1 := by rw [e1]; exact Fr_sI ⟨by omega, by omega⟩
            have S1 := Fr_Sh F1 S'
            have hb1 : ∀ x j, x < 5 → j < 5 → ab_I h1 (19 + x) j = nI (bt (5 * x + j)) := fun x j hx hj => (F1.2.2.2.2 (19 + x) j (fun w => by have := w.1; omega)).trans (hb' x j hx hj)
            have t1 : ab_I h1 573 1 = nI n := by rw [e1, rI_a _ _ _ _ (by decide)]; exact d1
            have t3 : ab_I h1 573 3 = nI st1.1 := by rw [e1, rI_a _ _ _ _ (by decide)]; exact d3
            have t4 : ∀ j, j < n - (m + 1) → ab_I h1 574 j = nI (f j) := fun j hj => by rw [e1, rI_k _ _ _ (by omega)]; exact d4 j hj
            have t4' : ∀ j, j < n - m → ab_I h1 574 j = nI (va_up f (n - (m + 1)) x j) := by
              intro j hj
              by_cases ej : j = n - (m + 1)
              · rw [ej, up_s, e1, rI_s]
              · rw [up_n _ _ ej]
                exact t4 j (by omega)
            have t5 : st1.1 < 1000000 → ∀ j, j < n → ab_I h1 575 j = nI (st1.2 j) := fun w j hj => by rw [e1, rI_a _ _ _ _ (by decide)]; exact d5 w j hj
            rw [← e1]
            clear e1
            obtain ⟨r1, k1, l1⟩ := sh_row S1 (by omega : x < 5)
            refine ⟨S1.1 18 (by decide), vin _ (S1.2.1 18 (by decide)) (by show x < 5; omega) (by decide), ?_⟩
            (conv => whnf)
            rw [nI_clamp (by omega)]
            refine ⟨fun n => by rw [r1] at n; (cases n), fun y hy => ?_⟩
            rw [r1] at hy
            obtain rfl : 19 + x = y := Option.some.inj hy
            (conv => whnf)
            refine ⟨S1.1 573 (by decide), ?_⟩
            refine hc _ _ _ _ (oc_upsetsOf (by omega) S1 (by omega) (by omega) (fun j hj => hb1 x j (by omega) hj) hf t4 ?_)
            (conv => whnf)
            refine ⟨S1.1 573 (by decide), ?_⟩
            rw [nI_add, nI_add, sh2, fa_or, show n - (m + 1) + 1 = n - m by omega]
            refine hc _ _ _ _ (ihm _ h1 _ (va_up f (n - (m + 1)) x) (p ||| 2 ^ x) (u + uO bt x f (n - (m + 1))) st1 (by omega) (by omega) S1 hb1 (fun j => ?_) (pbit hp (by omega)) (by omega) (by omega) t1 t3 t4' t5 (fun h2 y3 y4 y5 y1 F2 => ?_))
            · by_cases ej : j = n - (m + 1)
              · rw [ej, up_s]; omega
              · rw [up_n _ _ ej]; exact hf j
            · (conv => whnf)
              refine W_h rfl (by (try simp (disch := omega) only [nI_add, Nat.add_zero]) <;> rfl) (ih h2 (by omega) y1 y3 (fun j hj => ?_) y5 (Fr_tr F' (Fr_tr F1 F2)))
              rw [y4 j (by omega), up_n _ _ (by omega)]
      refine ⟨S.1 573 (by decide), ?_⟩
      (conv => whnf)
      rw [c1]
      refine bT (by rw [nI_ltI (by omega) (by omega)]; omega) ?_
      (conv => whnf)
      exact lp n 0 h (by omega) c1 c3 c4 c5 Fr_re
    · rw [if_pos (by omega)] at hq
      exact hq h c3 c4 c5 c1 Fr_re
theorem oc_findR (hd : 8 ≤ d) (S : Sh h) {bt : Nat → Nat} {n : Nat} (hn : n ≤ 5) (hb9 : ∀ k, k < 25 → bt k ≤ 99) (hb : ∀ x j, x < 5 → j < 5 → ab_I h (19 + x) j = nI (bt (5 * x + j))) (hq : ∀ h', ab_I h' 573 3 = nI (rD bt n n (fun _ => 0) 0 0 (1000000, fun _ => 0)).1 → ((rD bt n n (fun _ => 0) 0 0 (1000000, fun _ => 0)).1 < 1000000 → ∀ j, j < n → ab_I h' 575 j = nI ((rD bt n n (fun _ => 0) 0 0 (1000000, fun _ => 0)).2 j)) → Fr fR h h' → Q none h') : ab_Ok d n_X5_find [.ref 573, .ref 18, .int (nI n)] h Q := by
  refine ab_go mr_X5_find rfl (by omega) (fun call W hc hW => ?_); (conv => whnf)
  refine ⟨S.1 573 (by decide), ?_⟩
  (conv => whnf)
  refine ⟨(Fr_Sh (Fr_sI (P := fR) ⟨by omega, by omega⟩) S).1 573 (by decide), ?_⟩
  (conv => whnf)
  obtain ⟨h1, e1⟩ : ∃ h1, h1 = ab_sI (ab_sI h 573 1 (nI n)) 573 3 (nI 1000000) := ⟨_, rfl⟩
  have F1 : Fr fR h h1 := by rw [e1]; exact Fr_tr (Fr_sI ⟨by omega, by omega⟩) (Fr_sI ⟨by omega, by omega⟩)
  have S1 := Fr_Sh F1 S
  have d3 : ab_I h1 573 3 = nI 1000000 := by rw [e1, rI_s]
  have d1 : ab_I h1 573 1 = nI n := by rw [e1, rI_k _ _ _ (by decide), rI_s]
  rw [← e1]
  clear e1
  refine ⟨S1.1 573 (by decide), ?_⟩
  refine cl hc (oc_place hn hb9 n _ h1 _ (fun _ => 0) 0 0 (1000000, fun _ => 0) (Nat.le_refl _) (by omega) S1 (fun x j hx hj => (F1.2.2.2.2 (19 + x) j (fun w => by have := w.1; omega)).trans (hb x j hx hj)) (fun _ => by decide) (by decide) (Nat.zero_le _) (Nat.le_refl _) d1 d3 (fun j hj => by omega) (fun w => absurd w (by show ¬ (1000000 : Nat) < 1000000; omega)) (fun h2 y3 _ y5 _ F2 => ?_)) (by rw [Nat.sub_self])
  (conv => whnf)
  exact hq h2 y3 y5 (Fr_tr F1 F2)
theorem oc_ranking (hd : 10 ≤ d) (S : Sh h) (C : CR h 7 16 29 37 s) (B : WF s) (x : Int32) (hy : ∀ q, q ≤ s 18 0 → x = nI q - 1 → ∀ h', CR h' 7 16 29 37 s → Fr cA h h' → Q (some (.int (if q = 0 then nI (rkS s).1 else nI ((rkS s).2 (q - 1))))) h') (hn : (∀ q, q ≤ s 18 0 → x ≠ nI q - 1) → Q (some (.int (-2))) h) : ab_Ok d n_X11_ranking [.ref 5, .int x] h Q := by
  have b0 := (wb_n B).1
  have n0 := c_n0 C
  have b9 : ∀ k, k < 25 → s 12 k ≤ 99 := fun k hk => wb_bea B hk
  have rl := rk_lt b0 b9
  have re : rD (s 12) (s 18 0) (s 18 0) (fun _ => 0) 0 0 (1000000, fun _ => 0) = rkS s := rD_f (s 12) (s 18 0) (s 18 0) (fun _ => 0) 0 0 (1000000, fun _ => 0) (Nat.le_refl _) (by rw [Nat.sub_self]; rfl)
  refine ab_go mr_X11_ranking rfl (by omega) (fun call W hc hW => ?_); (conv => whnf)
  (repeat (first | (refine And.intro (by (first | assumption | exact (show Sh _ from by assumption).1 _ (by decide) | exact Or.inl rfl | exact Or.inr rfl | exact Nat.le_of_ble_eq_true rfl)) ?_; (conv => whnf)) | (refine Exists.intro _ (And.intro (by (first | assumption | exact (show Sh _ from by assumption).2.2 _ _ _ rfl)) ?_); (conv => whnf)) | (refine bF (nI_ne0 (by decide) (by decide)) ?_; (conv => whnf)) | (refine bT nI_0 ?_; (conv => whnf)) | (refine bN (nI_ne0 (by decide) (by decide)) ?_; (conv => whnf)) | (refine bP nI_0 ?_; (conv => whnf)) | (refine And.intro (by (first | ((with_reducible show vp_in (nI _) _); first | exact vin _ (by assumption) (by omega) (by omega) | exact vin _ ((show Sh _ from by assumption).2.1 _ (by decide)) (by ((conv => rhs; whnf); (show _ < @OfNat.ofNat Nat _ (instOfNatNat _)); omega)) (by decide)) | (simp only [nI_add, pk_mul]; (with_reducible show vp_in (nI _) _); first | exact vin _ (by assumption) (by omega) (by omega) | exact vin _ ((show Sh _ from by assumption).2.1 _ (by decide)) (by ((conv => rhs; whnf); (show _ < @OfNat.ofNat Nat _ (instOfNatNat _)); omega)) (by decide)) | (simp (disch := omega) only [nI_add, pk_mul, ofN, Nat.add_zero, nI_clamp, nI_leI, nI_ltI, nI_eq, nI_add, rI_s, rI_k, rI_a]; (with_reducible show vp_in (nI _) _); first | exact vin _ (by assumption) (by omega) (by omega) | exact vin _ ((show Sh _ from by assumption).2.1 _ (by decide)) (by ((conv => rhs; whnf); (show _ < @OfNat.ofNat Nat _ (instOfNatNat _)); omega)) (by decide)))) ?_; (conv => whnf))))
  rw [n0]
  refine hc _ _ _ _ (ok_wiM (by omega) (s 18 0) x (by omega) (fun q q1 eq => ?_) (fun e => ?_)) <;> (conv => whnf) <;> (repeat (first | (refine And.intro (by (first | assumption | exact (show Sh _ from by assumption).1 _ (by decide) | exact Or.inl rfl | exact Or.inr rfl | exact Nat.le_of_ble_eq_true rfl)) ?_; (conv => whnf)) | (refine Exists.intro _ (And.intro (by (first | assumption | exact (show Sh _ from by assumption).2.2 _ _ _ rfl)) ?_); (conv => whnf)) | (refine bF (nI_ne0 (by decide) (by decide)) ?_; (conv => whnf)) | (refine bT nI_0 ?_; (conv => whnf)) | (refine bN (nI_ne0 (by decide) (by decide)) ?_; (conv => whnf)) | (refine bP nI_0 ?_; (conv => whnf)) | (refine And.intro (by (first | ((with_reducible show vp_in (nI _) _); first | exact vin _ (by assumption) (by omega) (by omega) | exact vin _ ((show Sh _ from by assumption).2.1 _ (by decide)) (by ((conv => rhs; whnf); (show _ < @OfNat.ofNat Nat _ (instOfNatNat _)); omega)) (by decide)) | (simp only [nI_add, pk_mul]; (with_reducible show vp_in (nI _) _); first | exact vin _ (by assumption) (by omega) (by omega) | exact vin _ ((show Sh _ from by assumption).2.1 _ (by decide)) (by ((conv => rhs; whnf); (show _ < @OfNat.ofNat Nat _ (instOfNatNat _)); omega)) (by decide)) | (simp (disch := omega) only [nI_add, pk_mul, ofN, Nat.add_zero, nI_clamp, nI_leI, nI_ltI, nI_eq, nI_add, rI_s, rI_k, rI_a]; (with_reducible show vp_in (nI _) _); first | exact vin _ (by assumption) (by omega) (by omega) | exact vin _ ((show Sh _ from by assumption).2.1 _ (by decide)) (by ((conv => rhs; whnf); (show _ < @OfNat.ofNat Nat _ (instOfNatNat _)); omega)) (by decide)))) ?_; (conv => whnf))))
  · have hyq := hy q q1 eq
    clear hy hn
    rw [n0]
    refine hc _ _ _ _ (oc_findR (by omega) S b0 b9 (fun x j hx hj => c_bea C hx hj) (fun h1 r1 r2 F1 => ?_))
    rw [re] at r1 r2
    have r2 := r2 rl
    have S1 := Fr_Sh F1 S
    have C1 : CR h1 7 16 29 37 s := CR_I C (fun a k ha => F1.2.2.2.2 a k (fun w => by have := w.1; have := w.2; omega))
    have hyq := hyq h1 C1 (fRA F1)
    (conv => whnf)
    subst eq
    refine ⟨fun f => ?_, fun f => ?_⟩ <;> rw [nm_none (by omega)] at f <;> (conv => whnf)
    · rw [if_neg f] at hyq
      rw [nm_pos (by omega)]
      (repeat (first | (refine And.intro (by (first | assumption | exact (show Sh _ from by assumption).1 _ (by decide) | exact Or.inl rfl | exact Or.inr rfl | exact Nat.le_of_ble_eq_true rfl)) ?_; (conv => whnf)) | (refine Exists.intro _ (And.intro (by (first | assumption | exact (show Sh _ from by assumption).2.2 _ _ _ rfl)) ?_); (conv => whnf)) | (refine bF (nI_ne0 (by decide) (by decide)) ?_; (conv => whnf)) | (refine bT nI_0 ?_; (conv => whnf)) | (refine bN (nI_ne0 (by decide) (by decide)) ?_; (conv => whnf)) | (refine bP nI_0 ?_; (conv => whnf)) | (refine And.intro (by (first | ((with_reducible show vp_in (nI _) _); first | exact vin _ (by assumption) (by omega) (by omega) | exact vin _ ((show Sh _ from by assumption).2.1 _ (by decide)) (by ((conv => rhs; whnf); (show _ < @OfNat.ofNat Nat _ (instOfNatNat _)); omega)) (by decide)) | (simp only [nI_add, pk_mul]; (with_reducible show vp_in (nI _) _); first | exact vin _ (by assumption) (by omega) (by omega) | exact vin _ ((show Sh _ from by assumption).2.1 _ (by decide)) (by ((conv => rhs; whnf); (show _ < @OfNat.ofNat Nat _ (instOfNatNat _)); omega)) (by decide)) | (simp (disch := omega) only [nI_add, pk_mul, ofN, Nat.add_zero, nI_clamp, nI_leI, nI_ltI, nI_eq, nI_add, rI_s, rI_k, rI_a]; (with_reducible show vp_in (nI _) _); first | exact vin _ (by assumption) (by omega) (by omega) | exact vin _ ((show Sh _ from by assumption).2.1 _ (by decide)) (by ((conv => rhs; whnf); (show _ < @OfNat.ofNat Nat _ (instOfNatNat _)); omega)) (by decide)))) ?_; (conv => whnf))))
      rw [nI_clamp (by omega), r2 (q - 1) (by omega)]
      exact hyq
    · rw [if_pos f] at hyq
      (repeat (first | (refine And.intro (by (first | assumption | exact (show Sh _ from by assumption).1 _ (by decide) | exact Or.inl rfl | exact Or.inr rfl | exact Nat.le_of_ble_eq_true rfl)) ?_; (conv => whnf)) | (refine Exists.intro _ (And.intro (by (first | assumption | exact (show Sh _ from by assumption).2.2 _ _ _ rfl)) ?_); (conv => whnf)) | (refine bF (nI_ne0 (by decide) (by decide)) ?_; (conv => whnf)) | (refine bT nI_0 ?_; (conv => whnf)) | (refine bN (nI_ne0 (by decide) (by decide)) ?_; (conv => whnf)) | (refine bP nI_0 ?_; (conv => whnf)) | (refine And.intro (by (first | ((with_reducible show vp_in (nI _) _); first | exact vin _ (by assumption) (by omega) (by omega) | exact vin _ ((show Sh _ from by assumption).2.1 _ (by decide)) (by ((conv => rhs; whnf); (show _ < @OfNat.ofNat Nat _ (instOfNatNat _)); omega)) (by decide)) | (simp only [nI_add, pk_mul]; (with_reducible show vp_in (nI _) _); first | exact vin _ (by assumption) (by omega) (by omega) | exact vin _ ((show Sh _ from by assumption).2.1 _ (by decide)) (by ((conv => rhs; whnf); (show _ < @OfNat.ofNat Nat _ (instOfNatNat _)); omega)) (by decide)) | (simp (disch := omega) only [nI_add, pk_mul, ofN, Nat.add_zero, nI_clamp, nI_leI, nI_ltI, nI_eq, nI_add, rI_s, rI_k, rI_a]; (with_reducible show vp_in (nI _) _); first | exact vin _ (by assumption) (by omega) (by omega) | exact vin _ ((show Sh _ from by assumption).2.1 _ (by decide)) (by ((conv => rhs; whnf); (show _ < @OfNat.ofNat Nat _ (instOfNatNat _)); omega)) (by decide)))) ?_; (conv => whnf))))
      rw [r1]
      exact hyq
  · exact hn e
end RK
