/-! ===== contracts: a law's code is reckoned, on the reference's side (mine) ===== -/
/-- a row of pairs stands in the texts' cell -/
def MSeg (h : Hp) (B i : Nat) (r : List (Nat × Nat)) : Prop := ∀ j, j < r.length → ab_I h 583 (B + 97 + 2 * (i + j)) = nI (r.getD j (0, 0)).1 ∧ ab_I h 583 (B + 97 + 2 * (i + j) + 1) = nI (r.getD j (0, 0)).2
theorem mg_l {h : Hp} {B i : Nat} {r r' : List (Nat × Nat)} (S : MSeg h B i (r ++ r')) : MSeg h B i r := by
  intro j hj
  have := S j (by rw [List.length_append]; omega)
  rw [List.getD_eq_getElem?_getD, List.getElem?_append_left hj, ← List.getD_eq_getElem?_getD] at this
  exact this
theorem mg_r {h : Hp} {B i : Nat} {r r' : List (Nat × Nat)} (S : MSeg h B i (r ++ r')) : MSeg h B (i + r.length) r' := by
  intro j hj
  have := S (r.length + j) (by rw [List.length_append]; omega)
  rw [List.getD_eq_getElem?_getD, List.getElem?_append_right (by omega), show r.length + j - r.length = j by omega, ← List.getD_eq_getElem?_getD, ← Nat.add_assoc] at this
  exact this
theorem mg_0 {h : Hp} {B i : Nat} {x : Nat × Nat} {r : List (Nat × Nat)} (S : MSeg h B i (x :: r)) : ab_I h 583 (B + 97 + 2 * i) = nI x.1 ∧ ab_I h 583 (B + 97 + 2 * i + 1) = nI x.2 := S 0 (Nat.succ_pos _)
theorem rJ_s (h : Hp) (a k : Nat) (v : Int64) : ab_J (ab_sJ h a k v) a k = v := by
  show (if a = a then vp_updL (ab_J h a) k v else ab_J h a) k = v
  rw [if_pos rfl]
  show (if k = k then v else ab_J h a k) = v
  rw [if_pos rfl]
theorem rJ_k (h : Hp) (a : Nat) {k j : Nat} (v : Int64) (e : j ≠ k) : ab_J (ab_sJ h a k v) a j = ab_J h a j := by
  show (if a = a then vp_updL (ab_J h a) k v else ab_J h a) j = _
  rw [if_pos rfl]
  show (if j = k then v else ab_J h a j) = _
  rw [if_neg e]
theorem nI_m1' (k : Nat) : nI (k + 1) + (-1) = nI k := by
  rw [show nI (k + 1) = nI k + nI 1 from (nI_add k 1).symm, Int32.add_assoc, show nI 1 + (-1) = 0 by decide, Int32.add_zero]
theorem nI_m2' (k : Nat) : nI (k + 2) + (-2) = nI k := by
  rw [show nI (k + 2) = nI k + nI 2 from (nI_add k 2).symm, Int32.add_assoc, show nI 2 + (-2) = 0 by decide, Int32.add_zero]
abbrev f88 : Nat → Nat → Prop := fun x _ => x = 588
def MX (x B n q i : Nat) : List Value := [.ref 580, .int (nI x), .int (nI (B + 97)), .int (nI n), .int (nI q), .int (nI i)]
section MSU
variable {d : Nat} {h : Hp} {Q : Option Value → Hp → Prop} {s : Sv}
theorem om_summedUp (hd : 3 ≤ d) (S : Sh h) (M : MS h 581 s) (hw9 : ∀ c, c < 12 → s 10 c ≤ 9) {tt k : Nat} (htt : tt < 4) (hk : k < 24) {a m i0 : Nat} {r : List (Nat × Nat)} {c : List Nat} {v : Vf} (E : EX 0 a r c m v) (x1 : ab_I h 583 (705 * tt + 1 + 4 * k + 1) = nI i0) (x2 : ab_I h 583 (705 * tt + 1 + 4 * k + 2) = nI (i0 + r.length)) (hl : i0 + r.length ≤ 304) (G : MSeg h (705 * tt) i0 r) {e : Nat → Nat} (B : Eb e (s 10)) (hn : ∀ i, i < 10 → ab_I h 586 i = nI (e i)) (hq : ∀ h', Fr f88 h h' → Q (some (.long (lZ (v e (s 10))))) h') : ab_Ok d n_X12_summedUp [.ref 580, .int (nI tt), .int (nI k)] h Q := by
  obtain ⟨en, hen⟩ : ∃ en, en = i0 + r.length := ⟨_, rfl⟩
  obtain ⟨bs, hbs⟩ : ∃ bs, bs = 705 * tt := ⟨_, rfl⟩
  obtain ⟨x, hx⟩ : ∃ x, x = bs + 1 + 4 * k := ⟨_, rfl⟩
  rw [← hbs] at x1 x2 G
  rw [← hx] at x1 x2
  rw [← hen] at x2 hl
  have hB : bs + 705 ≤ 2820 := by omega
  have fi : ∀ {h' : Hp} (F : Fr f88 h h') (x k : Nat), x ≠ 588 → ab_I h' x k = ab_I h x k := fun F x k hx => F.2.2.2.2 x k hx
  refine ab_go mr_X12_summedUp rfl (by omega) (fun call W hc hW => ?_); (conv => whnf)
  have mNum : ∀ n q i y h', Fr f88 h h' → ab_I h 583 (bs + 97 + 2 * i) = nI 0 → ab_I h 583 (bs + 97 + 2 * i + 1) = nI y → y < 2147483648 → i + 1 ≤ en → n < 330 → W 38 (MX x bs (n + 1) q (i + 1)) (ab_sJ h' 587 n (lZ y)) 0 0 → W 38 (MX x bs n q i) h' 0 0 := by
    intro n q i y h' F c1 c2 hy hi hn1 w1
    have he := (fi F 583 (x + 2) (by decide)).trans x2
    have c1' := (fi F 583 _ (by decide)).trans c1
    have c2' := (fi F 583 _ (by decide)).trans c2
    have S1 := Fr_Sh F S
    refine hW _ _ _ _ _ ?_
    (conv => whnf)
    (repeat (first | (refine And.intro (by (first | assumption | exact (show Sh _ from by assumption).1 _ (by decide) | exact Or.inl rfl | exact Or.inr rfl | exact Nat.le_of_ble_eq_true rfl)) ?_; (conv => whnf)) | (refine Exists.intro _ (And.intro (by (first | assumption | exact (show Sh _ from by assumption).2.2 _ _ _ rfl)) ?_); (conv => whnf)) | (refine bF (nI_ne0 (by decide) (by decide)) ?_; (conv => whnf)) | (refine bT nI_0 ?_; (conv => whnf)) | (refine bN (nI_ne0 (by decide) (by decide)) ?_; (conv => whnf)) | (refine bP nI_0 ?_; (conv => whnf)) | (refine And.intro (by (first | ((with_reducible show vp_in (nI _) _); first | exact vin _ (by assumption) (by omega) (by omega) | exact vin _ ((show Sh _ from by assumption).2.1 _ (by decide)) (by ((conv => rhs; whnf); (show _ < @OfNat.ofNat Nat _ (instOfNatNat _)); omega)) (by decide)) | (simp only [nI_add, pk_mul]; (with_reducible show vp_in (nI _) _); first | exact vin _ (by assumption) (by omega) (by omega) | exact vin _ ((show Sh _ from by assumption).2.1 _ (by decide)) (by ((conv => rhs; whnf); (show _ < @OfNat.ofNat Nat _ (instOfNatNat _)); omega)) (by decide)) | (simp (disch := omega) only [nI_add, pk_mul, ofN, Nat.add_zero, nI_clamp, nI_leI, nI_ltI, nI_eq, he, rI_s, rI_k, rI_a]; (with_reducible show vp_in (nI _) _); first | exact vin _ (by assumption) (by omega) (by omega) | exact vin _ ((show Sh _ from by assumption).2.1 _ (by decide)) (by ((conv => rhs; whnf); (show _ < @OfNat.ofNat Nat _ (instOfNatNat _)); omega)) (by decide)))) ?_; (conv => whnf)) | (refine And.intro (by decide) ?_; (conv => whnf)) | (refine bT (by decide) ?_; (conv => whnf)) | (refine bF (by decide) ?_; (conv => whnf)) | (refine bN (by decide) ?_; (conv => whnf)) | (refine bP (by decide) ?_; (conv => whnf)) | (refine bT (by (simp (disch := omega) only [nI_add, pk_mul, ofN, Nat.add_zero, nI_clamp, nI_leI, nI_ltI, nI_eq, he]); first | done | omega) ?_; (conv => whnf)) | (refine bF (by (simp (disch := omega) only [nI_add, pk_mul, ofN, Nat.add_zero, nI_clamp, nI_leI, nI_ltI, nI_eq, he]); first | done | omega) ?_; (conv => whnf)) | (refine bN (by (simp (disch := omega) only [nI_add, pk_mul, ofN, Nat.add_zero, nI_clamp, nI_leI, nI_ltI, nI_eq, he]); first | done | omega) ?_; (conv => whnf)) | (refine bP (by (simp (disch := omega) only [nI_add, pk_mul, ofN, Nat.add_zero, nI_clamp, nI_leI, nI_ltI, nI_eq, he]); first | done | omega) ?_; (conv => whnf))))
    trace_state
    sorry
  sorry
end MSU
