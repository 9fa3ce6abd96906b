/-! ===== contracts: the class reads a text (mine) ===== -/
def fRt (a k : Nat) : Prop := a = 549 ∨ (a = 550 ∧ k ≠ 2) ∨ (552 ≤ a ∧ a ≤ 559)
/-- ints of some old cells may change, new cells may come -/
def FrA (P : Nat → Nat → Prop) (h h' : Hp) : Prop := ab_N h ≤ ab_N h' ∧ ∀ x, x < ab_N h → ab_K h' x = ab_K h x ∧ ab_L h' x = ab_L h x ∧ ab_R h' x = ab_R h x ∧ ∀ k, ¬ P x k → ab_I h' x k = ab_I h x k
theorem FrA_Fr {P : Nat → Nat → Prop} {h h' : Hp} (F : Fr P h h') : FrA P h h' := ⟨by rw [F.2.2.2.1]; exact Nat.le_refl _, fun x _ => ⟨by rw [F.1], by rw [F.2.1], by rw [F.2.2.1], F.2.2.2.2 x⟩⟩
theorem FrA_AL {P : Nat → Nat → Prop} {h h' : Hp} {k l : Nat} {f : Nat → Int32} (A : AL h h' k l f) : FrA P h h' := ⟨by rw [A.1]; omega, fun x hx => by obtain ⟨a1, a2, a3, a4⟩ := A.2.2.2.2 x (by omega); exact ⟨a1, a2, a4, fun k _ => by rw [a3]⟩⟩
theorem FrA_tr {P : Nat → Nat → Prop} {h h1 h2 : Hp} (A : FrA P h h1) (B : FrA P h1 h2) : FrA P h h2 := by
  refine ⟨Nat.le_trans A.1 B.1, fun x hx => ?_⟩
  obtain ⟨a1, a2, a3, a4⟩ := A.2 x hx
  obtain ⟨b1, b2, b3, b4⟩ := B.2 x (Nat.lt_of_lt_of_le hx A.1)
  exact ⟨b1.trans a1, b2.trans a2, b3.trans a3, fun k hk => (b4 k hk).trans (a4 k hk)⟩
section TPE
variable {d : Nat} {h : Hp} {Q : Option Value → Hp → Prop} {n : Nat} {b : Nat → Nat}
theorem oc_readTape (hd : 110 ≤ d) (S : Sh h) (Z : SS h) (hn : n ≤ 300) (P : TP h 550 2 551 n b) (hN : 594 ≤ ab_N h) (hy : (txF b n).1 = 0 → ∀ h1, CI h1 b n (txF b n).2.2.1 (txF b n).2.2.2.1 (txF b n).2.2.2.2.2 (txF b n).2.1 → (txF b n).2.2.1.length ≤ 24 → (txF b n).2.2.2.2.2 ≤ 600 → Fr fRt h h1 → ab_I h1 549 9 = nI 0 → ab_I h1 549 10 = -1 → ∀ h', TO h' (ab_N h) (txF b n).2.2.1.length (txF b n).2.2.2.2.2 → (∀ j, j < (txF b n).2.2.1.length → ab_I h' (ab_N h + 1) j = ab_I h1 555 j) → (∀ j, j < 3 * (txF b n).2.2.1.length → ab_I h' (ab_N h + 2) j = ab_I h1 556 j) → (∀ j, j < (txF b n).2.2.2.2.2 → ab_I h' (ab_N h + 3) j = ab_I h1 557 j) → (∀ j, j < 3 → ab_I h' (ab_N h + 4) j = ab_I h1 558 j) → (∀ j, j < 3 → ab_I h' (ab_N h + 5) j = ab_I h1 559 j) → ab_N h' = ab_N h + 6 → FrA fRt h h' → ab_I h' 549 9 = nI 0 → ab_I h' 549 10 = -1 → Q (some (.ref (ab_N h))) h') (hno : (txF b n).1 ≠ 0 → ∀ h', ab_I h' 549 9 = nI (txF b n).1 → ab_I h' 549 10 = nI (stP b n (txF b n).2.1) → Fr fRt h h' → Q (some .null) h') : ab_Ok d n_X6_readTape [.ref 549] h Q := by
  have ln := stL_n b n
  refine ab_go mr_X6_readTape rfl (by omega) (fun call W hc hW => ?_); (conv => whnf)
  have bad : ∀ k h1, k < 100 → Q (some .null) h1 → W 55 [.ref 549, .int (nI 0), .int (nI k)] h1 0 0 := by
    clear hy hno
    intro k h1 hk q0
    refine hW _ _ _ _ _ ?_
    (conv => whnf)
    refine ⟨fun f => ?_, fun f => ?_⟩ <;> (conv => whnf)
    · refine bP (by decide) ?_
      (conv => whnf)
      exact q0
    · refine bT (by decide) ?_
      (conv => whnf)
      refine bP (by decide) ?_
      (conv => whnf)
      exact q0
  have lp : ∀ q cls lws w a i h', Sh h' → CI h' b n cls lws a i → i ≤ stL b n → a ≤ 2 * i → cls.length ≤ 24 → 25 ≤ q + cls.length → Fr fRt h h' → ab_I h' 549 9 = nI 0 → ab_I h' 549 10 = -1 → txL (stT b n) (stV b n) q cls lws w a i = txF b n → W 55 [.ref 549, .int (nI 1), .int (nI cls.length)] h' 0 0 := by
    intro q
    induction q with
    | zero => intro cls lws w a i h' _ _ _ _ z1 z2; omega
    | succ q ih =>
      intro cls lws w a i h' S' I hi ha hcl hq F' f9 f10 e
      have C := I.1
      have tb' := stT_b b n i
      have CB := cq_b (T := stT b n) (V := stV b n) (L := stL b n) (fun i => stT_e b n) (by omega) cls.length lws a i hi
      have e : (if stT b n i = 131 then (0, i, cls, lws, w, a) else if (cl1 (stT b n) (stV b n) cls.length lws a i).1 ≠ 0 then ((cl1 (stT b n) (stV b n) cls.length lws a i).1, (cl1 (stT b n) (stV b n) cls.length lws a i).2.1, cls, lws, w, a) else txL (stT b n) (stV b n) q (cls ++ [(cl1 (stT b n) (stV b n) cls.length lws a i).2.2.1]) (lwU lws (stT b n i) w (cl1 (stT b n) (stV b n) cls.length lws a i).2.2.2.1 a (cl1 (stT b n) (stV b n) cls.length lws a i).2.2.2.2) (w + (cl1 (stT b n) (stV b n) cls.length lws a i).2.2.2.1.length) (a + (cl1 (stT b n) (stV b n) cls.length lws a i).2.2.2.2.length) (cl1 (stT b n) (stV b n) cls.length lws a i).2.1) = txF b n := e
      refine hW _ _ _ _ _ ?_
      (conv => whnf)
      refine bF (by rw [nI_ltI (by omega) (by omega)]; omega) ?_
      (conv => whnf)
      refine bF (by decide) ?_
      (conv => whnf)
      refine ⟨S'.1 549 (by decide), 550, S'.2.2 _ _ _ rfl, ?_⟩
      (conv => whnf)
      refine ⟨S'.1 550 (by decide), ?_⟩
      refine hc _ _ _ _ (oc_token (by omega) S' hn C ?_)
      (conv => whnf)
      refine ⟨fun z => ?_, fun z => ?_⟩ <;> rw [nI_eq (by omega) (by omega)] at z <;> (conv => whnf)
      · rw [if_pos z] at e
        rw [← e] at hy
        have HY := hy rfl h' I hcl (by show a ≤ 600; omega) F' f9 f10
        clear hy hno ih bad
        refine bN (by decide) ?_
        (conv => whnf)
        sorry
      · rw [if_neg z] at e
        refine ⟨S'.1 549 (by decide), ?_⟩
        refine hc _ _ _ _ (oc_readClause (by omega) S' hn I hi ha hcl z w rfl (fun z2 h2 I2 F2 => ?_) (fun z2 h2 L2 => ?_))
        · rw [if_neg (fun y => y z2)] at e
          obtain ⟨b1, b2, b3, b4⟩ := CB.1 z2
          have c24 := (cl_24 z2).1
          have l1 : (cls ++ [(cl1 (stT b n) (stV b n) cls.length lws a i).2.2.1]).length = cls.length + 1 := by rw [List.length_append]; rfl
          have nxt := ih _ _ _ _ _ h2 (Fr_Sh F2 S') I2 b2 (by omega) (by rw [l1]; omega) (by rw [l1]; omega) (Fr_tr F' (Fr_mo F2 (fun a k z => by unfold fCo at z; unfold fRt; omega))) ((F2.2.2.2.2 549 9 (fun z => by unfold fCo at z; omega)).trans f9) ((F2.2.2.2.2 549 10 (fun z => by unfold fCo at z; omega)).trans f10) e
          rw [l1] at nxt
          (conv => whnf)
          rw [nI_add cls.length 1]
          exact nxt
        · rw [if_pos z2] at e
          rw [← e] at hno
          have q0 := hno z2 h2 L2.1 L2.2.1 (Fr_tr F' (Fr_mo L2.2.2 (fun a k z => by unfold fCl at z; unfold fRt; omega)))
          (conv => whnf)
          rw [nI_add cls.length 1]
          exact bad (cls.length + 1) h2 (by omega) q0
  clear hy hno bad
  refine ⟨S.1 549 (by decide), ?_⟩
  (conv => whnf)
  refine ⟨S.1 549 (by decide), ?_⟩
  (conv => whnf)
  refine ⟨S.1 549 (by decide), ?_⟩
  (conv => whnf)
  refine ⟨S.1 549 (by decide), ?_⟩
  (conv => whnf)
  obtain ⟨h1, e1⟩ : ∃ h1, h1 = ab_sI (ab_sI (ab_sI (ab_sI h 549 9 (nI 0)) 549 10 (-1)) 549 3 (nI 0)) 549 5 (nI 0) := ⟨_, rfl⟩
  have F1 : Fr fRt h h1 := by rw [e1]; exact Fr_tr (Fr_sI (Or.inl rfl)) (Fr_tr (Fr_sI (Or.inl rfl)) (Fr_tr (Fr_sI (Or.inl rfl)) (Fr_sI (Or.inl rfl))))
  have S1 := Fr_Sh F1 S
  have x9 : ab_I h1 549 9 = nI 0 := by rw [e1, rI_k _ _ _ (by decide), rI_k _ _ _ (by decide), rI_k _ _ _ (by decide), rI_s]
  have x10 : ab_I h1 549 10 = -1 := by rw [e1, rI_k _ _ _ (by decide), rI_k _ _ _ (by decide), rI_s]
  have x3 : ab_I h1 549 3 = nI 0 := by rw [e1, rI_k _ _ _ (by decide), rI_s]
  have x5 : ab_I h1 549 5 = nI 0 := by rw [e1, rI_s]
  rw [← e1]
  clear e1
  refine ⟨S1.1 549 (by decide), 556, S1.2.2 _ _ _ rfl, ?_⟩
  (conv => whnf)
  refine hc _ _ _ _ (ok_fill (by omega) (n := 72) (nI 0) (S1.1 556 (by decide)) ((S1.2.1 556 (by decide)).trans (by decide +kernel)) (by decide) ?_)
  (conv => whnf)
  refine ⟨S1.1 549 (by decide), 558, S1.2.2 _ _ _ rfl, ?_⟩
  (conv => whnf)
  refine hc _ _ _ _ (ok_fill (by omega) (n := 3) (-1) (S1.1 558 (by decide)) ((S1.2.1 558 (by decide)).trans (by decide +kernel)) (by decide) ?_)
  (conv => whnf)
  refine ⟨S1.1 549 (by decide), 559, S1.2.2 _ _ _ rfl, ?_⟩
  (conv => whnf)
  refine hc _ _ _ _ (ok_fill (by omega) (n := 3) (nI 0) (S1.1 559 (by decide)) ((S1.2.1 559 (by decide)).trans (by decide +kernel)) (by decide) ?_)
  (conv => whnf)
  sorry
end TPE
