/-! ===== contracts: clauses on the class's side (mine) ===== -/
def fCl (a k : Nat) : Prop := (a = 549 ∧ (k = 3 ∨ k = 5 ∨ k = 8 ∨ k = 9 ∨ k = 10)) ∨ (a = 550 ∧ k = 7) ∨ (555 ≤ a ∧ a ≤ 559)
def fCo (a k : Nat) : Prop := (a = 549 ∧ (k = 3 ∨ k = 5 ∨ k = 8)) ∨ (a = 550 ∧ k = 7) ∨ (555 ≤ a ∧ a ≤ 559)
theorem fCoC {h h' : Hp} (F : Fr fCo h h') : Fr fCl h h' := Fr_mo F (fun a k z => by unfold fCo at z; unfold fCl; omega)
/-- the reader holds these clauses and laws -/
def CI (h : Hp) (b : Nat → Nat) (n : Nat) (cls : List CK) (lws : LW) (a i : Nat) : Prop := CT h b n i ∧ ab_I h 549 5 = nI a ∧ ab_I h 549 3 = nI cls.length ∧ (∀ j, j < cls.length → ab_I h 555 j = nI (kc (cls.getD j (0, [])).1) ∧ (cls.getD j (0, [])).2.length ≤ 3 ∧ ∀ u, u < (cls.getD j (0, [])).2.length → ab_I h 556 (3 * j + u) = nI ((cls.getD j (0, [])).2.getD u 0)) ∧ (∀ k, k < 3 → (lws k = none → ab_I h 558 k = -1) ∧ ∀ w r a0 c, lws k = some (w, r, a0, c) → ab_I h 558 k = nI a0 ∧ ab_I h 559 k = nI (a0 + c.length) ∧ Seg h 557 a0 c ∧ a0 + c.length ≤ a)
def FLt (h h' : Hp) (b : Nat → Nat) (n f i : Nat) : Prop := ab_I h' 549 9 = nI f ∧ ab_I h' 549 10 = nI (stP b n i) ∧ Fr fCl h h'
section CCL
variable {d : Nat} {h : Hp} {Q : Option Value → Hp → Prop} {n : Nat} {b : Nat → Nat}
theorem oc_readLaw (hd : 90 ≤ d) (S : Sh h) (hn : n ≤ 300) {k a i : Nat} (hk : k < 3) (hi : i ≤ stL b n) (ha : a ≤ 2 * i) (C : CT h b n i) (c5 : ab_I h 549 5 = nI a) {y : PO} (ey : ps (stT b n) (stV b n) k 4000 3 0 a i = y) (hy : y.1 = 0 → ∀ h', CT h' b n y.2.1 → ab_I h' 549 5 = nI (a + y.2.2.2.length) → ab_I h' 549 3 = ab_I h 549 3 → Seg h' 557 a y.2.2.2 → (∀ j, j < a → ab_I h' 557 j = ab_I h 557 j) → ab_I h' 558 k = nI a → ab_I h' 559 k = nI (a + y.2.2.2.length) → (∀ j, j ≠ k → ab_I h' 558 j = ab_I h 558 j ∧ ab_I h' 559 j = ab_I h 559 j) → (∀ j, ab_I h' 555 j = ab_I h 555 j ∧ ab_I h' 556 j = ab_I h 556 j) → Sh h' → Fr fCo h h' → Q (some (.int (nI 1))) h') (hno : y.1 ≠ 0 → ∀ h', FLt h h' b n y.1 y.2.1 → Sh h' → ab_I h' 549 3 = ab_I h 549 3 → Q (some (.int (nI 0))) h') : ab_Ok d n_X6_readLaw [.ref 549, .int (nI k)] h Q := by
  have ln := stL_n b n
  have A := ps_b (T := stT b n) (V := stV b n) (lw := k) (L := stL b n) (fun i => stT_e b n) 4000 3 0 a i hi (by show 10 * (stL b n - i) + 2 < 4000; omega)
  rw [ey] at A
  refine ab_go mr_X6_readLaw rfl (by omega) (fun call W hc hW => ?_); (conv => whnf)
  refine ⟨S.1 549 (by decide), ?_⟩
  (conv => whnf)
  refine ⟨S.1 549 (by decide), 558, S.2.2 _ _ _ rfl, ?_⟩
  (conv => whnf)
  refine ⟨S.1 549 (by decide), ?_⟩
  (conv => whnf)
  rw [rI_k _ _ _ (by decide), c5]
  refine ⟨S.1 558 (by decide), vin _ (S.2.1 558 (by decide)) (by show k < 3; omega) (by decide), ?_⟩
  (conv => whnf)
  rw [nI_clamp (by omega)]
  obtain ⟨h1, e1⟩ : ∃ h1, h1 = ab_sI (ab_sI h 549 8 (nI k)) 558 k (nI a) := ⟨_, rfl⟩
  have F1 : Fr (fun x j => (x = 549 ∧ j = 8) ∨ (x = 558 ∧ j = k)) h h1 := by rw [e1]; exact Fr_tr (Fr_sI (Or.inl ⟨rfl, rfl⟩)) (Fr_sI (Or.inr ⟨rfl, rfl⟩))
  have S1 := Fr_Sh F1 S
  have G1 : Fr fCo h h1 := Fr_mo F1 (fun x j z => show fCo x j from by unfold fCo; omega)
  have x8 : ab_I h1 549 8 = nI k := by rw [e1, rI_a _ _ _ _ (by decide), rI_s]
  have x58 : ab_I h1 558 k = nI a := by rw [e1, rI_s]
  have g1 : ∀ x j, ¬ ((x = 549 ∧ j = 8) ∨ (x = 558 ∧ j = k)) → ab_I h1 x j = ab_I h x j := F1.2.2.2.2
  have R1 : RD h1 b n k i a := ⟨CT_fr F1 (fun w => by omega) (fun w => by omega) (fun x j h1 h2 w => by omega) C, (g1 _ _ (by omega)).trans c5, x8⟩
  rw [← e1]
  clear e1
  refine ⟨S1.1 549 (by decide), ?_⟩
  have sub := CP_all (b := b) (n := n) (lw := k) hn (by omega) 4000 3 0 a i
  rw [ey] at sub
  refine hc _ _ _ _ (sub _ h1 _ (by unfold ntl; omega) (by omega) hi (by show 10 * (stL b n - i) + 2 < 4000; omega) (by omega) (by show 8 * (8 - 0) + 2 + 10 ≤ _; omega) S1 R1 (fun z h2 A2 => ?_) (fun z h2 L2 => ?_))
  · obtain ⟨R2, sg2, lo2, F2⟩ := A2
    have S2 := Fr_Sh F2 S1
    obtain ⟨q1, q2, q3, q4⟩ := A.1.1 z
    have g2 : ∀ x j, ¬ fRo x j → ab_I h2 x j = ab_I h1 x j := F2.2.2.2.2
    (conv => whnf)
    refine ⟨S2.1 549 (by decide), 559, S2.2.2 _ _ _ rfl, ?_⟩
    (conv => whnf)
    refine ⟨S2.1 549 (by decide), ?_⟩
    (conv => whnf)
    rw [R2.2.1]
    refine ⟨S2.1 559 (by decide), vin _ (S2.2.1 559 (by decide)) (by show k < 3; omega) (by decide), ?_⟩
    (conv => whnf)
    rw [nI_clamp (by omega)]
    have F3 : Fr (fun x j => x = 559 ∧ j = k) h2 (ab_sI h2 559 k (nI (a + y.2.2.2.length))) := Fr_sI ⟨rfl, rfl⟩
    have g3 := F3.2.2.2.2
    have t3 : ∀ x j, x ≠ 559 → ¬ fRo x j → ¬ ((x = 549 ∧ j = 8) ∨ (x = 558 ∧ j = k)) → ab_I (ab_sI h2 559 k (nI (a + y.2.2.2.length))) x j = ab_I h x j := fun x j a1 a2 a3 => (g3 x j (fun w => a1 w.1)).trans ((g2 x j a2).trans (g1 x j a3))
    refine ⟨Or.inr rfl, hy z _ (CT_fr F3 (fun w => by omega) (fun w => by omega) (fun x j h1 h2 w => by omega) R2.1) ((g3 _ _ (fun w => by omega)).trans R2.2.1) (t3 _ _ (by omega) (fun w => by unfold fRo at w; omega) (by omega)) (fun j hj => (g3 _ _ (fun w => by omega)).trans (sg2 j hj)) (fun j hj => (g3 _ _ (fun w => by omega)).trans ((lo2 j hj).trans (g1 _ _ (by omega)))) ((g3 _ _ (fun w => by omega)).trans ((g2 _ _ (fun w => by unfold fRo at w; omega)).trans x58)) (rI_s _ _ _ _) (fun j hj => ⟨t3 _ _ (by omega) (fun w => by unfold fRo at w; omega) (by omega), (g3 _ _ (fun w => hj w.2)).trans ((g2 _ _ (fun w => by unfold fRo at w; omega)).trans (g1 _ _ (by omega)))⟩) (fun j => ⟨t3 _ _ (by omega) (fun w => by unfold fRo at w; omega) (by omega), t3 _ _ (by omega) (fun w => by unfold fRo at w; omega) (by omega)⟩) (Fr_Sh F3 S2) (Fr_tr G1 (Fr_tr (Fr_mo F2 (fun x j w => by unfold fRo at w; unfold fCo; omega)) (Fr_mo F3 (fun x j w => by unfold fCo; omega))))⟩
  · obtain ⟨L1, L2', F2⟩ := L2
    have S2 := Fr_Sh F2 S1
    (conv => whnf)
    refine ⟨S2.1 549 (by decide), 559, S2.2.2 _ _ _ rfl, ?_⟩
    (conv => whnf)
    refine ⟨S2.1 549 (by decide), ?_⟩
    (conv => whnf)
    refine ⟨S2.1 559 (by decide), vin _ (S2.2.1 559 (by decide)) (by show k < 3; omega) (by decide), ?_⟩
    (conv => whnf)
    rw [nI_clamp (by omega)]
    have F3 : Fr (fun x j => x = 559 ∧ j = k) h2 (ab_sI h2 559 k (ab_I h2 549 5)) := Fr_sI ⟨rfl, rfl⟩
    have g3 := F3.2.2.2.2
    refine ⟨Or.inl rfl, hno z _ ⟨(g3 _ _ (fun w => by omega)).trans L1, (g3 _ _ (fun w => by omega)).trans L2', Fr_tr (fCoC G1) (Fr_tr (Fr_mo F2 (fun x j w => by unfold fRd at w; unfold fCl; omega)) (Fr_mo F3 (fun x j w => by unfold fCl; omega)))⟩ (Fr_Sh F3 S2) ((g3 _ _ (fun w => by omega)).trans ((F2.2.2.2.2 _ _ (fun w => by unfold fRd at w; omega)).trans (g1 _ _ (by omega))))⟩
end CCL
