/-! ===== contracts: a text on the reference's side (mine) ===== -/
/-- what is read of a tape -/
def txF (b : Nat → Nat) (n : Nat) : TR1 := txL (stT b n) (stV b n) 30 [] (fun _ => none) 0 0 0
section MTX
variable {d : Nat} {h : Hp} {Q : Option Value → Hp → Prop} {n : Nat} {b : Nat → Nat} {s : Sv}
theorem om_readText (hd : 17 ≤ d) (S : Sh h) (hn : n ≤ 300) (M : MS h 581 s) (ht : s 18 2 ≤ 3) (P : TP h 580 4 584 n b) (hy : (txF b n).1 = 0 → ∀ h', MI h' b n (705 * s 18 2) (txF b n).2.2.1 (txF b n).2.2.2.1 (txF b n).2.2.2.2.1 (txF b n).2.1 → (txF b n).2.2.1.length ≤ 24 → (txF b n).2.2.2.2.1 ≤ 300 → Fr (fun a k => fMt (705 * s 18 2) a k ∨ (a = 580 ∧ k = 12)) h h' → Q (some (.int (nI 0))) h') (hno : (txF b n).1 ≠ 0 → ∀ h', MT h' b n (txF b n).2.1 → Fr (fun a k => fMt (705 * s 18 2) a k ∨ (a = 580 ∧ k = 12)) h h' → (txF b n).1 ≤ 6 → Q (some (.int (nI (txF b n).1))) h') : ab_Ok d n_X12_readText [.ref 580] h Q := by
  have ln := stL_n b n
  have n2 := ms_n2 M
  obtain ⟨B, eB⟩ : ∃ B, B = 705 * s 18 2 := ⟨_, rfl⟩
  have hB : B ≤ 2115 := by omega
  rw [← eB] at hy hno
  refine ab_go mr_X12_readText rfl (by omega) (fun call W hc hW => ?_); (conv => whnf)
  have lp : ∀ q cls lws w a i h', Sh h' → MI h' b n B cls lws w i → i ≤ stL b n → w ≤ i → cls.length ≤ 24 → 25 ≤ q + cls.length → Fr (fun a k => fMt B a k ∨ (a = 580 ∧ k = 12)) h h' → txL (stT b n) (stV b n) q cls lws w a i = txF b n → W 43 [.ref 580] h' 0 0 := by
    intro q
    induction q with
    | zero => intro cls lws w a i h' _ _ _ _ z1 z2; omega
    | succ q ih =>
      intro cls lws w a i h' S' I hi hw hcl hq F' e
      have T := I.1
      obtain ⟨_, _, _, k0, _⟩ := RT_c T.2.2.2
      have CB := cq_b (T := stT b n) (V := stV b n) (L := stL b n) (fun i => stT_e b n) (by omega) cls.length lws a i hi
      have e : (if stT b n i = 131 then (0, i, cls, lws, w, a) else if (cl1 (stT b n) (stV b n) cls.length lws a i).1 ≠ 0 then ((cl1 (stT b n) (stV b n) cls.length lws a i).1, (cl1 (stT b n) (stV b n) cls.length lws a i).2.1, cls, lws, w, a) else txL (stT b n) (stV b n) q (cls ++ [(cl1 (stT b n) (stV b n) cls.length lws a i).2.2.1]) (lwU lws (stT b n i) w (cl1 (stT b n) (stV b n) cls.length lws a i).2.2.2.1 a (cl1 (stT b n) (stV b n) cls.length lws a i).2.2.2.2) (w + (cl1 (stT b n) (stV b n) cls.length lws a i).2.2.2.1.length) (a + (cl1 (stT b n) (stV b n) cls.length lws a i).2.2.2.2.length) (cl1 (stT b n) (stV b n) cls.length lws a i).2.1) = txF b n := e
      refine hW _ _ _ _ _ ?_
      (conv => whnf)
      refine ⟨S'.1 580 (by decide), ?_⟩
      (conv => whnf)
      by_cases z : stT b n i = 131
      · rw [if_pos z] at e
        rw [← e] at hy
        refine bT (by rw [← nI_0]; exact k0.mpr z) ?_
        (conv => whnf)
        exact hy rfl h' I hcl (by show w ≤ 300; omega) F'
      · rw [if_neg z] at e
        refine bF (fun y => z (k0.mp (by rw [y]; rfl))) ?_
        (conv => whnf)
        refine ⟨S'.1 580 (by decide), ?_⟩
        refine hc _ _ _ _ (om_clause (by omega) S' hn hB I hi hw hcl a rfl (fun z2 h2 I2 F2 => ?_) (fun z2 h2 T2 F2 => ?_))
        · rw [if_neg (fun y => y z2)] at e
          obtain ⟨b1, b2, b3, b4⟩ := CB.1 z2
          have c24 := (cl_24 z2).1
          have l1 : (cls ++ [(cl1 (stT b n) (stV b n) cls.length lws a i).2.2.1]).length = cls.length + 1 := by rw [List.length_append]; rfl
          have nxt := ih _ _ _ _ _ h2 (Fr_Sh F2 S') I2 b2 (by omega) (by rw [l1]; omega) (by rw [l1]; omega) (Fr_tr F' (Fr_mo F2 (fun a k z => Or.inl z))) e
          (conv => whnf)
          refine bT (by decide) ?_
          (conv => whnf)
          exact nxt
        · rw [if_pos z2] at e
          obtain ⟨b1, b2⟩ := CB.2 z2
          rw [← e] at hno
          have q0 := hno z2 h2 T2 (Fr_tr F' (Fr_mo F2 (fun a k z => Or.inl z))) b1
          (conv => whnf)
          refine bF (by rw [← nI_0, nI_eq (by omega) (by omega)]; exact z2) ?_
          (conv => whnf)
          exact q0
  clear hy hno
  refine ⟨S.1 580 (by decide), 581, S.2.2 _ _ _ rfl, ?_⟩
  (conv => whnf)
  refine ⟨S.1 581 (by decide), vin _ (S.2.1 581 (by decide)) (by show 2 < 2131; omega) (by decide), ?_⟩
  (conv => whnf)
  rw [nI_clamp (by omega), n2, pk_mul, ← eB]
  refine ⟨S.1 580 (by decide), ?_⟩
  (conv => whnf)
  refine ⟨S.1 580 (by decide), 583, S.2.2 _ _ _ rfl, ?_⟩
  (conv => whnf)
  refine ⟨S.1 580 (by decide), ?_⟩
  (conv => whnf)
  rw [rI_s]
  refine ⟨S.1 583 (by decide), vin _ (S.2.1 583 (by decide)) (by show B < 2820; omega) (by decide), ?_⟩
  (conv => whnf)
  rw [nI_clamp (by omega)]
  refine ⟨S.1 580 (by decide), ?_⟩
  (conv => whnf)
  refine ⟨S.1 580 (by decide), ?_⟩
  (conv => whnf)
  refine ⟨S.1 580 (by decide), ?_⟩
  (conv => whnf)
  obtain ⟨h1, e1⟩ : ∃ h1, h1 = ab_sI (ab_sI (ab_sI (ab_sI (ab_sI h 580 12 (nI B)) 583 B (nI 0)) 580 13 (nI 0)) 580 19 (nI 0)) 580 7 (nI 0) := ⟨_, rfl⟩
  have F1 : Fr (fun a k => (a = 580 ∧ (k = 7 ∨ k = 12 ∨ k = 13 ∨ k = 19)) ∨ (a = 583 ∧ k = B)) h h1 := by
    rw [e1]
    exact Fr_tr (Fr_sI (Or.inl ⟨rfl, by omega⟩)) (Fr_tr (Fr_sI (Or.inr ⟨rfl, rfl⟩)) (Fr_tr (Fr_sI (Or.inl ⟨rfl, by omega⟩)) (Fr_tr (Fr_sI (Or.inl ⟨rfl, by omega⟩)) (Fr_sI (Or.inl ⟨rfl, by omega⟩)))))
  have S1 := Fr_Sh F1 S
  have P1 : TP h1 580 4 584 n b := TP_fr F1 (fun w => by omega) (fun k w => by omega) P
  have x12 : ab_I h1 580 12 = nI B := by rw [e1, rI_k _ _ _ (by decide), rI_k _ _ _ (by decide), rI_k _ _ _ (by decide), rI_a _ _ _ _ (by decide), rI_s]
  have x13 : ab_I h1 580 13 = nI 0 := by rw [e1, rI_k _ _ _ (by decide), rI_k _ _ _ (by decide), rI_s]
  have x19 : ab_I h1 580 19 = nI 0 := by rw [e1, rI_k _ _ _ (by decide), rI_s]
  have x7 : ab_I h1 580 7 = nI 0 := by rw [e1, rI_s]
  have xB : ab_I h1 583 B = nI 0 := by rw [e1, rI_a _ _ _ _ (by decide), rI_a _ _ _ _ (by decide), rI_a _ _ _ _ (by decide), rI_s]
  rw [← e1]
  clear e1
  refine ⟨S1.1 580 (by decide), ?_⟩
  refine hc _ _ _ _ (om_tok0 (by omega) S1 hn P1 x7 (fun h2 T2 F2 => ?_))
  have g2 : ∀ a k, ¬ fT a k → ab_I h2 a k = ab_I h1 a k := F2.2.2.2.2
  (conv => whnf)
  refine lp 30 [] (fun _ => none) 0 0 0 h2 (Fr_Sh F2 S1) ⟨T2, (g2 _ _ (fun z => by unfold fT at z; omega)).trans x12, (g2 _ _ (fun z => by unfold fT at z; omega)).trans x13, (g2 _ _ (fun z => by unfold fT at z; omega)).trans x19, (g2 _ _ (fun z => by unfold fT at z; omega)).trans xB, fun j hj => absurd hj (Nat.not_lt_zero _), fun k _ w r a c e => by cases e⟩ (Nat.zero_le _) (Nat.le_refl _) (Nat.zero_le _) (by show 25 ≤ 30 + 0; omega) ?_ rfl
  exact Fr_tr (Fr_mo F1 (fun a k z => by unfold fMt; omega)) (Fr_mo F2 (fun a k z => by unfold fT at z; unfold fMt; omega))
end MTX
