/-! ===== contracts: text on the reference's side (mine) ===== -/
def txOf (cls : List CK) (lws : LW) (vf : Nat → Vf) : Tx := (cls.length, fun i j => if j = 0 then (cls.getD i (0, [])).1 else (cls.getD i (0, [])).2.getD (j - 1) 0, fun k => if (lws k).isSome = true then some (vf k) else none)
def vfOk (lws : LW) (vf : Nat → Vf) : Prop := ∀ k, k < 3 → ∀ w r a c, lws k = some (w, r, a, c) → ∃ m, EX (nbL k) 0 a r c m (vf k) ∧ m ≤ 62
theorem vf_ex {cls : List CK} {lws : LW} (P : PDI cls lws) : ∃ vf, vfOk lws vf := by
  have one : ∀ k, k < 3 → ∃ v : Vf, ∀ w r a c, lws k = some (w, r, a, c) → ∃ m, EX (nbL k) 0 a r c m v ∧ m ≤ 62 := by
    intro k hk
    cases e : lws k with
    | none => exact ⟨fun _ _ => 0, fun w r a c z => by cases z⟩
    | some q =>
      obtain ⟨w, r, a, c⟩ := q
      obtain ⟨m, v, E, hm⟩ := P.2.2.2 k hk w r a c e
      refine ⟨v, fun w' r' a' c' z => ?_⟩
      simp only [Option.some.injEq, Prod.mk.injEq] at z
      obtain ⟨_, e2, e3, e4⟩ := z
      rw [← e2, ← e3, ← e4]
      exact ⟨m, E, hm⟩
  obtain ⟨v0, h0⟩ := one 0 (by decide)
  obtain ⟨v1, h1⟩ := one 1 (by decide)
  obtain ⟨v2, h2⟩ := one 2 (by decide)
  refine ⟨fun k => if k = 0 then v0 else if k = 1 then v1 else v2, fun k hk => ?_⟩
  have : k = 0 ∨ k = 1 ∨ k = 2 := by omega
  rcases this with rfl | rfl | rfl
  · exact h0
  · exact h1
  · exact h2
theorem tx_vf (b : Nat → Nat) (n : Nat) : ∃ vf, (txF b n).1 = 0 → vfOk (txF b n).2.2.2.1 vf := by
  by_cases z : (txF b n).1 = 0
  · obtain ⟨vf, hv⟩ := vf_ex (txL_P (stT b n) (stV b n) 30 [] (fun _ => none) 0 0 0 PDI_0 z)
    exact ⟨vf, fun _ => hv⟩
  · exact ⟨fun _ _ _ => 0, fun y => absurd y z⟩
theorem TM_of {h : Hp} {b : Nat → Nat} {n t : Nat} {cls : List CK} {lws : LW} {w i : Nat} {vf : Nat → Vf} (I : MI h b n (705 * t) cls lws w i) (P : PDI cls lws) (V : vfOk lws vf) (h24 : cls.length ≤ 24) (hw : w ≤ 300) : TM h t (txOf cls lws vf) := by
  obtain ⟨_, _, _, _, n0, i4, i5⟩ := I
  obtain ⟨p1, p2, p3, _⟩ := P
  refine ⟨h24, n0, fun j hj => ?_, fun k hk => ?_⟩
  · have hj : j < cls.length := hj
    obtain ⟨q1, q2, q3⟩ := i4 j hj
    obtain ⟨a1, a2, a3⟩ := p1 j hj
    refine ⟨q1, a1, fun u hu => ?_⟩
    have hu : u < ar (cls.getD j (0, [])).1 := hu
    have e : (txOf cls lws vf).2.1 j (u + 1) = (cls.getD j (0, [])).2.getD u 0 := by
      show (if u + 1 = 0 then (cls.getD j (0, [])).1 else (cls.getD j (0, [])).2.getD (u + 1 - 1) 0) = (cls.getD j (0, [])).2.getD u 0
      rw [if_neg (by omega), Nat.add_sub_cancel]
    rw [e]
    exact ⟨q3 u (by omega), a3 u (by omega)⟩
  · show MLw h (705 * t) cls.length (fun i => (cls.getD i (0, [])).1) k (if (lws k).isSome = true then some (vf k) else none)
    cases e : lws k with
    | none =>
      show MLw h (705 * t) cls.length (fun i => (cls.getD i (0, [])).1) k none
      exact fun j hj => p2 k hk e j hj
    | some q =>
      obtain ⟨w0, r, a, c⟩ := q
      obtain ⟨j, j1, j2, j3, j4, j5, j6⟩ := i5 k hk w0 r a c e
      obtain ⟨m, E, hm⟩ := V k hk w0 r a c e
      show MLw h (705 * t) cls.length (fun i => (cls.getD i (0, [])).1) k (some (vf k))
      refine ⟨j, j1, j2, fun j' hj' z => ?_, w0, a, r, c, m, E, j3, j4, by omega, j5⟩
      have z : (cls.getD j' (0, [])).1 = k := z
      have := p3 j' j (by omega) j1 (by rw [z, j2]) (by rw [z]; exact hk)
      omega
theorem MS_w2 {h h' : Hp} {s : Sv} {v : Nat} (M : MS h 581 s) (e2 : ab_I h' 581 2 = nI v) (eo : ∀ o, o ≠ 2 → ab_I h' 581 o = ab_I h 581 o) : MS h' 581 (st2 s 18 2 v) := by
  have M2 := MS_up M (o := 2) (by decide) (by decide) v
  have y : ya 2 = 18 ∧ yk 2 = 2 := by decide
  rw [y.1, y.2] at M2
  refine ⟨fun o h1 h3 => ?_, ?_⟩
  · rw [← M2.1 o h1 h3]
    by_cases e : o = 2
    · rw [e, rI_s]; exact e2
    · rw [rI_k _ _ _ e]; exact eo o e
  · rw [← M2.2, rI_k _ _ _ (by decide)]
    exact eo 3 (by decide)
/-- the cells that the reference's text may change -/
def fTx (t : Nat) (a k : Nat) : Prop := (a = 580 ∧ ((4 ≤ k ∧ k ≤ 10) ∨ (12 ≤ k ∧ k ≤ 19))) ∨ a = 585 ∨ (a = 583 ∧ 705 * t ≤ k) ∨ (a = 581 ∧ k = 2)
section MTY
variable {d : Nat} {h : Hp} {Q : Option Value → Hp → Prop} {n : Nat} {b : Nat → Nat} {s : Sv}
theorem om_text (hd : 19 ≤ d) (S : Sh h) (hn : n ≤ 300) (M : MS h 581 s) (ht : s 18 2 ≤ 4) (P : TP h 580 4 584 n b) (vf : Nat → Vf) (hv : (txF b n).1 = 0 → vfOk (txF b n).2.2.2.1 vf) (h4 : s 18 2 = 4 → Q (some (.int (-1))) h) (hy : s 18 2 < 4 → (txF b n).1 = 0 → ∀ h', MS h' 581 (st2 s 18 2 (s 18 2 + 1)) → TM h' (s 18 2) (txOf (txF b n).2.2.1 (txF b n).2.2.2.1 vf) → ab_I h' 580 5 = nI 0 → ab_I h' 580 6 = -1 → ab_I h' 580 4 = nI 0 → Fr (fTx (s 18 2)) h h' → Q (some (.int (nI (s 18 2)))) h') (hno : s 18 2 < 4 → (txF b n).1 ≠ 0 → ∀ h', MS h' 581 s → ab_I h' 580 5 = nI (txF b n).1 → ab_I h' 580 6 = nI (stP b n (txF b n).2.1) → ab_I h' 580 4 = nI 0 → Fr (fTx (s 18 2)) h h' → Q (some (.int (-1))) h') : ab_Ok d n_X12_text [.ref 580] h Q := by
  have n2 := ms_n2 M
  refine ab_go mr_X12_text rfl (by omega) (fun call W hc hW => ?_); (conv => whnf)
  refine ⟨S.1 580 (by decide), 581, S.2.2 _ _ _ rfl, ?_⟩
  (conv => whnf)
  refine ⟨S.1 581 (by decide), vin _ (S.2.1 581 (by decide)) (by show 2 < 2131; omega) (by decide), ?_⟩
  (conv => whnf)
  rw [nI_clamp (by omega), n2]
  refine ⟨fun f => ?_, fun f => ?_⟩ <;> rw [nI_eq (by omega) (by omega)] at f <;> (conv => whnf)
  · refine ⟨S.1 580 (by decide), ?_⟩
    refine hc _ _ _ _ (om_readText (by omega) S hn M (by omega) P (fun z h1 I1 l24 w3 F1 => ?_) (fun z h1 T1 F1 f6 => ?_))
    · have S1 := Fr_Sh F1 S
      have PP := txL_P (stT b n) (stV b n) 30 [] (fun _ => none) 0 0 0 PDI_0 z
      have TMx := TM_of I1 PP (hv z) l24 w3
      have m2 : ab_I h1 581 2 = nI (s 18 2) := (F1.2.2.2.2 581 2 (fun w => by unfold fMt at w; omega)).trans n2
      (conv => whnf)
      refine ⟨S1.1 580 (by decide), ?_⟩
      (conv => whnf)
      refine ⟨S1.1 580 (by decide), ?_⟩
      (conv => whnf)
      rw [rI_s]
      refine bP (by decide) ?_
      (conv => whnf)
      refine ⟨S1.1 580 (by decide), ?_⟩
      (conv => whnf)
      refine ⟨S1.1 580 (by decide), ?_⟩
      (conv => whnf)
      refine ⟨S1.1 580 (by decide), ?_⟩
      (conv => whnf)
      rw [rI_k _ _ _ (by decide), rI_k _ _ _ (by decide), rI_s]
      refine bT (by decide) ?_
      (conv => whnf)
      obtain ⟨h2, e2⟩ : ∃ h2, h2 = ab_sI (ab_sI (ab_sI h1 580 5 (nI 0)) 580 6 (-1)) 580 4 (nI 0) := ⟨_, rfl⟩
      have F2 : Fr (fun a k => a = 580 ∧ 4 ≤ k ∧ k ≤ 6) h1 h2 := by rw [e2]; exact Fr_tr (Fr_sI ⟨rfl, by omega, by omega⟩) (Fr_tr (Fr_sI ⟨rfl, by omega, by omega⟩) (Fr_sI ⟨rfl, by omega, by omega⟩))
      have S2 := Fr_Sh F2 S1
      have x5 : ab_I h2 580 5 = nI 0 := by rw [e2, rI_k _ _ _ (by decide), rI_k _ _ _ (by decide), rI_s]
      have x6 : ab_I h2 580 6 = -1 := by rw [e2, rI_k _ _ _ (by decide), rI_s]
      have x4 : ab_I h2 580 4 = nI 0 := by rw [e2, rI_s]
      have q2 : ab_I h2 581 2 = nI (s 18 2) := (F2.2.2.2.2 581 2 (fun w => by omega)).trans m2
      rw [← e2]
      clear e2
      refine ⟨S2.1 580 (by decide), 581, S2.2.2 _ _ _ rfl, ?_⟩
      (conv => whnf)
      refine ⟨S2.1 581 (by decide), vin _ (S2.2.1 581 (by decide)) (by show 2 < 2131; omega) (by decide), ?_⟩
      (conv => whnf)
      rw [nI_clamp (by omega), q2, nI_add]
      refine ⟨S2.1 581 (by decide), vin _ (S2.2.1 581 (by decide)) (by show 2 < 2131; omega) (by decide), ?_⟩
      (conv => whnf)
      refine ⟨S2.1 580 (by decide), 581, S2.2.2 _ _ _ rfl, ?_⟩
      (conv => whnf)
      refine ⟨S2.1 581 (by decide), vin _ (S2.2.1 581 (by decide)) (by show 2 < 2131; omega) (by decide), ?_⟩
      (conv => whnf)
      rw [nI_clamp (by omega), rI_s, pk_sub (by omega : 1 ≤ s 18 2 + 1), Nat.add_sub_cancel]
      have F3 : Fr (fun a k => a = 581 ∧ k = 2) h2 (ab_sI h2 581 2 (nI (s 18 2 + 1))) := Fr_sI ⟨rfl, rfl⟩
      have FA : Fr (fTx (s 18 2)) h (ab_sI h2 581 2 (nI (s 18 2 + 1))) := Fr_tr (Fr_mo F1 (fun a k w => show fTx (s 18 2) a k from by unfold fMt at w; unfold fTx; omega)) (Fr_tr (Fr_mo F2 (fun a k w => by unfold fTx; omega)) (Fr_mo F3 (fun a k w => by unfold fTx; omega)))
      refine hy (by omega) z _ (MS_w2 M (rI_s _ _ _ _) (fun o ho => FA.2.2.2.2 581 o (fun w => by unfold fTx at w; omega))) (TM_fr F3 (fun k w => by omega) (TM_fr F2 (fun k w => by omega) TMx)) ?_ ?_ ?_ FA
      · exact (F3.2.2.2.2 _ _ (fun w => by omega)).trans x5
      · exact (F3.2.2.2.2 _ _ (fun w => by omega)).trans x6
      · exact (F3.2.2.2.2 _ _ (fun w => by omega)).trans x4
    · have S1 := Fr_Sh F1 S
      have m8 : ab_I h1 580 8 = nI (stP b n (txF b n).2.1) := T1.2.2.1
      (conv => whnf)
      refine ⟨S1.1 580 (by decide), ?_⟩
      (conv => whnf)
      refine ⟨S1.1 580 (by decide), ?_⟩
      (conv => whnf)
      rw [rI_s]
      refine bN (by rw [← nI_0, nI_eq (by omega) (by omega)]; exact z) ?_
      (conv => whnf)
      refine ⟨S1.1 580 (by decide), ?_⟩
      (conv => whnf)
      rw [rI_k _ _ _ (by decide), m8]
      refine ⟨S1.1 580 (by decide), ?_⟩
      (conv => whnf)
      refine ⟨S1.1 580 (by decide), ?_⟩
      (conv => whnf)
      refine ⟨S1.1 580 (by decide), ?_⟩
      (conv => whnf)
      rw [rI_k _ _ _ (by decide), rI_k _ _ _ (by decide), rI_s]
      refine bF (by rw [← nI_0, nI_eq (by omega) (by omega)]; exact z) ?_
      (conv => whnf)
      obtain ⟨h2, e2⟩ : ∃ h2, h2 = ab_sI (ab_sI (ab_sI h1 580 5 (nI (txF b n).1)) 580 6 (nI (stP b n (txF b n).2.1))) 580 4 (nI 0) := ⟨_, rfl⟩
      have F2 : Fr (fun a k => a = 580 ∧ 4 ≤ k ∧ k ≤ 6) h1 h2 := by rw [e2]; exact Fr_tr (Fr_sI ⟨rfl, by omega, by omega⟩) (Fr_tr (Fr_sI ⟨rfl, by omega, by omega⟩) (Fr_sI ⟨rfl, by omega, by omega⟩))
      have FA : Fr (fTx (s 18 2)) h h2 := Fr_tr (Fr_mo F1 (fun a k w => show fTx (s 18 2) a k from by unfold fMt at w; unfold fTx; omega)) (Fr_mo F2 (fun a k w => by unfold fTx; omega))
      have FM : ∀ o, ab_I h2 581 o = ab_I h 581 o := fun o => (F2.2.2.2.2 581 o (fun w => by omega)).trans (F1.2.2.2.2 581 o (fun w => by unfold fMt at w; omega))
      have x5 : ab_I h2 580 5 = nI (txF b n).1 := by rw [e2, rI_k _ _ _ (by decide), rI_k _ _ _ (by decide), rI_s]
      have x6 : ab_I h2 580 6 = nI (stP b n (txF b n).2.1) := by rw [e2, rI_k _ _ _ (by decide), rI_s]
      have x4 : ab_I h2 580 4 = nI 0 := by rw [e2, rI_s]
      rw [← e2]
      exact hno (by omega) z h2 ⟨fun o a1 a2 => (FM o).trans (M.1 o a1 a2), (FM 3).trans M.2⟩ x5 x6 x4 FA
  · exact h4 f
end MTY
