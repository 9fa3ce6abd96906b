/-! ===== contracts: clauses on the reference's side (mine) ===== -/
def onc (lws : LW) : Nat := (if (lws 0).isSome = true then 1 else 0) + (if (lws 1).isSome = true then 2 else 0) + (if (lws 2).isSome = true then 4 else 0)
def MI (h : Hp) (b : Nat → Nat) (n B : Nat) (cls : List CK) (lws : LW) (w i : Nat) : Prop := MT h b n i ∧ ab_I h 580 12 = nI B ∧ ab_I h 580 13 = nI w ∧ ab_I h 580 19 = nI (onc lws) ∧ ab_I h 583 B = nI cls.length ∧ (∀ j, j < cls.length → ab_I h 583 (B + 1 + 4 * j) = nI (cls.getD j (0, [])).1 ∧ (cls.getD j (0, [])).2.length ≤ 3 ∧ ∀ u, u < (cls.getD j (0, [])).2.length → ab_I h 583 (B + 1 + 4 * j + 1 + u) = nI ((cls.getD j (0, [])).2.getD u 0)) ∧ (∀ k, k < 3 → ∀ w0 r a0 c, lws k = some (w0, r, a0, c) → ∃ j, j < cls.length ∧ (cls.getD j (0, [])).1 = k ∧ ab_I h 583 (B + 1 + 4 * j + 1) = nI w0 ∧ ab_I h 583 (B + 1 + 4 * j + 2) = nI (w0 + r.length) ∧ MSeg h B w0 r ∧ w0 + r.length ≤ w)
def fMt (B : Nat) (a k : Nat) : Prop := (a = 580 ∧ ((7 ≤ k ∧ k ≤ 10) ∨ (13 ≤ k ∧ k ≤ 19))) ∨ a = 585 ∨ (a = 583 ∧ B ≤ k)
theorem onc_b (lws : LW) : onc lws ≤ 7 := by unfold onc; (repeat' split) <;> omega
theorem onc_h (lws : LW) {k : Nat} (hk : k < 3) : hb (onc lws) k ↔ (lws k).isSome = true := by
  have key : ∀ p q s : Bool, ∀ k, k < 3 → (((if p = true then 1 else 0) + (if q = true then 2 else 0) + (if s = true then 4 else 0)) / 2 ^ k % 2 = 1 ↔ (if k = 0 then p else if k = 1 then q else s) = true) := by decide
  have := key (lws 0).isSome (lws 1).isSome (lws 2).isSome k hk
  unfold hb onc
  rw [this]
  have : k = 0 ∨ k = 1 ∨ k = 2 := by omega
  rcases this with rfl | rfl | rfl <;> exact Iff.rfl
theorem onc_u (lws : LW) {k w a : Nat} {r : List (Nat × Nat)} {c : List Nat} (hk : k < 3) : onc lws ||| 2 ^ k = onc (lwU lws k w r a c) := by
  have key : ∀ p q s : Bool, ∀ k, k < 3 → (((if p = true then 1 else 0) + (if q = true then 2 else 0) + (if s = true then 4 else 0)) ||| 2 ^ k) = (if (if k = 0 then true else p) = true then 1 else 0) + (if (if k = 1 then true else q) = true then 2 else 0) + (if (if k = 2 then true else s) = true then 4 else 0) := by decide
  have h1 := key (lws 0).isSome (lws 1).isSome (lws 2).isSome k hk
  unfold onc
  rw [h1]
  have : k = 0 ∨ k = 1 ∨ k = 2 := by omega
  rcases this with rfl | rfl | rfl <;> rfl
section MCL
variable {d : Nat} {h : Hp} {Q : Option Value → Hp → Prop} {n B : Nat} {b : Nat → Nat}
theorem om_bodyL (hd : 13 ≤ d) (S : Sh h) (hn : n ≤ 300) (hB : B ≤ 2115) {k x w0 i : Nat} (hk : k < 3) (hx : B < x ∧ x + 3 < B + 97) (hi : i ≤ stL b n) (hw0 : w0 ≤ i) (T : MT h b n i) (c12 : ab_I h 580 12 = nI B) (c13 : ab_I h 580 13 = nI w0) (c14 : ab_I h 580 14 = nI k) (a : Nat) {y : PO} (ey : ps (stT b n) (stV b n) k 4000 3 0 a i = y) (hy : y.1 = 0 → ∀ h', MT h' b n y.2.1 → ab_I h' 580 13 = nI (w0 + y.2.2.1.length) → MSeg h' B w0 y.2.2.1 → ab_I h' 583 (x + 1) = nI w0 → ab_I h' 583 (x + 2) = nI (w0 + y.2.2.1.length) → (∀ j, j < B + 97 + 2 * w0 → j ≠ x + 1 → j ≠ x + 2 → ab_I h' 583 j = ab_I h 583 j) → Sh h' → ab_I h' 580 19 = ab_I h 580 19 → Fr (fMt B) h h' → Q (some (.int (nI 0))) h') (hno : y.1 ≠ 0 → ∀ h', MT h' b n y.2.1 → Fr (fMt B) h h' → Q (some (.int (nI y.1))) h') : ab_Ok d n_X12_body [.ref 580, .int (nI k), .int (nI x)] h Q := by
  have ln := stL_n b n
  have A := ps_b (T := stT b n) (V := stV b n) (lw := k) (L := stL b n) (fun i => stT_e b n) 4000 3 0 a i hi (by show 10 * (stL b n - i) + 2 < 4000; omega)
  rw [ey] at A
  have LC : ∀ d' (Q' : Option Value → Hp → Prop), (∀ v h', Q (some (.int v)) h' → Q' (some (.int v)) h') → 12 ≤ d' → ab_Ok d' n_X12_lawClause [.ref 580, .int (nI x)] h Q' := by
    intro d' Q' QQ hd'
    refine ab_go mr_X12_lawClause rfl (by omega) (fun call W hc hW => ?_); (conv => whnf)
    refine ⟨S.1 580 (by decide), 583, S.2.2 _ _ _ rfl, ?_⟩
    (conv => whnf)
    refine ⟨S.1 580 (by decide), ?_⟩
    (conv => whnf)
    rw [c13, nI_add]
    refine ⟨S.1 583 (by decide), vin _ (S.2.1 583 (by decide)) (by show x + 1 < 2820; omega) (by decide), ?_⟩
    (conv => whnf)
    rw [nI_clamp (by omega)]
    obtain ⟨h1, e1⟩ : ∃ h1, h1 = ab_sI h 583 (x + 1) (nI w0) := ⟨_, rfl⟩
    have F1 : Fr (fun a k => a = 583 ∧ k = x + 1) h h1 := by rw [e1]; exact Fr_sI ⟨rfl, rfl⟩
    have S1 := Fr_Sh F1 S
    have g1 := F1.2.2.2.2
    have x1 : ab_I h1 583 (x + 1) = nI w0 := by rw [e1, rI_s]
    have T1 : MT h1 b n i := MT_fr F1 (fun k hk z => by omega) (fun k z => by omega) (by rw [e1]; rfl) T
    rw [← e1]
    clear e1
    refine ⟨S1.1 580 (by decide), ?_⟩
    have SM := fun hd Q hy hno => om_summed (d := d' - 1) (Q := Q) hd S1 hn hB (by omega : k ≤ 2) hi hw0 T1 ((g1 _ _ (fun z => by omega)).trans c12) ((g1 _ _ (fun z => by omega)).trans c13) ((g1 _ _ (fun z => by omega)).trans c14) 4000 a (by omega) hy hno
    rw [ey] at SM
    refine hc _ _ _ _ (SM (by omega) _ (fun z h2 T2 v12 v13 v14 sg F2 => ?_) (fun z h2 T2 F2 => ?_))
    · obtain ⟨q1, q2, q3, q4⟩ := A.1.1 z
      have S2 := Fr_Sh F2 S1
      have g2 : ∀ a k, ¬ fMr B w0 a k → ab_I h2 a k = ab_I h1 a k := F2.2.2.2.2
      (conv => whnf)
      refine ⟨S2.1 580 (by decide), 583, S2.2.2 _ _ _ rfl, ?_⟩
      (conv => whnf)
      refine ⟨S2.1 580 (by decide), ?_⟩
      (conv => whnf)
      rw [v13, nI_add]
      refine ⟨S2.1 583 (by decide), vin _ (S2.2.1 583 (by decide)) (by show x + 2 < 2820; omega) (by decide), ?_⟩
      (conv => whnf)
      rw [nI_clamp (by omega)]
      have F3 : Fr (fun a k => a = 583 ∧ k = x + 2) h2 (ab_sI h2 583 (x + 2) (nI (w0 + y.2.2.1.length))) := Fr_sI ⟨rfl, rfl⟩
      have g3 := F3.2.2.2.2
      refine QQ _ _ (hy z _ (MT_fr F3 (fun k hk z => by omega) (fun k z => by omega) rfl T2) ((g3 _ _ (fun z => by omega)).trans v13) (fun j hj => ⟨(g3 _ _ (fun z => by omega)).trans (sg j hj).1, (g3 _ _ (fun z => by omega)).trans (sg j hj).2⟩) ((g3 _ _ (fun z => by omega)).trans ((g2 _ _ (fun z => by unfold fMr at z; omega)).trans x1)) (rI_s _ _ _ _) (fun j hj n1 n2 => (g3 _ _ (fun z => n2 z.2)).trans ((g2 _ _ (fun z => by unfold fMr at z; omega)).trans (g1 _ _ (fun z => n1 z.2)))) (Fr_Sh F3 S2) ((g3 _ _ (fun z => by omega)).trans ((g2 _ _ (fun z => by unfold fMr at z; omega)).trans (g1 _ _ (fun z => by omega)))) (Fr_tr (Fr_mo F1 (fun a k z => show fMt B a k from by unfold fMt; omega)) (Fr_tr (Fr_mo F2 (fun a k z => by unfold fMr at z; unfold fMt; omega)) (Fr_mo F3 (fun a k z => by unfold fMt; omega)))))
    · have S2 := Fr_Sh F2 S1
      (conv => whnf)
      refine ⟨S2.1 580 (by decide), 583, S2.2.2 _ _ _ rfl, ?_⟩
      (conv => whnf)
      refine ⟨S2.1 580 (by decide), ?_⟩
      (conv => whnf)
      rw [nI_add]
      refine ⟨S2.1 583 (by decide), vin _ (S2.2.1 583 (by decide)) (by show x + 2 < 2820; omega) (by decide), ?_⟩
      (conv => whnf)
      rw [nI_clamp (by omega)]
      have F3 : Fr (fun a k => a = 583 ∧ k = x + 2) h2 (ab_sI h2 583 (x + 2) (ab_I h2 580 13)) := Fr_sI ⟨rfl, rfl⟩
      exact QQ _ _ (hno z _ (MT_fr F3 (fun k hk z => by omega) (fun k z => by omega) rfl T2) (Fr_tr (Fr_mo F1 (fun a k z => show fMt B a k from by unfold fMt; omega)) (Fr_tr (Fr_mo F2 (fun a k z => by unfold fMr at z; unfold fMt; omega)) (Fr_mo F3 (fun a k z => by unfold fMt; omega)))))
  refine ab_go mr_X12_body rfl (by omega) (fun call W hc hW => ?_); (conv => whnf)
  refine bF (by rw [nI_eq (by omega) (by omega)]; omega) ?_
  (conv => whnf)
  refine bF (by rw [nI_eq (by omega) (by omega)]; omega) ?_
  (conv => whnf)
  refine bF (by rw [nI_eq (by omega) (by omega)]; omega) ?_
  (conv => whnf)
  refine bF (by rw [nI_eq (by omega) (by omega)]; omega) ?_
  (conv => whnf)
  refine bF (by rw [nI_eq (by omega) (by omega)]; omega) ?_
  (conv => whnf)
  refine bF (by rw [nI_eq (by omega) (by omega)]; omega) ?_
  (conv => whnf)
  refine bF (by rw [nI_eq (by omega) (by omega)]; omega) ?_
  (conv => whnf)
  refine ⟨S.1 580 (by decide), ?_⟩
  refine hc _ _ _ _ (LC _ _ (fun v h' q => ?_) (by omega))
  (conv => whnf)
  exact q
theorem MI_new {h4 : Hp} {cls : List CK} {lws : LW} {w i t i' a : Nat} {ck : CK} {r : List (Nat × Nat)} {c : List Nat} (I : MI h b n B cls lws w i) (hc24 : cls.length < 24) (C4 : MT h4 b n i') (c12 : ab_I h4 580 12 = nI B) (c13 : ab_I h4 580 13 = nI (w + r.length)) (c19 : ab_I h4 580 19 = nI (onc (lwU lws t w r a c))) (n0 : ab_I h4 583 B = nI (cls.length + 1)) (k5 : ab_I h4 583 (B + 1 + 4 * cls.length) = nI ck.1) (v3 : ck.2.length ≤ 3) (n6 : ∀ u, u < ck.2.length → ab_I h4 583 (B + 1 + 4 * cls.length + 1 + u) = nI (ck.2.getD u 0)) (lo : ∀ k, B < k → k < B + 97 + 2 * w → (k < B + 1 + 4 * cls.length ∨ B + 97 ≤ k) → ab_I h4 583 k = ab_I h 583 k) (law : t < 3 → ck.1 = t ∧ ab_I h4 583 (B + 1 + 4 * cls.length + 1) = nI w ∧ ab_I h4 583 (B + 1 + 4 * cls.length + 2) = nI (w + r.length) ∧ MSeg h4 B w r) : MI h4 b n B (cls ++ [ck]) (lwU lws t w r a c) (w + r.length) i' := by
  obtain ⟨_, _, _, _, _, i4, i5⟩ := I
  have l1 : (cls ++ [ck]).length = cls.length + 1 := by rw [List.length_append]; rfl
  refine ⟨C4, c12, c13, c19, by rw [l1]; exact n0, fun j hj => ?_, fun k hk w0 r0 a0 c0 e => ?_⟩
  · rw [l1] at hj
    rw [getD_app]
    by_cases z : j < cls.length
    · rw [if_pos z]
      obtain ⟨q1, q2, q3⟩ := i4 j z
      exact ⟨(lo _ (by omega) (by omega) (by omega)).trans q1, q2, fun u hu => (lo _ (by omega) (by omega) (by omega)).trans (q3 u hu)⟩
    · obtain rfl : j = cls.length := by omega
      rw [if_neg z, if_pos rfl]
      exact ⟨k5, v3, n6⟩
  · have keep : lws k = some (w0, r0, a0, c0) → ∃ j, j < (cls ++ [ck]).length ∧ ((cls ++ [ck]).getD j (0, [])).1 = k ∧ ab_I h4 583 (B + 1 + 4 * j + 1) = nI w0 ∧ ab_I h4 583 (B + 1 + 4 * j + 2) = nI (w0 + r0.length) ∧ MSeg h4 B w0 r0 ∧ w0 + r0.length ≤ w + r.length := by
      intro e
      obtain ⟨j, j1, j2, j3, j4, j5, j6⟩ := i5 k hk w0 r0 a0 c0 e
      refine ⟨j, by omega, by rw [getD_app, if_pos j1]; exact j2, (lo _ (by omega) (by omega) (by omega)).trans j3, (lo _ (by omega) (by omega) (by omega)).trans j4, fun u hu => ?_, by omega⟩
      have := j5 u hu
      exact ⟨(lo _ (by omega) (by omega) (by omega)).trans this.1, (lo _ (by omega) (by omega) (by omega)).trans this.2⟩
    unfold lwU at e
    by_cases z : t < 3
    · rw [if_pos z] at e
      by_cases ek : k = t
      · subst ek
        have e : (if k = k then some (w, r, a, c) else lws k) = some (w0, r0, a0, c0) := e
        rw [if_pos rfl] at e
        simp only [Option.some.injEq, Prod.mk.injEq] at e
        obtain ⟨e1, e2, _, _⟩ := e
        obtain ⟨m1, m2, m3, m4⟩ := law hk
        rw [← e1, ← e2]
        exact ⟨cls.length, by omega, by rw [getD_app, if_neg (by omega), if_pos rfl]; exact m1, m2, m3, m4, Nat.le_refl _⟩
      · have e : (if k = t then some (w, r, a, c) else lws k) = some (w0, r0, a0, c0) := e
        rw [if_neg ek] at e
        exact keep e
    · rw [if_neg z] at e
      exact keep e
end MCL
