/-! ===== contracts: a clause on the class's side (mine) ===== -/
def cnz : List (Nat × Nat × Nat) → Nat
  | [] => 0
  | s :: l => (if s.1 = 0 then 1 else 0) + cnz l
theorem rdA_len (T V : Nat → Nat) : ∀ (l : List (Nat × Nat × Nat)) (i : Nat) (acc : List Nat), (rdA T V l i acc).2.2.length ≤ acc.length + cnz l := by
  intro l
  induction l with
  | nil => intro i acc; exact Nat.le_refl _
  | cons s l ih =>
    intro i acc
    show (if s.1 = 0 then (if T i ≠ 130 then (1, i, acc) else if ¬ (s.2.1 ≤ V i ∧ V i ≤ s.2.2) then (2, i, acc) else rdA T V l (i + 1) (acc ++ [V i])) else (if T i ≠ s.2.1 then (1, i, acc) else rdA T V l (i + 1) acc)).2.2.length ≤ acc.length + ((if s.1 = 0 then 1 else 0) + cnz l)
    by_cases c : s.1 = 0
    · rw [if_pos c, if_pos c]
      split
      · show acc.length ≤ _; omega
      · split
        · show acc.length ≤ _; omega
        · have := ih (i + 1) (acc ++ [V i])
          rw [List.length_append] at this
          have e : [V i].length = 1 := rfl
          omega
    · rw [if_neg c, if_neg c]
      split
      · show acc.length ≤ _; omega
      · have := ih (i + 1) acc
        omega
theorem cnz_3 : ∀ k, k < 10 → cnz (deedL k) ≤ 3 := by decide +kernel
theorem getD_app {α : Type} (l : List α) (x d : α) (j : Nat) : (l ++ [x]).getD j d = if j < l.length then l.getD j d else if j = l.length then x else d := by
  rw [List.getD_eq_getElem?_getD]
  by_cases z : j < l.length
  · rw [if_pos z, List.getElem?_append_left z, List.getD_eq_getElem?_getD]
  · rw [if_neg z, List.getElem?_append_right (by omega)]
    by_cases e : j = l.length
    · rw [if_pos e, e, Nat.sub_self]; rfl
    · rw [if_neg e, List.getElem?_eq_none (by show 1 ≤ _; omega)]
      rfl
section CCL2
variable {d : Nat} {h : Hp} {Q : Option Value → Hp → Prop} {n : Nat} {b : Nat → Nat}
theorem CI_new {h4 : Hp} {cls : List CK} {lws : LW} {a i t i' w : Nat} {ck : CK} {r : List (Nat × Nat)} {c : List Nat} (I : CI h b n cls lws a i) (C4 : CT h4 b n i') (c5 : ab_I h4 549 5 = nI (a + c.length)) (c3 : ab_I h4 549 3 = nI (cls.length + 1)) (k5 : ab_I h4 555 cls.length = nI (kc ck.1)) (k5' : ∀ j, j < cls.length → ab_I h4 555 j = ab_I h 555 j) (v3 : ck.2.length ≤ 3) (n6 : ∀ u, u < ck.2.length → ab_I h4 556 (3 * cls.length + u) = nI (ck.2.getD u 0)) (n6' : ∀ k, k < 3 * cls.length → ab_I h4 556 k = ab_I h 556 k) (s7 : t < 3 → Seg h4 557 a c) (s7' : ∀ j, j < a → ab_I h4 557 j = ab_I h 557 j) (b8 : t < 3 → ab_I h4 558 t = nI a ∧ ab_I h4 559 t = nI (a + c.length)) (b8' : ∀ j, (t < 3 → j ≠ t) → ab_I h4 558 j = ab_I h 558 j ∧ ab_I h4 559 j = ab_I h 559 j) : CI h4 b n (cls ++ [ck]) (lwU lws t w r a c) (a + c.length) i' := by
  obtain ⟨_, _, _, i4, i5⟩ := I
  have l1 : (cls ++ [ck]).length = cls.length + 1 := by rw [List.length_append]; rfl
  refine ⟨C4, c5, by rw [l1]; exact c3, fun j hj => ?_, fun k hk => ?_⟩
  · rw [l1] at hj
    rw [getD_app]
    by_cases z : j < cls.length
    · rw [if_pos z]
      obtain ⟨q1, q2, q3⟩ := i4 j z
      exact ⟨(k5' j z).trans q1, q2, fun u hu => (n6' _ (by omega)).trans (q3 u hu)⟩
    · obtain rfl : j = cls.length := by omega
      rw [if_neg z, if_pos rfl]
      exact ⟨k5, v3, n6⟩
  · obtain ⟨q1, q2⟩ := i5 k hk
    have keep : (t < 3 → k ≠ t) → (lws k = none → ab_I h4 558 k = -1) ∧ ∀ w r a0 c', lws k = some (w, r, a0, c') → ab_I h4 558 k = nI a0 ∧ ab_I h4 559 k = nI (a0 + c'.length) ∧ Seg h4 557 a0 c' ∧ a0 + c'.length ≤ a + c.length := by
      intro ne
      obtain ⟨e8, e9⟩ := b8' k ne
      refine ⟨fun z => e8.trans (q1 z), fun w r a0 c' z => ?_⟩
      obtain ⟨p1, p2, p3, p4⟩ := q2 w r a0 c' z
      exact ⟨e8.trans p1, e9.trans p2, fun j hj => (s7' _ (by omega)).trans (p3 j hj), by omega⟩
    unfold lwU
    by_cases z : t < 3
    · rw [if_pos z]
      by_cases e : k = t
      · subst e
        refine ⟨fun z => ?_, fun w' r' a0 c' z => ?_⟩
        · rw [if_pos rfl] at z
          cases z
        · rw [if_pos rfl] at z
          simp only [Option.some.injEq, Prod.mk.injEq] at z
          obtain ⟨_, _, e3, e4⟩ := z
          rw [← e3, ← e4]
          exact ⟨(b8 hk).1, (b8 hk).2, s7 hk, Nat.le_refl _⟩
      · rw [if_neg e]
        exact keep (fun _ => e)
    · rw [if_neg z]
      exact keep (fun y => absurd y z)
theorem oc_readClause (hd : 95 ≤ d) (S : Sh h) (hn : n ≤ 300) {cls : List CK} {lws : LW} {a i : Nat} (I : CI h b n cls lws a i) (hi : i ≤ stL b n) (ha : a ≤ 2 * i) (hcl : cls.length ≤ 24) (hT : stT b n i ≠ 131) (w : Nat) {y : CR1} (ey : cl1 (stT b n) (stV b n) cls.length lws a i = y) (hy : y.1 = 0 → ∀ h', CI h' b n (cls ++ [y.2.2.1]) (lwU lws (stT b n i) w y.2.2.2.1 a y.2.2.2.2) (a + y.2.2.2.2.length) y.2.1 → Fr fCo h h' → Q (some (.int (nI 1))) h') (hno : y.1 ≠ 0 → ∀ h', FLt h h' b n y.1 y.2.1 → Q (some (.int (nI 0))) h') : ab_Ok d n_X6_readClause [.ref 549] h Q := by
  have I0 := I
  obtain ⟨C, c5, c3, i4, i5⟩ := I
  have tb' := stT_b b n i
  have ln := stL_n b n
  have il : i < stL b n := Nat.lt_of_not_le (fun z => hT ((stT_e b n).mpr z))
  refine ab_go mr_X6_readClause rfl (by omega) (fun call W hc hW => ?_); (conv => whnf)
  refine ⟨S.1 549 (by decide), 550, S.2.2 _ _ _ rfl, ?_⟩
  (conv => whnf)
  refine ⟨S.1 550 (by decide), ?_⟩
  refine hc _ _ _ _ (oc_token (by omega) S hn C ?_)
  (conv => whnf)
  refine hc _ _ _ _ (ok_wiN (by omega) 0 9 (nI (stT b n i)) (by omega) (by omega) (fun t t1 t2 e => ?_) (fun e => ?_)) <;> (conv => whnf)
  · have et := (nI_eq (by omega) (by omega)).mp e
    have t9 : ¬ 9 < stT b n i := by omega
    refine bN (by decide) ?_
    (conv => whnf)
    refine ⟨fun l3 => ?_, fun l3 => ?_⟩ <;> rw [nI_leI (by omega) (by omega)] at l3 <;> (conv => whnf)
    · have l3 : ¬ stT b n i < 3 := by omega
      have nol : ¬ (stT b n i < 3 ∧ (lws (stT b n i)).isSome = true) := fun z => l3 z.1
      refine ⟨S.1 549 (by decide), ?_⟩
      (conv => whnf)
      rw [c3]
      refine ⟨fun g24 => ?_, fun g24 => ?_⟩ <;> rw [nI_ltI (by omega) (by omega)] at g24 <;> (conv => whnf)
      rotate_left
      · rw [cq_6 _ _ _ _ _ _ t9 nol (by omega)] at ey
        subst ey
        refine ⟨S.1 549 (by decide), ?_⟩
        refine hc _ _ _ _ (oc_refuse (by omega) S hn C 6 (fun h1 L1 => ?_))
        (conv => whnf)
        exact ⟨Or.inl rfl, hno (by show ¬ (6 : Nat) = 0; omega) h1 ⟨L1.1, L1.2.1, Fr_mo L1.2.2 (fun x k z => by unfold fRd at z; unfold fCl; omega)⟩⟩
      have g24' : ¬ 24 ≤ cls.length := by omega
      obtain ⟨sk1, sk2, sk3⟩ := srt_ok (stT b n i) (by omega) l3
      obtain ⟨u, eu⟩ : ∃ u, rdA (stT b n) (stV b n) (deedL (srt (stT b n i))) (i + 1) [] = u := ⟨_, rfl⟩
      rw [cq_d _ _ _ _ _ _ t9 g24' l3 eu] at ey
      have ul : u.2.2.length ≤ 3 := by
        have := rdA_len (stT b n) (stV b n) (deedL (srt (stT b n i))) (i + 1) []
        rw [eu] at this
        have := cnz_3 (srt (stT b n i)) (by omega)
        have e0 : ([] : List Nat).length = 0 := rfl
        omega
      refine ⟨S.1 549 (by decide), 550, S.2.2 _ _ _ rfl, ?_⟩
      (conv => whnf)
      refine ⟨S.1 550 (by decide), ?_⟩
      refine hc _ _ _ _ (oc_advance (by omega) S hn C (fun h1 C1 F1 => ?_))
      have S1 := Fr_Sh F1 S
      have g1 : ∀ x j, ¬ (x = 550 ∧ j = 7) → ab_I h1 x j = ab_I h x j := F1.2.2.2.2
      have G1 : Fr fCo h h1 := Fr_mo F1 (fun x k z => by unfold f57 at z; unfold fCo; omega)
      have D1 : DSc h1 h1 b n cls.length (i + 1) [] := ⟨C1, fun j hj => absurd hj (Nat.not_lt_zero _), (g1 _ _ (by omega)).trans c3, rfl, fun _ => rfl, Fr_re⟩
      have RDd := fun hd Q hy hno => oc_readDeed (d := d - 1) (Q := Q) hd S1 hn (by omega : cls.length < 24) ⟨sk1, sk2⟩ D1 hy hno
      rw [eu, sk3] at RDd
      (conv => whnf)
      refine bT (by rw [nI_leI (by omega) (by omega)]; omega) ?_
      (conv => whnf)
      refine ⟨S1.1 549 (by decide), ?_⟩
      refine hc _ _ _ _ (RDd (by omega) _ (fun z h2 D2 => ?_) (fun z h2 L2 => ?_))
      · rw [if_neg (fun w => w z)] at ey
        have S2 := Fr_Sh D2.2.2.2.2.2 S1
        (conv => whnf)
        refine bF (by decide) ?_
        (conv => whnf)
        refine ⟨S2.1 549 (by decide), ?_⟩
        refine hc _ _ _ _ (oc_takenD (by omega) S2 hn D2 (by omega) (fun e59 h3 L3 => ?_) (fun e59 h3 D3 S3 => ?_))
        · rw [if_pos e59] at ey
          subst ey
          have S3 := Fr_Sh L3.2.2 S1
          have g3 : ∀ x j, ¬ fDd cls.length x j → ab_I h3 x j = ab_I h1 x j := L3.2.2.2.2.2.2
          have w3 : ab_I h3 549 3 = nI cls.length := (g3 _ _ (fun w => by unfold fDd at w; omega)).trans D1.2.2.1
          have FF : Fr fCl h h3 := Fr_tr (fCoC G1) (Fr_mo L3.2.2 (fun x k z => by unfold fDd at z; unfold fCl; omega))
          (conv => whnf)
          refine bT (by decide) ?_
          (conv => whnf)
          refine ⟨S3.1 549 (by decide), 555, S3.2.2 _ _ _ rfl, ?_⟩
          (conv => whnf)
          refine ⟨S3.1 549 (by decide), ?_⟩
          (conv => whnf)
          rw [w3]
          refine ⟨S3.1 555 (by decide), vin _ (S3.2.1 555 (by decide)) (by show cls.length < 24; omega) (by decide), ?_⟩
          (conv => whnf)
          rw [nI_clamp (by omega)]
          refine ⟨S3.1 549 (by decide), ?_⟩
          (conv => whnf)
          rw [rI_a _ _ _ _ (by decide), w3, nI_add]
          refine ⟨S3.1 549 (by decide), ?_⟩
          (conv => whnf)
          have F4 : Fr (fun x j => x = 555 ∨ (x = 549 ∧ j = 3)) h3 (ab_sI (ab_sI h3 555 cls.length (nI (stT b n i))) 549 3 (nI (cls.length + 1))) := Fr_tr (Fr_sI (Or.inl rfl)) (Fr_sI (Or.inr ⟨rfl, rfl⟩))
          exact ⟨Or.inl rfl, hno (by show ¬ (1 : Nat) = 0; omega) _ ⟨(F4.2.2.2.2 _ _ (fun w => by omega)).trans L3.1, (F4.2.2.2.2 _ _ (fun w => by omega)).trans L3.2.1, Fr_tr FF (Fr_mo F4 (fun x k z => by unfold fCl; omega))⟩⟩
        · rw [if_neg (fun w => w e59)] at ey
          subst ey
          have g3 : ∀ x j, ¬ fDd cls.length x j → ab_I h3 x j = ab_I h1 x j := (fDoD D3.2.2.2.2.2).2.2.2.2
          have w3 : ab_I h3 549 3 = nI cls.length := D3.2.2.1
          have FF : Fr fCo h h3 := Fr_tr G1 (Fr_mo D3.2.2.2.2.2 (fun x k z => by unfold fDo at z; unfold fCo; omega))
          (conv => whnf)
          refine bF (by decide) ?_
          (conv => whnf)
          refine ⟨S3.1 549 (by decide), 555, S3.2.2 _ _ _ rfl, ?_⟩
          (conv => whnf)
          refine ⟨S3.1 549 (by decide), ?_⟩
          (conv => whnf)
          rw [w3]
          refine ⟨S3.1 555 (by decide), vin _ (S3.2.1 555 (by decide)) (by show cls.length < 24; omega) (by decide), ?_⟩
          (conv => whnf)
          rw [nI_clamp (by omega)]
          refine ⟨S3.1 549 (by decide), ?_⟩
          (conv => whnf)
          rw [rI_a _ _ _ _ (by decide), w3, nI_add]
          refine ⟨S3.1 549 (by decide), ?_⟩
          (conv => whnf)
          have F4 : Fr (fun x j => (x = 555 ∧ j = cls.length) ∨ (x = 549 ∧ j = 3)) h3 (ab_sI (ab_sI h3 555 cls.length (nI (stT b n i))) 549 3 (nI (cls.length + 1))) := Fr_tr (Fr_sI (Or.inl ⟨rfl, rfl⟩)) (Fr_sI (Or.inr ⟨rfl, rfl⟩))
          have g4 := F4.2.2.2.2
          have t4 : ∀ x j, ¬ (x = 555 ∧ j = cls.length) → ¬ (x = 549 ∧ j = 3) → ¬ fDd cls.length x j → ab_I (ab_sI (ab_sI h3 555 cls.length (nI (stT b n i))) 549 3 (nI (cls.length + 1))) x j = ab_I h1 x j := fun x j a1 a2 a3 => (g4 x j (fun w => w.elim a1 a2)).trans (g3 x j a3)
          refine ⟨Or.inr rfl, hy rfl _ (CI_new (i' := u.2.1 + 1) (ck := (srt (stT b n i), u.2.2)) (c := []) I0 ?_ ?_ (rI_s _ _ _ _) ?_ (fun j hj => ?_) ul (fun v hv => ?_) (fun k hk => ?_) (fun z => absurd z l3) (fun j hj => ?_) (fun z => absurd z l3) (fun j hj => ⟨?_, ?_⟩)) (Fr_tr FF (Fr_mo F4 (fun x k z => by unfold fCo; omega)))⟩
          · exact CT_fr F4 (fun w => by omega) (fun w => by omega) (fun x j h1 h2 w => by omega) D3.1
          · exact (g4 _ _ (fun w => by omega)).trans (D3.2.2.2.1.trans ((g1 _ _ (by omega)).trans c5))
          · rw [rI_a _ _ _ _ (by decide), rI_s]
            show nI (stT b n i) = nI (kc (srt (stT b n i)))
            rw [sk3]
          · exact (t4 _ _ (by omega) (by omega) (fun w => by unfold fDd at w; omega)).trans (g1 _ _ (by omega))
          · exact (g4 _ _ (fun w => by omega)).trans (D3.2.1 v hv)
          · exact (t4 _ _ (by omega) (by omega) (fun w => by unfold fDd at w; omega)).trans (g1 _ _ (by omega))
          · exact (g4 _ _ (fun w => by omega)).trans ((D3.2.2.2.2.1 _).trans (g1 _ _ (by omega)))
          · exact (t4 _ _ (by omega) (by omega) (fun w => by unfold fDd at w; omega)).trans (g1 _ _ (by omega))
          · exact (t4 _ _ (by omega) (by omega) (fun w => by unfold fDd at w; omega)).trans (g1 _ _ (by omega))
      · rw [if_pos z] at ey
        subst ey
        have S2 := Fr_Sh L2.2.2 S1
        have g3 : ∀ x j, ¬ fDd cls.length x j → ab_I h2 x j = ab_I h1 x j := L2.2.2.2.2.2.2
        have w3 : ab_I h2 549 3 = nI cls.length := (g3 _ _ (fun w => by unfold fDd at w; omega)).trans D1.2.2.1
        have FF : Fr fCl h h2 := Fr_tr (fCoC G1) (Fr_mo L2.2.2 (fun x k z => by unfold fDd at z; unfold fCl; omega))
        (conv => whnf)
        refine bT (by decide) ?_
        (conv => whnf)
        refine ⟨S2.1 549 (by decide), 555, S2.2.2 _ _ _ rfl, ?_⟩
        (conv => whnf)
        refine ⟨S2.1 549 (by decide), ?_⟩
        (conv => whnf)
        rw [w3]
        refine ⟨S2.1 555 (by decide), vin _ (S2.2.1 555 (by decide)) (by show cls.length < 24; omega) (by decide), ?_⟩
        (conv => whnf)
        rw [nI_clamp (by omega)]
        refine ⟨S2.1 549 (by decide), ?_⟩
        (conv => whnf)
        rw [rI_a _ _ _ _ (by decide), w3, nI_add]
        refine ⟨S2.1 549 (by decide), ?_⟩
        (conv => whnf)
        have F4 : Fr (fun x j => x = 555 ∨ (x = 549 ∧ j = 3)) h2 (ab_sI (ab_sI h2 555 cls.length (nI (stT b n i))) 549 3 (nI (cls.length + 1))) := Fr_tr (Fr_sI (Or.inl rfl)) (Fr_sI (Or.inr ⟨rfl, rfl⟩))
        exact ⟨Or.inl rfl, hno z _ ⟨(F4.2.2.2.2 _ _ (fun w => by omega)).trans L2.1, (F4.2.2.2.2 _ _ (fun w => by omega)).trans L2.2.1, Fr_tr FF (Fr_mo F4 (fun x k z => by unfold fCl; omega))⟩⟩
    · have l3 : stT b n i < 3 := by omega
      obtain ⟨j1, j2⟩ := i5 (stT b n i) l3
      refine ⟨S.1 549 (by decide), 558, S.2.2 _ _ _ rfl, ?_⟩
      (conv => whnf)
      refine ⟨S.1 558 (by decide), vin _ (S.2.1 558 (by decide)) (by show stT b n i < 3; omega) (by decide), ?_⟩
      (conv => whnf)
      rw [nI_clamp (by omega)]
      cases el : lws (stT b n i) with
      | some q =>
        obtain ⟨w', r', a0, c'⟩ := q
        obtain ⟨m1, m2, m3, m4⟩ := j2 w' r' a0 c' el
        rw [m1]
        refine bF (nI_m1 (by omega)) ?_
        (conv => whnf)
        rw [cq_4 _ _ _ _ _ _ t9 ⟨l3, by rw [el]; rfl⟩] at ey
        subst ey
        refine ⟨S.1 549 (by decide), ?_⟩
        refine hc _ _ _ _ (oc_refuse (by omega) S hn C 4 (fun h1 L1 => ?_))
        (conv => whnf)
        exact ⟨Or.inl rfl, hno (by show ¬ (4 : Nat) = 0; omega) h1 ⟨L1.1, L1.2.1, Fr_mo L1.2.2 (fun x k z => by unfold fRd at z; unfold fCl; omega)⟩⟩
      | none =>
        rw [j1 el]
        refine bT rfl ?_
        (conv => whnf)
        have nol : ¬ (stT b n i < 3 ∧ (lws (stT b n i)).isSome = true) := fun z => by rw [el] at z; exact Bool.noConfusion z.2
        refine ⟨S.1 549 (by decide), ?_⟩
        (conv => whnf)
        rw [c3]
        refine ⟨fun g24 => ?_, fun g24 => ?_⟩ <;> rw [nI_ltI (by omega) (by omega)] at g24 <;> (conv => whnf)
        rotate_left
        · rw [cq_6 _ _ _ _ _ _ t9 nol (by omega)] at ey
          subst ey
          refine ⟨S.1 549 (by decide), ?_⟩
          refine hc _ _ _ _ (oc_refuse (by omega) S hn C 6 (fun h1 L1 => ?_))
          (conv => whnf)
          exact ⟨Or.inl rfl, hno (by show ¬ (6 : Nat) = 0; omega) h1 ⟨L1.1, L1.2.1, Fr_mo L1.2.2 (fun x k z => by unfold fRd at z; unfold fCl; omega)⟩⟩
        have g24' : ¬ 24 ≤ cls.length := by omega
        obtain ⟨u, eu⟩ : ∃ u, ps (stT b n) (stV b n) (stT b n i) 4000 3 0 a (i + 1) = u := ⟨_, rfl⟩
        rw [cq_l _ _ _ _ _ _ nol g24' l3 eu] at ey
        refine ⟨S.1 549 (by decide), 550, S.2.2 _ _ _ rfl, ?_⟩
        (conv => whnf)
        refine ⟨S.1 550 (by decide), ?_⟩
        refine hc _ _ _ _ (oc_advance (by omega) S hn C (fun h1 C1 F1 => ?_))
        have S1 := Fr_Sh F1 S
        have g1 : ∀ x j, ¬ (x = 550 ∧ j = 7) → ab_I h1 x j = ab_I h x j := F1.2.2.2.2
        have G1 : Fr fCo h h1 := Fr_mo F1 (fun x k z => by unfold f57 at z; unfold fCo; omega)
        (conv => whnf)
        refine bF (by rw [nI_leI (by omega) (by omega)]; omega) ?_
        (conv => whnf)
        refine ⟨S1.1 549 (by decide), ?_⟩
        refine hc _ _ _ _ (oc_readLaw (by omega) S1 hn l3 (by omega) (by omega) C1 ((g1 _ _ (by omega)).trans c5) eu (fun z h2 C2 v5 v3 sg lo b8 b9 bo k5 S2 F2 => ?_) (fun z h2 L2 S2 v3 => ?_))
        · rw [if_neg (fun w => w z)] at ey
          have D2 : DSc h2 h2 b n cls.length u.2.1 [] := ⟨C2, fun j hj => absurd hj (Nat.not_lt_zero _), v3.trans ((g1 _ _ (by omega)).trans c3), rfl, fun _ => rfl, Fr_re⟩
          (conv => whnf)
          refine bF (by decide) ?_
          (conv => whnf)
          refine ⟨S2.1 549 (by decide), ?_⟩
          refine hc _ _ _ _ (oc_takenD (by omega) S2 hn D2 (by omega) (fun e59 h3 L3 => ?_) (fun e59 h3 D3 S3 => ?_))
          · rw [if_pos e59] at ey
            subst ey
            have S3 := Fr_Sh L3.2.2 S2
            have g3 : ∀ x j, ¬ fDd cls.length x j → ab_I h3 x j = ab_I h2 x j := L3.2.2.2.2.2.2
            have w3 : ab_I h3 549 3 = nI cls.length := (g3 _ _ (fun w => by unfold fDd at w; omega)).trans D2.2.2.1
            have FF : Fr fCl h h3 := Fr_tr (fCoC G1) (Fr_tr (fCoC F2) (Fr_mo L3.2.2 (fun x k z => by unfold fDd at z; unfold fCl; omega)))
            (conv => whnf)
            refine bT (by decide) ?_
            (conv => whnf)
            refine ⟨S3.1 549 (by decide), 555, S3.2.2 _ _ _ rfl, ?_⟩
            (conv => whnf)
            refine ⟨S3.1 549 (by decide), ?_⟩
            (conv => whnf)
            rw [w3]
            refine ⟨S3.1 555 (by decide), vin _ (S3.2.1 555 (by decide)) (by show cls.length < 24; omega) (by decide), ?_⟩
            (conv => whnf)
            rw [nI_clamp (by omega)]
            refine ⟨S3.1 549 (by decide), ?_⟩
            (conv => whnf)
            rw [rI_a _ _ _ _ (by decide), w3, nI_add]
            refine ⟨S3.1 549 (by decide), ?_⟩
            (conv => whnf)
            have F4 : Fr (fun x j => x = 555 ∨ (x = 549 ∧ j = 3)) h3 (ab_sI (ab_sI h3 555 cls.length (nI (stT b n i))) 549 3 (nI (cls.length + 1))) := Fr_tr (Fr_sI (Or.inl rfl)) (Fr_sI (Or.inr ⟨rfl, rfl⟩))
            exact ⟨Or.inl rfl, hno (by show ¬ (1 : Nat) = 0; omega) _ ⟨(F4.2.2.2.2 _ _ (fun w => by omega)).trans L3.1, (F4.2.2.2.2 _ _ (fun w => by omega)).trans L3.2.1, Fr_tr FF (Fr_mo F4 (fun x k z => by unfold fCl; omega))⟩⟩
          · rw [if_neg (fun w => w e59)] at ey
            subst ey
            have g3 : ∀ x j, ¬ fDd cls.length x j → ab_I h3 x j = ab_I h2 x j := (fDoD D3.2.2.2.2.2).2.2.2.2
            have w3 : ab_I h3 549 3 = nI cls.length := D3.2.2.1
            have FF : Fr fCo h h3 := Fr_tr G1 (Fr_tr F2 (Fr_mo D3.2.2.2.2.2 (fun x k z => by unfold fDo at z; unfold fCo; omega)))
            (conv => whnf)
            refine bF (by decide) ?_
            (conv => whnf)
            refine ⟨S3.1 549 (by decide), 555, S3.2.2 _ _ _ rfl, ?_⟩
            (conv => whnf)
            refine ⟨S3.1 549 (by decide), ?_⟩
            (conv => whnf)
            rw [w3]
            refine ⟨S3.1 555 (by decide), vin _ (S3.2.1 555 (by decide)) (by show cls.length < 24; omega) (by decide), ?_⟩
            (conv => whnf)
            rw [nI_clamp (by omega)]
            refine ⟨S3.1 549 (by decide), ?_⟩
            (conv => whnf)
            rw [rI_a _ _ _ _ (by decide), w3, nI_add]
            refine ⟨S3.1 549 (by decide), ?_⟩
            (conv => whnf)
            have F4 : Fr (fun x j => (x = 555 ∧ j = cls.length) ∨ (x = 549 ∧ j = 3)) h3 (ab_sI (ab_sI h3 555 cls.length (nI (stT b n i))) 549 3 (nI (cls.length + 1))) := Fr_tr (Fr_sI (Or.inl ⟨rfl, rfl⟩)) (Fr_sI (Or.inr ⟨rfl, rfl⟩))
            have g4 := F4.2.2.2.2
            have t4 : ∀ x j, ¬ (x = 555 ∧ j = cls.length) → ¬ (x = 549 ∧ j = 3) → ¬ fDd cls.length x j → ab_I (ab_sI (ab_sI h3 555 cls.length (nI (stT b n i))) 549 3 (nI (cls.length + 1))) x j = ab_I h2 x j := fun x j a1 a2 a3 => (g4 x j (fun w => w.elim a1 a2)).trans (g3 x j a3)
            have kl : kc (stT b n i) = stT b n i := (by decide +kernel : ∀ t, t < 3 → kc t = t) _ l3
            refine ⟨Or.inr rfl, hy rfl _ (CI_new (i' := u.2.1 + 1) (ck := (stT b n i, [])) I0 ?_ ?_ (rI_s _ _ _ _) ?_ (fun j hj => ?_) (Nat.zero_le _) (fun u hu => absurd hu (Nat.not_lt_zero _)) (fun k hk => ?_) (fun _ j hj => ?_) (fun j hj => ?_) (fun _ => ⟨?_, ?_⟩) (fun j hj => ⟨?_, ?_⟩)) (Fr_tr FF (Fr_mo F4 (fun x k z => by unfold fCo; omega)))⟩
            · exact CT_fr F4 (fun w => by omega) (fun w => by omega) (fun x j h1 h2 w => by omega) D3.1
            · exact (g4 _ _ (fun w => by omega)).trans (D3.2.2.2.1.trans v5)
            · rw [rI_a _ _ _ _ (by decide), rI_s]
              show nI (stT b n i) = nI (kc (stT b n i))
              rw [kl]
            · exact (t4 _ _ (by omega) (by omega) (fun w => by unfold fDd at w; omega)).trans ((k5 j).1.trans (g1 _ _ (by omega)))
            · exact (t4 _ _ (by omega) (by omega) (fun w => by unfold fDd at w; omega)).trans ((k5 k).2.trans (g1 _ _ (by omega)))
            · exact (g4 _ _ (fun w => by omega)).trans ((D3.2.2.2.2.1 _).trans (sg j hj))
            · exact (g4 _ _ (fun w => by omega)).trans ((D3.2.2.2.2.1 _).trans ((lo j hj).trans (g1 _ _ (by omega))))
            · exact (t4 _ _ (by omega) (by omega) (fun w => by unfold fDd at w; omega)).trans b8
            · exact (t4 _ _ (by omega) (by omega) (fun w => by unfold fDd at w; omega)).trans b9
            · exact (t4 _ _ (by omega) (by omega) (fun w => by unfold fDd at w; omega)).trans ((bo j (hj l3)).1.trans (g1 _ _ (by omega)))
            · exact (t4 _ _ (by omega) (by omega) (fun w => by unfold fDd at w; omega)).trans ((bo j (hj l3)).2.trans (g1 _ _ (by omega)))
        · rw [if_pos z] at ey
          subst ey
          have w3 : ab_I h2 549 3 = nI cls.length := v3.trans ((g1 _ _ (by omega)).trans c3)
          have FF : Fr fCl h h2 := Fr_tr (fCoC G1) L2.2.2
          (conv => whnf)
          refine bT (by decide) ?_
          (conv => whnf)
          refine ⟨S2.1 549 (by decide), 555, S2.2.2 _ _ _ rfl, ?_⟩
          (conv => whnf)
          refine ⟨S2.1 549 (by decide), ?_⟩
          (conv => whnf)
          rw [w3]
          refine ⟨S2.1 555 (by decide), vin _ (S2.2.1 555 (by decide)) (by show cls.length < 24; omega) (by decide), ?_⟩
          (conv => whnf)
          rw [nI_clamp (by omega)]
          refine ⟨S2.1 549 (by decide), ?_⟩
          (conv => whnf)
          rw [rI_a _ _ _ _ (by decide), w3, nI_add]
          refine ⟨S2.1 549 (by decide), ?_⟩
          (conv => whnf)
          have F4 : Fr (fun x j => x = 555 ∨ (x = 549 ∧ j = 3)) h2 (ab_sI (ab_sI h2 555 cls.length (nI (stT b n i))) 549 3 (nI (cls.length + 1))) := Fr_tr (Fr_sI (Or.inl rfl)) (Fr_sI (Or.inr ⟨rfl, rfl⟩))
          exact ⟨Or.inl rfl, hno z _ ⟨(F4.2.2.2.2 _ _ (fun w => by omega)).trans L2.1, (F4.2.2.2.2 _ _ (fun w => by omega)).trans L2.2.1, Fr_tr FF (Fr_mo F4 (fun x k z => by unfold fCl; omega))⟩⟩
  · have t9 : 9 < stT b n i := Nat.lt_of_not_le (fun z => e _ (Nat.zero_le _) z rfl)
    rw [cq_1 _ _ _ _ _ _ t9] at ey
    subst ey
    refine bP (by decide) ?_
    (conv => whnf)
    refine ⟨S.1 549 (by decide), ?_⟩
    refine hc _ _ _ _ (oc_refuse (by omega) S hn C 1 (fun h1 L1 => ?_))
    (conv => whnf)
    exact ⟨Or.inl rfl, hno (by show ¬ (1 : Nat) = 0; omega) h1 ⟨L1.1, L1.2.1, Fr_mo L1.2.2 (fun x k z => by unfold fRd at z; unfold fCl; omega)⟩⟩
end CCL2
