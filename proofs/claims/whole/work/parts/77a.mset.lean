/-! ===== contracts: the reference's reader, settling and looking at the pile (mine) ===== -/
def opA : List Nat → Nat
  | [] => 0
  | x :: p => if 40 ≤ x then p.length + 1 else opA p
def opN : List Nat → Nat
  | [] => 0
  | x :: p => if 40 ≤ x then x else opN p
def cmB : List Nat → Bool
  | [] => false
  | x :: p => if 4 < rnk x then cmB p else decide (rnk x = 4)
def tpA : List Nat → Prop
  | [] => False
  | x :: _ => 40 ≤ x ∨ (1 ≤ rnk x ∧ rnk x ≤ 3)
theorem opA_b : ∀ p : List Nat, opA p ≤ p.length := by
  intro p
  induction p with
  | nil => exact Nat.le_refl _
  | cons x p ih =>
    show (if 40 ≤ x then p.length + 1 else opA p) ≤ p.length + 1
    split <;> omega
theorem opA_N {h : Hp} : ∀ p : List Nat, PL h p → (opA p = 0 ↔ opN p = 0) ∧ (opN p ≠ 0 → ab_I h 585 (opA p - 1) = nI (opN p) ∧ 40 ≤ opN p ∧ opN p < 50) := by
  intro p
  induction p with
  | nil => intro _; exact ⟨⟨fun _ => rfl, fun _ => rfl⟩, fun z => absurd rfl z⟩
  | cons x p ih =>
    intro H
    have e1 : opA (x :: p) = if 40 ≤ x then p.length + 1 else opA p := rfl
    have e2 : opN (x :: p) = if 40 ≤ x then x else opN p := rfl
    by_cases c : 40 ≤ x
    · rw [if_pos c] at e1 e2
      rw [e1, e2]
      refine ⟨by omega, fun _ => ⟨?_, c, H.2.1⟩⟩
      rw [Nat.add_sub_cancel]
      exact H.1
    · rw [if_neg c] at e1 e2
      rw [e1, e2]
      exact ih H.2.2
section MP2
variable {d : Nat} {h : Hp} {Q : Option Value → Hp → Prop} {n B w0 lw : Nat} {b : Nat → Nat} {wr : List (Nat × Nat)} {p : List Nat} {o i w : Nat}
theorem om_settle (hd : 2 ≤ d) (S : Sh h) (hB : B ≤ 2115) (M : MRd h b n B w0 lw wr p o i w) {l : Nat} (hl : l ≤ 7) (hp : p.length ≤ 159) (hw : w0 + wr.length + p.length ≤ 303) (ho : o ≤ 8) (hs : stlN l p ≤ o) (hq : ∀ h', MRd h' b n B w0 lw (wr ++ stlW l p) (stlP l p) (o - stlN l p) i w → Fr (fMr B w0) h h' → Q none h') : ab_Ok d n_X12_settle [.ref 580, .int (nI l)] h Q := by
  refine ab_go mr_X12_settle rfl (by omega) (fun call W hc hW => ?_); (conv => whnf)
  have lp : ∀ (p : List Nat) (wr : List (Nat × Nat)) (o : Nat) (h' : Hp), Sh h' → MRd h' b n B w0 lw wr p o i w → p.length ≤ 159 → w0 + wr.length + p.length ≤ 303 → o ≤ 8 → stlN l p ≤ o → Fr (fMr B w0) h h' → (∀ h2, MRd h2 b n B w0 lw (wr ++ stlW l p) (stlP l p) (o - stlN l p) i w → Fr (fMr B w0) h h2 → Q none h2) → W 0 [.ref 580, .int (nI l)] h' 0 0 := by
    clear hq hs hw hp M
    intro p
    induction p with
    | nil =>
      intro wr o h' S' M _ _ _ _ F' hq
      have c16 := M.2.2.2.2.1
      have q := hq h' (by show MRd h' b n B w0 lw (wr ++ []) [] (o - 0) i w; rw [List.append_nil]; exact M) F'
      refine hW _ _ _ _ _ ?_
      (conv => whnf)
      refine ⟨S'.1 580 (by decide), ?_⟩
      (conv => whnf)
      rw [c16]
      refine bT (by decide) ?_
      (conv => whnf)
      exact q
    | cons x p ih =>
      intro wr o h' S' M hp hw ho hs F' hq
      have c16 : ab_I h' 580 16 = nI (p.length + 1) := M.2.2.2.2.1
      have c17 := M.2.2.2.2.2.1
      obtain ⟨px, xb, pp⟩ : PL h' (x :: p) := M.2.2.2.2.2.2.2.1
      rw [List.length_cons] at hp hw
      have rb := rnk_b x
      refine hW _ _ _ _ _ ?_
      (conv => whnf)
      refine ⟨S'.1 580 (by decide), ?_⟩
      (conv => whnf)
      rw [c16]
      refine bF (by rw [← nI_0, nI_leI (by omega) (by omega)]; omega) ?_
      (conv => whnf)
      refine ⟨S'.1 580 (by decide), 585, S'.2.2 _ _ _ rfl, ?_⟩
      (conv => whnf)
      refine ⟨S'.1 580 (by decide), ?_⟩
      (conv => whnf)
      rw [c16, pk_sub (by omega : 1 ≤ p.length + 1), Nat.add_sub_cancel]
      refine ⟨S'.1 585 (by decide), vin _ (S'.2.1 585 (by decide)) (by show p.length < 160; omega) (by decide), ?_⟩
      (conv => whnf)
      rw [nI_clamp (by omega), px]
      refine hc _ _ _ _ (om_rnk (by omega) xb ?_)
      (conv => whnf)
      refine ⟨fun f => ?_, fun f => ?_⟩ <;> rw [nI_ltI (by omega) (by omega)] at f <;> (conv => whnf)
      · refine hq h' ?_ F'
        have e1 : stlW l (x :: p) = [] := if_neg (by omega)
        have e2 : stlP l (x :: p) = x :: p := if_neg (by omega)
        have e3 : stlN l (x :: p) = 0 := if_neg (by omega)
        rw [e1, e2, e3, List.append_nil]
        exact M
      · have e1 : stlW l (x :: p) = (x, 0) :: stlW l p := if_pos (by omega)
        have e2 : stlP l (x :: p) = stlP l p := if_pos (by omega)
        have e3 : stlN l (x :: p) = (if rnk x = 7 ∨ x = 20 then 1 else 0) + stlN l p := if_pos (by omega)
        rw [e1, e2, e3] at hq
        rw [e3] at hs
        have e4 : wr ++ (x, 0) :: stlW l p = wr ++ [(x, 0)] ++ stlW l p := by rw [List.append_assoc]; rfl
        rw [e4] at hq
        refine ⟨S'.1 580 (by decide), ?_⟩
        (conv => whnf)
        rw [c16, pk_sub (by omega : 1 ≤ p.length + 1), Nat.add_sub_cancel]
        refine ⟨S'.1 580 (by decide), ?_⟩
        (conv => whnf)
        obtain ⟨h1, e5⟩ : ∃ h1, h1 = ab_sI h' 580 16 (nI p.length) := ⟨_, rfl⟩
        have F1 : Fr (fun a k => a = 580 ∧ k = 16) h' h1 := by rw [e5]; exact Fr_sI ⟨rfl, rfl⟩
        have S1 := Fr_Sh F1 S'
        have x85 : ∀ k, ab_I h1 585 k = ab_I h' 585 k := fun k => F1.2.2.2.2 585 k (fun z => by omega)
        have x16 : ab_I h1 580 16 = nI p.length := by rw [e5, rI_s]
        have M1 : MRd h1 b n B w0 lw wr p o i w := MRd_up M F1 (by rw [e5]; rfl) (fun k hk z => by omega) (fun k z => by omega) ((F1.2.2.2.2 580 13 (fun z => by omega)).trans M.2.2.1) x16 ((F1.2.2.2.2 580 17 (fun z => by omega)).trans c17) ((F1.2.2.2.2 580 18 (fun z => by omega)).trans M.2.2.2.2.2.2.1) (PL_eq (fun k _ => x85 k) pp) (MSeg_eq M.2.2.2.2.2.2.2.2 (fun k _ => F1.2.2.2.2 583 k (fun z => by omega)))
        have FF := Fr_tr F' (Fr_mo F1 (fun a k z => show fMr B w0 a k from by unfold fMr; omega))
        rw [← e5]
        clear e5
        refine ⟨S1.1 580 (by decide), 585, S1.2.2 _ _ _ rfl, ?_⟩
        (conv => whnf)
        refine ⟨S1.1 580 (by decide), ?_⟩
        (conv => whnf)
        rw [x16]
        refine ⟨S1.1 585 (by decide), vin _ (S1.2.1 585 (by decide)) (by show p.length < 160; omega) (by decide), ?_⟩
        (conv => whnf)
        rw [nI_clamp (by omega), x85, px]
        refine ⟨S1.1 580 (by decide), ?_⟩
        refine hc _ _ _ _ (om_emit (by omega) S1 hB M1 (by omega) x 0 (fun h2 M2 y85 F2 => ?_))
        have S2 := Fr_Sh F2 S1
        have l2 : (wr ++ [(x, 0)]).length = wr.length + 1 := by rw [List.length_append]; rfl
        have z16 : ab_I h2 580 16 = nI p.length := M2.2.2.2.2.1
        have z17 : ab_I h2 580 17 = nI o := M2.2.2.2.2.2.1
        have zx : ab_I h2 585 p.length = nI x := (y85 _).trans ((x85 _).trans px)
        have F3 := Fr_tr FF F2
        have dec : (rnk x = 7 ∨ x = 20) → W 0 [.ref 580, .int (nI l)] (ab_sI h2 580 17 (nI (o - 1))) 0 0 := by
          intro c
          rw [if_pos c] at hq hs
          have F4 : Fr (fun a k => a = 580 ∧ k = 17) h2 (ab_sI h2 580 17 (nI (o - 1))) := Fr_sI ⟨rfl, rfl⟩
          refine ih (wr ++ [(x, 0)]) (o - 1) _ (Fr_Sh F4 S2) (MRd_up M2 F4 rfl (fun k hk z => by omega) (fun k z => by omega) ((F4.2.2.2.2 580 13 (fun z => by omega)).trans M2.2.2.1) ((F4.2.2.2.2 580 16 (fun z => by omega)).trans z16) (rI_s _ _ _ _) ((F4.2.2.2.2 580 18 (fun z => by omega)).trans M2.2.2.2.2.2.2.1) (PL_eq (fun k _ => F4.2.2.2.2 585 k (fun z => by omega)) M2.2.2.2.2.2.2.2.1) (MSeg_eq M2.2.2.2.2.2.2.2.2 (fun k _ => F4.2.2.2.2 583 k (fun z => by omega)))) (by omega) (by omega) (by omega) (by omega) (Fr_tr F3 (Fr_mo F4 (fun a k z => show fMr B w0 a k from by unfold fMr; omega))) (fun h5 M5 F5 => hq h5 ?_ F5)
          rw [show o - (1 + stlN l p) = o - 1 - stlN l p by omega]
          exact M5
        have keep : ¬ (rnk x = 7 ∨ x = 20) → W 0 [.ref 580, .int (nI l)] h2 0 0 := by
          intro c
          rw [if_neg c, Nat.zero_add] at hq hs
          exact ih (wr ++ [(x, 0)]) o h2 S2 M2 (by omega) (by omega) ho hs F3 hq
        have oc1 : (rnk x = 7 ∨ x = 20) → 1 ≤ o := fun c => by rw [if_pos c] at hs; omega
        clear hq ih
        (conv => whnf)
        refine ⟨S2.1 580 (by decide), 585, S2.2.2 _ _ _ rfl, ?_⟩
        (conv => whnf)
        refine ⟨S2.1 580 (by decide), ?_⟩
        (conv => whnf)
        rw [z16]
        refine ⟨S2.1 585 (by decide), vin _ (S2.2.1 585 (by decide)) (by show p.length < 160; omega) (by decide), ?_⟩
        (conv => whnf)
        rw [nI_clamp (by omega), zx]
        refine hc _ _ _ _ (om_rnk (by omega) xb ?_)
        (conv => whnf)
        refine ⟨fun g => ?_, fun g => ?_⟩ <;> rw [nI_eq (by omega) (by omega)] at g <;> (conv => whnf)
        · have o1 := oc1 (Or.inl g)
          have dec := dec (Or.inl g)
          refine ⟨S2.1 580 (by decide), ?_⟩
          (conv => whnf)
          rw [z17, pk_sub o1]
          refine ⟨S2.1 580 (by decide), ?_⟩
          (conv => whnf)
          exact dec
        · refine ⟨S2.1 580 (by decide), 585, S2.2.2 _ _ _ rfl, ?_⟩
          (conv => whnf)
          refine ⟨S2.1 580 (by decide), ?_⟩
          (conv => whnf)
          rw [z16]
          refine ⟨S2.1 585 (by decide), vin _ (S2.2.1 585 (by decide)) (by show p.length < 160; omega) (by decide), ?_⟩
          (conv => whnf)
          rw [nI_clamp (by omega), zx]
          refine ⟨fun g2 => ?_, fun g2 => ?_⟩ <;> rw [nI_eq (by omega) (by omega)] at g2 <;> (conv => whnf)
          · exact keep (fun z => z.elim g g2)
          · have o1 := oc1 (Or.inr g2)
            have dec := dec (Or.inr g2)
            refine ⟨S2.1 580 (by decide), ?_⟩
            (conv => whnf)
            rw [z17, pk_sub o1]
            refine ⟨S2.1 580 (by decide), ?_⟩
            (conv => whnf)
            exact dec
  exact lp p wr o h S M hp hw ho hs Fr_re hq
theorem om_openAt (hd : 1 ≤ d) (S : Sh h) (c16 : ab_I h 580 16 = nI p.length) (P : PL h p) (hp : p.length ≤ 160) (hq : Q (some (.int (nI (opA p) - 1))) h) : ab_Ok d n_X12_openAt [.ref 580] h Q := by
  refine ab_go mr_X12_openAt rfl (by omega) (fun call W hc hW => ?_); (conv => whnf)
  have lp : ∀ p : List Nat, PL h p → p.length ≤ 160 → Q (some (.int (nI (opA p) - 1))) h → W 7 [.ref 580, .int (nI p.length - 1)] h 0 0 := by
    clear hq P hp c16
    intro p
    induction p with
    | nil =>
      intro _ _ hq
      refine hW _ _ _ _ _ ?_
      (conv => whnf)
      refine bT (by decide) ?_
      (conv => whnf)
      exact hq
    | cons x p ih =>
      intro P hp hq
      rw [List.length_cons] at hp
      have xb := P.2.1
      have e1 : opA (x :: p) = if 40 ≤ x then p.length + 1 else opA p := rfl
      rw [e1] at hq
      rw [List.length_cons, nm_pos (by omega), Nat.add_sub_cancel]
      refine hW _ _ _ _ _ ?_
      (conv => whnf)
      refine bF (by rw [z0, nI_ltI (by omega) (by omega)]; omega) ?_
      (conv => whnf)
      refine ⟨S.1 580 (by decide), 585, S.2.2 _ _ _ rfl, ?_⟩
      (conv => whnf)
      refine ⟨S.1 585 (by decide), vin _ (S.2.1 585 (by decide)) (by show p.length < 160; omega) (by decide), ?_⟩
      (conv => whnf)
      rw [nI_clamp (by omega), P.1]
      refine ⟨fun f => ?_, fun f => ?_⟩ <;> rw [nI_leI (by omega) (by omega)] at f <;> (conv => whnf)
      · rw [if_pos f, nm_pos (by omega), Nat.add_sub_cancel] at hq
        exact hq
      · rw [if_neg f] at hq
        refine W_h rfl ?_ (ih P.2.2 (by omega) hq)
        rw [show (-1 : Int32) = - 1 from rfl, ← Int32.sub_eq_add_neg]
        rfl
  refine ⟨S.1 580 (by decide), ?_⟩
  (conv => whnf)
  rw [c16]
  exact lp p P hp hq
theorem om_openNow (hd : 2 ≤ d) (S : Sh h) (c16 : ab_I h 580 16 = nI p.length) (P : PL h p) (hp : p.length ≤ 160) (hq : Q (some (.int (if opN p = 0 then -1 else nI (opN p)))) h) : ab_Ok d n_X12_openNow [.ref 580] h Q := by
  obtain ⟨a1, a2⟩ := opA_N p P
  have ab := opA_b p
  refine ab_go mr_X12_openNow rfl (by omega) (fun call W hc hW => ?_); (conv => whnf)
  refine ⟨S.1 580 (by decide), ?_⟩
  refine hc _ _ _ _ (om_openAt (by omega) S c16 P hp ?_)
  (conv => whnf)
  by_cases z : opN p = 0
  · rw [if_pos z] at hq
    rw [a1.mpr z]
    refine bF (by decide) ?_
    (conv => whnf)
    exact hq
  · rw [if_neg z] at hq
    have z1 : opA p ≠ 0 := fun y => z (a1.mp y)
    rw [nm_pos (by omega)]
    refine bT (by rw [z0, nI_leI (by omega) (by omega)]; omega) ?_
    (conv => whnf)
    refine ⟨S.1 580 (by decide), 585, S.2.2 _ _ _ rfl, ?_⟩
    (conv => whnf)
    refine ⟨S.1 580 (by decide), ?_⟩
    refine hc _ _ _ _ (om_openAt (by omega) S c16 P hp ?_)
    rw [nm_pos (by omega)]
    (conv => whnf)
    refine ⟨S.1 585 (by decide), vin _ (S.2.1 585 (by decide)) (by show opA p - 1 < 160; omega) (by decide), ?_⟩
    (conv => whnf)
    rw [nI_clamp (by omega), (a2 z).1]
    exact hq
theorem om_isCompared (hd : 2 ≤ d) (S : Sh h) (c16 : ab_I h 580 16 = nI p.length) (P : PL h p) (hp : p.length ≤ 160) (hy : cmB p = true → Q (some (.int (nI 1))) h) (hno : cmB p = false → Q (some (.int (nI 0))) h) : ab_Ok d n_X12_isCompared [.ref 580] h Q := by
  refine ab_go mr_X12_isCompared rfl (by omega) (fun call W hc hW => ?_); (conv => whnf)
  have lp : ∀ p : List Nat, PL h p → p.length ≤ 160 → (cmB p = true → Q (some (.int (nI 1))) h) → (cmB p = false → Q (some (.int (nI 0))) h) → W 7 [.ref 580, .int (nI p.length - 1)] h 0 0 := by
    clear hy hno P hp c16
    intro p
    induction p with
    | nil =>
      intro _ _ _ hno
      refine hW _ _ _ _ _ ?_
      (conv => whnf)
      refine bT (by decide) ?_
      (conv => whnf)
      refine bT (by decide) ?_
      (conv => whnf)
      exact ⟨Or.inl rfl, hno rfl⟩
    | cons x p ih =>
      intro P hp hy hno
      rw [List.length_cons] at hp
      have xb := P.2.1
      have rb := rnk_b x
      have e1 : cmB (x :: p) = if 4 < rnk x then cmB p else decide (rnk x = 4) := rfl
      rw [e1] at hy hno
      rw [List.length_cons, nm_pos (by omega), Nat.add_sub_cancel]
      refine hW _ _ _ _ _ ?_
      (conv => whnf)
      refine bF (by rw [z0, nI_ltI (by omega) (by omega)]; omega) ?_
      (conv => whnf)
      refine ⟨S.1 580 (by decide), 585, S.2.2 _ _ _ rfl, ?_⟩
      (conv => whnf)
      refine ⟨S.1 585 (by decide), vin _ (S.2.1 585 (by decide)) (by show p.length < 160; omega) (by decide), ?_⟩
      (conv => whnf)
      rw [nI_clamp (by omega), P.1]
      refine hc _ _ _ _ (om_rnk (by omega) xb ?_)
      (conv => whnf)
      refine ⟨fun f => ?_, fun f => ?_⟩ <;> rw [nI_leI (by omega) (by omega)] at f <;> (conv => whnf)
      · rw [if_neg (by omega)] at hy hno
        refine bF (by rw [z0, nI_ltI (by omega) (by omega)]; omega) ?_
        (conv => whnf)
        refine ⟨S.1 580 (by decide), 585, S.2.2 _ _ _ rfl, ?_⟩
        (conv => whnf)
        refine ⟨S.1 585 (by decide), vin _ (S.2.1 585 (by decide)) (by show p.length < 160; omega) (by decide), ?_⟩
        (conv => whnf)
        rw [nI_clamp (by omega), P.1]
        refine hc _ _ _ _ (om_rnk (by omega) xb ?_)
        (conv => whnf)
        refine ⟨fun g => ?_, fun g => ?_⟩ <;> rw [nI_eq (by omega) (by omega)] at g <;> (conv => whnf)
        · exact ⟨Or.inl rfl, hno (decide_eq_false g)⟩
        · exact ⟨Or.inr rfl, hy (decide_eq_true g)⟩
      · rw [if_pos (by omega)] at hy hno
        refine W_h rfl ?_ (ih P.2.2 (by omega) hy hno)
        rw [show (-1 : Int32) = - 1 from rfl, ← Int32.sub_eq_add_neg]
        rfl
  refine ⟨S.1 580 (by decide), ?_⟩
  (conv => whnf)
  rw [c16]
  exact lp p P hp hy hno
theorem om_isAskAhead (hd : 3 ≤ d) (S : Sh h) (c16 : ab_I h 580 16 = nI p.length) (P : PL h p) (hp : p.length ≤ 160) (hy : opN p = 41 → tpA p → Q (some (.int (nI 1))) h) (hno : ¬ (opN p = 41 ∧ tpA p) → Q (some (.int (nI 0))) h) : ab_Ok d n_X12_isAskAhead [.ref 580] h Q := by
  obtain ⟨a1, a2⟩ := opA_N p P
  refine ab_go mr_X12_isAskAhead rfl (by omega) (fun call W hc hW => ?_); (conv => whnf)
  refine ⟨S.1 580 (by decide), ?_⟩
  refine hc _ _ _ _ (om_openNow (by omega) S c16 P hp ?_)
  (conv => whnf)
  by_cases z : opN p = 41
  · rw [if_neg (by omega), z]
    refine bP (by decide) ?_
    (conv => whnf)
    cases p with
    | nil => exact absurd z (by show ¬ (0 : Nat) = 41; omega)
    | cons x p =>
      have xb := P.2.1
      have rb := rnk_b x
      have c16 : ab_I h 580 16 = nI (p.length + 1) := c16
      rw [List.length_cons] at hp
      refine ⟨S.1 580 (by decide), 585, S.2.2 _ _ _ rfl, ?_⟩
      (conv => whnf)
      refine ⟨S.1 580 (by decide), ?_⟩
      (conv => whnf)
      rw [c16, pk_sub (by omega : 1 ≤ p.length + 1), Nat.add_sub_cancel]
      refine ⟨S.1 585 (by decide), vin _ (S.2.1 585 (by decide)) (by show p.length < 160; omega) (by decide), ?_⟩
      (conv => whnf)
      rw [nI_clamp (by omega), P.1]
      refine ⟨fun f => ?_, fun f => ?_⟩ <;> rw [nI_leI (by omega) (by omega)] at f <;> (conv => whnf)
      · exact ⟨Or.inr rfl, hy z (Or.inl f)⟩
      · refine ⟨S.1 580 (by decide), 585, S.2.2 _ _ _ rfl, ?_⟩
        (conv => whnf)
        refine ⟨S.1 580 (by decide), ?_⟩
        (conv => whnf)
        rw [c16, pk_sub (by omega : 1 ≤ p.length + 1), Nat.add_sub_cancel]
        refine ⟨S.1 585 (by decide), vin _ (S.2.1 585 (by decide)) (by show p.length < 160; omega) (by decide), ?_⟩
        (conv => whnf)
        rw [nI_clamp (by omega), P.1]
        refine hc _ _ _ _ (om_rnk (by omega) xb ?_)
        (conv => whnf)
        refine hc _ _ _ _ (ok_inN (by omega) 1 3 (nI (rnk x)) (by omega) (by omega) (fun k k1 k2 e => ?_) (fun e => ?_)) <;> (conv => whnf)
        · have := (nI_eq (by omega) (by omega)).mp e
          refine bF (by decide) ?_
          (conv => whnf)
          exact ⟨Or.inr rfl, hy z (Or.inr (by omega))⟩
        · refine bT (by decide) ?_
          (conv => whnf)
          refine ⟨Or.inl rfl, hno (fun y => ?_)⟩
          rcases y.2 with y | y
          · exact f y
          · exact e (rnk x) y.1 y.2 rfl
  · refine bN ?_ ?_
    · by_cases z2 : opN p = 0
      · rw [if_pos z2]; decide
      · rw [if_neg z2, nI_eq (by have := a2 z2; omega) (by omega)]; exact z
    · (conv => whnf)
      exact ⟨Or.inl rfl, hno (fun y => z y.1)⟩
theorem om_opened (hd : 3 ≤ d) (S : Sh h) (hn : n ≤ 300) (M : MRd h b n B w0 lw wr p o i w) (hp : p.length ≤ 159) (ho : o ≤ 8) {x : Nat} (hx : x < 50) (h8 : o = 8 → Q (some (.int (nI 3))) h) (hq : o ≠ 8 → ∀ h', MRd h' b n B w0 lw wr (x :: p) (o + 1) (i + 1) w → Fr (fMr B w0) h h' → Q (some (.int (nI 0))) h') : ab_Ok d n_X12_opened [.ref 580, .int (nI x)] h Q := by
  have c16 := M.2.2.2.2.1
  have c17 := M.2.2.2.2.2.1
  have S' := S
  refine ab_go mr_X12_opened rfl (by omega) (fun call W hc hW => ?_); (conv => whnf)
  refine ⟨S'.1 580 (by decide), ?_⟩
  (conv => whnf)
  rw [c17]
  refine ⟨fun f => ?_, fun f => ?_⟩ <;> rw [nI_eq (by omega) (by omega)] at f <;> (conv => whnf)
  · refine ⟨S'.1 580 (by decide), ?_⟩
    (conv => whnf)
    rw [c17, nI_add]
    refine ⟨S'.1 580 (by decide), ?_⟩
    (conv => whnf)
    refine ⟨S.1 580 (by decide), 585, S.2.2 _ _ _ rfl, ?_⟩
    (conv => whnf)
    refine ⟨S'.1 580 (by decide), ?_⟩
    (conv => whnf)
    rw [rI_k _ _ _ (by decide), c16]
    refine ⟨S.1 585 (by decide), vin _ (S.2.1 585 (by decide)) (by show p.length < 160; omega) (by decide), ?_⟩
    (conv => whnf)
    rw [nI_clamp (by omega)]
    refine ⟨S'.1 580 (by decide), ?_⟩
    (conv => whnf)
    rw [rI_a _ _ _ _ (by decide), rI_k _ _ _ (by decide), c16, nI_add]
    refine ⟨S'.1 580 (by decide), ?_⟩
    (conv => whnf)
    obtain ⟨h1, e1⟩ : ∃ h1, h1 = ab_sI (ab_sI (ab_sI h 580 17 (nI (o + 1))) 585 p.length (nI x)) 580 16 (nI (p.length + 1)) := ⟨_, rfl⟩
    have F1 : Fr (fun a k => (a = 580 ∧ (k = 16 ∨ k = 17)) ∨ (a = 585 ∧ k = p.length)) h h1 := by rw [e1]; exact Fr_tr (Fr_sI (Or.inl ⟨rfl, by omega⟩)) (Fr_tr (Fr_sI (Or.inr ⟨rfl, rfl⟩)) (Fr_sI (Or.inl ⟨rfl, by omega⟩)))
    have S1 := Fr_Sh F1 S
    have M1 : MRd h1 b n B w0 lw wr (x :: p) (o + 1) i w := by
      refine MRd_up M F1 (by rw [e1]; rfl) (fun k hk z => by omega) (fun k z => by omega) ((F1.2.2.2.2 580 13 (fun z => by omega)).trans M.2.2.1) ?_ ?_ ((F1.2.2.2.2 580 18 (fun z => by omega)).trans M.2.2.2.2.2.2.1) ⟨?_, hx, PL_eq (fun k hk => F1.2.2.2.2 585 k (fun z => by omega)) M.2.2.2.2.2.2.2.1⟩ (MSeg_eq M.2.2.2.2.2.2.2.2 (fun k _ => F1.2.2.2.2 583 k (fun z => by omega)))
      · rw [e1, rI_s]; rfl
      · rw [e1, rI_k _ _ _ (by decide), rI_a _ _ _ _ (by decide), rI_s]
      · rw [e1, rI_a _ _ _ _ (by decide), rI_s]
    rw [← e1]
    clear e1
    refine ⟨S1.1 580 (by decide), ?_⟩
    refine hc _ _ _ _ (om_next (by omega) S1 hn M1.1 (fun h2 T2 F2 => ?_))
    (conv => whnf)
    refine hq f h2 ⟨T2, ?_⟩ (Fr_tr (Fr_mo F1 (fun a k z => show fMr B w0 a k from by unfold fMr; omega)) (Fr_mo F2 (fun a k z => by unfold fT at z; unfold fMr; omega)))
    have f5 : ∀ k, (k < 7 ∨ 10 < k) → ab_I h2 580 k = ab_I h1 580 k := fun k hk => F2.2.2.2.2 580 k (fun z => by unfold fT at z; omega)
    exact ⟨(f5 12 (by omega)).trans M1.2.1, (f5 13 (by omega)).trans M1.2.2.1, (f5 14 (by omega)).trans M1.2.2.2.1, (f5 16 (by omega)).trans M1.2.2.2.2.1, (f5 17 (by omega)).trans M1.2.2.2.2.2.1, (f5 18 (by omega)).trans M1.2.2.2.2.2.2.1, PL_eq (fun k _ => F2.2.2.2.2 585 k (fun z => by unfold fT at z; omega)) M1.2.2.2.2.2.2.2.1, MSeg_eq M1.2.2.2.2.2.2.2.2 (fun k _ => F2.2.2.2.2 583 k (fun z => by unfold fT at z; omega))⟩
  · exact h8 f
end MP2
