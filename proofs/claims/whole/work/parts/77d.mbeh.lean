/-! ===== contracts: the reference's reader, what stands behind one (mine) ===== -/
theorem stlW_len (l : Nat) : ∀ p : List Nat, (stlW l p).length + (stlP l p).length = p.length := by
  intro p
  induction p with
  | nil => rfl
  | cons x p ih =>
    show (if l ≤ rnk x then (x, 0) :: stlW l p else []).length + (if l ≤ rnk x then stlP l p else x :: p).length = p.length + 1
    split
    · rw [List.length_cons]; omega
    · rw [List.length_nil, List.length_cons]; omega
def lvS (op : Nat) : Nat := if rnk op = 4 then 5 else rnk op
section MH2
variable {d : Nat} {h : Hp} {Q : Option Value → Hp → Prop} {n B w0 lw : Nat} {b : Nat → Nat} {wr : List (Nat × Nat)} {p : List Nat} {o i w : Nat}
theorem om_behindA (hd : 8 ≤ d) (S : Sh h) (hn : n ≤ 300) (hB : B ≤ 2115) (M : MRd h b n B w0 lw wr p o i w) (hp : p.length ≤ 158) (hw : w0 + wr.length + p.length ≤ 302) (ho : o ≤ 8) {op : Nat} (hop : op < 40) (hb : btw (stT b n i) p = nI op) (hs : stlN (lvS op) p ≤ o) (hq : ∀ h', MRd h' b n B w0 lw (wr ++ stlW (lvS op) p) (op :: stlP (lvS op) p) (o - stlN (lvS op) p) (i + 1) 0 → Fr (fMr B w0) h h' → Q (some (.int (nI 1))) h') : ab_Ok d n_X12_behindOne [.ref 580] h Q := by
  have S' := S
  have rb := rnk_b op
  have lb : lvS op ≤ 7 := by unfold lvS; split <;> omega
  have wl := stlW_len (lvS op) p
  have tail : ∀ h1, MRd h1 b n B w0 lw (wr ++ stlW (lvS op) p) (stlP (lvS op) p) (o - stlN (lvS op) p) i w → Fr (fMr B w0) h h1 → MRd (ab_sI (ab_sI (ab_sI h1 585 (stlP (lvS op) p).length (nI op)) 580 16 (nI ((stlP (lvS op) p).length + 1))) 580 18 (nI 0)) b n B w0 lw (wr ++ stlW (lvS op) p) (op :: stlP (lvS op) p) (o - stlN (lvS op) p) i 0 ∧ Fr (fMr B w0) h (ab_sI (ab_sI (ab_sI h1 585 (stlP (lvS op) p).length (nI op)) 580 16 (nI ((stlP (lvS op) p).length + 1))) 580 18 (nI 0)) := by
    intro h1 M1 F1
    have F2 : Fr (fun a k => (a = 580 ∧ (k = 16 ∨ k = 18)) ∨ (a = 585 ∧ k = (stlP (lvS op) p).length)) h1 (ab_sI (ab_sI (ab_sI h1 585 (stlP (lvS op) p).length (nI op)) 580 16 (nI ((stlP (lvS op) p).length + 1))) 580 18 (nI 0)) := Fr_tr (Fr_sI (Or.inr ⟨rfl, rfl⟩)) (Fr_tr (Fr_sI (Or.inl ⟨rfl, by omega⟩)) (Fr_sI (Or.inl ⟨rfl, by omega⟩)))
    refine ⟨MRd_up M1 F2 rfl (fun k hk z => by omega) (fun k z => by omega) ((F2.2.2.2.2 580 13 (fun z => by omega)).trans M1.2.2.1) ?_ ((F2.2.2.2.2 580 17 (fun z => by omega)).trans M1.2.2.2.2.2.1) (rI_s _ _ _ _) ⟨?_, by omega, PL_eq (fun k hk => F2.2.2.2.2 585 k (fun z => by omega)) M1.2.2.2.2.2.2.2.1⟩ (MSeg_eq M1.2.2.2.2.2.2.2.2 (fun k _ => F2.2.2.2.2 583 k (fun z => by omega))), Fr_tr F1 (Fr_mo F2 (fun a k z => show fMr B w0 a k from by unfold fMr; omega))⟩
    · rw [rI_k _ _ _ (by decide), rI_s]; rfl
    · rw [rI_a _ _ _ _ (by decide), rI_a _ _ _ _ (by decide), rI_s]
  refine ab_go mr_X12_behindOne rfl (by omega) (fun call W hc hW => ?_); (conv => whnf)
  refine ⟨S'.1 580 (by decide), ?_⟩
  refine hc _ _ _ _ (om_betweenOf (by omega) S M (by omega) ?_)
  rw [hb]
  (conv => whnf)
  refine bF (by rw [z0, nI_ltI (by omega) (by omega)]; omega) ?_
  (conv => whnf)
  refine hc _ _ _ _ (om_rnk (by omega) (by omega) ?_)
  (conv => whnf)
  refine ⟨fun f => ?_, fun f => ?_⟩ <;> rw [nI_eq (by omega) (by omega)] at f <;> (conv => whnf)
  · have el : lvS op = rnk op := if_neg f
    refine hc _ _ _ _ (om_rnk (by omega) (by omega) ?_)
    rw [← el]
    (conv => whnf)
    refine ⟨S.1 580 (by decide), ?_⟩
    refine hc _ _ _ _ (om_settle (by omega) S hB M lb (by omega) (by omega) ho hs (fun h1 M1 F1 => ?_))
    have S1 := Fr_Sh F1 S
    have y16 := M1.2.2.2.2.1
    obtain ⟨M2, F2⟩ := tail h1 M1 F1
    (conv => whnf)
    refine ⟨S1.1 580 (by decide), 585, S1.2.2 _ _ _ rfl, ?_⟩
    (conv => whnf)
    refine ⟨S1.1 580 (by decide), ?_⟩
    (conv => whnf)
    rw [y16]
    refine ⟨S1.1 585 (by decide), vin _ (S1.2.1 585 (by decide)) (by show (stlP (lvS op) p).length < 160; omega) (by decide), ?_⟩
    (conv => whnf)
    rw [nI_clamp (by omega)]
    refine ⟨S1.1 580 (by decide), ?_⟩
    (conv => whnf)
    rw [rI_a _ _ _ _ (by decide), y16, nI_add]
    refine ⟨S1.1 580 (by decide), ?_⟩
    (conv => whnf)
    refine ⟨S1.1 580 (by decide), Or.inl rfl, ?_⟩
    (conv => whnf)
    have S2 := Fr_Sh F2 S
    refine ⟨S2.1 580 (by decide), ?_⟩
    refine hc _ _ _ _ (om_next (by omega) S2 hn M2.1 (fun h3 T3 F3 => ?_))
    (conv => whnf)
    exact ⟨Or.inr rfl, hq h3 (MRd_nx M2 T3 F3) (Fr_tr F2 (fTM2 F3))⟩
  · have el : lvS op = 5 := if_pos f
    rw [show nI 5 = nI (lvS op) by rw [el]]
    refine ⟨S.1 580 (by decide), ?_⟩
    refine hc _ _ _ _ (om_settle (by omega) S hB M lb (by omega) (by omega) ho hs (fun h1 M1 F1 => ?_))
    have S1 := Fr_Sh F1 S
    have y16 := M1.2.2.2.2.1
    obtain ⟨M2, F2⟩ := tail h1 M1 F1
    (conv => whnf)
    refine ⟨S1.1 580 (by decide), 585, S1.2.2 _ _ _ rfl, ?_⟩
    (conv => whnf)
    refine ⟨S1.1 580 (by decide), ?_⟩
    (conv => whnf)
    rw [y16]
    refine ⟨S1.1 585 (by decide), vin _ (S1.2.1 585 (by decide)) (by show (stlP (lvS op) p).length < 160; omega) (by decide), ?_⟩
    (conv => whnf)
    rw [nI_clamp (by omega)]
    refine ⟨S1.1 580 (by decide), ?_⟩
    (conv => whnf)
    rw [rI_a _ _ _ _ (by decide), y16, nI_add]
    refine ⟨S1.1 580 (by decide), ?_⟩
    (conv => whnf)
    refine ⟨S1.1 580 (by decide), Or.inl rfl, ?_⟩
    (conv => whnf)
    have S2 := Fr_Sh F2 S
    refine ⟨S2.1 580 (by decide), ?_⟩
    refine hc _ _ _ _ (om_next (by omega) S2 hn M2.1 (fun h3 T3 F3 => ?_))
    (conv => whnf)
    exact ⟨Or.inr rfl, hq h3 (MRd_nx M2 T3 F3) (Fr_tr F2 (fTM2 F3))⟩
theorem om_behindB (hd : 8 ≤ d) (S : Sh h) (M : MRd h b n B w0 lw wr p o i w) (hp : p.length ≤ 158) (hb : btw (stT b n i) p = -1) (hr : prt (stT b n i) p = -1) (hq : Q (some (.int (nI 0))) h) : ab_Ok d n_X12_behindOne [.ref 580] h Q := by
  have S' := S
  have c16 := M.2.2.2.2.1
  have P := M.2.2.2.2.2.2.2.1
  refine ab_go mr_X12_behindOne rfl (by omega) (fun call W hc hW => ?_); (conv => whnf)
  refine ⟨S'.1 580 (by decide), ?_⟩
  refine hc _ _ _ _ (om_betweenOf (by omega) S M (by omega) ?_)
  rw [hb]
  (conv => whnf)
  refine bT (by decide) ?_
  (conv => whnf)
  refine ⟨S'.1 580 (by decide), ?_⟩
  refine hc _ _ _ _ (om_openNow (by omega) S c16 P (by omega) ?_)
  (conv => whnf)
  refine ⟨S'.1 580 (by decide), ?_⟩
  refine hc _ _ _ _ (om_partOf (by omega) S M (by omega) ?_)
  rw [hr]
  (conv => whnf)
  refine bF (by decide) ?_
  (conv => whnf)
  exact ⟨Or.inl rfl, hq⟩
theorem om_behindC (hd : 8 ≤ d) (S : Sh h) (hn : n ≤ 300) (hB : B ≤ 2115) (M : MRd h b n B w0 lw wr p o i w) (hp : p.length ≤ 158) (hw : w0 + wr.length + p.length ≤ 302) (ho : o ≤ 8) (hb : btw (stT b n i) p = -1) {x z : Nat} {p0 : List Nat} (hx : x = 42 ∨ x = 43) (hr : prt (stT b n i) p = nI x) (hz : 40 ≤ z) (hP : stlP 1 p = z :: p0) (hs : stlN 1 p ≤ o) (hq : ∀ h', MRd h' b n B w0 lw (wr ++ stlW 1 p) (x :: p0) (o - stlN 1 p) (i + 1) 0 → Fr (fMr B w0) h h' → Q (some (.int (nI 1))) h') : ab_Ok d n_X12_behindOne [.ref 580] h Q := by
  have S' := S
  have c16 := M.2.2.2.2.1
  have P := M.2.2.2.2.2.2.2.1
  have wl := stlW_len 1 p
  rw [hP, List.length_cons] at wl
  refine ab_go mr_X12_behindOne rfl (by omega) (fun call W hc hW => ?_); (conv => whnf)
  refine ⟨S'.1 580 (by decide), ?_⟩
  refine hc _ _ _ _ (om_betweenOf (by omega) S M (by omega) ?_)
  rw [hb]
  (conv => whnf)
  refine bT (by decide) ?_
  (conv => whnf)
  refine ⟨S'.1 580 (by decide), ?_⟩
  refine hc _ _ _ _ (om_openNow (by omega) S c16 P (by omega) ?_)
  (conv => whnf)
  refine ⟨S'.1 580 (by decide), ?_⟩
  refine hc _ _ _ _ (om_partOf (by omega) S M (by omega) ?_)
  rw [hr]
  (conv => whnf)
  refine bT (by rw [z0, nI_leI (by omega) (by omega)]; omega) ?_
  (conv => whnf)
  refine ⟨S'.1 580 (by decide), ?_⟩
  refine hc _ _ _ _ (om_settle (by omega) S hB M (by omega) (by omega) (by omega) ho hs (fun h1 M1 F1 => ?_))
  rw [hP] at M1
  have S1 := Fr_Sh F1 S
  (conv => whnf)
  refine ⟨S1.1 580 (by decide), ?_⟩
  refine hc _ _ _ _ (om_next (by omega) S1 hn M1.1 (fun h2 T2 F2 => ?_))
  have S2 := Fr_Sh F2 S1
  have M2 := MRd_nx M1 T2 F2
  have P2 := M2.2.2.2.2.2.2.2.1
  have eA : opA (z :: p0) = p0.length + 1 := if_pos hz
  (conv => whnf)
  refine bF (by rw [z0, nI_leI (by omega) (by omega)]; omega) ?_
  (conv => whnf)
  refine ⟨S2.1 580 (by decide), 585, S2.2.2 _ _ _ rfl, ?_⟩
  (conv => whnf)
  refine ⟨S2.1 580 (by decide), ?_⟩
  refine hc _ _ _ _ (om_openAt (by omega) S2 M2.2.2.2.2.1 P2 (by rw [List.length_cons]; omega) ?_)
  rw [eA, nm_pos (by omega), Nat.add_sub_cancel]
  (conv => whnf)
  refine ⟨S2.1 585 (by decide), vin _ (S2.2.1 585 (by decide)) (by show p0.length < 160; omega) (by decide), ?_⟩
  (conv => whnf)
  rw [nI_clamp (by omega)]
  refine ⟨S2.1 580 (by decide), Or.inl rfl, ?_⟩
  (conv => whnf)
  have F3 : Fr (fun a k => (a = 580 ∧ k = 18) ∨ (a = 585 ∧ k = p0.length)) h2 (ab_sI (ab_sI h2 585 p0.length (nI x)) 580 18 (nI 0)) := Fr_tr (Fr_sI (Or.inr ⟨rfl, rfl⟩)) (Fr_sI (Or.inl ⟨rfl, rfl⟩))
  refine ⟨Or.inr rfl, hq _ (MRd_up M2 F3 rfl (fun k hk z => by omega) (fun k z => by omega) ((F3.2.2.2.2 580 13 (fun z => by omega)).trans M2.2.2.1) ((F3.2.2.2.2 580 16 (fun z => by omega)).trans M2.2.2.2.2.1) ((F3.2.2.2.2 580 17 (fun z => by omega)).trans M2.2.2.2.2.2.1) (rI_s _ _ _ _) ⟨?_, by omega, PL_eq (fun k hk => F3.2.2.2.2 585 k (fun z => by omega)) P2.2.2⟩ (MSeg_eq M2.2.2.2.2.2.2.2.2 (fun k _ => F3.2.2.2.2 583 k (fun z => by omega)))) (Fr_tr F1 (Fr_tr (fTM2 F2) (Fr_mo F3 (fun a k z => show fMr B w0 a k from by unfold fMr; omega))))⟩
  rw [rI_a _ _ _ _ (by decide), rI_s]
theorem om_behindD (hd : 8 ≤ d) (S : Sh h) (hn : n ≤ 300) (hB : B ≤ 2115) (M : MRd h b n B w0 lw wr p o i w) (hp : p.length ≤ 158) (hw : w0 + wr.length + p.length ≤ 302) (ho : o ≤ 8) (hb : btw (stT b n i) p = -1) {z : Nat} {p0 : List Nat} (hr : prt (stT b n i) p = nI 0) (hz : opN p = z) (hz40 : 40 ≤ z) (hz50 : z < 50) (hP : stlP 1 p = z :: p0) (hs : stlN 1 p + 1 + stlN 7 p0 ≤ o) (hq : ∀ h', MRd h' b n B w0 lw (wr ++ stlW 1 p ++ (if z = 43 then [(3, 0)] else []) ++ stlW 7 p0) (stlP 7 p0) (o - stlN 1 p - 1 - stlN 7 p0) (i + 1) w → Fr (fMr B w0) h h' → Q (some (.int (nI 1))) h') : ab_Ok d n_X12_behindOne [.ref 580] h Q := by
  have S' := S
  have c16 := M.2.2.2.2.1
  have P := M.2.2.2.2.2.2.2.1
  have wl := stlW_len 1 p
  rw [hP, List.length_cons] at wl
  refine ab_go mr_X12_behindOne rfl (by omega) (fun call W hc hW => ?_); (conv => whnf)
  refine ⟨S'.1 580 (by decide), ?_⟩
  refine hc _ _ _ _ (om_betweenOf (by omega) S M (by omega) ?_)
  rw [hb]
  (conv => whnf)
  refine bT (by decide) ?_
  (conv => whnf)
  refine ⟨S'.1 580 (by decide), ?_⟩
  refine hc _ _ _ _ (om_openNow (by omega) S c16 P (by omega) ?_)
  (conv => whnf)
  refine ⟨S'.1 580 (by decide), ?_⟩
  refine hc _ _ _ _ (om_partOf (by omega) S M (by omega) ?_)
  rw [hr, hz, if_neg (by omega)]
  (conv => whnf)
  refine bT (by decide) ?_
  (conv => whnf)
  refine ⟨S'.1 580 (by decide), ?_⟩
  refine hc _ _ _ _ (om_settle (by omega) S hB M (by omega) (by omega) (by omega) ho (by omega) (fun h1 M1 F1 => ?_))
  rw [hP] at M1
  have S1 := Fr_Sh F1 S
  (conv => whnf)
  refine ⟨S1.1 580 (by decide), ?_⟩
  refine hc _ _ _ _ (om_next (by omega) S1 hn M1.1 (fun h2 T2 F2 => ?_))
  have S2 := Fr_Sh F2 S1
  have M2 := MRd_nx M1 T2 F2
  have P2 := M2.2.2.2.2.2.2.2.1
  have y16 : ab_I h2 580 16 = nI (p0.length + 1) := M2.2.2.2.2.1
  have y17 := M2.2.2.2.2.2.1
  have lw1 : (wr ++ stlW 1 p).length = wr.length + (stlW 1 p).length := List.length_append
  (conv => whnf)
  refine bT (by decide) ?_
  (conv => whnf)
  refine ⟨S2.1 580 (by decide), ?_⟩
  (conv => whnf)
  rw [y17, pk_sub (by omega : 1 ≤ o - stlN 1 p)]
  refine ⟨S2.1 580 (by decide), ?_⟩
  (conv => whnf)
  refine ⟨S2.1 580 (by decide), ?_⟩
  (conv => whnf)
  rw [rI_k _ _ _ (by decide), y16, pk_sub (by omega : 1 ≤ p0.length + 1), Nat.add_sub_cancel]
  refine ⟨S2.1 580 (by decide), ?_⟩
  (conv => whnf)
  obtain ⟨h3, e3⟩ : ∃ h3, h3 = ab_sI (ab_sI h2 580 17 (nI (o - stlN 1 p - 1))) 580 16 (nI p0.length) := ⟨_, rfl⟩
  have F3 : Fr (fun a k => a = 580 ∧ (k = 16 ∨ k = 17)) h2 h3 := by rw [e3]; exact Fr_tr (Fr_sI ⟨rfl, by omega⟩) (Fr_sI ⟨rfl, by omega⟩)
  have S3 := Fr_Sh F3 S2
  have M3 : MRd h3 b n B w0 lw (wr ++ stlW 1 p) p0 (o - stlN 1 p - 1) (i + 1) w := by
    refine MRd_up M2 F3 (by rw [e3]; rfl) (fun k hk z => by omega) (fun k z => by omega) ((F3.2.2.2.2 580 13 (fun z => by omega)).trans M2.2.2.1) ?_ ?_ ((F3.2.2.2.2 580 18 (fun z => by omega)).trans M2.2.2.2.2.2.2.1) (PL_eq (fun k hk => F3.2.2.2.2 585 k (fun z => by omega)) P2.2.2) (MSeg_eq M2.2.2.2.2.2.2.2.2 (fun k _ => F3.2.2.2.2 583 k (fun z => by omega)))
    · rw [e3, rI_s]
    · rw [e3, rI_k _ _ _ (by decide), rI_s]
  have FF := Fr_tr F1 (Fr_tr (fTM2 F2) (Fr_mo F3 (fun a k z => show fMr B w0 a k from by unfold fMr; omega)))
  rw [← e3]
  clear e3
  refine ⟨fun g => ?_, fun g => ?_⟩ <;> rw [nI_eq (by omega) (by omega)] at g <;> (conv => whnf)
  · rw [if_neg g, List.append_nil] at hq
    refine ⟨S3.1 580 (by decide), ?_⟩
    refine hc _ _ _ _ (om_settle (by omega) S3 hB M3 (Nat.le_refl _) (by omega) (by omega) (by omega) (by omega) (fun h4 M4 F4 => ?_))
    (conv => whnf)
    exact ⟨Or.inr rfl, hq h4 M4 (Fr_tr FF F4)⟩
  · rw [if_pos g] at hq
    refine ⟨S3.1 580 (by decide), ?_⟩
    refine hc _ _ _ _ (om_emit (by omega) S3 hB M3 (by omega) 3 0 (fun h4 M4 _ F4 => ?_))
    have S4 := Fr_Sh F4 S3
    have l4 : (wr ++ stlW 1 p ++ [(3, 0)]).length = wr.length + (stlW 1 p).length + 1 := by rw [List.length_append, lw1]; rfl
    (conv => whnf)
    refine ⟨S4.1 580 (by decide), ?_⟩
    refine hc _ _ _ _ (om_settle (by omega) S4 hB M4 (Nat.le_refl _) (by omega) (by omega) (by omega) (by omega) (fun h5 M5 F5 => ?_))
    (conv => whnf)
    exact ⟨Or.inr rfl, hq h5 M5 (Fr_tr FF (Fr_tr F4 F5))⟩
end MH2
