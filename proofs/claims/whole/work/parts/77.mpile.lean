/-! ===== contracts: the reference's reader, its pile (mine) ===== -/
def rnk (o : Nat) : Nat := if 40 ≤ o then 0 else if o = 22 then 1 else if o = 21 then 2 else if o = 20 then 3 else if 10 ≤ o then 4 else if 8 ≤ o then 6 else if 6 ≤ o then 5 else 7
theorem rnk_b (o : Nat) : rnk o ≤ 7 := by unfold rnk; (repeat' split) <;> omega
/-- the pile, its top ahead -/
def PL (h : Hp) : List Nat → Prop
  | [] => True
  | x :: p => ab_I h 585 p.length = nI x ∧ x < 50 ∧ PL h p
def MRd (h : Hp) (b : Nat → Nat) (n B w0 lw : Nat) (wr : List (Nat × Nat)) (p : List Nat) (o i w : Nat) : Prop := MT h b n i ∧ ab_I h 580 12 = nI B ∧ ab_I h 580 13 = nI (w0 + wr.length) ∧ ab_I h 580 14 = nI lw ∧ ab_I h 580 16 = nI p.length ∧ ab_I h 580 17 = nI o ∧ ab_I h 580 18 = nI w ∧ PL h p ∧ MSeg h B w0 wr
def fMr (B w0 : Nat) (a k : Nat) : Prop := (a = 580 ∧ ((7 ≤ k ∧ k ≤ 10) ∨ k = 13 ∨ k = 16 ∨ k = 17 ∨ k = 18)) ∨ a = 585 ∨ (a = 583 ∧ B + 97 + 2 * w0 ≤ k)
def stlW (l : Nat) : List Nat → List (Nat × Nat)
  | [] => []
  | x :: p => if l ≤ rnk x then (x, 0) :: stlW l p else []
def stlP (l : Nat) : List Nat → List Nat
  | [] => []
  | x :: p => if l ≤ rnk x then stlP l p else x :: p
def stlN (l : Nat) : List Nat → Nat
  | [] => 0
  | x :: p => if l ≤ rnk x then (if rnk x = 7 ∨ x = 20 then 1 else 0) + stlN l p else 0
theorem PL_eq {h h' : Hp} : ∀ {p : List Nat}, (∀ k, k < p.length → ab_I h' 585 k = ab_I h 585 k) → PL h p → PL h' p := by
  intro p
  induction p with
  | nil => intro _ _; exact trivial
  | cons x p ih =>
    intro e H
    exact ⟨(e _ (by rw [List.length_cons]; omega)).trans H.1, H.2.1, ih (fun k hk => e k (by rw [List.length_cons]; omega)) H.2.2⟩
/-- ints of the reference's own cells change, no longs do -/
theorem MRd_up {h h' : Hp} {b : Nat → Nat} {n B w0 lw : Nat} {wr wr' : List (Nat × Nat)} {p p' : List Nat} {o i w o' w' : Nat} (M : MRd h b n B w0 lw wr p o i w) {P : Nat → Nat → Prop} (F : Fr P h h') (hJ : ab_J h' = ab_J h) (h1 : ∀ k, (k = 4 ∨ (7 ≤ k ∧ k ≤ 10) ∨ k = 12 ∨ k = 14) → ¬ P 580 k) (h2 : ∀ k, ¬ P 584 k) (e13 : ab_I h' 580 13 = nI (w0 + wr'.length)) (e16 : ab_I h' 580 16 = nI p'.length) (e17 : ab_I h' 580 17 = nI o') (e18 : ab_I h' 580 18 = nI w') (eP : PL h' p') (eS : MSeg h' B w0 wr') : MRd h' b n B w0 lw wr' p' o' i w' :=
  ⟨MT_fr F (fun k hk => h1 k (by omega)) h2 (by rw [hJ]) M.1, (F.2.2.2.2 580 12 (h1 12 (by omega))).trans M.2.1, e13, (F.2.2.2.2 580 14 (h1 14 (by omega))).trans M.2.2.2.1, e16, e17, e18, eP, eS⟩
theorem MSeg_eq {h h' : Hp} {B w0 : Nat} {r : List (Nat × Nat)} (A : MSeg h B w0 r) (e : ∀ k, k < B + 97 + 2 * (w0 + r.length) → ab_I h' 583 k = ab_I h 583 k) : MSeg h' B w0 r := fun j hj => ⟨(e _ (by omega)).trans (A j hj).1, (e _ (by omega)).trans (A j hj).2⟩
theorem MSeg_sn {h : Hp} {B w0 x v : Nat} {r : List (Nat × Nat)} (A : MSeg h B w0 r) (e1 : ab_I h 583 (B + 97 + 2 * (w0 + r.length)) = nI x) (e2 : ab_I h 583 (B + 97 + 2 * (w0 + r.length) + 1) = nI v) : MSeg h B w0 (r ++ [(x, v)]) := by
  intro j hj
  rw [List.length_append] at hj
  have hj : j < r.length + 1 := hj
  rw [List.getD_eq_getElem?_getD]
  rcases Nat.lt_or_ge j r.length with z | z
  · rw [List.getElem?_append_left z, ← List.getD_eq_getElem?_getD]
    exact A j z
  · obtain rfl : j = r.length := by omega
    rw [List.getElem?_append_right (Nat.le_refl _), Nat.sub_self]
    exact ⟨e1, e2⟩
section MP
variable {d : Nat} {h : Hp} {Q : Option Value → Hp → Prop} {n B w0 lw : Nat} {b : Nat → Nat} {wr : List (Nat × Nat)} {p : List Nat} {o i w : Nat}
theorem om_rnk (hd : 1 ≤ d) {x : Nat} (hx : x < 50) (hq : Q (some (.int (nI (rnk x)))) h) : ab_Ok d n_X12_rank [.int (nI x)] h Q := by
  unfold rnk at hq
  refine ab_go mr_X12_rank rfl (by omega) (fun call W hc hW => ?_); (conv => whnf)
  refine ⟨fun f => ?_, fun f => ?_⟩ <;> rw [nI_ltI (by omega) (by omega)] at f <;> (conv => whnf)
  · rw [if_neg (by omega)] at hq
    refine ⟨fun f => ?_, fun f => ?_⟩ <;> rw [nI_eq (by omega) (by omega)] at f <;> (conv => whnf)
    · rw [if_neg f] at hq
      refine ⟨fun f => ?_, fun f => ?_⟩ <;> rw [nI_eq (by omega) (by omega)] at f <;> (conv => whnf)
      · rw [if_neg f] at hq
        refine ⟨fun f => ?_, fun f => ?_⟩ <;> rw [nI_eq (by omega) (by omega)] at f <;> (conv => whnf)
        · rw [if_neg f] at hq
          refine ⟨fun f => ?_, fun f => ?_⟩ <;> rw [nI_ltI (by omega) (by omega)] at f <;> (conv => whnf)
          · rw [if_neg (by omega)] at hq
            refine ⟨fun f => ?_, fun f => ?_⟩ <;> rw [nI_ltI (by omega) (by omega)] at f <;> (conv => whnf)
            · rw [if_neg (by omega)] at hq
              refine ⟨fun f => ?_, fun f => ?_⟩ <;> rw [nI_ltI (by omega) (by omega)] at f <;> (conv => whnf)
              · rw [if_neg (by omega)] at hq; exact hq
              · rw [if_pos (by omega)] at hq; exact hq
            · rw [if_pos (by omega)] at hq; exact hq
          · rw [if_pos (by omega)] at hq; exact hq
        · rw [if_pos f] at hq; exact hq
      · rw [if_pos f] at hq; exact hq
    · rw [if_pos f] at hq; exact hq
  · rw [if_pos (by omega)] at hq; exact hq
theorem om_emit (hd : 1 ≤ d) (S : Sh h) (hB : B ≤ 2115) (M : MRd h b n B w0 lw wr p o i w) (hw : w0 + wr.length ≤ 303) (x v : Nat) (hq : ∀ h', MRd h' b n B w0 lw (wr ++ [(x, v)]) p o i w → (∀ k, ab_I h' 585 k = ab_I h 585 k) → Fr (fMr B w0) h h' → Q none h') : ab_Ok d n_X12_emit [.ref 580, .int (nI x), .int (nI v)] h Q := by
  have S' := S
  have c12 := M.2.1
  have c13 := M.2.2.1
  have ix : nI B + nI 97 + nI 2 * nI (w0 + wr.length) = nI (B + 97 + 2 * (w0 + wr.length)) := by rw [pk_mul, nI_add, nI_add]
  have l13 : (wr ++ [(x, v)]).length = wr.length + 1 := by rw [List.length_append]; rfl
  refine ab_go mr_X12_emit rfl (by omega) (fun call W hc hW => ?_); (conv => whnf)
  refine ⟨S.1 580 (by decide), 583, S.2.2 _ _ _ rfl, ?_⟩
  (conv => whnf)
  refine ⟨S'.1 580 (by decide), ?_⟩
  (conv => whnf)
  rw [c12]
  refine ⟨S'.1 580 (by decide), ?_⟩
  (conv => whnf)
  rw [c13, ix]
  refine ⟨S.1 583 (by decide), vin _ (S.2.1 583 (by decide)) (by show B + 97 + 2 * (w0 + wr.length) < 2820; omega) (by decide), ?_⟩
  (conv => whnf)
  rw [nI_clamp (by omega)]
  obtain ⟨h1, e1⟩ : ∃ h1, h1 = ab_sI h 583 (B + 97 + 2 * (w0 + wr.length)) (nI x) := ⟨_, rfl⟩
  have F1 : Fr (fMr B w0) h h1 := by rw [e1]; exact Fr_sI (Or.inr (Or.inr ⟨rfl, by omega⟩))
  have S1 := Fr_Sh F1 S
  have x5 : ∀ k, ab_I h1 580 k = ab_I h 580 k := fun k => by rw [e1, rI_a _ _ _ _ (by decide)]
  rw [← e1]
  refine ⟨S1.1 580 (by decide), 583, S1.2.2 _ _ _ rfl, ?_⟩
  (conv => whnf)
  refine ⟨S1.1 580 (by decide), ?_⟩
  (conv => whnf)
  rw [x5, c12]
  refine ⟨S1.1 580 (by decide), ?_⟩
  (conv => whnf)
  rw [x5, c13, ix, nI_add]
  refine ⟨S1.1 583 (by decide), vin _ (S1.2.1 583 (by decide)) (by show B + 97 + 2 * (w0 + wr.length) + 1 < 2820; omega) (by decide), ?_⟩
  (conv => whnf)
  rw [nI_clamp (by omega)]
  refine ⟨S1.1 580 (by decide), ?_⟩
  (conv => whnf)
  rw [rI_a _ _ _ _ (by decide), x5, c13, nI_add]
  refine ⟨S1.1 580 (by decide), ?_⟩
  (conv => whnf)
  obtain ⟨h2, e2⟩ : ∃ h2, h2 = ab_sI (ab_sI h1 583 (B + 97 + 2 * (w0 + wr.length) + 1) (nI v)) 580 13 (nI (w0 + wr.length + 1)) := ⟨_, rfl⟩
  have F2 : Fr (fun a k => (a = 583 ∧ B + 97 + 2 * (w0 + wr.length) ≤ k) ∨ (a = 580 ∧ k = 13)) h h2 := by
    rw [e2, e1]
    exact Fr_tr (Fr_sI (Or.inl ⟨rfl, by omega⟩)) (Fr_tr (Fr_sI (Or.inl ⟨rfl, by omega⟩)) (Fr_sI (Or.inr ⟨rfl, rfl⟩)))
  have hJ : ab_J h2 = ab_J h := by rw [e2, e1]; rfl
  have y58 : ∀ k, k ≠ 13 → ab_I h2 580 k = ab_I h 580 k := fun k hk => F2.2.2.2.2 580 k (fun z => by omega)
  have ysg : ab_I h2 583 (B + 97 + 2 * (w0 + wr.length)) = nI x ∧ ab_I h2 583 (B + 97 + 2 * (w0 + wr.length) + 1) = nI v := by
    refine ⟨?_, ?_⟩
    · rw [e2, rI_a _ _ _ _ (by decide), rI_k _ _ _ (by omega), e1, rI_s]
    · rw [e2, rI_a _ _ _ _ (by decide), rI_s]
  have y13 : ab_I h2 580 13 = nI (w0 + (wr ++ [(x, v)]).length) := by rw [l13, e2, rI_s]; rfl
  have y585 : ∀ k, ab_I h2 585 k = ab_I h 585 k := fun k => F2.2.2.2.2 585 k (fun z => by omega)
  rw [← e2]
  clear e2 e1
  refine hq h2 (MRd_up M F2 hJ (fun k hk z => by omega) (fun k z => by omega) y13 ((y58 16 (by decide)).trans M.2.2.2.2.1) ((y58 17 (by decide)).trans M.2.2.2.2.2.1) ((y58 18 (by decide)).trans M.2.2.2.2.2.2.1) (PL_eq (fun k _ => y585 k) M.2.2.2.2.2.2.2.1) ?_) y585 (Fr_mo F2 (fun a k z => by unfold fMr; omega))
  refine MSeg_sn (MSeg_eq M.2.2.2.2.2.2.2.2 (fun k hk => F2.2.2.2.2 583 k (fun z => by omega))) ysg.1 ysg.2
end MP
