/-! ===== deeds: the reference reads them (mine) ===== -/
def fDm (x : Nat) (a k : Nat) : Prop := (a = 580 ∧ 7 ≤ k ∧ k ≤ 10) ∨ (a = 583 ∧ x < k ∧ k ≤ x + 3)
def DSm (h h' : Hp) (b : Nat → Nat) (n x i : Nat) (vs : List Nat) : Prop := MT h' b n i ∧ (∀ j, j < vs.length → ab_I h' 583 (x + 1 + j) = nI (vs.getD j 0)) ∧ Fr (fDm x) h h'
def RES (h : Hp) (b : Nat → Nat) (n x : Nat) (Q : Option Value → Hp → Prop) (y : Nat × Nat × List Nat) : Prop := (y.1 = 0 → ∀ h', DSm h h' b n x y.2.1 y.2.2 → Q (some (.int (nI 0))) h') ∧ (y.1 ≠ 0 → ∀ h', MT h' b n y.2.1 → Fr (fDm x) h h' → Q (some (.int (nI y.1))) h')
section MD
variable {d : Nat} {h h0 : Hp} {Q : Option Value → Hp → Prop} {n x : Nat} {b : Nat → Nat}
theorem om_figure (hd : 3 ≤ d) (S : Sh h) (hn : n ≤ 300) (hx : x + 3 < 2820) {i : Nat} {vs : List Nat} (D : DSm h0 h b n x i vs) (h3 : vs.length < 3) {lo hi y : Nat} (hy0 : y = x + 1 + vs.length) (hlo : lo ≤ hi) (hhi : hi < 1000) (n1 : stT b n i ≠ 130 → Q (some (.int (nI 1))) h) (n2 : stT b n i = 130 → ¬ (lo ≤ stV b n i ∧ stV b n i ≤ hi) → Q (some (.int (nI 2))) h) (ok : stT b n i = 130 → lo ≤ stV b n i ∧ stV b n i ≤ hi → ∀ h', DSm h0 h' b n x (i + 1) (vs ++ [stV b n i]) → Sh h' → Q (some (.int (nI 0))) h') : ab_Ok d n_X12_figure [.ref 580, .int (nI y), .int (nI lo), .int (nI hi)] h Q := by
  obtain ⟨M, dv, F⟩ := D
  have T := M.2.2.2
  obtain ⟨k1, _⟩ := RT_c T
  obtain ⟨t, et⟩ : ∃ t, t = stT b n i := ⟨_, rfl⟩
  have vm : t = 130 → ∃ m, ab_I h 580 10 = nI m ∧ m < 1000000 ∧ stV b n i = min 10000 m := by
    intro e
    rw [← et] at T
    have sg63 : ∀ c, c ∈ sgs → 34 < c ∧ c < 63 ∧ c ≠ 58 := by decide
    rcases T with y | y | y | y | y | y | y
    · omega
    · exact y.2.2
    · omega
    · omega
    · omega
    · have := sg63 _ y.1; omega
    · omega
  rw [← et] at k1 n1 n2 ok
  subst hy0
  refine ab_go mr_X12_figure rfl (by omega) (fun call W hc hW => ?_); (conv => whnf)
  refine ⟨S.1 580 (by decide), ?_⟩
  (conv => whnf)
  refine ⟨fun f => ?_, fun f => ?_⟩ <;> rw [k1] at f <;> (conv => whnf)
  · obtain ⟨m, c10, mb, mv⟩ := vm f
    refine ⟨S.1 580 (by decide), ?_⟩
    (conv => whnf)
    rw [c10]
    refine hc _ _ _ _ (ok_inN (by omega) lo hi (nI m) hlo (by omega) (fun k k1 k2 e => ?_) (fun e => ?_)) <;> (conv => whnf)
    · have ev := (nI_eq (by omega) (by omega)).mp e
      have em : stV b n i = m := by omega
      refine bN (by decide) ?_
      (conv => whnf)
      refine ⟨S.1 580 (by decide), 583, S.2.2 _ _ _ rfl, ?_⟩
      (conv => whnf)
      refine ⟨S.1 580 (by decide), ?_⟩
      (conv => whnf)
      rw [c10, ← em]
      refine ⟨S.1 583 (by decide), vin _ (S.2.1 583 (by decide)) (by show x + 1 + vs.length < 2820; omega) (by decide), ?_⟩
      (conv => whnf)
      rw [nI_clamp (by omega)]
      obtain ⟨h1, e1⟩ : ∃ h1, h1 = ab_sI h 583 (x + 1 + vs.length) (nI (stV b n i)) := ⟨_, rfl⟩
      have F1 : Fr (fun a k => a = 583 ∧ k = x + 1 + vs.length) h h1 := by rw [e1]; exact Fr_sI ⟨rfl, rfl⟩
      have S1 := Fr_Sh F1 S
      have M1 : MT h1 b n i := MT_fr F1 (fun k hk z => by omega) (fun k z => by omega) (by rw [e1]; rfl) M
      have x5 : ab_I h1 583 (x + 1 + vs.length) = nI (stV b n i) := by rw [e1, rI_s]
      rw [← e1]
      clear e1
      refine ⟨S1.1 580 (by decide), ?_⟩
      refine hc _ _ _ _ (om_next (by omega) S1 hn M1 (fun h2 M2 F2 => ?_))
      have l1 : (vs ++ [stV b n i]).length = vs.length + 1 := by rw [List.length_append]; rfl
      (conv => whnf)
      refine ok f (by omega) h2 ⟨M2, fun j hj => ?_, Fr_tr F (Fr_tr (Fr_mo F1 (fun a k z => show fDm x a k from by unfold fDm; omega)) (Fr_mo F2 (fun a k z => by unfold fT at z; unfold fDm; omega)))⟩ (Fr_Sh F2 S1)
      rw [l1] at hj
      rw [F2.2.2.2.2 583 _ (fun z => by unfold fT at z; omega), List.getD_eq_getElem?_getD]
      rcases Nat.lt_or_ge j vs.length with z | z
      · rw [List.getElem?_append_left z, ← List.getD_eq_getElem?_getD, F1.2.2.2.2 583 _ (fun w => by omega)]
        exact dv j z
      · obtain rfl : j = vs.length := by omega
        rw [List.getElem?_append_right (Nat.le_refl _), Nat.sub_self]
        exact x5
    · refine bP (by decide) ?_
      (conv => whnf)
      exact n2 f (fun z => e m (by omega) (by omega) rfl)
  · exact n1 f
theorem om_worded (hd : 4 ≤ d) (S : Sh h) (hn : n ≤ 300) (hx : x + 3 < 2820) {i : Nat} {vs : List Nat} (D : DSm h0 h b n x i vs) (h3 : vs.length < 3) {lo hi y j : Nat} (hj : j < 30) {w : Int64} (hw : w = lN (wcs.getD j 0)) (hy0 : y = x + 1 + vs.length) (hlo : lo ≤ hi) (hhi : hi < 1000) (no : stT b n i ≠ j → Q (some (.int (nI 1))) h) (n1 : stT b n i = j → stT b n (i + 1) ≠ 130 → ∀ h', MT h' b n (i + 1) → Fr (fDm x) h0 h' → Q (some (.int (nI 1))) h') (n2 : stT b n i = j → stT b n (i + 1) = 130 → ¬ (lo ≤ stV b n (i + 1) ∧ stV b n (i + 1) ≤ hi) → ∀ h', MT h' b n (i + 1) → Fr (fDm x) h0 h' → Q (some (.int (nI 2))) h') (ok : stT b n i = j → stT b n (i + 1) = 130 → lo ≤ stV b n (i + 1) ∧ stV b n (i + 1) ≤ hi → ∀ h', DSm h0 h' b n x (i + 1 + 1) (vs ++ [stV b n (i + 1)]) → Sh h' → Q (some (.int (nI 0))) h') : ab_Ok d n_X12_worded [.ref 580, .long w, .int (nI y), .int (nI lo), .int (nI hi)] h Q := by
  refine ab_go mr_X12_worded rfl (by omega) (fun call W hc hW => ?_); (conv => whnf)
  refine ⟨S.1 580 (by decide), ?_⟩
  refine hc _ _ _ _ (om_isWord (by omega) S D.1.2.2.2 hj hw (fun e => ?_) (fun e => ?_)) <;> (conv => whnf)
  · refine bN (by decide) ?_
    (conv => whnf)
    refine ⟨S.1 580 (by decide), ?_⟩
    refine hc _ _ _ _ (om_next (by omega) S hn D.1 (fun h1 M1 F1 => ?_))
    have S1 := Fr_Sh F1 S
    have D1 : DSm h0 h1 b n x (i + 1) vs := ⟨M1, fun j hj => (F1.2.2.2.2 583 _ (fun z => by unfold fT at z; omega)).trans (D.2.1 j hj), Fr_tr D.2.2 (Fr_mo F1 (fun a k z => by unfold fT at z; unfold fDm; omega))⟩
    (conv => whnf)
    refine ⟨S1.1 580 (by decide), ?_⟩
    refine hc _ _ _ _ (om_figure (by omega) S1 hn hx D1 h3 hy0 hlo hhi (fun f => ?_) (fun f g => ?_) (fun f g h2 D2 S2 => ?_)) <;> (conv => whnf)
    · exact n1 e f h1 M1 D1.2.2
    · exact n2 e f g h1 M1 D1.2.2
    · exact ok e f g h2 D2 S2
  · refine bP (by decide) ?_
    (conv => whnf)
    exact no e
theorem om_pair (hd : 5 ≤ d) (S : Sh h) (hn : n ≤ 300) (hx : x + 3 < 2820) {i : Nat} (M : MT h b n i) {lo hi lo2 hi2 j : Nat} (hj : j < 30) {w : Int64} (hw : w = lN (wcs.getD j 0)) (h1 : lo ≤ hi) (h2 : hi < 1000) (h3 : lo2 ≤ hi2) (h4 : hi2 < 1000) (l : List (Nat × Nat × Nat)) (fl : ∀ y : Nat × Nat × List Nat, y = rdA (stT b n) (stV b n) ((0, lo, hi) :: (1, j, 0) :: (0, lo2, hi2) :: l) i [] → y.1 ≠ 0 → (l = [] ∨ y.2.2.length < 2) → ∀ h', MT h' b n y.2.1 → Fr (fDm x) h h' → Q (some (.int (nI y.1))) h') (ok : ∀ vs, vs.length = 2 → rdA (stT b n) (stV b n) ((0, lo, hi) :: (1, j, 0) :: (0, lo2, hi2) :: l) i [] = rdA (stT b n) (stV b n) l (i + 1 + 1 + 1) vs → ∀ h', DSm h h' b n x (i + 1 + 1 + 1) vs → Sh h' → Q (some (.int (nI 0))) h') : ab_Ok d n_X12_pair [.ref 580, .int (nI x), .int (nI lo), .int (nI hi), .long w, .int (nI lo2), .int (nI hi2)] h Q := by
  have D0 : DSm h h b n x i [] := ⟨M, fun j hj => absurd hj (Nat.not_lt_zero _), Fr_re⟩
  refine ab_go mr_X12_pair rfl (by omega) (fun call W hc hW => ?_); (conv => whnf)
  rw [nI_add]
  refine ⟨S.1 580 (by decide), ?_⟩
  refine hc _ _ _ _ (om_figure (by omega) S hn hx D0 (Nat.le_of_ble_eq_true rfl) rfl h1 h2 (fun f => ?_) (fun f g => ?_) (fun f g h5 D5 S5 => ?_))
  · have q0 := fl _ rfl
    rw [rd_n1 _ _ _ _ _ _ _ f] at q0
    have q0 := q0 (by show ¬ (1 : Nat) = 0; omega) (Or.inr (by show 0 < 2; omega)) h M Fr_re
    (conv => whnf)
    refine bF (by decide) ?_
    (conv => whnf)
    exact q0
  · have q0 := fl _ rfl
    rw [rd_n2 _ _ _ _ _ _ _ f g] at q0
    have q0 := q0 (by show ¬ (2 : Nat) = 0; omega) (Or.inr (by show 0 < 2; omega)) h M Fr_re
    (conv => whnf)
    refine bF (by decide) ?_
    (conv => whnf)
    exact q0
  · rw [rd_n0 _ _ _ _ _ _ _ f g] at fl ok
    (conv => whnf)
    refine bT (by decide) ?_
    (conv => whnf)
    rw [nI_add]
    refine ⟨S5.1 580 (by decide), ?_⟩
    refine hc _ _ _ _ (om_worded (by omega) S5 hn hx D5 (Nat.le_of_ble_eq_true rfl) hj hw rfl h3 h4 (fun e => ?_) (fun e f2 h6 M6 F6 => ?_) (fun e f2 g2 h6 M6 F6 => ?_) (fun e f2 g2 h6 D6 S6 => ?_)) <;> (conv => whnf)
    · have q0 := fl _ rfl
      rw [rd_w1 _ _ _ _ _ _ _ e] at q0
      exact q0 (by show ¬ (1 : Nat) = 0; omega) (Or.inr (by show 1 < 2; omega)) h5 D5.1 D5.2.2
    · have q0 := fl _ rfl
      rw [rd_w0 _ _ _ _ _ _ _ e, rd_n1 _ _ _ _ _ _ _ f2] at q0
      exact q0 (by show ¬ (1 : Nat) = 0; omega) (Or.inr (by show 1 < 2; omega)) h6 M6 F6
    · have q0 := fl _ rfl
      rw [rd_w0 _ _ _ _ _ _ _ e, rd_n2 _ _ _ _ _ _ _ f2 g2] at q0
      exact q0 (by show ¬ (2 : Nat) = 0; omega) (Or.inr (by show 1 < 2; omega)) h6 M6 F6
    · rw [rd_w0 _ _ _ _ _ _ _ e, rd_n0 _ _ _ _ _ _ _ f2 g2] at ok
      exact ok _ rfl rfl h6 D6 S6
end MD
