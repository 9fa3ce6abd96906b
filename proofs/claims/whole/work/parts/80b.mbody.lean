/-! ===== deeds: the reference's bodies, kinds of clauses (mine) ===== -/
/-- a clause's kind by its word, as the reference numbers kinds -/
def srt (t : Nat) : Nat := if t = 5 then 6 else if t = 6 then 7 else if t = 7 then 8 else if t = 8 then 5 else t
section MS2
variable {d : Nat} {h : Hp} {Q : Option Value → Hp → Prop} {n x : Nat} {b : Nat → Nat}
theorem om_sortOf (hd : 6 ≤ d) (S : Sh h) {t v : Nat} (T : RT h t v) (hq : Q (some (.int (if t ≤ 9 then nI (srt t) else -1))) h) : ab_Ok d n_X12_sortOf [.ref 580] h Q := by
  refine ab_go mr_X12_sortOf rfl (by omega) (fun call W hc hW => ?_); (conv => whnf)
  refine hc _ _ _ _ (om_w5 (by omega) (by decide) (by decide) (by decide) (by decide) (by decide) ?_)
  (conv => whnf)
  refine ⟨S.1 580 (by decide), ?_⟩
  refine hc _ _ _ _ (om_isWord (by omega) S T (i := 0) (by decide) rfl (fun e => ?_) (fun e0 => ?_))
  · subst e
    (conv => whnf)
    refine bF (by decide) ?_
    (conv => whnf)
    exact hq
  (conv => whnf)
  refine bT (by decide) ?_
  (conv => whnf)
  refine hc _ _ _ _ (om_w5 (by omega) (by decide) (by decide) (by decide) (by decide) (by decide) ?_)
  (conv => whnf)
  refine ⟨S.1 580 (by decide), ?_⟩
  refine hc _ _ _ _ (om_isWord (by omega) S T (i := 1) (by decide) rfl (fun e => ?_) (fun e1 => ?_))
  · subst e
    (conv => whnf)
    refine bF (by decide) ?_
    (conv => whnf)
    exact hq
  (conv => whnf)
  refine bT (by decide) ?_
  (conv => whnf)
  refine hc _ _ _ _ (om_w5 (by omega) (by decide) (by decide) (by decide) (by decide) (by decide) ?_)
  (conv => whnf)
  refine ⟨S.1 580 (by decide), ?_⟩
  refine hc _ _ _ _ (om_isWord (by omega) S T (i := 2) (by decide) rfl (fun e => ?_) (fun e2 => ?_))
  · subst e
    (conv => whnf)
    refine bF (by decide) ?_
    (conv => whnf)
    exact hq
  (conv => whnf)
  refine bT (by decide) ?_
  (conv => whnf)
  refine hc _ _ _ _ (om_w5 (by omega) (by decide) (by decide) (by decide) (by decide) (by decide) ?_)
  (conv => whnf)
  refine ⟨S.1 580 (by decide), ?_⟩
  refine hc _ _ _ _ (om_isWord (by omega) S T (i := 3) (by decide) rfl (fun e => ?_) (fun e3 => ?_))
  · subst e
    (conv => whnf)
    refine bF (by decide) ?_
    (conv => whnf)
    exact hq
  (conv => whnf)
  refine bT (by decide) ?_
  (conv => whnf)
  refine hc _ _ _ _ (om_w5 (by omega) (by decide) (by decide) (by decide) (by decide) (by decide) ?_)
  (conv => whnf)
  refine ⟨S.1 580 (by decide), ?_⟩
  refine hc _ _ _ _ (om_isWord (by omega) S T (i := 4) (by decide) rfl (fun e => ?_) (fun e4 => ?_))
  · subst e
    (conv => whnf)
    refine bF (by decide) ?_
    (conv => whnf)
    exact hq
  (conv => whnf)
  refine bT (by decide) ?_
  (conv => whnf)
  refine hc _ _ _ _ (om_w4 (by omega) (by decide) (by decide) (by decide) (by decide) ?_)
  (conv => whnf)
  refine ⟨S.1 580 (by decide), ?_⟩
  refine hc _ _ _ _ (om_isWord (by omega) S T (i := 8) (by decide) rfl (fun e => ?_) (fun e8 => ?_))
  · subst e
    (conv => whnf)
    refine bF (by decide) ?_
    (conv => whnf)
    exact hq
  (conv => whnf)
  refine bT (by decide) ?_
  (conv => whnf)
  refine hc _ _ _ _ (om_w3 (by omega) (by decide) (by decide) (by decide) ?_)
  (conv => whnf)
  refine ⟨S.1 580 (by decide), ?_⟩
  refine hc _ _ _ _ (om_isWord (by omega) S T (i := 5) (by decide) rfl (fun e => ?_) (fun e5 => ?_))
  · subst e
    (conv => whnf)
    refine bF (by decide) ?_
    (conv => whnf)
    exact hq
  (conv => whnf)
  refine bT (by decide) ?_
  (conv => whnf)
  refine hc _ _ _ _ (om_w4 (by omega) (by decide) (by decide) (by decide) (by decide) ?_)
  (conv => whnf)
  refine ⟨S.1 580 (by decide), ?_⟩
  refine hc _ _ _ _ (om_isWord (by omega) S T (i := 6) (by decide) rfl (fun e => ?_) (fun e6 => ?_))
  · subst e
    (conv => whnf)
    refine bF (by decide) ?_
    (conv => whnf)
    exact hq
  (conv => whnf)
  refine bT (by decide) ?_
  (conv => whnf)
  refine hc _ _ _ _ (om_w5 (by omega) (by decide) (by decide) (by decide) (by decide) (by decide) ?_)
  (conv => whnf)
  refine ⟨S.1 580 (by decide), ?_⟩
  refine hc _ _ _ _ (om_isWord (by omega) S T (i := 7) (by decide) rfl (fun e => ?_) (fun e7 => ?_))
  · subst e
    (conv => whnf)
    refine bF (by decide) ?_
    (conv => whnf)
    exact hq
  (conv => whnf)
  refine bT (by decide) ?_
  (conv => whnf)
  refine hc _ _ _ _ (om_w4 (by omega) (by decide) (by decide) (by decide) (by decide) ?_)
  (conv => whnf)
  refine ⟨S.1 580 (by decide), ?_⟩
  refine hc _ _ _ _ (om_isWord (by omega) S T (i := 9) (by decide) rfl (fun e => ?_) (fun e9 => ?_))
  · subst e
    (conv => whnf)
    refine bF (by decide) ?_
    (conv => whnf)
    exact hq
  (conv => whnf)
  refine bT (by decide) ?_
  (conv => whnf)
  rw [if_neg (by omega)] at hq
  exact hq
theorem om_bodyD (hd : 7 ≤ d) (S : Sh h) (hn : n ≤ 300) (hx : x + 3 < 2820) {i k : Nat} (hk : 3 ≤ k ∧ k ≤ 9) (M : MT h b n i) (hy : (rdA (stT b n) (stV b n) (deedL k) i []).1 = 0 → ∀ h', DSm h h' b n x (rdA (stT b n) (stV b n) (deedL k) i []).2.1 (rdA (stT b n) (stV b n) (deedL k) i []).2.2 → Q (some (.int (nI 0))) h') (hno : (rdA (stT b n) (stV b n) (deedL k) i []).1 ≠ 0 → ∀ h', MT h' b n (rdA (stT b n) (stV b n) (deedL k) i []).2.1 → Fr (fDm x) h h' → Q (some (.int (nI (rdA (stT b n) (stV b n) (deedL k) i []).1))) h') : ab_Ok d n_X12_body [.ref 580, .int (nI k), .int (nI x)] h Q := by
  have D0 : DSm h h b n x i [] := ⟨M, fun j hj => absurd hj (Nat.not_lt_zero _), Fr_re⟩
  have ek : k = 3 ∨ k = 4 ∨ k = 5 ∨ k = 6 ∨ k = 7 ∨ k = 8 ∨ k = 9 := by omega
  rcases ek with rfl | rfl | rfl | rfl | rfl | rfl | rfl
  · refine ab_go mr_X12_body rfl (by omega) (fun call W hc hW => ?_); (conv => whnf)
    refine bT rfl ?_
    (conv => whnf)
    rw [show deedL 3 = [(0, 1, 9)] from rfl] at hy hno
    rw [nI_add]
    refine ⟨S.1 580 (by decide), ?_⟩
    refine hc _ _ _ _ (om_figure (by omega) S hn hx D0 (Nat.le_of_ble_eq_true rfl) rfl (by omega) (by omega) (fun f => ?_) (fun f g => ?_) (fun f g h5 D5 S5 => ?_)) <;> (conv => whnf)
    · rw [rd_n1 _ _ _ _ _ _ _ f] at hno
      exact hno (by show ¬ (1 : Nat) = 0; omega) h M Fr_re
    · rw [rd_n2 _ _ _ _ _ _ _ f g] at hno
      exact hno (by show ¬ (2 : Nat) = 0; omega) h M Fr_re
    · rw [rd_n0 _ _ _ _ _ _ _ f g] at hy
      exact hy rfl h5 D5
  · refine ab_go mr_X12_body rfl (by omega) (fun call W hc hW => ?_); (conv => whnf)
    refine bF (by decide) ?_
    (conv => whnf)
    refine bT rfl ?_
    (conv => whnf)
    rw [show deedL 4 = [(0, 0, 3), (1, 16, 0), (0, 1, 9), (1, 17, 0), (0, 0, 20)] from rfl] at hy hno
    refine hc _ _ _ _ (om_w6 (by omega) (by decide) (by decide) (by decide) (by decide) (by decide) (by decide) ?_)
    (conv => whnf)
    refine ⟨S.1 580 (by decide), ?_⟩
    refine hc _ _ _ _ (om_pair (by omega) S hn hx M (j := 16) (by decide) rfl (by omega) (by omega) (by omega) (by omega) [(1, 17, 0), (0, 0, 20)] (fun y ey y0 yl h5 M5 F5 => ?_) (fun vs hv e h5 D5 S5 => ?_))
    · rw [← ey] at hno
      have q0 := hno y0 h5 M5 F5
      have yb : y.1 < 1000 := by
        have : ∀ l i acc, (rdA (stT b n) (stV b n) l i acc).1 ≤ 2 := by
          intro l
          induction l with
          | nil => intro i acc; exact Nat.zero_le _
          | cons s l ih =>
            intro i acc
            show (if s.1 = 0 then (if stT b n i ≠ 130 then (1, i, acc) else if ¬ (s.2.1 ≤ stV b n i ∧ stV b n i ≤ s.2.2) then (2, i, acc) else rdA (stT b n) (stV b n) l (i + 1) (acc ++ [stV b n i])) else (if stT b n i ≠ s.2.1 then (1, i, acc) else rdA (stT b n) (stV b n) l (i + 1) acc)).1 ≤ 2
            split
            · split
              · show 1 ≤ 2; omega
              · split
                · exact Nat.le_refl _
                · exact ih _ _
            · split
              · show 1 ≤ 2; omega
              · exact ih _ _
        have := this ((0, 0, 3) :: (1, 16, 0) :: (0, 1, 9) :: [(1, 17, 0), (0, 0, 20)]) i []
        rw [← ey] at this
        omega
      (conv => whnf)
      refine bF (by rw [← nI_0, nI_eq (by omega) (by omega)]; exact y0) ?_
      (conv => whnf)
      exact q0
    · rw [e] at hy hno
      have hv3 : vs.length < 3 := by omega
      (conv => whnf)
      refine bT (by decide) ?_
      (conv => whnf)
      refine hc _ _ _ _ (om_w3 (by omega) (by decide) (by decide) (by decide) ?_)
      (conv => whnf)
      rw [nI_add]
      refine ⟨S5.1 580 (by decide), ?_⟩
      refine hc _ _ _ _ (om_worded (by omega) S5 hn hx D5 hv3 (j := 17) (by decide) rfl (by omega) (by omega) (by omega) (fun e => ?_) (fun e f2 h6 M6 F6 => ?_) (fun e f2 g2 h6 M6 F6 => ?_) (fun e f2 g2 h6 D6 S6 => ?_)) <;> (conv => whnf)
      · rw [rd_w1 _ _ _ _ _ _ _ e] at hno
        exact hno (by show ¬ (1 : Nat) = 0; omega) h5 D5.1 D5.2.2
      · rw [rd_w0 _ _ _ _ _ _ _ e, rd_n1 _ _ _ _ _ _ _ f2] at hno
        exact hno (by show ¬ (1 : Nat) = 0; omega) h6 M6 F6
      · rw [rd_w0 _ _ _ _ _ _ _ e, rd_n2 _ _ _ _ _ _ _ f2 g2] at hno
        exact hno (by show ¬ (2 : Nat) = 0; omega) h6 M6 F6
      · rw [rd_w0 _ _ _ _ _ _ _ e, rd_n0 _ _ _ _ _ _ _ f2 g2] at hy
        exact hy rfl h6 D6
  · refine ab_go mr_X12_body rfl (by omega) (fun call W hc hW => ?_); (conv => whnf)
    refine bF (by decide) ?_
    (conv => whnf)
    refine bF (by decide) ?_
    (conv => whnf)
    refine bT rfl ?_
    (conv => whnf)
    rw [show deedL 5 = [(0, 0, 9), (1, 18, 0), (0, 0, 11)] from rfl] at hy hno
    refine hc _ _ _ _ (om_w2 (by omega) (by decide) (by decide) ?_)
    (conv => whnf)
    refine ⟨S.1 580 (by decide), ?_⟩
    refine hc _ _ _ _ (om_pair (by omega) S hn hx M (j := 18) (by decide) rfl (by omega) (by omega) (by omega) (by omega) [] (fun y ey y0 _ h5 M5 F5 => ?_) (fun vs hv e h5 D5 S5 => ?_)) <;> (conv => whnf)
    · rw [← ey] at hno
      exact hno y0 h5 M5 F5
    · rw [e] at hy
      exact hy rfl h5 D5
  · refine ab_go mr_X12_body rfl (by omega) (fun call W hc hW => ?_); (conv => whnf)
    refine bF (by decide) ?_
    (conv => whnf)
    refine bF (by decide) ?_
    (conv => whnf)
    refine bF (by decide) ?_
    (conv => whnf)
    refine bT rfl ?_
    (conv => whnf)
    rw [show deedL 6 = [(0, 0, 9), (1, 19, 0), (0, 0, 4)] from rfl] at hy hno
    refine hc _ _ _ _ (om_w2 (by omega) (by decide) (by decide) ?_)
    (conv => whnf)
    refine ⟨S.1 580 (by decide), ?_⟩
    refine hc _ _ _ _ (om_pair (by omega) S hn hx M (j := 19) (by decide) rfl (by omega) (by omega) (by omega) (by omega) [] (fun y ey y0 _ h5 M5 F5 => ?_) (fun vs hv e h5 D5 S5 => ?_)) <;> (conv => whnf)
    · rw [← ey] at hno
      exact hno y0 h5 M5 F5
    · rw [e] at hy
      exact hy rfl h5 D5
  · refine ab_go mr_X12_body rfl (by omega) (fun call W hc hW => ?_); (conv => whnf)
    refine bF (by decide) ?_
    (conv => whnf)
    refine bF (by decide) ?_
    (conv => whnf)
    refine bF (by decide) ?_
    (conv => whnf)
    refine bF (by decide) ?_
    (conv => whnf)
    refine bT rfl ?_
    (conv => whnf)
    rw [show deedL 7 = [(0, 1, 20), (1, 20, 0), (0, 0, 9)] from rfl] at hy hno
    refine hc _ _ _ _ (om_w2 (by omega) (by decide) (by decide) ?_)
    (conv => whnf)
    refine ⟨S.1 580 (by decide), ?_⟩
    refine hc _ _ _ _ (om_pair (by omega) S hn hx M (j := 20) (by decide) rfl (by omega) (by omega) (by omega) (by omega) [] (fun y ey y0 _ h5 M5 F5 => ?_) (fun vs hv e h5 D5 S5 => ?_)) <;> (conv => whnf)
    · rw [← ey] at hno
      exact hno y0 h5 M5 F5
    · rw [e] at hy
      exact hy rfl h5 D5
  · refine ab_go mr_X12_body rfl (by omega) (fun call W hc hW => ?_); (conv => whnf)
    refine bF (by decide) ?_
    (conv => whnf)
    refine bF (by decide) ?_
    (conv => whnf)
    refine bF (by decide) ?_
    (conv => whnf)
    refine bF (by decide) ?_
    (conv => whnf)
    refine bF (by decide) ?_
    (conv => whnf)
    refine bT rfl ?_
    (conv => whnf)
    exact hy rfl h D0
  · refine ab_go mr_X12_body rfl (by omega) (fun call W hc hW => ?_); (conv => whnf)
    refine bF (by decide) ?_
    (conv => whnf)
    refine bF (by decide) ?_
    (conv => whnf)
    refine bF (by decide) ?_
    (conv => whnf)
    refine bF (by decide) ?_
    (conv => whnf)
    refine bF (by decide) ?_
    (conv => whnf)
    refine bF (by decide) ?_
    (conv => whnf)
    refine bT rfl ?_
    (conv => whnf)
    rw [show deedL 9 = [(0, 1, 60)] from rfl] at hy hno
    rw [nI_add]
    refine ⟨S.1 580 (by decide), ?_⟩
    refine hc _ _ _ _ (om_figure (by omega) S hn hx D0 (Nat.le_of_ble_eq_true rfl) rfl (by omega) (by omega) (fun f => ?_) (fun f g => ?_) (fun f g h5 D5 S5 => ?_)) <;> (conv => whnf)
    · rw [rd_n1 _ _ _ _ _ _ _ f] at hno
      exact hno (by show ¬ (1 : Nat) = 0; omega) h M Fr_re
    · rw [rd_n2 _ _ _ _ _ _ _ f g] at hno
      exact hno (by show ¬ (2 : Nat) = 0; omega) h M Fr_re
    · rw [rd_n0 _ _ _ _ _ _ _ f g] at hy
      exact hy rfl h5 D5
end MS2
