/-! ===== deeds: their numbers and words; the class reads them (mine) ===== -/
/-- steps of a deed: (0, least, most) a number, (1, t, _) a word -/
def deedL (k : Nat) : List (Nat × Nat × Nat) := if k = 3 then [(0, 1, 9)] else if k = 4 then [(0, 0, 3), (1, 16, 0), (0, 1, 9), (1, 17, 0), (0, 0, 20)] else if k = 5 then [(0, 0, 9), (1, 18, 0), (0, 0, 11)] else if k = 6 then [(0, 0, 9), (1, 19, 0), (0, 0, 4)] else if k = 7 then [(0, 1, 20), (1, 20, 0), (0, 0, 9)] else if k = 9 then [(0, 1, 60)] else []
def rdA (T V : Nat → Nat) : List (Nat × Nat × Nat) → Nat → List Nat → Nat × Nat × List Nat
  | [], i, acc => (0, i, acc)
  | s :: l, i, acc => if s.1 = 0 then (if T i ≠ 130 then (1, i, acc) else if ¬ (s.2.1 ≤ V i ∧ V i ≤ s.2.2) then (2, i, acc) else rdA T V l (i + 1) (acc ++ [V i])) else (if T i ≠ s.2.1 then (1, i, acc) else rdA T V l (i + 1) acc)
section RA
variable (T V : Nat → Nat) (l : List (Nat × Nat × Nat)) (i lo hi t u : Nat) (acc : List Nat)
theorem rd_n1 (h : T i ≠ 130) : rdA T V ((0, lo, hi) :: l) i acc = (1, i, acc) := (if_pos rfl).trans (if_pos h)
theorem rd_n2 (h : T i = 130) (h2 : ¬ (lo ≤ V i ∧ V i ≤ hi)) : rdA T V ((0, lo, hi) :: l) i acc = (2, i, acc) := (if_pos rfl).trans ((if_neg (fun z => z h)).trans (if_pos h2))
theorem rd_n0 (h : T i = 130) (h2 : lo ≤ V i ∧ V i ≤ hi) : rdA T V ((0, lo, hi) :: l) i acc = rdA T V l (i + 1) (acc ++ [V i]) := (if_pos rfl).trans ((if_neg (fun z => z h)).trans (if_neg (fun z => z h2)))
theorem rd_w1 (h : T i ≠ t) : rdA T V ((1, t, u) :: l) i acc = (1, i, acc) := (if_neg (show ¬ (1 : Nat) = 0 by decide)).trans (if_pos h)
theorem rd_w0 (h : T i = t) : rdA T V ((1, t, u) :: l) i acc = rdA T V l (i + 1) acc := (if_neg (show ¬ (1 : Nat) = 0 by decide)).trans (if_neg (fun z => z h))
end RA
def fDd (cnt : Nat) (a k : Nat) : Prop := (a = 549 ∧ (k = 5 ∨ k = 9 ∨ k = 10)) ∨ (a = 550 ∧ k = 7) ∨ (a = 556 ∧ 3 * cnt ≤ k) ∨ a = 557
def fDo (cnt : Nat) (a k : Nat) : Prop := (a = 550 ∧ k = 7) ∨ (a = 556 ∧ 3 * cnt ≤ k)
theorem fDoD {h h' : Hp} {cnt : Nat} (F : Fr (fDo cnt) h h') : Fr (fDd cnt) h h' := Fr_mo F (fun a k z => by unfold fDo at z; unfold fDd; omega)
/-- so far a deed's numbers are these -/
def DSc (h h' : Hp) (b : Nat → Nat) (n cnt i : Nat) (vs : List Nat) : Prop := CT h' b n i ∧ (∀ j, j < vs.length → ab_I h' 556 (3 * cnt + j) = nI (vs.getD j 0)) ∧ ab_I h' 549 3 = nI cnt ∧ ab_I h' 549 5 = ab_I h 549 5 ∧ (∀ k, ab_I h' 557 k = ab_I h 557 k) ∧ Fr (fDo cnt) h h'
def FLd (h h' : Hp) (b : Nat → Nat) (n cnt f i : Nat) : Prop := ab_I h' 549 9 = nI f ∧ ab_I h' 549 10 = nI (stP b n i) ∧ Fr (fDd cnt) h h'
section RC1
variable {d : Nat} {h h0 : Hp} {Q : Option Value → Hp → Prop} {n cnt : Nat} {b : Nat → Nat}
theorem oc_number (hd : 4 ≤ d) (S : Sh h) (hn : n ≤ 300) (hc24 : cnt < 24) {i : Nat} {vs : List Nat} (D : DSc h0 h b n cnt i vs) (h3 : vs.length < 3) {lo hi w : Nat} (hw : w = vs.length) (hlo : lo ≤ hi) (hhi : hi < 1000) (n1 : stT b n i ≠ 130 → ∀ h', FLd h0 h' b n cnt 1 i → Q (some (.int (nI 0))) h') (n2 : stT b n i = 130 → ¬ (lo ≤ stV b n i ∧ stV b n i ≤ hi) → ∀ h', FLd h0 h' b n cnt 2 i → Q (some (.int (nI 0))) h') (ok : stT b n i = 130 → lo ≤ stV b n i ∧ stV b n i ≤ hi → ∀ h', DSc h0 h' b n cnt (i + 1) (vs ++ [stV b n i]) → Sh h' → Q (some (.int (nI 1))) h') : ab_Ok d n_X6_number [.ref 549, .int (nI w), .int (nI lo), .int (nI hi)] h Q := by
  obtain ⟨C, dv, c3, c5, c57, F⟩ := D
  have tb' := stT_b b n i
  have vb := stV_b b n i
  have e3 : nI cnt * nI 3 + nI w = nI (3 * cnt + vs.length) := by rw [pk_mul, nI_add, hw, Nat.mul_comm]
  subst hw
  refine ab_go mr_X6_number rfl (by omega) (fun call W hc hW => ?_); (conv => whnf)
  refine ⟨S.1 549 (by decide), 550, S.2.2 _ _ _ rfl, ?_⟩
  (conv => whnf)
  refine ⟨S.1 550 (by decide), ?_⟩
  refine hc _ _ _ _ (oc_token (by omega) S hn C ?_)
  (conv => whnf)
  refine ⟨fun f => ?_, fun f => ?_⟩ <;> rw [nI_eq (by omega) (by omega)] at f <;> (conv => whnf)
  · refine ⟨S.1 549 (by decide), 550, S.2.2 _ _ _ rfl, ?_⟩
    (conv => whnf)
    refine ⟨S.1 550 (by decide), ?_⟩
    refine hc _ _ _ _ (oc_value (by omega) S hn C ?_)
    (conv => whnf)
    refine hc _ _ _ _ (ok_wiN (by omega) lo hi (nI (stV b n i)) hlo (by omega) (fun k k1 k2 e => ?_) (fun e => ?_)) <;> (conv => whnf)
    · have ev := (nI_eq (by omega) (by omega)).mp e
      refine bN (by decide) ?_
      (conv => whnf)
      refine ⟨S.1 549 (by decide), ?_⟩
      (conv => whnf)
      rw [c3, e3]
      refine ⟨S.1 549 (by decide), 556, S.2.2 _ _ _ rfl, ?_⟩
      (conv => whnf)
      refine ⟨S.1 556 (by decide), ?_⟩
      (conv => whnf)
      rw [show ab_L h 556 = 72 from (S.2.1 556 (by decide)).trans (by decide +kernel), ofN]
      refine bF (nI_ge (by omega) (by omega)) ?_
      (conv => whnf)
      refine ⟨S.1 549 (by decide), 556, S.2.2 _ _ _ rfl, ?_⟩
      (conv => whnf)
      refine ⟨S.1 549 (by decide), 550, S.2.2 _ _ _ rfl, ?_⟩
      (conv => whnf)
      refine ⟨S.1 550 (by decide), ?_⟩
      refine hc _ _ _ _ (oc_value (by omega) S hn C ?_)
      (conv => whnf)
      refine ⟨S.1 556 (by decide), vin _ ((S.2.1 556 (by decide)).trans (show tL 556 = 72 by decide +kernel)) (by omega) (by decide), ?_⟩
      (conv => whnf)
      rw [nI_clamp (by omega)]
      obtain ⟨h1, e1⟩ : ∃ h1, h1 = ab_sI h 556 (3 * cnt + vs.length) (nI (stV b n i)) := ⟨_, rfl⟩
      have F1 : Fr (fun x k => x = 556 ∧ k = 3 * cnt + vs.length) h h1 := by rw [e1]; exact Fr_sI ⟨rfl, rfl⟩
      have S1 := Fr_Sh F1 S
      have C1 : CT h1 b n i := CT_fr F1 (fun w => by omega) (fun w => by omega) (fun x k h1 h2 w => by omega) C
      have x5 : ab_I h1 556 (3 * cnt + vs.length) = nI (stV b n i) := by rw [e1, rI_s]
      rw [← e1]
      clear e1
      refine ⟨S1.1 549 (by decide), 550, S1.2.2 _ _ _ rfl, ?_⟩
      (conv => whnf)
      refine ⟨S1.1 550 (by decide), ?_⟩
      refine hc _ _ _ _ (oc_advance (by omega) S1 hn C1 (fun h2 C2 F2 => ?_))
      have g : ∀ x k, ¬ (x = 550 ∧ k = 7) → ab_I h2 x k = ab_I h1 x k := fun x k hx => F2.2.2.2.2 x k hx
      have g1 : ∀ x k, ¬ (x = 556 ∧ k = 3 * cnt + vs.length) → ab_I h1 x k = ab_I h x k := fun x k hx => F1.2.2.2.2 x k hx
      have l1 : (vs ++ [stV b n i]).length = vs.length + 1 := by rw [List.length_append]; rfl
      (conv => whnf)
      refine ⟨Or.inr rfl, ok f (by omega) h2 ⟨C2, fun j hj => ?_, ?_, ?_, fun k => ?_, Fr_tr F (Fr_tr (Fr_mo F1 (fun x k z => show fDo cnt x k from by unfold fDo; omega)) (Fr_mo F2 (fun x k z => by unfold f57 at z; unfold fDo; omega)))⟩ (Fr_Sh F2 S1)⟩
      · rw [l1] at hj
        rw [g _ _ (by omega), List.getD_eq_getElem?_getD]
        rcases Nat.lt_or_ge j vs.length with z | z
        · rw [List.getElem?_append_left z, ← List.getD_eq_getElem?_getD, g1 _ _ (by omega)]
          exact dv j z
        · obtain rfl : j = vs.length := by omega
          rw [List.getElem?_append_right (Nat.le_refl _), Nat.sub_self]
          exact x5
      · rw [g _ _ (by omega), g1 _ _ (by omega)]; exact c3
      · rw [g _ _ (by omega), g1 _ _ (by omega)]; exact c5
      · rw [g _ _ (by omega), g1 _ _ (by omega)]; exact c57 k
    · refine bP (by decide) ?_
      (conv => whnf)
      refine ⟨S.1 549 (by decide), ?_⟩
      refine hc _ _ _ _ (oc_refuse (by omega) S hn C 2 (fun h1 L1 => ?_))
      (conv => whnf)
      exact ⟨Or.inl rfl, n2 f (fun z => e _ z.1 z.2 rfl) h1 ⟨L1.1, L1.2.1, Fr_tr (fDoD F) (Fr_mo L1.2.2 (fun x k z => by unfold fRd at z; unfold fDd; omega))⟩⟩
  · refine ⟨S.1 549 (by decide), ?_⟩
    refine hc _ _ _ _ (oc_refuse (by omega) S hn C 1 (fun h1 L1 => ?_))
    (conv => whnf)
    exact ⟨Or.inl rfl, n1 f h1 ⟨L1.1, L1.2.1, Fr_tr (fDoD F) (Fr_mo L1.2.2 (fun x k z => by unfold fRd at z; unfold fDd; omega))⟩⟩
theorem oc_takenD (hd : 3 ≤ d) (S : Sh h) (hn : n ≤ 300) {i : Nat} {vs : List Nat} (D : DSc h0 h b n cnt i vs) {t : Nat} (ht : t < 1000) (no : stT b n i ≠ t → ∀ h', FLd h0 h' b n cnt 1 i → Q (some (.int (nI 0))) h') (ok : stT b n i = t → ∀ h', DSc h0 h' b n cnt (i + 1) vs → Sh h' → Q (some (.int (nI 1))) h') : ab_Ok d n_X6_taken [.ref 549, .int (nI t)] h Q := by
  obtain ⟨C, dv, c3, c5, c57, F⟩ := D
  have tb' := stT_b b n i
  refine ab_go mr_X6_taken rfl (by omega) (fun call W hc hW => ?_); (conv => whnf)
  refine ⟨S.1 549 (by decide), 550, S.2.2 _ _ _ rfl, ?_⟩
  (conv => whnf)
  refine ⟨S.1 550 (by decide), ?_⟩
  refine hc _ _ _ _ (oc_token (by omega) S hn C ?_)
  (conv => whnf)
  refine ⟨fun f => ?_, fun f => ?_⟩ <;> rw [nI_eq (by omega) (by omega)] at f <;> (conv => whnf)
  · refine ⟨S.1 549 (by decide), 550, S.2.2 _ _ _ rfl, ?_⟩
    (conv => whnf)
    refine ⟨S.1 550 (by decide), ?_⟩
    refine hc _ _ _ _ (oc_advance (by omega) S hn C (fun h2 C2 F2 => ?_))
    have g : ∀ x k, ¬ (x = 550 ∧ k = 7) → ab_I h2 x k = ab_I h x k := fun x k hx => F2.2.2.2.2 x k hx
    (conv => whnf)
    exact ⟨Or.inr rfl, ok f h2 ⟨C2, fun j hj => (g _ _ (by omega)).trans (dv j hj), (g _ _ (by omega)).trans c3, (g _ _ (by omega)).trans c5, fun k => (g _ _ (by omega)).trans (c57 k), Fr_tr F (Fr_mo F2 (fun x k z => by unfold f57 at z; unfold fDo; omega))⟩ (Fr_Sh F2 S)⟩
  · refine ⟨S.1 549 (by decide), ?_⟩
    refine hc _ _ _ _ (oc_refuse (by omega) S hn C 1 (fun h1 L1 => ?_))
    (conv => whnf)
    exact ⟨Or.inl rfl, no f h1 ⟨L1.1, L1.2.1, Fr_tr (fDoD F) (Fr_mo L1.2.2 (fun x k z => by unfold fRd at z; unfold fDd; omega))⟩⟩
theorem oc_readDeed (hd : 6 ≤ d) (S : Sh h) (hn : n ≤ 300) (hc24 : cnt < 24) {i k : Nat} (hk : 3 ≤ k ∧ k ≤ 9) (D : DSc h h b n cnt i []) (hy : (rdA (stT b n) (stV b n) (deedL k) i []).1 = 0 → ∀ h', DSc h h' b n cnt (rdA (stT b n) (stV b n) (deedL k) i []).2.1 (rdA (stT b n) (stV b n) (deedL k) i []).2.2 → Q (some (.int (nI 1))) h') (hno : (rdA (stT b n) (stV b n) (deedL k) i []).1 ≠ 0 → ∀ h', FLd h h' b n cnt (rdA (stT b n) (stV b n) (deedL k) i []).1 (rdA (stT b n) (stV b n) (deedL k) i []).2.1 → Q (some (.int (nI 0))) h') : ab_Ok d n_X6_readDeed [.ref 549, .int (nI (kc k))] h Q := by
  have ek : k = 3 ∨ k = 4 ∨ k = 5 ∨ k = 6 ∨ k = 7 ∨ k = 8 ∨ k = 9 := by omega
  rcases ek with rfl | rfl | rfl | rfl | rfl | rfl | rfl
  · refine ab_go mr_X6_readDeed rfl (by omega) (fun call W hc hW => ?_); (conv => whnf)
    refine bT rfl ?_
    (conv => whnf)
    rw [show deedL 3 = [(0, 1, 9)] from rfl] at hy hno
    refine ⟨S.1 549 (by decide), ?_⟩
    refine hc _ _ _ _ (oc_number (by omega) S hn hc24 D (Nat.le_of_ble_eq_true rfl) rfl (by omega) (by omega) (fun z h1 L1 => ?_) (fun z1 z h1 L1 => ?_) (fun z1 z h2 D2 S2 => ?_))
    · rw [rd_n1 _ _ _ _ _ _ _ z] at hno
      have q0 := hno (by show ¬ (1 : Nat) = 0; omega) h1 L1
      (conv => whnf)
      exact ⟨Or.inl rfl, q0⟩
    · rw [rd_n2 _ _ _ _ _ _ _ z1 z] at hno
      have q0 := hno (by show ¬ (2 : Nat) = 0; omega) h1 L1
      (conv => whnf)
      exact ⟨Or.inl rfl, q0⟩
    rw [rd_n0 _ _ _ _ _ _ _ z1 z] at hy hno
    have q1 := hy rfl h2 D2
    (conv => whnf)
    exact ⟨Or.inr rfl, q1⟩
  · refine ab_go mr_X6_readDeed rfl (by omega) (fun call W hc hW => ?_); (conv => whnf)
    refine bF (by decide) ?_
    (conv => whnf)
    refine bT rfl ?_
    (conv => whnf)
    rw [show deedL 4 = [(0, 0, 3), (1, 16, 0), (0, 1, 9), (1, 17, 0), (0, 0, 20)] from rfl] at hy hno
    refine ⟨S.1 549 (by decide), ?_⟩
    refine hc _ _ _ _ (oc_number (by omega) S hn hc24 D (Nat.le_of_ble_eq_true rfl) rfl (by omega) (by omega) (fun z h1 L1 => ?_) (fun z1 z h1 L1 => ?_) (fun z1 z h2 D2 S2 => ?_))
    · rw [rd_n1 _ _ _ _ _ _ _ z] at hno
      have q0 := hno (by show ¬ (1 : Nat) = 0; omega) h1 L1
      (conv => whnf)
      refine bT (by decide) ?_
      (conv => whnf)
      exact ⟨Or.inl rfl, q0⟩
    · rw [rd_n2 _ _ _ _ _ _ _ z1 z] at hno
      have q0 := hno (by show ¬ (2 : Nat) = 0; omega) h1 L1
      (conv => whnf)
      refine bT (by decide) ?_
      (conv => whnf)
      exact ⟨Or.inl rfl, q0⟩
    rw [rd_n0 _ _ _ _ _ _ _ z1 z] at hy hno
    (conv => whnf)
    refine bF (by decide) ?_
    (conv => whnf)
    refine ⟨S2.1 549 (by decide), ?_⟩
    refine hc _ _ _ _ (oc_takenD (by omega) S2 hn D2 (by omega) (fun z h1 L1 => ?_) (fun z h3 D3 S3 => ?_))
    · rw [rd_w1 _ _ _ _ _ _ _ z] at hno
      have q0 := hno (by show ¬ (1 : Nat) = 0; omega) h1 L1
      (conv => whnf)
      refine bT (by decide) ?_
      (conv => whnf)
      exact ⟨Or.inl rfl, q0⟩
    rw [rd_w0 _ _ _ _ _ _ _ z] at hy hno
    (conv => whnf)
    refine bF (by decide) ?_
    (conv => whnf)
    refine ⟨S3.1 549 (by decide), ?_⟩
    refine hc _ _ _ _ (oc_number (by omega) S3 hn hc24 D3 (Nat.le_of_ble_eq_true rfl) rfl (by omega) (by omega) (fun z h1 L1 => ?_) (fun z1 z h1 L1 => ?_) (fun z1 z h4 D4 S4 => ?_))
    · rw [rd_n1 _ _ _ _ _ _ _ z] at hno
      have q0 := hno (by show ¬ (1 : Nat) = 0; omega) h1 L1
      (conv => whnf)
      refine bT (by decide) ?_
      (conv => whnf)
      exact ⟨Or.inl rfl, q0⟩
    · rw [rd_n2 _ _ _ _ _ _ _ z1 z] at hno
      have q0 := hno (by show ¬ (2 : Nat) = 0; omega) h1 L1
      (conv => whnf)
      refine bT (by decide) ?_
      (conv => whnf)
      exact ⟨Or.inl rfl, q0⟩
    rw [rd_n0 _ _ _ _ _ _ _ z1 z] at hy hno
    (conv => whnf)
    refine bF (by decide) ?_
    (conv => whnf)
    refine ⟨S4.1 549 (by decide), ?_⟩
    refine hc _ _ _ _ (oc_takenD (by omega) S4 hn D4 (by omega) (fun z h1 L1 => ?_) (fun z h5 D5 S5 => ?_))
    · rw [rd_w1 _ _ _ _ _ _ _ z] at hno
      have q0 := hno (by show ¬ (1 : Nat) = 0; omega) h1 L1
      (conv => whnf)
      refine bT (by decide) ?_
      (conv => whnf)
      exact ⟨Or.inl rfl, q0⟩
    rw [rd_w0 _ _ _ _ _ _ _ z] at hy hno
    (conv => whnf)
    refine bF (by decide) ?_
    (conv => whnf)
    refine ⟨S5.1 549 (by decide), ?_⟩
    refine hc _ _ _ _ (oc_number (by omega) S5 hn hc24 D5 (Nat.le_of_ble_eq_true rfl) rfl (by omega) (by omega) (fun z h1 L1 => ?_) (fun z1 z h1 L1 => ?_) (fun z1 z h6 D6 S6 => ?_))
    · rw [rd_n1 _ _ _ _ _ _ _ z] at hno
      have q0 := hno (by show ¬ (1 : Nat) = 0; omega) h1 L1
      (conv => whnf)
      refine bT (by decide) ?_
      (conv => whnf)
      exact ⟨Or.inl rfl, q0⟩
    · rw [rd_n2 _ _ _ _ _ _ _ z1 z] at hno
      have q0 := hno (by show ¬ (2 : Nat) = 0; omega) h1 L1
      (conv => whnf)
      refine bT (by decide) ?_
      (conv => whnf)
      exact ⟨Or.inl rfl, q0⟩
    rw [rd_n0 _ _ _ _ _ _ _ z1 z] at hy hno
    have q1 := hy rfl h6 D6
    (conv => whnf)
    refine bF (by decide) ?_
    (conv => whnf)
    exact ⟨Or.inr rfl, q1⟩
  · refine ab_go mr_X6_readDeed rfl (by omega) (fun call W hc hW => ?_); (conv => whnf)
    refine bF (by decide) ?_
    (conv => whnf)
    refine bF (by decide) ?_
    (conv => whnf)
    refine bF (by decide) ?_
    (conv => whnf)
    refine bF (by decide) ?_
    (conv => whnf)
    refine bF (by decide) ?_
    (conv => whnf)
    refine bT rfl ?_
    (conv => whnf)
    rw [show deedL 5 = [(0, 0, 9), (1, 18, 0), (0, 0, 11)] from rfl] at hy hno
    refine ⟨S.1 549 (by decide), ?_⟩
    refine hc _ _ _ _ (oc_number (by omega) S hn hc24 D (Nat.le_of_ble_eq_true rfl) rfl (by omega) (by omega) (fun z h1 L1 => ?_) (fun z1 z h1 L1 => ?_) (fun z1 z h2 D2 S2 => ?_))
    · rw [rd_n1 _ _ _ _ _ _ _ z] at hno
      have q0 := hno (by show ¬ (1 : Nat) = 0; omega) h1 L1
      (conv => whnf)
      refine bT (by decide) ?_
      (conv => whnf)
      exact ⟨Or.inl rfl, q0⟩
    · rw [rd_n2 _ _ _ _ _ _ _ z1 z] at hno
      have q0 := hno (by show ¬ (2 : Nat) = 0; omega) h1 L1
      (conv => whnf)
      refine bT (by decide) ?_
      (conv => whnf)
      exact ⟨Or.inl rfl, q0⟩
    rw [rd_n0 _ _ _ _ _ _ _ z1 z] at hy hno
    (conv => whnf)
    refine bF (by decide) ?_
    (conv => whnf)
    refine ⟨S2.1 549 (by decide), ?_⟩
    refine hc _ _ _ _ (oc_takenD (by omega) S2 hn D2 (by omega) (fun z h1 L1 => ?_) (fun z h3 D3 S3 => ?_))
    · rw [rd_w1 _ _ _ _ _ _ _ z] at hno
      have q0 := hno (by show ¬ (1 : Nat) = 0; omega) h1 L1
      (conv => whnf)
      refine bT (by decide) ?_
      (conv => whnf)
      exact ⟨Or.inl rfl, q0⟩
    rw [rd_w0 _ _ _ _ _ _ _ z] at hy hno
    (conv => whnf)
    refine bF (by decide) ?_
    (conv => whnf)
    refine ⟨S3.1 549 (by decide), ?_⟩
    refine hc _ _ _ _ (oc_number (by omega) S3 hn hc24 D3 (Nat.le_of_ble_eq_true rfl) rfl (by omega) (by omega) (fun z h1 L1 => ?_) (fun z1 z h1 L1 => ?_) (fun z1 z h4 D4 S4 => ?_))
    · rw [rd_n1 _ _ _ _ _ _ _ z] at hno
      have q0 := hno (by show ¬ (1 : Nat) = 0; omega) h1 L1
      (conv => whnf)
      refine bT (by decide) ?_
      (conv => whnf)
      exact ⟨Or.inl rfl, q0⟩
    · rw [rd_n2 _ _ _ _ _ _ _ z1 z] at hno
      have q0 := hno (by show ¬ (2 : Nat) = 0; omega) h1 L1
      (conv => whnf)
      refine bT (by decide) ?_
      (conv => whnf)
      exact ⟨Or.inl rfl, q0⟩
    rw [rd_n0 _ _ _ _ _ _ _ z1 z] at hy hno
    have q1 := hy rfl h4 D4
    (conv => whnf)
    refine bF (by decide) ?_
    (conv => whnf)
    exact ⟨Or.inr rfl, q1⟩
  · refine ab_go mr_X6_readDeed rfl (by omega) (fun call W hc hW => ?_); (conv => whnf)
    refine bF (by decide) ?_
    (conv => whnf)
    refine bF (by decide) ?_
    (conv => whnf)
    refine bT rfl ?_
    (conv => whnf)
    rw [show deedL 6 = [(0, 0, 9), (1, 19, 0), (0, 0, 4)] from rfl] at hy hno
    refine ⟨S.1 549 (by decide), ?_⟩
    refine hc _ _ _ _ (oc_number (by omega) S hn hc24 D (Nat.le_of_ble_eq_true rfl) rfl (by omega) (by omega) (fun z h1 L1 => ?_) (fun z1 z h1 L1 => ?_) (fun z1 z h2 D2 S2 => ?_))
    · rw [rd_n1 _ _ _ _ _ _ _ z] at hno
      have q0 := hno (by show ¬ (1 : Nat) = 0; omega) h1 L1
      (conv => whnf)
      refine bT (by decide) ?_
      (conv => whnf)
      exact ⟨Or.inl rfl, q0⟩
    · rw [rd_n2 _ _ _ _ _ _ _ z1 z] at hno
      have q0 := hno (by show ¬ (2 : Nat) = 0; omega) h1 L1
      (conv => whnf)
      refine bT (by decide) ?_
      (conv => whnf)
      exact ⟨Or.inl rfl, q0⟩
    rw [rd_n0 _ _ _ _ _ _ _ z1 z] at hy hno
    (conv => whnf)
    refine bF (by decide) ?_
    (conv => whnf)
    refine ⟨S2.1 549 (by decide), ?_⟩
    refine hc _ _ _ _ (oc_takenD (by omega) S2 hn D2 (by omega) (fun z h1 L1 => ?_) (fun z h3 D3 S3 => ?_))
    · rw [rd_w1 _ _ _ _ _ _ _ z] at hno
      have q0 := hno (by show ¬ (1 : Nat) = 0; omega) h1 L1
      (conv => whnf)
      refine bT (by decide) ?_
      (conv => whnf)
      exact ⟨Or.inl rfl, q0⟩
    rw [rd_w0 _ _ _ _ _ _ _ z] at hy hno
    (conv => whnf)
    refine bF (by decide) ?_
    (conv => whnf)
    refine ⟨S3.1 549 (by decide), ?_⟩
    refine hc _ _ _ _ (oc_number (by omega) S3 hn hc24 D3 (Nat.le_of_ble_eq_true rfl) rfl (by omega) (by omega) (fun z h1 L1 => ?_) (fun z1 z h1 L1 => ?_) (fun z1 z h4 D4 S4 => ?_))
    · rw [rd_n1 _ _ _ _ _ _ _ z] at hno
      have q0 := hno (by show ¬ (1 : Nat) = 0; omega) h1 L1
      (conv => whnf)
      refine bT (by decide) ?_
      (conv => whnf)
      exact ⟨Or.inl rfl, q0⟩
    · rw [rd_n2 _ _ _ _ _ _ _ z1 z] at hno
      have q0 := hno (by show ¬ (2 : Nat) = 0; omega) h1 L1
      (conv => whnf)
      refine bT (by decide) ?_
      (conv => whnf)
      exact ⟨Or.inl rfl, q0⟩
    rw [rd_n0 _ _ _ _ _ _ _ z1 z] at hy hno
    have q1 := hy rfl h4 D4
    (conv => whnf)
    refine bF (by decide) ?_
    (conv => whnf)
    exact ⟨Or.inr rfl, q1⟩
  · refine ab_go mr_X6_readDeed rfl (by omega) (fun call W hc hW => ?_); (conv => whnf)
    refine bF (by decide) ?_
    (conv => whnf)
    refine bF (by decide) ?_
    (conv => whnf)
    refine bF (by decide) ?_
    (conv => whnf)
    refine bT rfl ?_
    (conv => whnf)
    rw [show deedL 7 = [(0, 1, 20), (1, 20, 0), (0, 0, 9)] from rfl] at hy hno
    refine ⟨S.1 549 (by decide), ?_⟩
    refine hc _ _ _ _ (oc_number (by omega) S hn hc24 D (Nat.le_of_ble_eq_true rfl) rfl (by omega) (by omega) (fun z h1 L1 => ?_) (fun z1 z h1 L1 => ?_) (fun z1 z h2 D2 S2 => ?_))
    · rw [rd_n1 _ _ _ _ _ _ _ z] at hno
      have q0 := hno (by show ¬ (1 : Nat) = 0; omega) h1 L1
      (conv => whnf)
      refine bT (by decide) ?_
      (conv => whnf)
      exact ⟨Or.inl rfl, q0⟩
    · rw [rd_n2 _ _ _ _ _ _ _ z1 z] at hno
      have q0 := hno (by show ¬ (2 : Nat) = 0; omega) h1 L1
      (conv => whnf)
      refine bT (by decide) ?_
      (conv => whnf)
      exact ⟨Or.inl rfl, q0⟩
    rw [rd_n0 _ _ _ _ _ _ _ z1 z] at hy hno
    (conv => whnf)
    refine bF (by decide) ?_
    (conv => whnf)
    refine ⟨S2.1 549 (by decide), ?_⟩
    refine hc _ _ _ _ (oc_takenD (by omega) S2 hn D2 (by omega) (fun z h1 L1 => ?_) (fun z h3 D3 S3 => ?_))
    · rw [rd_w1 _ _ _ _ _ _ _ z] at hno
      have q0 := hno (by show ¬ (1 : Nat) = 0; omega) h1 L1
      (conv => whnf)
      refine bT (by decide) ?_
      (conv => whnf)
      exact ⟨Or.inl rfl, q0⟩
    rw [rd_w0 _ _ _ _ _ _ _ z] at hy hno
    (conv => whnf)
    refine bF (by decide) ?_
    (conv => whnf)
    refine ⟨S3.1 549 (by decide), ?_⟩
    refine hc _ _ _ _ (oc_number (by omega) S3 hn hc24 D3 (Nat.le_of_ble_eq_true rfl) rfl (by omega) (by omega) (fun z h1 L1 => ?_) (fun z1 z h1 L1 => ?_) (fun z1 z h4 D4 S4 => ?_))
    · rw [rd_n1 _ _ _ _ _ _ _ z] at hno
      have q0 := hno (by show ¬ (1 : Nat) = 0; omega) h1 L1
      (conv => whnf)
      refine bT (by decide) ?_
      (conv => whnf)
      exact ⟨Or.inl rfl, q0⟩
    · rw [rd_n2 _ _ _ _ _ _ _ z1 z] at hno
      have q0 := hno (by show ¬ (2 : Nat) = 0; omega) h1 L1
      (conv => whnf)
      refine bT (by decide) ?_
      (conv => whnf)
      exact ⟨Or.inl rfl, q0⟩
    rw [rd_n0 _ _ _ _ _ _ _ z1 z] at hy hno
    have q1 := hy rfl h4 D4
    (conv => whnf)
    refine bF (by decide) ?_
    (conv => whnf)
    exact ⟨Or.inr rfl, q1⟩
  · refine ab_go mr_X6_readDeed rfl (by omega) (fun call W hc hW => ?_); (conv => whnf)
    refine bF (by decide) ?_
    (conv => whnf)
    refine bF (by decide) ?_
    (conv => whnf)
    refine bF (by decide) ?_
    (conv => whnf)
    refine bF (by decide) ?_
    (conv => whnf)
    refine bT rfl ?_
    (conv => whnf)
    exact ⟨Or.inr rfl, hy rfl h D⟩
  · refine ab_go mr_X6_readDeed rfl (by omega) (fun call W hc hW => ?_); (conv => whnf)
    refine bF (by decide) ?_
    (conv => whnf)
    refine bF (by decide) ?_
    (conv => whnf)
    refine bF (by decide) ?_
    (conv => whnf)
    refine bF (by decide) ?_
    (conv => whnf)
    refine bF (by decide) ?_
    (conv => whnf)
    refine bF (by decide) ?_
    (conv => whnf)
    refine bT rfl ?_
    (conv => whnf)
    rw [show deedL 9 = [(0, 1, 60)] from rfl] at hy hno
    refine ⟨S.1 549 (by decide), ?_⟩
    refine hc _ _ _ _ (oc_number (by omega) S hn hc24 D (Nat.le_of_ble_eq_true rfl) rfl (by omega) (by omega) (fun z h1 L1 => ?_) (fun z1 z h1 L1 => ?_) (fun z1 z h2 D2 S2 => ?_))
    · rw [rd_n1 _ _ _ _ _ _ _ z] at hno
      have q0 := hno (by show ¬ (1 : Nat) = 0; omega) h1 L1
      (conv => whnf)
      exact ⟨Or.inl rfl, q0⟩
    · rw [rd_n2 _ _ _ _ _ _ _ z1 z] at hno
      have q0 := hno (by show ¬ (2 : Nat) = 0; omega) h1 L1
      (conv => whnf)
      exact ⟨Or.inl rfl, q0⟩
    rw [rd_n0 _ _ _ _ _ _ _ z1 z] at hy hno
    have q1 := hy rfl h2 D2
    (conv => whnf)
    exact ⟨Or.inr rfl, q1⟩
end RC1
