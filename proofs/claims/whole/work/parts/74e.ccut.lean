/-! ===== contracts: tokens on the class's side (mine) ===== -/
def fC (a k : Nat) : Prop := (a = 550 ∧ (k = 1 ∨ k = 6 ∨ k = 7)) ∨ (552 ≤ a ∧ a ≤ 554)
theorem b1_in : ∀ c, c ≤ 255 → ((∃ i, i < 11 ∧ ab_b1.getD i 0 = ((nI c).toUInt32 % 65536).toInt32.toInt8.toInt32) ↔ c ∈ sgs) := by decide +kernel
theorem i2c_id {c : Nat} (h : c ≤ 255) : ((nI c).toUInt32 % 65536).toInt32 = nI c := by
  have : ∀ c : Fin 256, ((nI c.val).toUInt32 % 65536).toInt32 = nI c.val := by decide +kernel
  exact this ⟨c, by omega⟩
section CC
variable {d : Nat} {h : Hp} {Q : Option Value → Hp → Prop} {n : Nat} {b : Nat → Nat}
theorem oc_isDigit (hd : 2 ≤ d) (hb : ∀ k, k < n → b k ≤ 255) {k : Nat} (hy : k < n → isD (b k) = true → Q (some (.int (nI 1))) h) (hno : ¬ (k < n ∧ isD (b k) = true) → Q (some (.int (nI 0))) h) : ab_Ok d n_X8_isDigit [.int (bI b n k)] h Q := by
  refine ab_go mr_X8_isDigit rfl (by omega) (fun call W hc hW => ?_); (conv => whnf)
  refine hc _ _ _ _ (ok_within (by omega) _ _ _ (fun z1 z2 => ?_) (fun z => ?_)) <;> (conv => whnf)
  · have := (bI_rg hb (by omega) (by omega)).mp ⟨z1, z2⟩
    exact ⟨Or.inr rfl, hy this.1 ((isD_i _).mpr this.2)⟩
  · exact ⟨Or.inl rfl, hno (fun y => z ((bI_rg hb (by omega) (by omega)).mpr ⟨y.1, (isD_i _).mp y.2⟩))⟩
theorem oc_isLetter (hd : 2 ≤ d) (hb : ∀ k, k < n → b k ≤ 255) {k : Nat} (hy : k < n → isL (b k) = true → Q (some (.int (nI 1))) h) (hno : ¬ (k < n ∧ isL (b k) = true) → Q (some (.int (nI 0))) h) : ab_Ok d n_X8_isLetter [.int (bI b n k)] h Q := by
  refine ab_go mr_X8_isLetter rfl (by omega) (fun call W hc hW => ?_); (conv => whnf)
  refine hc _ _ _ _ (ok_within (by omega) _ _ _ (fun z1 z2 => ?_) (fun z => ?_)) <;> (conv => whnf)
  · have := (bI_rg hb (by omega) (by omega)).mp ⟨z1, z2⟩
    refine bN (by decide) ?_
    (conv => whnf)
    exact ⟨Or.inr rfl, hy this.1 ((isL_i _).mpr (Or.inl this.2))⟩
  · refine bP (by decide) ?_
    (conv => whnf)
    refine hc _ _ _ _ (ok_within (by omega) _ _ _ (fun z1 z2 => ?_) (fun z3 => ?_)) <;> (conv => whnf)
    · have := (bI_rg hb (by omega) (by omega)).mp ⟨z1, z2⟩
      refine bF (by decide) ?_
      (conv => whnf)
      exact ⟨Or.inr rfl, hy this.1 ((isL_i _).mpr (Or.inr this.2))⟩
    · refine bT (by decide) ?_
      (conv => whnf)
      refine ⟨Or.inl rfl, hno (fun y => ?_)⟩
      rcases (isL_i _).mp y.2 with w | w
      · exact z ((bI_rg hb (by omega) (by omega)).mpr ⟨y.1, w⟩)
      · exact z3 ((bI_rg hb (by omega) (by omega)).mpr ⟨y.1, w⟩)
theorem oc_behindBlanks (hd : 4 ≤ d) (S : Sh h) (P : TP h 550 2 551 n b) (hn : n ≤ 300) {e : Nat} (he : e ≤ n) (hq : Q (some (.int (nI (fw isB b n e)))) h) : ab_Ok d n_X8_behindBlanks [.ref 550, .int (nI e)] h Q := by
  have hb : ∀ k, k < n → b k ≤ 255 := fun k hk => (P.2 k hk).2
  have S' := S
  refine ab_go mr_X8_behindBlanks rfl (by omega) (fun call W hc hW => ?_); (conv => whnf)
  have lp : ∀ r j, j + r = n → fw isB b n j = fw isB b n e → W 2 [.ref 550, .int (nI j)] h 0 0 := by
    intro r
    induction r with
    | zero =>
      intro j e0 e1
      have e2 : fw isB b n e = j := by rw [← e1]; exact fw_n (fun z => by omega)
      rw [e2] at hq
      refine hW _ _ _ _ _ ?_
      (conv => whnf)
      refine ⟨S'.1 550 (by decide), ?_⟩
      (conv => whnf)
      rw [P.1]
      refine bT (nI_le (by omega) (by omega)) ?_
      (conv => whnf)
      exact hq
    | succ r ih =>
      intro j e0 e1
      have ih := ih (j + 1) (by omega)
      refine hW _ _ _ _ _ ?_
      (conv => whnf)
      refine ⟨S'.1 550 (by decide), ?_⟩
      (conv => whnf)
      rw [P.1]
      refine bF (nI_ge (by omega) (by omega)) ?_
      (conv => whnf)
      refine ⟨S'.1 550 (by decide), ?_⟩
      refine hc _ _ _ _ (oc_byteAt (by omega) S P hn (by omega) ?_)
      (conv => whnf)
      refine ⟨fun f => ?_, fun f => ?_⟩ <;> rw [bI_eq hb (by omega)] at f <;> (conv => whnf)
      · rw [nI_add]
        exact ih ((fw_y (by omega) ((isB_i _).mpr (Or.inl f.2))).symm.trans e1)
      · refine ⟨S'.1 550 (by decide), ?_⟩
        refine hc _ _ _ _ (oc_byteAt (by omega) S P hn (by omega) ?_)
        (conv => whnf)
        refine ⟨fun g => ?_, fun g => ?_⟩ <;> rw [bI_eq hb (by omega)] at g <;> (conv => whnf)
        · have e2 : fw isB b n e = j := by
            rw [← e1]
            refine fw_n (fun z => ?_)
            rcases (isB_i _).mp z.2 with y | y
            · exact f ⟨z.1, y⟩
            · exact g ⟨z.1, y⟩
          rw [e2] at hq
          exact hq
        · rw [nI_add]
          exact ih ((fw_y (by omega) ((isB_i _).mpr (Or.inr g.2))).symm.trans e1)
  exact lp (n - e) e (by omega) rfl
theorem oc_behindLetters (hd : 4 ≤ d) (S : Sh h) (P : TP h 550 2 551 n b) (hn : n ≤ 300) {e : Nat} (he : e ≤ n) (hq : Q (some (.int (nI (fw isL b n e)))) h) : ab_Ok d n_X8_behindLetters [.ref 550, .int (nI e)] h Q := by
  have hb : ∀ k, k < n → b k ≤ 255 := fun k hk => (P.2 k hk).2
  have S' := S
  refine ab_go mr_X8_behindLetters rfl (by omega) (fun call W hc hW => ?_); (conv => whnf)
  have lp : ∀ r j, j + r = n → fw isL b n j = fw isL b n e → W 2 [.ref 550, .int (nI j)] h 0 0 := by
    intro r
    induction r with
    | zero =>
      intro j e0 e1
      have e2 : fw isL b n e = j := by rw [← e1]; exact fw_n (fun z => by omega)
      rw [e2] at hq
      refine hW _ _ _ _ _ ?_
      (conv => whnf)
      refine ⟨S'.1 550 (by decide), ?_⟩
      (conv => whnf)
      rw [P.1]
      refine bT (nI_le (by omega) (by omega)) ?_
      (conv => whnf)
      exact hq
    | succ r ih =>
      intro j e0 e1
      have ih := ih (j + 1) (by omega)
      refine hW _ _ _ _ _ ?_
      (conv => whnf)
      refine ⟨S'.1 550 (by decide), ?_⟩
      (conv => whnf)
      rw [P.1]
      refine bF (nI_ge (by omega) (by omega)) ?_
      (conv => whnf)
      refine ⟨S'.1 550 (by decide), ?_⟩
      refine hc _ _ _ _ (oc_byteAt (by omega) S P hn (by omega) ?_)
      (conv => whnf)
      refine hc _ _ _ _ (oc_isLetter (by omega) hb (fun f1 f2 => ?_) (fun f => ?_)) <;> (conv => whnf)
      · refine bF (by decide) ?_
        (conv => whnf)
        rw [nI_add]
        exact ih ((fw_y f1 f2).symm.trans e1)
      · refine bT (by decide) ?_
        (conv => whnf)
        have e2 : fw isL b n e = j := by rw [← e1]; exact fw_n f
        rw [e2] at hq
        exact hq
  exact lp (n - e) e (by omega) rfl
theorem oc_cutNumber (hd : 4 ≤ d) (S : Sh h) (P : TP h 550 2 551 n b) (hn : n ≤ 300) {e : Nat} (he : e ≤ n) (h1 : ab_I h 550 1 = nI e) (hq : ∀ h', ab_I h' 550 1 = nI (fw isD b n e) → Fr (fun a k => a = 550 ∧ k = 1) h h' → Q (some (.int (nI (nvr b n (n - e) e 0)))) h') : ab_Ok d n_X8_cutNumber [.ref 550] h Q := by
  have hb : ∀ k, k < n → b k ≤ 255 := fun k hk => (P.2 k hk).2
  refine ab_go mr_X8_cutNumber rfl (by omega) (fun call W hc hW => ?_); (conv => whnf)
  have lp : ∀ r j v h', j + r = n → fw isD b n j = fw isD b n e → nvr b n r j v = nvr b n (n - e) e 0 → v ≤ 10000 → ab_I h' 550 1 = nI j → Fr (fun a k => a = 550 ∧ k = 1) h h' → W 2 [.ref 550, .int (nI v)] h' 0 0 := by
    intro r
    induction r with
    | zero =>
      intro j v h' e0 e1 e3 hv c1 F'
      have S' := Fr_Sh F' S
      have P' : TP h' 550 2 551 n b := TP_fr F' (fun w => by omega) (fun k w => by omega) P
      have e2 : fw isD b n e = j := by rw [← e1]; exact fw_n (fun z => by omega)
      have e3 : v = nvr b n (n - e) e 0 := e3
      have q := hq h' (by rw [e2]; exact c1) F'
      rw [← e3] at q
      refine hW _ _ _ _ _ ?_
      (conv => whnf)
      refine ⟨S'.1 550 (by decide), ?_⟩
      (conv => whnf)
      rw [c1]
      refine ⟨S'.1 550 (by decide), ?_⟩
      (conv => whnf)
      rw [P'.1]
      refine bT (nI_le (by omega) (by omega)) ?_
      (conv => whnf)
      exact q
    | succ r ih =>
      intro j v h' e0 e1 e3 hv c1 F'
      have S' := Fr_Sh F' S
      have P' : TP h' 550 2 551 n b := TP_fr F' (fun w => by omega) (fun k w => by omega) P
      have e3 : (if j < n ∧ isD (b j) = true then nvr b n r (j + 1) (min 10000 (v * 10 + (b j - 48))) else v) = nvr b n (n - e) e 0 := e3
      have jb := hb j (by omega)
      refine hW _ _ _ _ _ ?_
      (conv => whnf)
      refine ⟨S'.1 550 (by decide), ?_⟩
      (conv => whnf)
      rw [c1]
      refine ⟨S'.1 550 (by decide), ?_⟩
      (conv => whnf)
      rw [P'.1]
      refine bF (nI_ge (by omega) (by omega)) ?_
      (conv => whnf)
      refine ⟨S'.1 550 (by decide), ?_⟩
      (conv => whnf)
      rw [c1]
      refine ⟨S'.1 550 (by decide), ?_⟩
      refine hc _ _ _ _ (oc_byteAt (by omega) S' P' hn (by omega) ?_)
      (conv => whnf)
      refine hc _ _ _ _ (oc_isDigit (by omega) hb (fun f1 f2 => ?_) (fun f => ?_)) <;> (conv => whnf)
      · have dd := (isD_i _).mp f2
        rw [if_pos ⟨f1, f2⟩] at e3
        have ih := ih (j + 1) _ (ab_sI h' 550 1 (nI (j + 1))) (by omega) ((fw_y f1 f2).symm.trans e1) e3 (by omega) (rI_s _ _ _ _) (Fr_tr F' (Fr_sI ⟨rfl, rfl⟩))
        refine bF (by decide) ?_
        (conv => whnf)
        refine ⟨S'.1 550 (by decide), ?_⟩
        (conv => whnf)
        rw [c1]
        refine ⟨S'.1 550 (by decide), ?_⟩
        refine hc _ _ _ _ (oc_byteAt (by omega) S' P' hn (by omega) ?_)
        rw [show bI b n j = nI (b j) from if_pos f1]
        (conv => whnf)
        rw [pk_mul, nI_add, pk_sub (by omega : 48 ≤ v * 10 + b j)]
        refine hc _ _ _ _ (ok_min (by omega) _ _ ?_)
        rw [nI_min (by omega) (by omega), show v * 10 + b j - 48 = v * 10 + (b j - 48) by omega]
        (conv => whnf)
        refine ⟨S'.1 550 (by decide), ?_⟩
        (conv => whnf)
        refine ⟨S'.1 550 (by decide), ?_⟩
        (conv => whnf)
        rw [c1, nI_add]
        exact ih
      · rw [if_neg f] at e3
        have e2 : fw isD b n e = j := by rw [← e1]; exact fw_n f
        have q := hq h' (by rw [e2]; exact c1) F'
        rw [← e3] at q
        refine bT (by decide) ?_
        (conv => whnf)
        exact q
  exact lp (n - e) e 0 h (by omega) rfl rfl (by omega) h1 Fr_re
theorem ok_indexOfChar (hd : 1 ≤ d) (S : Sh h) (Z : SS h) (x : Int32) (hy : ∀ i, i < 11 → ab_b1.getD i 0 = x.toInt8.toInt32 → Q (some (.int (nI i))) h) (hno : (∀ i, i < 11 → ab_b1.getD i 0 ≠ x.toInt8.toInt32) → Q (some (.int (-1))) h) : ab_Ok d n_J1_indexOfChar_4cfef [.ref 4, .int x, .int (nI 0), .int (nI 11)] h Q := by
  have k2 := (S.1 4 (by decide)).trans (show tK 4 = 21 by decide)
  have l2 := (S.2.1 4 (by decide)).trans (show tL 4 = 11 by decide +kernel)
  refine ab_go mr_J1_indexOfChar_4cfef rfl (by omega) (fun call W hc hW => ?_); (conv => whnf)
  have lp : ∀ r i, i + r = 11 → (∀ j, j < i → ab_b1.getD j 0 ≠ x.toInt8.toInt32) → W 7 [.ref 4, .int (nI 11), .int x.toInt8.toInt32, .int (nI i)] h 0 0 := by
    intro r
    induction r with
    | zero =>
      intro i e p
      obtain rfl : i = 11 := by omega
      refine hW _ _ _ _ _ ?_
      (conv => whnf)
      refine bT (nI_le (Nat.le_refl _) (by omega)) ?_
      (conv => whnf)
      exact hno p
    | succ r ih =>
      intro i e p
      have z := Z.2.1 i
      have hy := hy i (by omega)
      refine hW _ _ _ _ _ ?_
      (conv => whnf)
      refine bF (nI_ge (by omega) (by omega)) ?_
      (conv => whnf)
      refine ⟨k2, vin _ l2 (by omega) (by decide), ?_⟩
      (conv => whnf)
      rw [nI_clamp (by omega), z]
      refine ⟨fun f => ?_, fun f => ?_⟩ <;> (conv => whnf)
      · rw [nI_add]
        refine ih (i + 1) (by omega) (fun j hj => ?_)
        by_cases ej : j = i
        · rw [ej]; exact f
        · exact p j (by omega)
      · exact hy f
  exact lp 11 0 (by omega) (fun j hj => by omega)
theorem ok_canEncode (hd : 1 ≤ d) {c : Nat} (hc9 : c ≤ 255) (hq : Q (some (.int (nI 1))) h) : ab_Ok d n_J1_canEncode_9a6ad [.int (nI c)] h Q := by
  refine ab_go mr_J1_canEncode_9a6ad rfl (by omega) (fun call W hc hW => ?_); (conv => whnf)
  refine bF (by rw [z0, nI_ltI (by omega) (by omega)]; omega) ?_
  (conv => whnf)
  refine bF (by rw [nI_ltI (by omega) (by omega)]; omega) ?_
  (conv => whnf)
  exact ⟨Or.inr rfl, hq⟩
theorem ok_indexOf1 (hd : 2 ≤ d) (S : Sh h) (Z : SS h) {c : Nat} (hc9 : c ≤ 255) (hy : ∀ i, i < 11 → ab_b1.getD i 0 = (nI c).toInt8.toInt32 → Q (some (.int (nI i))) h) (hno : (∀ i, i < 11 → ab_b1.getD i 0 ≠ (nI c).toInt8.toInt32) → Q (some (.int (-1))) h) : ab_Ok d n_J1_indexOf_4cfef [.ref 4, .int (nI c), .int (nI 0), .int (nI 11)] h Q := by
  have k2 := (S.1 4 (by decide)).trans (show tK 4 = 21 by decide)
  have l2 := (S.2.1 4 (by decide)).trans (show tL 4 = 11 by decide +kernel)
  refine ab_go mr_J1_indexOf_4cfef rfl (by omega) (fun call W hc hW => ?_); (conv => whnf)
  refine hc _ _ _ _ (ok_canEncode (by omega) hc9 ?_)
  (conv => whnf)
  refine bN (by decide) ?_
  (conv => whnf)
  refine hc _ _ _ _ (ok_max (by omega) _ _ ?_)
  rw [nI_max (a := 0) (b := 0) (by omega) (by omega), show max 0 0 = 0 from rfl]
  (conv => whnf)
  refine ⟨k2, ?_⟩
  (conv => whnf)
  rw [l2, ofN]
  refine hc _ _ _ _ (ok_min (by omega) _ _ ?_)
  rw [nI_min (a := 11) (b := 11) (by omega) (by omega), show min 11 11 = 11 from rfl]
  (conv => whnf)
  refine bT (by decide) ?_
  (conv => whnf)
  refine hc _ _ _ _ (ok_indexOfChar (by omega) S Z _ (fun i hi e => ?_) (fun e => ?_)) <;> (conv => whnf)
  · exact hy i hi e
  · exact hno e
theorem ok_indexOf0 (hd : 4 ≤ d) (S : Sh h) (Z : SS h) {c : Nat} (hc9 : c ≤ 255) (hy : ∀ i, i < 11 → ab_b1.getD i 0 = (nI c).toInt8.toInt32 → Q (some (.int (nI i))) h) (hno : (∀ i, i < 11 → ab_b1.getD i 0 ≠ (nI c).toInt8.toInt32) → Q (some (.int (-1))) h) : ab_Ok d n_J0_indexOf_0f7a4 [.ref 3, .int (nI c)] h Q := by
  have kk := (S.1 3 (by decide)).trans (show tK 3 = 20 by decide)
  have k2 := (S.1 4 (by decide)).trans (show tK 4 = 21 by decide)
  have l2 := (S.2.1 4 (by decide)).trans (show tL 4 = 11 by decide +kernel)
  have r2 : ab_R h 3 0 = some 4 := S.2.2 _ _ _ rfl
  refine ab_go mr_J0_indexOf_0f7a4 rfl (by omega) (fun call W hc hW => ?_); (conv => whnf)
  refine ⟨kk, ?_⟩
  refine hc _ _ _ _ ?_
  refine ab_go mr_J0_indexOf_7cf53 rfl (by omega) (fun call W hc hW => ?_)
  (conv => whnf)
  refine ⟨kk, ?_⟩
  refine hc _ _ _ _ (ok_isLatin1 (by omega) kk Z.2.2.2 ?_)
  (conv => whnf)
  refine bF (by decide) ?_
  (conv => whnf)
  refine ⟨kk, 4, r2, ?_⟩
  (conv => whnf)
  refine ⟨kk, ?_⟩
  refine hc _ _ _ _ (ok_length (by omega) kk r2 k2 l2 (by decide) Z.2.2.2 ?_)
  (conv => whnf)
  refine hc _ _ _ _ (ok_indexOf1 (by omega) S Z hc9 (fun i hi e => ?_) (fun e => ?_)) <;> (conv => whnf)
  · exact hy i hi e
  · exact hno e
theorem oc_signOf (hd : 6 ≤ d) (S : Sh h) (Z : SS h) (hb : ∀ k, k < n → b k ≤ 255) {k : Nat} (hk : k < n) (hq : Q (some (.int (nI (sg (b k) (bA b n (k + 1)))))) h) : ab_Ok d n_X8_signOf [.int (nI (b k)), .int (bI b n (k + 1))] h Q := by
  have kb := hb k hk
  have eb : bI b n (k + 1) = nI 61 ↔ bA b n (k + 1) = 61 := by
    rw [bI_eq hb (by omega)]
    unfold bA
    constructor
    · intro z; rw [if_pos z.1]; exact z.2
    · intro z
      by_cases y : k + 1 < n
      · rw [if_pos y] at z; exact ⟨y, z⟩
      · rw [if_neg y] at z; omega
  have kk := (S.1 3 (by decide)).trans (show tK 3 = 20 by decide)
  have b1c := b1_in (b k) kb
  rw [i2c_id kb] at b1c
  unfold sg at hq
  have fin : ¬ (bA b n (k + 1) = 61 ∧ b k = 60) → ¬ (bA b n (k + 1) = 61 ∧ b k = 62) → (b k ∈ sgs → Q (some (.int (nI (b k)))) h) ∧ (¬ b k ∈ sgs → Q (some (.int (nI 132))) h) := by
    intro z1 z2
    rw [if_neg z1, if_neg z2] at hq
    exact ⟨fun z => by rw [if_pos z] at hq; exact hq, fun z => by rw [if_neg z] at hq; exact hq⟩
  have f1 : bA b n (k + 1) = 61 → b k = 60 → Q (some (.int (nI 128))) h := fun z1 z2 => by rw [if_pos ⟨z1, z2⟩] at hq; exact hq
  have f2 : bA b n (k + 1) = 61 → b k = 62 → Q (some (.int (nI 129))) h := fun z1 z2 => by rw [if_neg (fun z => by omega), if_pos ⟨z1, z2⟩] at hq; exact hq
  clear hq
  refine ab_go mr_X8_signOf rfl (by omega) (fun call W hc hW => ?_); (conv => whnf)
  refine ⟨fun g => ?_, fun g => ?_⟩ <;> rw [eb] at g <;> (conv => whnf)
  · refine bN (fun z => g (eb.mp z)) ?_
    (conv => whnf)
    have fin := fin (fun z => g z.1) (fun z => g z.1)
    rw [i2c_id kb]
    refine ⟨kk, ?_⟩
    refine hc _ _ _ _ (ok_indexOf0 (by omega) S Z kb (fun i hi e => ?_) (fun e => ?_)) <;> (conv => whnf)
    · refine bF (by rw [z0, nI_ltI (by omega) (by omega)]; omega) ?_
      (conv => whnf)
      exact fin.1 (b1c.mp ⟨i, hi, e⟩)
    · refine bT (by decide) ?_
      (conv => whnf)
      exact fin.2 (fun z => by obtain ⟨i, hi, e2⟩ := b1c.mpr z; exact e i hi e2)
  · refine ⟨fun f => ?_, fun f => ?_⟩ <;> rw [nI_eq (by omega) (by omega)] at f <;> (conv => whnf)
    · refine bP (eb.mpr g) ?_
      (conv => whnf)
      refine ⟨fun f3 => ?_, fun f3 => ?_⟩ <;> rw [nI_eq (by omega) (by omega)] at f3 <;> (conv => whnf)
      · have fin := fin (fun z => f z.2) (fun z => f3 z.2)
        rw [i2c_id kb]
        refine ⟨kk, ?_⟩
        refine hc _ _ _ _ (ok_indexOf0 (by omega) S Z kb (fun i hi e => ?_) (fun e => ?_)) <;> (conv => whnf)
        · refine bF (by rw [z0, nI_ltI (by omega) (by omega)]; omega) ?_
          (conv => whnf)
          exact fin.1 (b1c.mp ⟨i, hi, e⟩)
        · refine bT (by decide) ?_
          (conv => whnf)
          exact fin.2 (fun z => by obtain ⟨i, hi, e2⟩ := b1c.mpr z; exact e i hi e2)
      · exact f2 g f3
    · exact f1 g f
theorem oc_cutToken (hd : 9 ≤ d) (S : Sh h) (Z : SS h) (P : TP h 550 2 551 n b) (hn : n ≤ 300) {k l : Nat} (hk : k < n) (hl : l < 300) (c1 : ab_I h 550 1 = nI k) (c6 : ab_I h 550 6 = nI l) (cp : ab_I h 554 l = nI k) (cv : ab_I h 553 l = nI 0) (hq : ∀ h', ab_I h' 550 1 = nI (tkE b n k) → ab_I h' 552 l = nI (tkT b n k) → ab_I h' 553 l = nI (tkV b n k) → Fr (fun a j => (a = 550 ∧ j = 1) ∨ (a = 552 ∧ j = l) ∨ (a = 553 ∧ j = l)) h h' → Q none h') : ab_Ok d n_X8_cutToken [.ref 550, .int (nI (b k))] h Q := by
  have hb : ∀ k, k < n → b k ≤ 255 := fun k hk => (P.2 k hk).2
  have kb := hb k hk
  have bk : bI b n k = nI (b k) := if_pos hk
  have S' := S
  refine ab_go mr_X8_cutToken rfl (by omega) (fun call W hc hW => ?_); (conv => whnf)
  rw [← bk]
  refine hc _ _ _ _ (oc_isDigit (by omega) hb (fun _ dk => ?_) (fun dk => ?_)) <;> (conv => whnf)
  · have t1 : tkE b n k = fw isD b n k := by unfold tkE; rw [if_neg (by omega), if_pos dk]
    have t2 : tkT b n k = 130 := by unfold tkT; rw [if_neg (by omega), if_pos dk]
    have t3 : tkV b n k = nvr b n (n - k) k 0 := by unfold tkV; rw [if_neg (by omega), if_pos dk]
    rw [t1, t2, t3] at hq
    refine bF (by decide) ?_
    (conv => whnf)
    refine ⟨S.1 550 (by decide), 552, S.2.2 _ _ _ rfl, ?_⟩
    (conv => whnf)
    refine ⟨S'.1 550 (by decide), ?_⟩
    (conv => whnf)
    rw [c6]
    refine ⟨S.1 552 (by decide), vin _ (S.2.1 552 (by decide)) (by show l < 301; omega) (by decide), ?_⟩
    (conv => whnf)
    rw [nI_clamp (by omega)]
    obtain ⟨h1, e1⟩ : ∃ h1, h1 = ab_sI h 552 l (nI 130) := ⟨_, rfl⟩
    have F1 : Fr (fun a j => (a = 550 ∧ j = 1) ∨ (a = 552 ∧ j = l) ∨ (a = 553 ∧ j = l)) h h1 := by rw [e1]; exact Fr_sI (Or.inr (Or.inl ⟨rfl, rfl⟩))
    have S1 := Fr_Sh F1 S
    have P1 : TP h1 550 2 551 n b := TP_fr F1 (fun w => by omega) (fun k w => by omega) P
    have x1 : ab_I h1 550 1 = nI k := by rw [e1, rI_a _ _ _ _ (by decide)]; exact c1
    have x6 : ab_I h1 550 6 = nI l := by rw [e1, rI_a _ _ _ _ (by decide)]; exact c6
    have xt : ab_I h1 552 l = nI 130 := by rw [e1, rI_s]
    rw [← e1]
    clear e1
    refine ⟨S1.1 550 (by decide), 553, S1.2.2 _ _ _ rfl, ?_⟩
    (conv => whnf)
    refine ⟨S1.1 550 (by decide), ?_⟩
    (conv => whnf)
    rw [x6]
    refine ⟨S1.1 550 (by decide), ?_⟩
    refine hc _ _ _ _ (oc_cutNumber (by omega) S1 P1 hn (by omega) x1 (fun h2 y1 F2 => ?_))
    have S2 := Fr_Sh F2 S1
    (conv => whnf)
    refine ⟨S2.1 553 (by decide), vin _ (S2.2.1 553 (by decide)) (by show l < 301; omega) (by decide), ?_⟩
    (conv => whnf)
    rw [nI_clamp (by omega)]
    refine hq _ ?_ ?_ (rI_s _ _ _ _) (Fr_tr F1 (Fr_tr (Fr_mo F2 (fun a j w => Or.inl w)) (Fr_sI (Or.inr (Or.inr ⟨rfl, rfl⟩)))))
    · rw [rI_a _ _ _ _ (by decide)]; exact y1
    · rw [rI_a _ _ _ _ (by decide)]
      exact (F2.2.2.2.2 552 l (fun w => by omega)).trans xt
  · have dk : isD (b k) ≠ true := fun z => dk ⟨hk, z⟩
    refine bT (by decide) ?_
    (conv => whnf)
    refine hc _ _ _ _ (oc_isLetter (by omega) hb (fun _ lk => ?_) (fun lk => ?_)) <;> (conv => whnf)
    · have t1 : tkE b n k = fw isL b n k := by unfold tkE; rw [if_neg (by omega), if_neg dk, if_pos lk]
      have t2 : tkT b n k = tokW (wdr b n (n - k) k 0) := by unfold tkT; rw [if_neg (by omega), if_neg dk, if_pos lk]
      have t3 : tkV b n k = 0 := by unfold tkV; rw [if_neg (by omega), if_neg dk]
      have fb := fw_b isL b (show k ≤ n by omega)
      have wt' := wo_tok b hk
      rw [t1, t2, t3, ← wt'] at hq
      refine bF (by decide) ?_
      (conv => whnf)
      refine ⟨S'.1 550 (by decide), ?_⟩
      (conv => whnf)
      rw [c1]
      refine ⟨S'.1 550 (by decide), ?_⟩
      refine hc _ _ _ _ (oc_behindLetters (by omega) S P hn (by omega) ?_)
      (conv => whnf)
      refine ⟨S'.1 550 (by decide), ?_⟩
      (conv => whnf)
      obtain ⟨h1, e1⟩ : ∃ h1, h1 = ab_sI h 550 1 (nI (fw isL b n k)) := ⟨_, rfl⟩
      have F1 : Fr (fun a j => (a = 550 ∧ j = 1) ∨ (a = 552 ∧ j = l) ∨ (a = 553 ∧ j = l)) h h1 := by rw [e1]; exact Fr_sI (Or.inl ⟨rfl, rfl⟩)
      have S1 := Fr_Sh F1 S
      have Z1 : SS h1 := SS_fr F1 (fun a j w => by omega) Z
      have P1 : TP h1 550 2 551 n b := TP_fr F1 (fun w => by omega) (fun k w => by omega) P
      have x1 : ab_I h1 550 1 = nI (fw isL b n k) := by rw [e1, rI_s]
      have x6 : ab_I h1 550 6 = nI l := by rw [e1, rI_k _ _ _ (by decide)]; exact c6
      have xp : ab_I h1 554 l = nI k := by rw [e1, rI_a _ _ _ _ (by decide)]; exact cp
      have xv : ab_I h1 553 l = nI 0 := by rw [e1, rI_a _ _ _ _ (by decide)]; exact cv
      rw [← e1]
      clear e1
      refine ⟨S1.1 550 (by decide), 552, S1.2.2 _ _ _ rfl, ?_⟩
      (conv => whnf)
      refine ⟨S1.1 550 (by decide), ?_⟩
      (conv => whnf)
      rw [x6]
      refine ⟨S1.1 550 (by decide), 554, S1.2.2 _ _ _ rfl, ?_⟩
      (conv => whnf)
      refine ⟨S1.1 550 (by decide), ?_⟩
      (conv => whnf)
      rw [x6]
      refine ⟨S1.1 554 (by decide), vin _ (S1.2.1 554 (by decide)) (by show l < 301; omega) (by decide), ?_⟩
      (conv => whnf)
      refine ⟨S1.1 550 (by decide), ?_⟩
      (conv => whnf)
      rw [x1]
      refine ⟨S1.1 550 (by decide), 554, S1.2.2 _ _ _ rfl, ?_⟩
      (conv => whnf)
      refine ⟨S1.1 550 (by decide), ?_⟩
      (conv => whnf)
      rw [x6]
      refine ⟨S1.1 554 (by decide), vin _ (S1.2.1 554 (by decide)) (by show l < 301; omega) (by decide), ?_⟩
      (conv => whnf)
      rw [nI_clamp (by omega), xp, pk_sub (by omega : k ≤ fw isL b n k)]
      refine ⟨S1.1 550 (by decide), ?_⟩
      refine hc _ _ _ _ (oc_wordOf (by omega) S1 Z1 P1 hn (by omega) (by omega) ?_)
      (conv => whnf)
      refine ⟨S1.1 552 (by decide), vin _ (S1.2.1 552 (by decide)) (by show l < 301; omega) (by decide), ?_⟩
      (conv => whnf)
      rw [nI_clamp (by omega)]
      refine hq _ ?_ (rI_s _ _ _ _) ?_ (Fr_tr F1 (Fr_sI (Or.inr (Or.inl ⟨rfl, rfl⟩))))
      · rw [rI_a _ _ _ _ (by decide)]; exact x1
      · rw [rI_a _ _ _ _ (by decide)]; exact xv
    · have lk : isL (b k) ≠ true := fun z => lk ⟨hk, z⟩
      have t1 : tkE b n k = if sg (b k) (bA b n (k + 1)) = 128 ∨ sg (b k) (bA b n (k + 1)) = 129 then k + 2 else k + 1 := by unfold tkE; rw [if_neg (by omega), if_neg dk, if_neg lk]
      have t2 : tkT b n k = sg (b k) (bA b n (k + 1)) := by unfold tkT; rw [if_neg (by omega), if_neg dk, if_neg lk]
      have t3 : tkV b n k = 0 := by unfold tkV; rw [if_neg (by omega), if_neg dk]
      have sb : sg (b k) (bA b n (k + 1)) ≤ 300 := by
        unfold sg
        split
        · omega
        · split
          · omega
          · split <;> omega
      rw [t1, t2, t3] at hq
      clear t1 t2 t3
      refine bT (by decide) ?_
      (conv => whnf)
      refine ⟨S.1 550 (by decide), 552, S.2.2 _ _ _ rfl, ?_⟩
      (conv => whnf)
      refine ⟨S'.1 550 (by decide), ?_⟩
      (conv => whnf)
      rw [c6]
      refine ⟨S'.1 550 (by decide), ?_⟩
      (conv => whnf)
      rw [c1, nI_add]
      refine ⟨S'.1 550 (by decide), ?_⟩
      refine hc _ _ _ _ (oc_byteAt (by omega) S P hn (by omega) ?_)
      (conv => whnf)
      rw [bk]
      refine hc _ _ _ _ (oc_signOf (by omega) S Z hb hk ?_)
      (conv => whnf)
      obtain ⟨t, et⟩ : ∃ t, t = sg (b k) (bA b n (k + 1)) := ⟨_, rfl⟩
      rw [← et] at hq sb ⊢
      clear et
      refine ⟨S.1 552 (by decide), vin _ (S.2.1 552 (by decide)) (by show l < 301; omega) (by decide), ?_⟩
      (conv => whnf)
      rw [nI_clamp (by omega)]
      obtain ⟨h1, e1⟩ : ∃ h1, h1 = ab_sI h 552 l (nI t) := ⟨_, rfl⟩
      have F1 : Fr (fun a j => (a = 550 ∧ j = 1) ∨ (a = 552 ∧ j = l) ∨ (a = 553 ∧ j = l)) h h1 := by rw [e1]; exact Fr_sI (Or.inr (Or.inl ⟨rfl, rfl⟩))
      have S1 := Fr_Sh F1 S
      have x1 : ab_I h1 550 1 = nI k := by rw [e1, rI_a _ _ _ _ (by decide)]; exact c1
      have x6 : ab_I h1 550 6 = nI l := by rw [e1, rI_a _ _ _ _ (by decide)]; exact c6
      have xt : ab_I h1 552 l = nI t := by rw [e1, rI_s]
      have xv : ab_I h1 553 l = nI 0 := by rw [e1, rI_a _ _ _ _ (by decide)]; exact cv
      rw [← e1]
      clear e1
      have hq := fun e (he : (if t = 128 ∨ t = 129 then k + 2 else k + 1) = e) => hq (ab_sI h1 550 1 (nI e)) (by rw [rI_s, he]) (by rw [rI_a _ _ _ _ (by decide)]; exact xt) (by rw [rI_a _ _ _ _ (by decide)]; exact xv) (Fr_tr F1 (Fr_sI (Or.inl ⟨rfl, rfl⟩)))
      refine ⟨S1.1 550 (by decide), ?_⟩
      (conv => whnf)
      rw [x1]
      refine ⟨S1.1 550 (by decide), 552, S1.2.2 _ _ _ rfl, ?_⟩
      (conv => whnf)
      refine ⟨S1.1 550 (by decide), ?_⟩
      (conv => whnf)
      rw [x6]
      refine ⟨S1.1 552 (by decide), vin _ (S1.2.1 552 (by decide)) (by show l < 301; omega) (by decide), ?_⟩
      (conv => whnf)
      rw [nI_clamp (by omega), xt]
      refine ⟨fun f => ?_, fun f => ?_⟩ <;> rw [nI_eq (by omega) (by omega)] at f <;> (conv => whnf)
      · rw [nI_add]
        refine ⟨S1.1 550 (by decide), ?_⟩
        (conv => whnf)
        exact hq (k + 2) (if_pos (Or.inl f))
      · refine ⟨S1.1 550 (by decide), 552, S1.2.2 _ _ _ rfl, ?_⟩
        (conv => whnf)
        refine ⟨S1.1 550 (by decide), ?_⟩
        (conv => whnf)
        rw [x6]
        refine ⟨S1.1 552 (by decide), vin _ (S1.2.1 552 (by decide)) (by show l < 301; omega) (by decide), ?_⟩
        (conv => whnf)
        rw [nI_clamp (by omega), xt]
        refine ⟨fun f2 => ?_, fun f2 => ?_⟩ <;> rw [nI_eq (by omega) (by omega)] at f2 <;> (conv => whnf)
        · rw [nI_add]
          refine ⟨S1.1 550 (by decide), ?_⟩
          (conv => whnf)
          exact hq (k + 1) (if_neg (fun z => z.elim f f2))
        · rw [nI_add]
          refine ⟨S1.1 550 (by decide), ?_⟩
          (conv => whnf)
          exact hq (k + 2) (if_pos (Or.inr f2))
end CC
