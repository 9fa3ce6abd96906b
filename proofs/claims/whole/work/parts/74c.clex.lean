/-! ===== contracts: the two constant texts, words and signs on the class's side (mine) ===== -/
def sb0 : List Nat := (wls.map (fun w => w ++ [32])).flatten
theorem sb0_e : ab_b0 = sb0.map nI ∧ sb0.length = 146 := by decide +kernel
theorem sb1_e : ab_b1 = sgs.map nI ∧ sgs.length = 11 := by decide +kernel
/-- the constant texts stand -/
def SS (h : Hp) : Prop := (∀ k, ab_I h 2 k = ab_b0.getD k 0) ∧ (∀ k, ab_I h 4 k = ab_b1.getD k 0) ∧ ab_I h 1 1 = nI 0 ∧ ab_I h 3 1 = nI 0
theorem SS_fr {P : Nat → Nat → Prop} {h h' : Hp} (F : Fr P h h') (hp : ∀ a k, P a k → 5 ≤ a) (Z : SS h) : SS h' := by
  have f : ∀ a k, a < 5 → ab_I h' a k = ab_I h a k := fun a k ha => F.2.2.2.2 a k (fun w => by have := hp a k w; omega)
  refine ⟨fun k => by rw [f 2 k (by decide)]; exact Z.1 k, fun k => by rw [f 4 k (by decide)]; exact Z.2.1 k, by rw [f 1 1 (by decide)]; exact Z.2.2.1, by rw [f 3 1 (by decide)]; exact Z.2.2.2⟩
theorem b0_ch : ∀ i, i < 146 → ((ab_b0.getD i 0 &&& nI 255).toUInt32 % 65536).toInt32 = nI (sb0.getD i 0) ∧ sb0.getD i 0 ≤ 255 := by decide +kernel
def woL (b : Nat → Nat) (n fr len : Nat) : List Nat → Nat → Nat → Bool → Nat
  | [], _, _, _ => 132
  | c :: l, w, m, s => if c = 32 then (if s = true ∧ m = len then w else woL b n fr len l (w + 1) 0 true) else woL b n fr len l w (m + 1) (s && (bA b n (fr + m) == c))
def bit (s : Bool) : Nat := if s = true then 1 else 0
section CL
variable {d : Nat} {h : Hp} {Q : Option Value → Hp → Prop} {n : Nat} {b : Nat → Nat}
theorem ok_coder (hd : 1 ≤ d) {q : Nat} (hk : ab_K h q = 20) (hz : ab_I h q 1 = nI 0) (hq : Q (some (.int (nI 0))) h) : ab_Ok d n_J0_coder_7d493 [.ref q] h Q := by
  refine ab_go mr_J0_coder_7d493 rfl (by omega) (fun call W hc hW => ?_); (conv => whnf)
  refine bF (by decide) ?_
  (conv => whnf)
  refine ⟨hk, ?_⟩
  (conv => whnf)
  rw [hz]
  exact ⟨rfl, hq⟩
theorem ok_isLatin1 (hd : 1 ≤ d) {q : Nat} (hk : ab_K h q = 20) (hz : ab_I h q 1 = nI 0) (hq : Q (some (.int (nI 1))) h) : ab_Ok d n_J0_isLatin1_aae02 [.ref q] h Q := by
  refine ab_go mr_J0_isLatin1_aae02 rfl (by omega) (fun call W hc hW => ?_); (conv => whnf)
  refine bF (by decide) ?_
  (conv => whnf)
  refine ⟨hk, ?_⟩
  (conv => whnf)
  rw [hz]
  refine bP (by decide) ?_
  (conv => whnf)
  exact ⟨Or.inr rfl, hq⟩
theorem ok_length (hd : 2 ≤ d) {q a n : Nat} (hk : ab_K h q = 20) (hr : ab_R h q 0 = some a) (hka : ab_K h a = 21) (hl : ab_L h a = n) (hn : n < 2 ^ 31) (hz : ab_I h q 1 = nI 0) (hq : Q (some (.int (nI n))) h) : ab_Ok d n_J0_length_8abf5 [.ref q] h Q := by
  refine ab_go mr_J0_length_8abf5 rfl (by omega) (fun call W hc hW => ?_); (conv => whnf)
  refine ⟨hk, a, hr, ?_⟩
  (conv => whnf)
  refine ⟨hka, ?_⟩
  (conv => whnf)
  rw [hl]
  refine ⟨hk, ?_⟩
  refine hc _ _ _ _ (ok_coder (by omega) hk hz ?_)
  (conv => whnf)
  rw [ofN, nI_shr (by omega) hn, show n / 2 ^ 0 = n by rw [Nat.pow_zero, Nat.div_one]]
  exact hq
theorem ok_checkIndex3 (hd : 1 ≤ d) {i n : Nat} (hi : i < n) (hn : n < 2 ^ 31) (hq : Q (some (.int (nI i))) h) : ab_Ok d n_J3_checkIndex_8e157 [.int (nI i), .int (nI n), .float 0] h Q := by
  refine ab_go mr_J3_checkIndex_8e157 rfl (by omega) (fun call W hc hW => ?_); (conv => whnf)
  refine bF (by rw [z0, nI_ltI (by omega) (by omega)]; omega) ?_
  (conv => whnf)
  refine bT (by rw [nI_ltI (by omega) (by omega)]; omega) ?_
  (conv => whnf)
  exact hq
theorem ok_checkIndex0 (hd : 2 ≤ d) {i n : Nat} (hi : i < n) (hn : n < 2 ^ 31) (hq : Q none h) : ab_Ok d n_J0_checkIndex_df160 [.int (nI i), .int (nI n)] h Q := by
  refine ab_go mr_J0_checkIndex_df160 rfl (by omega) (fun call W hc hW => ?_); (conv => whnf)
  refine hc _ _ _ _ (ok_checkIndex3 (by omega) hi hn ?_)
  (conv => whnf)
  exact hq
theorem ok_charAt (hd : 5 ≤ d) (S : Sh h) (Z : SS h) {i : Nat} (hi : i < 146) (hq : Q (some (.int (nI (sb0.getD i 0)))) h) : ab_Ok d n_J0_charAt_5068e [.ref 1, .int (nI i)] h Q := by
  have kk := (S.1 1 (by decide)).trans (show tK 1 = 20 by decide)
  have k2 := (S.1 2 (by decide)).trans (show tK 2 = 21 by decide)
  have l2 := (S.2.1 2 (by decide)).trans (show tL 2 = 146 by decide +kernel)
  refine ab_go mr_J0_charAt_5068e rfl (by omega) (fun call W hc hW => ?_); (conv => whnf)
  refine ⟨kk, ?_⟩
  refine hc _ _ _ _ (ok_isLatin1 (by omega) kk Z.2.2.1 ?_)
  (conv => whnf)
  refine bF (by decide) ?_
  (conv => whnf)
  refine ⟨kk, 2, S.2.2 _ _ _ rfl, ?_⟩
  (conv => whnf)
  refine hc _ _ _ _ (?_)
  refine ab_go mr_J1_charAt_3b067 rfl (by omega) (fun call W hc hW => ?_)
  (conv => whnf)
  refine ⟨k2, ?_⟩
  (conv => whnf)
  rw [l2]
  refine hc _ _ _ _ (ok_checkIndex0 (by omega) (n := 146) hi (by decide) ?_)
  (conv => whnf)
  refine ⟨k2, vin _ l2 hi (by decide), ?_⟩
  (conv => whnf)
  rw [nI_clamp (by omega), Z.1 i, (b0_ch i hi).1]
  have c9 := (b0_ch i hi).2
  refine ⟨(pk_charN (by omega)).1, ?_⟩
  (conv => whnf)
  exact ⟨(pk_charN (by omega)).1, hq⟩
theorem oc_byteAt (hd : 2 ≤ d) (S : Sh h) (P : TP h 550 2 551 n b) (hn : n ≤ 300) {k : Nat} (hk : k ≤ 1000) (hq : Q (some (.int (bI b n k))) h) : ab_Ok d n_X8_byteAt [.ref 550, .int (nI k)] h Q := by
  obtain ⟨p1, p2⟩ := P
  refine ab_go mr_X8_byteAt rfl (by omega) (fun call W hc hW => ?_); (conv => whnf)
  refine ⟨S.1 550 (by decide), ?_⟩
  (conv => whnf)
  rw [p1]
  refine hc _ _ _ _ (ok_wiP (by omega) n (nI k) (by omega) (fun k' h1 e => ?_) (fun e => ?_)) <;> (conv => whnf)
  · obtain rfl : k = k' := (nI_eq (by omega) (by omega)).mp e
    unfold bI at hq
    rw [if_pos h1] at hq
    refine bF (by decide) ?_
    (conv => whnf)
    refine ⟨S.1 550 (by decide), 551, S.2.2 _ _ _ rfl, ?_⟩
    (conv => whnf)
    refine ⟨S.1 551 (by decide), vin _ (S.2.1 551 (by decide)) (by show k < 300; omega) (by decide), ?_⟩
    (conv => whnf)
    rw [nI_clamp (by omega), (p2 k h1).1]
    exact hq
  · unfold bI at hq
    rw [if_neg (fun z => e k z rfl)] at hq
    refine bT (by decide) ?_
    (conv => whnf)
    exact hq
theorem oc_wordOf (hd : 7 ≤ d) (S : Sh h) (Z : SS h) (P : TP h 550 2 551 n b) (hn : n ≤ 300) {fr len : Nat} (hf : fr ≤ 300) (hl : len ≤ 300) (hq : Q (some (.int (nI (woL b n fr len sb0 0 0 true)))) h) : ab_Ok d n_X8_wordOf [.ref 550, .int (nI fr), .int (nI len)] h Q := by
  have hb : ∀ k, k < n → b k ≤ 255 := fun k hk => (P.2 k hk).2
  have kk := (S.1 1 (by decide)).trans (show tK 1 = 20 by decide)
  have k2 := (S.1 2 (by decide)).trans (show tK 2 = 21 by decide)
  have l2 := (S.2.1 2 (by decide)).trans (show tL 2 = 146 by decide +kernel)
  have r2 : ab_R h 1 0 = some 2 := S.2.2 _ _ _ rfl
  have sl := sb0_e.2
  refine ab_go mr_X8_wordOf rfl (by omega) (fun call W hc hW => ?_); (conv => whnf)
  have lp : ∀ r i w m s, i + r = 146 → m ≤ i → w ≤ i → woL b n fr len (sb0.drop i) w m s = woL b n fr len sb0 0 0 true → W 11 [.ref 550, .int (nI fr), .int (nI len), .int (nI w), .int (nI m), .int (nI (bit s)), .int (nI i)] h 0 0 := by
    intro r
    induction r with
    | zero =>
      intro i w m s e hm hw eq
      obtain rfl : i = 146 := by omega
      have : sb0.drop 146 = [] := List.drop_eq_nil_of_le (by omega)
      rw [this] at eq
      have eq : 132 = woL b n fr len sb0 0 0 true := eq
      rw [← eq] at hq
      refine hW _ _ _ _ _ ?_
      (conv => whnf)
      refine ⟨kk, ?_⟩
      refine hc _ _ _ _ (ok_length (by omega) kk r2 k2 l2 (by decide) Z.2.2.1 ?_)
      (conv => whnf)
      refine bT (nI_le (Nat.le_refl _) (by omega)) ?_
      (conv => whnf)
      exact hq
    | succ r ih =>
      intro i w m s e hm hw eq
      have ch := (b0_ch i (by omega)).2
      have dr : sb0.drop i = sb0.getD i 0 :: sb0.drop (i + 1) := by
        rw [List.drop_eq_getElem_cons (by omega), List.getD_eq_getElem?_getD, List.getElem?_eq_getElem (by omega)]
        rfl
      obtain ⟨c, ec⟩ : ∃ c, c = sb0.getD i 0 := ⟨_, rfl⟩
      rw [dr, ← ec] at eq
      rw [← ec] at ch
      have eq : (if c = 32 then (if s = true ∧ m = len then w else woL b n fr len (sb0.drop (i + 1)) (w + 1) 0 true) else woL b n fr len (sb0.drop (i + 1)) w (m + 1) (s && (bA b n (fr + m) == c))) = woL b n fr len sb0 0 0 true := eq
      have ih := ih (i + 1)
      refine hW _ _ _ _ _ ?_
      (conv => whnf)
      refine ⟨kk, ?_⟩
      refine hc _ _ _ _ (ok_length (by omega) kk r2 k2 l2 (by decide) Z.2.2.1 ?_)
      (conv => whnf)
      refine bF (nI_ge (by omega) (by omega)) ?_
      (conv => whnf)
      refine ⟨kk, ?_⟩
      refine hc _ _ _ _ (ok_charAt (by omega) S Z (by omega) ?_)
      rw [← ec]
      (conv => whnf)
      refine ⟨fun f => ?_, fun f => ?_⟩ <;> rw [nI_eq (by omega) (by omega)] at f <;> (conv => whnf)
      · rw [if_pos f] at eq
        cases s with
        | false =>
          rw [if_neg (fun z => Bool.noConfusion z.1)] at eq
          refine bT (by decide) ?_
          (conv => whnf)
          rw [nI_add, nI_add]
          exact ih (w + 1) 0 true (by omega) (by omega) (by omega) eq
        | true =>
          refine bF (by decide) ?_
          (conv => whnf)
          refine ⟨fun g => ?_, fun g => ?_⟩ <;> rw [nI_eq (by omega) (by omega)] at g <;> (conv => whnf)
          · rw [if_neg (fun z => g z.2)] at eq
            rw [nI_add, nI_add]
            exact ih (w + 1) 0 true (by omega) (by omega) (by omega) eq
          · rw [if_pos ⟨rfl, g⟩] at eq
            rw [← eq] at hq
            exact hq
      · rw [if_neg f] at eq
        have go : ∀ s', s' = (s && (bA b n (fr + m) == c)) → W 11 [.ref 550, .int (nI fr), .int (nI len), .int (nI w), .int (nI (m + 1)), .int (nI (bit s')), .int (nI (i + 1))] h 0 0 := fun s' es => ih w (m + 1) s' (by omega) (by omega) (by omega) (by rw [es]; exact eq)
        have be : bI b n (fr + m) = nI c ↔ (bA b n (fr + m) == c) = true := by
          rw [bI_eq hb ch, beq_iff_eq]
          unfold bA
          constructor
          · intro z; rw [if_pos z.1]; exact z.2
          · intro z
            by_cases y : fr + m < n
            · rw [if_pos y] at z; exact ⟨y, z⟩
            · rw [if_neg y] at z; omega
        clear ih eq
        cases s with
        | false =>
          have go := go false rfl
          refine bT (by decide) ?_
          (conv => whnf)
          rw [nI_add, nI_add]
          exact go
        | true =>
          refine bF (by decide) ?_
          (conv => whnf)
          rw [nI_add]
          refine ⟨S.1 550 (by decide), ?_⟩
          refine hc _ _ _ _ (oc_byteAt (by omega) S P hn (by omega) ?_)
          (conv => whnf)
          refine ⟨kk, ?_⟩
          refine hc _ _ _ _ (ok_charAt (by omega) S Z (by omega) ?_)
          rw [← ec]
          (conv => whnf)
          refine ⟨fun g => ?_, fun g => ?_⟩ <;> rw [be] at g <;> (conv => whnf)
          · have go := go false (by cases z : (bA b n (fr + m) == c); rfl; exact absurd z g)
            rw [nI_add, nI_add]
            exact go
          · have go := go true (by rw [g]; rfl)
            rw [nI_add, nI_add]
            exact go
  exact lp 146 0 0 0 true (by omega) (by omega) (by omega) rfl
end CL
