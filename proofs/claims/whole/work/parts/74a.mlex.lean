/-! ===== contracts: tokens on the reference's side (mine) ===== -/
def bI (b : Nat → Nat) (n k : Nat) : Int32 := if k < n then nI (b k) else -1
theorem m1_lt {a : Nat} (h : a < 2 ^ 31) : ¬ nI a ≤ (-1 : Int32) := by
  rw [fa_le, nI_toInt (by omega)]
  rw [show (-1 : Int32).toInt = -1 from by decide]
  omega
theorem bI_rg {b : Nat → Nat} {n k : Nat} (hb : ∀ k, k < n → b k ≤ 255) {a c : Nat} (ha : a ≤ 255) (hc : c ≤ 255) : (nI a ≤ bI b n k ∧ bI b n k ≤ nI c) ↔ (k < n ∧ a ≤ b k ∧ b k ≤ c) := by
  unfold bI
  by_cases h : k < n
  · have := hb k h
    rw [if_pos h, nI_leI (by omega) (by omega), nI_leI (by omega) (by omega)]
    exact ⟨fun z => ⟨h, z⟩, fun z => z.2⟩
  · rw [if_neg h]
    exact ⟨fun z => absurd z.1 (m1_lt (by omega)), fun z => absurd z.1 h⟩
theorem bI_eq {b : Nat → Nat} {n k : Nat} (hb : ∀ k, k < n → b k ≤ 255) {c : Nat} (hc : c ≤ 255) : bI b n k = nI c ↔ (k < n ∧ b k = c) := by
  unfold bI
  by_cases h : k < n
  · have := hb k h
    rw [if_pos h, nI_eq (by omega) (by omega)]
    exact ⟨fun z => ⟨h, z⟩, fun z => z.2⟩
  · rw [if_neg h]
    exact ⟨fun z => absurd z.symm (nI_m1 (by omega)), fun z => absurd z.1 h⟩
/-- the token that is at hand -/
def RT (h : Hp) (t v : Nat) : Prop := (t = 131 ∧ ab_I h 580 9 = nI 0) ∨ (t = 130 ∧ ab_I h 580 9 = nI 1 ∧ ∃ m, ab_I h 580 10 = nI m ∧ m < 1000000 ∧ v = min 10000 m) ∨ (t < 30 ∧ ab_I h 580 9 = nI 2 ∧ ab_J h 580 11 = lN (wcs.getD t 0)) ∨ (t = 128 ∧ ab_I h 580 9 = nI 4) ∨ (t = 129 ∧ ab_I h 580 9 = nI 5) ∨ (t ∈ sgs ∧ ab_I h 580 9 = nI t) ∨ (t = 132 ∧ (ab_I h 580 9 = nI 3 ∨ ab_I h 580 9 = nI 58 ∨ (ab_I h 580 9 = nI 2 ∧ ∃ w, ab_J h 580 11 = lN w ∧ w ≤ 1152921504606846976 ∧ tokW w = 132)))
def fT (a k : Nat) : Prop := a = 580 ∧ 7 ≤ k ∧ k ≤ 10
theorem TP_fr {P : Nat → Nat → Prop} {h h' : Hp} {q kq a tp : Nat} {b : Nat → Nat} (F : Fr P h h') (h1 : ¬ P q kq) (h2 : ∀ k, ¬ P a k) (T : TP h q kq a tp b) : TP h' q kq a tp b :=
  ⟨(F.2.2.2.2 q kq h1).trans T.1, fun k hk => ⟨(F.2.2.2.2 a k (h2 k)).trans (T.2 k hk).1, (T.2 k hk).2⟩⟩
theorem lshl8 {w : Nat} (h : w < 281474976710656) : lN w <<< ((nI 8).toInt64 &&& 63) = lN (w * 256) := by
  rw [show ((nI 8).toInt64 &&& 63) = (8 : Int64) from by decide]
  apply Int64.toBitVec_inj.mp
  show (BitVec.ofNat 64 w) <<< ((8 : Int64).toBitVec.smod 64) = BitVec.ofNat 64 (w * 256)
  rw [show (8 : Int64).toBitVec.smod 64 = 8#64 from by decide]
  apply BitVec.eq_of_toNat_eq
  rw [BitVec.shiftLeft_eq', BitVec.toNat_shiftLeft, BitVec.toNat_ofNat, BitVec.toNat_ofNat, BitVec.toNat_ofNat, show 8 % 2 ^ 64 = 8 from rfl, Nat.shiftLeft_eq]
  omega
theorem lshr48 {w : Nat} (h : w < 2 ^ 62) : lN w >>> ((nI 48).toInt64 &&& 63) = lN (w / 281474976710656) := by
  rw [show ((nI 48).toInt64 &&& 63) = (48 : Int64) from by decide]
  apply Int64.toBitVec_inj.mp
  show (BitVec.ofNat 64 w).sshiftRight' ((48 : Int64).toBitVec.smod 64) = BitVec.ofNat 64 (w / 281474976710656)
  rw [show (48 : Int64).toBitVec.smod 64 = 48#64 from by decide, BitVec.sshiftRight_eq', show (48#64).toNat = 48 from rfl, BitVec.sshiftRight_eq_of_msb_false]
  · apply BitVec.eq_of_toNat_eq
    rw [BitVec.toNat_ushiftRight, BitVec.toNat_ofNat, BitVec.toNat_ofNat, Nat.shiftRight_eq_div_pow]
    omega
  · rw [BitVec.msb_eq_decide, decide_eq_false_iff_not, BitVec.toNat_ofNat]
    omega
theorem lor8 {w c : Nat} (hc : c ≤ 255) : lN (w * 256) ||| (nI c).toInt64 = lN (w * 256 + c) := by
  rw [show (nI c).toInt64 = lN c from by
    apply Int64.toInt_inj.mp
    rw [Int32.toInt_toInt64, nI_toInt (by omega), lN_t (by omega)]]
  apply Int64.toBitVec_inj.mp
  show (BitVec.ofNat 64 (w * 256)) ||| (BitVec.ofNat 64 c) = BitVec.ofNat 64 (w * 256 + c)
  rw [← BitVec.ofNat_or]
  have := Nat.two_pow_add_eq_or_of_lt (i := 8) (show c < 2 ^ 8 by omega) w
  rw [show 2 ^ 8 * w = w * 256 by omega] at this
  rw [this]
section ML
variable {d : Nat} {h : Hp} {Q : Option Value → Hp → Prop} {n : Nat} {b : Nat → Nat}
theorem om_byteAt (hd : 1 ≤ d) (S : Sh h) (P : TP h 580 4 584 n b) (hn : n ≤ 300) {k : Nat} (hk : k ≤ 400) (hq : Q (some (.int (bI b n k))) h) : ab_Ok d n_X12_byteAt [.ref 580, .int (nI k)] h Q := by
  obtain ⟨p1, p2⟩ := P
  refine ab_go mr_X12_byteAt rfl (by omega) (fun call W hc hW => ?_); (conv => whnf)
  refine ⟨S.1 580 (by decide), ?_⟩
  (conv => whnf)
  rw [p1]
  refine ⟨fun f => ?_, fun f => ?_⟩ <;> rw [nI_leI (by omega) (by omega)] at f <;> (conv => whnf)
  · unfold bI at hq
    rw [if_neg (by omega)] at hq
    exact hq
  · unfold bI at hq
    rw [if_pos (by omega)] at hq
    refine ⟨S.1 580 (by decide), 584, S.2.2 _ _ _ rfl, ?_⟩
    (conv => whnf)
    refine ⟨S.1 584 (by decide), vin _ (S.2.1 584 (by decide)) (by show k < 300; omega) (by decide), ?_⟩
    (conv => whnf)
    rw [nI_clamp (by omega), (p2 k (by omega)).1]
    exact hq
theorem om_isFigure (hd : 1 ≤ d) (x : Int32) (hy : nI 48 ≤ x ∧ x ≤ nI 57 → Q (some (.int (nI 1))) h) (hno : ¬ (nI 48 ≤ x ∧ x ≤ nI 57) → Q (some (.int (nI 0))) h) : ab_Ok d n_X12_isFigure [.int x] h Q := by
  refine ab_go mr_X12_isFigure rfl (by omega) (fun call W hc hW => ?_); (conv => whnf)
  refine ⟨fun f => ?_, fun f => ?_⟩ <;> (conv => whnf)
  · exact ⟨Or.inl rfl, hno (fun z => absurd z.1 (Int32.not_le.mpr f))⟩
  · refine ⟨fun g => ?_, fun g => ?_⟩ <;> (conv => whnf)
    · exact ⟨Or.inl rfl, hno (fun z => absurd z.2 (Int32.not_le.mpr g))⟩
    · exact ⟨Or.inr rfl, hy ⟨Int32.not_lt.mp f, Int32.not_lt.mp g⟩⟩
theorem om_isLetterByte (hd : 1 ≤ d) (x : Int32) (hy : (nI 97 ≤ x ∧ x ≤ nI 122) ∨ (nI 65 ≤ x ∧ x ≤ nI 90) → Q (some (.int (nI 1))) h) (hno : ¬ ((nI 97 ≤ x ∧ x ≤ nI 122) ∨ (nI 65 ≤ x ∧ x ≤ nI 90)) → Q (some (.int (nI 0))) h) : ab_Ok d n_X12_isLetterByte [.int x] h Q := by
  have lo : ¬ (nI 97 ≤ x ∧ x ≤ nI 122) → ((x < nI 65 → Q (some (.int (nI 0))) h) ∧ (¬ x < nI 65 → (nI 90 < x → Q (some (.int (nI 0))) h) ∧ (¬ nI 90 < x → Q (some (.int (nI 1))) h))) := fun z => ⟨fun f => hno (fun y => y.elim z (fun y => absurd y.1 (Int32.not_le.mpr f))), fun f => ⟨fun g => hno (fun y => y.elim z (fun y => absurd y.2 (Int32.not_le.mpr g))), fun g => hy (Or.inr ⟨Int32.not_lt.mp f, Int32.not_lt.mp g⟩)⟩⟩
  refine ab_go mr_X12_isLetterByte rfl (by omega) (fun call W hc hW => ?_); (conv => whnf)
  refine ⟨fun f => ?_, fun f => ?_⟩ <;> (conv => whnf)
  · have lo := lo (fun z => absurd z.1 (Int32.not_le.mpr f))
    refine ⟨fun f => ?_, fun f => ?_⟩ <;> (conv => whnf)
    · exact ⟨Or.inl rfl, lo.1 f⟩
    · refine ⟨fun g => ?_, fun g => ?_⟩ <;> (conv => whnf)
      · exact ⟨Or.inl rfl, (lo.2 f).1 g⟩
      · exact ⟨Or.inr rfl, (lo.2 f).2 g⟩
  · refine ⟨fun g => ?_, fun g => ?_⟩ <;> (conv => whnf)
    · exact ⟨Or.inr rfl, hy (Or.inl ⟨Int32.not_lt.mp f, g⟩)⟩
    · have lo := lo (fun z => g z.2)
      refine ⟨fun f => ?_, fun f => ?_⟩ <;> (conv => whnf)
      · exact ⟨Or.inl rfl, lo.1 f⟩
      · refine ⟨fun g => ?_, fun g => ?_⟩ <;> (conv => whnf)
        · exact ⟨Or.inl rfl, (lo.2 f).1 g⟩
        · exact ⟨Or.inr rfl, (lo.2 f).2 g⟩
theorem om_isSign (hd : 1 ≤ d) {c : Nat} (hc9 : c ≤ 255) (hy : c ∈ sgs ∨ c = 58 → Q (some (.int (nI 1))) h) (hno : ¬ (c ∈ sgs ∨ c = 58) → Q (some (.int (nI 0))) h) : ab_Ok d n_X12_isSign [.int (nI c)] h Q := by
  refine ab_go mr_X12_isSign rfl (by omega) (fun call W hc hW => ?_); (conv => whnf)
  (repeat (refine And.intro (fun e => (by (dsimp only at e; have e := (nI_eq (by omega) (by omega)).mp e; subst e; (conv => whnf); first | exact ⟨Or.inr rfl, hy (by decide)⟩ | exact ⟨Or.inl rfl, hno (by decide)⟩))) (fun e' => ?_); (conv => whnf)))
  refine ⟨Or.inl rfl, hno (fun z => ?_)⟩
  have z : c = 60 ∨ c = 62 ∨ c = 61 ∨ c = 35 ∨ c = 43 ∨ c = 45 ∨ c = 42 ∨ c = 47 ∨ c = 40 ∨ c = 41 ∨ c = 59 ∨ c = 58 := by
    rcases z with z | z
    · simp only [sgs, List.mem_cons, List.not_mem_nil, or_false] at z
      omega
    · omega
  rcases z with rfl | rfl | rfl | rfl | rfl | rfl | rfl | rfl | rfl | rfl | rfl | rfl <;> contradiction
theorem om_isWord (hd : 1 ≤ d) (S : Sh h) {t v i : Nat} (T : RT h t v) (hi : i < 30) {w : Int64} (hw : w = lN (wcs.getD i 0)) (hy : t = i → Q (some (.int (nI 1))) h) (hno : t ≠ i → Q (some (.int (nI 0))) h) : ab_Ok d n_X12_isWord [.ref 580, .long w] h Q := by
  have sg63 : ∀ c, c ∈ sgs → 34 < c ∧ c < 63 := by decide
  have wb : ∀ i, i < 30 → wcs.getD i 0 ≤ 1152921504606846976 := by decide +kernel
  subst hw
  refine ab_go mr_X12_isWord rfl (by omega) (fun call W hc hW => ?_); (conv => whnf)
  refine ⟨S.1 580 (by decide), ?_⟩
  (conv => whnf)
  refine ⟨fun f => ?_, fun f => ?_⟩ <;> (conv => whnf)
  · refine ⟨Or.inl rfl, hno (fun z => ?_)⟩
    rcases T with y | y | y | y | y | y | y
    · omega
    · omega
    · exact f y.2.1
    · omega
    · omega
    · have := sg63 _ y.1; omega
    · omega
  · refine ⟨S.1 580 (by decide), ?_⟩
    (conv => whnf)
    have g2 : ∀ c, ab_I h 580 9 = nI c → c < 100 → c = 2 := fun c e hc => (nI_eq (by omega) (by omega)).mp (e.symm.trans f)
    refine ⟨fun g => ?_, fun g => ?_⟩ <;> rw [lc_eq] at g <;> (conv => whnf)
    · refine ⟨Or.inl rfl, hno (fun z => ?_)⟩
      rcases T with y | y | y | y | y | y | y
      · omega
      · omega
      · exact g (by rw [← z]; exact y.2.2)
      · omega
      · omega
      · have := sg63 _ y.1; omega
      · omega
    · refine ⟨Or.inr rfl, hy ?_⟩
      rcases T with y | y | y | y | y | y | y
      · have := g2 _ y.2 (by omega); omega
      · have := g2 _ y.2.1 (by omega); omega
      · rw [y.2.2] at g
        have e := (lN_e (by have := wb t y.1; omega) (by have := wb i hi; omega)).mp g
        rw [← wcs_inj t y.1, ← wcs_inj i hi, e]
      · have := g2 _ y.2 (by omega); omega
      · have := g2 _ y.2 (by omega); omega
      · have := sg63 _ y.1
        have := g2 _ y.2 (by omega); omega
      · rcases y.2 with z | z | ⟨z, w, z1, z2, z3⟩
        · have := g2 _ z (by omega); omega
        · have := g2 _ z (by omega); omega
        · rw [z1] at g
          have e := (lN_e (by omega) (by have := wb i hi; omega)).mp g
          have := (tokW_y hi).mpr e
          omega
end ML
