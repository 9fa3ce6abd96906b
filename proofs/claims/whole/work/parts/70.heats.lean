/-! ===== contracts: heats on the class's side, its parts (mine) ===== -/
def us (x : Int32) (k : Nat) : Int32 := (x.toUInt32 >>> ((nI k).toUInt32 &&& Int32.toUInt32 31)).toInt32
def bc1 (x : Int32) : Int32 := x - (us x 1 &&& nI 1431655765)
def bc2 (x : Int32) : Int32 := (x &&& nI 858993459) + (us x 2 &&& nI 858993459)
def bc3 (x : Int32) : Int32 := (x + us x 4) &&& nI 252645135
def bc4 (x : Int32) : Int32 := x + us x 8
def bc5 (x : Int32) : Int32 := (x + us x 16) &&& nI 63
theorem bc_all : ∀ j : Fin 1024, bc5 (bc4 (bc3 (bc2 (bc1 (nI j.val))))) = nI (popc j.val) := by decide +kernel
def pI2 (m a : Nat) : Nat → Nat
  | 0 => 0
  | b + 1 => pI2 m a b ||| (if a < b ∧ m / 2 ^ a % 2 = 1 ∧ m / 2 ^ b % 2 = 1 then 2 ^ (a * 5 + b) else 0)
def pI1 (m : Nat) : Nat → Nat
  | 0 => 0
  | a + 1 => pI1 m a ||| pI2 m a 5
theorem pI2_0 (m a : Nat) : ∀ b, b ≤ a + 1 → pI2 m a b = 0 := by
  intro b
  induction b with
  | zero => intro _; rfl
  | succ b ih =>
    intro h
    show pI2 m a b ||| (if a < b ∧ m / 2 ^ a % 2 = 1 ∧ m / 2 ^ b % 2 = 1 then 2 ^ (a * 5 + b) else 0) = 0
    rw [ih (by omega), if_neg (fun z => by have := z.1; omega), Nat.or_zero]
section HE
variable {d : Nat} {h : Hp} {Q : Option Value → Hp → Prop} {s : Sv}
theorem ok_bitCount (hd : 1 ≤ d) {n : Nat} (hn : n < 1024) (hq : Q (some (.int (nI (popc n)))) h) : ab_Ok d n_J6_bitCount_0f7a4 [.int (nI n)] h Q := by
  rw [← bc_all ⟨n, hn⟩] at hq
  refine ab_go mr_J6_bitCount_0f7a4 rfl (by omega) (fun call W hc hW => ?_); (conv => whnf)
  exact hq
theorem oc_pairsIn (hd : 1 ≤ d) {m : Nat} (hm : m < 32) (hq : Q (some (.int (nI (pI1 m 5)))) h) : ab_Ok d n_X3_pairsIn [.int (nI m)] h Q := by
  refine ab_go mr_X3_pairsIn rfl (by omega) (fun call W hc hW => ?_); (conv => whnf)
  have lp : ∀ r a, a + r = 5 → W 4 [.int (nI m), .int (nI (pI1 m a)), .int (nI a)] h 0 0 := by
    intro r
    induction r with
    | zero =>
      intro a e
      obtain rfl : a = 5 := by omega
      refine hW _ _ _ _ _ ?_
      (conv => whnf)
      refine bT (nI_le (Nat.le_refl _) (by omega)) ?_
      (conv => whnf)
      exact hq
    | succ r ih =>
      intro a e
      have lq : ∀ r' b, b + r' = 5 → a < b → W 13 [.int (nI m), .int (nI (pI1 m a ||| pI2 m a b)), .int (nI a), .int (nI b)] h 0 0 := by
        intro r'
        induction r' with
        | zero =>
          intro b e' _
          obtain rfl : b = 5 := by omega
          refine hW _ _ _ _ _ ?_
          (conv => whnf)
          refine bT (nI_le (Nat.le_refl _) (by omega)) ?_
          (conv => whnf)
          exact W_h rfl (by (try simp (disch := omega) only [nI_add, Nat.add_zero]) <;> rfl) (ih (a + 1) (by omega))
        | succ r' ih' =>
          intro b e' hab
          have e2 : pI1 m a ||| pI2 m a (b + 1) = (pI1 m a ||| pI2 m a b) ||| (if a < b ∧ m / 2 ^ a % 2 = 1 ∧ m / 2 ^ b % 2 = 1 then 2 ^ (a * 5 + b) else 0) := by
            rw [Nat.or_assoc]
            rfl
          have ih' := ih' (b + 1) (by omega) (by omega)
          rw [e2] at ih'
          have h2 : 1 * 2 ^ (a * 5 + b) < 2 ^ 32 := by rw [Nat.one_mul]; exact Nat.pow_lt_pow_right (by decide) (by omega)
          have ea : nI m >>> (nI a &&& 31) &&& nI 1 = nI (m / 2 ^ a % 2) := nI_bit (by omega) (by omega)
          have eb : nI m >>> (nI b &&& 31) &&& nI 1 = nI (m / 2 ^ b % 2) := nI_bit (by omega) (by omega)
          have qa : m / 2 ^ a % 2 < 2 := Nat.mod_lt _ (by decide)
          have qb : m / 2 ^ b % 2 < 2 := Nat.mod_lt _ (by decide)
          refine hW _ _ _ _ _ ?_
          (conv => whnf)
          refine bF (nI_ge (by omega) (by omega)) ?_
          (conv => whnf)
          rw [ea]
          refine ⟨fun f => ?_, fun f => ?_⟩ <;> rw [nI_eq (by omega) (by omega)] at f <;> (conv => whnf)
          · rw [if_neg (show ¬ (a < b ∧ m / 2 ^ a % 2 = 1 ∧ m / 2 ^ b % 2 = 1) from fun z => f z.2.1), Nat.or_zero] at ih'
            exact W_h rfl (by (try simp (disch := omega) only [nI_add, Nat.add_zero]) <;> rfl) ih'
          · rw [eb]
            refine ⟨fun g => ?_, fun g => ?_⟩ <;> rw [nI_eq (by omega) (by omega)] at g <;> (conv => whnf)
            · rw [if_neg (show ¬ (a < b ∧ m / 2 ^ a % 2 = 1 ∧ m / 2 ^ b % 2 = 1) from fun z => g z.2.2), Nat.or_zero] at ih'
              exact W_h rfl (by (try simp (disch := omega) only [nI_add, Nat.add_zero]) <;> rfl) ih'
            · rw [if_pos ⟨hab, f, g⟩] at ih'
              rw [pk_mul, nI_add (a * 5) b, nI_shl (by omega) h2, fa_or, Nat.one_mul]
              exact W_h rfl (by (try simp (disch := omega) only [nI_add, Nat.add_zero]) <;> rfl) ih'
      refine hW _ _ _ _ _ ?_
      (conv => whnf)
      refine bF (nI_ge (by omega) (by omega)) ?_
      (conv => whnf)
      have q := lq (5 - (a + 1)) (a + 1) (by omega) (by omega)
      rw [pI2_0 m a (a + 1) (Nat.le_refl _), Nat.or_zero] at q
      exact W_h rfl (by (try simp (disch := omega) only [nI_add, Nat.add_zero]) <;> rfl) q
  exact lp 5 0 (by omega)
end HE
