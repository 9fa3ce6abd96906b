/-! ===== what the contracts lean on (mine) ===== -/
def Sh (h : Hp) : Prop := (∀ a, a < 594 → ab_K h a = tK a) ∧ (∀ a, (a < 594 ∧ 1 ≤ a) → ab_L h a = tL a) ∧ (∀ a k b, tR a k = some b → ab_R h a k = some b)
theorem ab_go {d i : Nat} {args : List Value} {h : Hp} {Q : Option Value → Hp → Prop} (m : MR) (hm : ab_MT[i]? = some m) (hd : 1 ≤ d)
    (hh : ∀ (call : CallT) (W : Nat → List Value → Hp → Nat → Nat → Prop), (∀ i args h Q, ab_Ok (d - 1) i args h Q → call i args h Q) → (∀ pc vs h nc ns, ab_hd call i m Q W pc vs h nc ns → W pc vs h nc ns) → ab_en call i m Q W args h) : ab_Ok d i args h Q := by
  obtain ⟨e, rfl⟩ : ∃ e, d = e + 1 := ⟨d - 1, by omega⟩
  exact ab_in m hm hh
theorem bT {P A B : Prop} (hp : P) (a : A) : (P → A) ∧ (¬ P → B) := ⟨fun _ => a, fun n => absurd hp n⟩
theorem bF {P A B : Prop} (hp : ¬ P) (b : B) : (P → A) ∧ (¬ P → B) := ⟨fun n => absurd n hp, fun _ => b⟩
theorem bN {P A B : Prop} (hp : ¬ P) (a : A) : (¬ P → A) ∧ (P → B) := ⟨fun _ => a, fun n => absurd n hp⟩
theorem bP {P A B : Prop} (hp : P) (b : B) : (¬ P → A) ∧ (P → B) := ⟨fun n => absurd hp n, fun _ => b⟩
theorem vin {h : Hp} {a N : Nat} (n : Nat) (hL : ab_L h a = N) (hn : n < N) (hN : N < 2 ^ 31) : vp_in (nI n) (ab_L h a) := by
  rw [hL]
  exact vp_in_nI hn hN
/-- the kinds, lengths and references stand, and the ints outside P -/
def Fr (P : Nat → Nat → Prop) (h h' : Hp) : Prop := ab_K h' = ab_K h ∧ ab_L h' = ab_L h ∧ ab_R h' = ab_R h ∧ ab_N h' = ab_N h ∧ ∀ a k, ¬ P a k → ab_I h' a k = ab_I h a k
theorem Fr_re {P : Nat → Nat → Prop} {h : Hp} : Fr P h h := ⟨rfl, rfl, rfl, rfl, fun _ _ _ => rfl⟩
theorem Fr_tr {P : Nat → Nat → Prop} {h h1 h2 : Hp} (a : Fr P h h1) (b : Fr P h1 h2) : Fr P h h2 := ⟨b.1.trans a.1, b.2.1.trans a.2.1, b.2.2.1.trans a.2.2.1, b.2.2.2.1.trans a.2.2.2.1, fun x k n => (b.2.2.2.2 x k n).trans (a.2.2.2.2 x k n)⟩
theorem Fr_mo {P P' : Nat → Nat → Prop} {h h1 : Hp} (a : Fr P h h1) (b : ∀ x k, P x k → P' x k) : Fr P' h h1 := ⟨a.1, a.2.1, a.2.2.1, a.2.2.2.1, fun x k n => a.2.2.2.2 x k (fun q => n (b x k q))⟩
theorem Fr_sI {P : Nat → Nat → Prop} {h : Hp} {a k : Nat} {v : Int32} (hp : P a k) : Fr P h (ab_sI h a k v) := by
  refine ⟨rfl, rfl, rfl, rfl, fun x j n => ?_⟩
  show (if x = a then upd (ab_I h a) k v else ab_I h x) j = _
  by_cases e : x = a
  · subst e
    rw [if_pos rfl]
    show (if j = k then v else ab_I h x j) = _
    rw [if_neg]
    intro e
    subst e
    exact n hp
  · rw [if_neg e]
theorem Fr_sA {P : Nat → Nat → Prop} {h : Hp} {a : Nat} {f : Nat → Int32} (hp : ∀ k, P a k ∨ f k = ab_I h a k) : Fr P h (ab_sA h a f) := by
  refine ⟨rfl, rfl, rfl, rfl, fun x j n => ?_⟩
  show (if x = a then f else ab_I h x) j = _
  by_cases e : x = a
  · subst e
    rw [if_pos rfl]
    exact (hp j).elim (fun q => absurd q n) id
  · rw [if_neg e]
theorem Fr_sJ {P : Nat → Nat → Prop} {h : Hp} {a k : Nat} {v : Int64} : Fr P h (ab_sJ h a k v) := ⟨rfl, rfl, rfl, rfl, fun _ _ _ => rfl⟩
theorem Fr_Sh {P : Nat → Nat → Prop} {h h1 : Hp} (a : Fr P h h1) (S : Sh h) : Sh h1 := by
  obtain ⟨a1, a2, a3, -, -⟩ := a
  refine ⟨fun x hx => ?_, fun x hx => ?_, fun x k b hb => ?_⟩
  · rw [a1]; exact S.1 x hx
  · rw [a2]; exact S.2.1 x hx
  · rw [a3]; exact S.2.2 x k b hb
theorem rI_s (h : Hp) (a k : Nat) (v : Int32) : ab_I (ab_sI h a k v) a k = v := by
  show (if a = a then upd (ab_I h a) k v else ab_I h a) k = v
  rw [if_pos rfl]
  exact pk_us
theorem rI_k (h : Hp) (a : Nat) {k j : Nat} (v : Int32) (e : j ≠ k) : ab_I (ab_sI h a k v) a j = ab_I h a j := by
  show (if a = a then upd (ab_I h a) k v else ab_I h a) j = _
  rw [if_pos rfl]
  exact pk_un e
theorem rI_a (h : Hp) {a b : Nat} (k j : Nat) (v : Int32) (e : b ≠ a) : ab_I (ab_sI h a k v) b j = ab_I h b j := by
  show (if b = a then upd (ab_I h a) k v else ab_I h b) j = _
  rw [if_neg e]
theorem rA_s (h : Hp) (a : Nat) (f : Nat → Int32) : ab_I (ab_sA h a f) a = f := by
  show (if a = a then f else ab_I h a) = f
  rw [if_pos rfl]
theorem rA_a (h : Hp) {a b : Nat} (f : Nat → Int32) (e : b ≠ a) : ab_I (ab_sA h a f) b = ab_I h b := by
  show (if b = a then f else ab_I h b) = _
  rw [if_neg e]
/-- an int that is none or a number -/
theorem nm_eq {x y : Nat} (hx : x < 2 ^ 30) (hy : y < 2 ^ 30) : nI x - 1 = nI y ↔ x = y + 1 := by
  rw [fa_eq, show (1 : Int32) = nI 1 from rfl, pk_sub_toInt hx (by decide), nI_toInt (by omega)]
  omega
theorem nm_none {x : Nat} (hx : x < 2 ^ 30) : nI x - 1 = -1 ↔ x = 0 := by
  have e1 : (nI x - 1).toInt = (x : Int) - 1 := pk_sub_toInt (b := 1) hx (by decide)
  rw [fa_eq, e1, show (-1 : Int32).toInt = -1 from rfl]
  omega
theorem nI_m1 {x : Nat} (hx : x < 2 ^ 31) : ¬ nI x = -1 := by
  rw [fa_eq, nI_toInt hx, show (-1 : Int32).toInt = -1 from rfl]
  omega
theorem nm_nm {x y : Nat} (hx : x < 2 ^ 30) (hy : y < 2 ^ 30) : nI x - 1 = nI y - 1 ↔ x = y := by
  rw [fa_eq, show (1 : Int32) = nI 1 from rfl, pk_sub_toInt hx (by decide), pk_sub_toInt hy (by decide)]
  omega
theorem ofN (n : Nat) : Int32.ofNat n = nI n := rfl
theorem W_h {W : Nat → List Value → Hp → Nat → Nat → Prop} {p nc ns : Nat} {vs vs' : List Value} {h h' : Hp} (e : h = h') (ev : vs = vs') (w : W p vs' h' nc ns) : W p vs h nc ns := by
  subst e ev
  exact w
theorem up_up {α : Type} (f : Nat → α) (k : Nat) (v w : α) : va_up (va_up f k v) k w = va_up f k w := by
  funext j
  show (if j = k then w else (if j = k then v else f j)) = (if j = k then w else f j)
  by_cases e : j = k
  · rw [if_pos e, if_pos e]
  · rw [if_neg e, if_neg e, if_neg e]
theorem up_s {α : Type} (f : Nat → α) (k : Nat) (v : α) : va_up f k v k = v := if_pos rfl
theorem up_n {α : Type} (f : Nat → α) {k j : Nat} (v : α) (e : j ≠ k) : va_up f k v j = f j := if_neg e
theorem up_id {α : Type} (f : Nat → α) (k : Nat) : va_up f k (f k) = f := by
  funext j
  show (if j = k then f k else f j) = f j
  by_cases e : j = k
  · rw [if_pos e, e]
  · rw [if_neg e]
theorem hs_IA (h : Hp) (a : Nat) (f : Nat → Int32) (k : Nat) (v : Int32) : ab_sI (ab_sA h a f) a k v = ab_sA h a (upd f k v) := by
  show (h.1, h.2.1, va_up (va_up h.2.2.1 a f) a (upd (va_up h.2.2.1 a f a) k v), h.2.2.2) = (h.1, h.2.1, va_up h.2.2.1 a (upd f k v), h.2.2.2)
  rw [up_up, up_s]
theorem hs_A0 (h : Hp) (a : Nat) : ab_sA h a (ab_I h a) = h := by
  show (h.1, h.2.1, va_up h.2.2.1 a (h.2.2.1 a), h.2.2.2) = h
  rw [up_id]
theorem hs_AA (h : Hp) (a : Nat) (f g : Nat → Int32) : ab_sA (ab_sA h a f) a g = ab_sA h a g := by
  show (h.1, h.2.1, va_up (va_up h.2.2.1 a f) a g, h.2.2.2) = (h.1, h.2.1, va_up h.2.2.1 a g, h.2.2.2)
  rw [up_up]
theorem nI_min {a b : Nat} (ha : a < 2 ^ 31) (hb : b < 2 ^ 31) : (if nI a ≤ nI b then nI a else nI b) = nI (min a b) := by
  by_cases e : a ≤ b
  · rw [if_pos (nI_le e hb), Nat.min_eq_left e]
  · rw [if_neg (nI_ge (by omega) ha), Nat.min_eq_right (by omega)]
theorem nI_max {a b : Nat} (ha : a < 2 ^ 31) (hb : b < 2 ^ 31) : (if nI a < nI b then nI b else nI a) = nI (max a b) := by
  by_cases e : a < b
  · rw [if_pos (nI_lt e hb), Nat.max_eq_right (by omega)]
  · rw [if_neg (nI_nlt (by omega) ha), Nat.max_eq_left (by omega)]
theorem lc_gt (a b : Int64) : 0 < lg_cmp a b ↔ b < a := by
  unfold lg_cmp
  by_cases h : b < a
  · rw [if_pos h]
    exact ⟨fun _ => h, fun _ => by decide⟩
  · rw [if_neg h]
    by_cases e : a = b
    · rw [if_pos e]
      exact ⟨fun q => absurd q (by decide), fun q => absurd q h⟩
    · rw [if_neg e]
      exact ⟨fun q => absurd q (by decide), fun q => absurd q h⟩
theorem lc_lt (a b : Int64) : lg_cmp a b < 0 ↔ a < b := by
  unfold lg_cmp
  by_cases h : b < a
  · rw [if_pos h]
    refine ⟨fun q => absurd q (by decide), fun q => ?_⟩
    rw [fa_lt64] at h q
    omega
  · rw [if_neg h]
    by_cases e : a = b
    · rw [if_pos e]
      refine ⟨fun q => absurd q (by decide), fun q => ?_⟩
      rw [fa_lt64] at q
      rw [e] at q
      omega
    · rw [if_neg e]
      refine ⟨fun q => ?_, fun q => by decide⟩
      rw [fa_lt64] at h ⊢
      rw [fa_eq64] at e
      omega
theorem lc_eq (a b : Int64) : lg_cmp a b = 0 ↔ a = b := by
  unfold lg_cmp
  by_cases h : b < a
  · rw [if_pos h]
    refine ⟨fun q => absurd q (by decide), fun q => ?_⟩
    rw [fa_lt64] at h
    rw [q] at h
    omega
  · rw [if_neg h]
    by_cases e : a = b
    · rw [if_pos e]
      exact ⟨fun _ => e, fun _ => rfl⟩
    · rw [if_neg e]
      exact ⟨fun q => absurd q (by decide), fun q => absurd q e⟩
theorem cl {d : Nat} {call : CallT} (hc : ∀ i args h Q, ab_Ok d i args h Q → call i args h Q) {i : Nat} {args args' : List Value} {h : Hp} {Q : Option Value → Hp → Prop} (p : ab_Ok d i args' h Q) (e : args = args') : call i args h Q := by
  subst e
  exact hc _ _ _ _ p
theorem sh_n : ∀ n, n < 32 → ((nI n &&& 31).toBitVec.smod 32).toNat = n := by decide +kernel
theorem nI_shl {a k : Nat} (hk : k < 32) (h : a * 2 ^ k < 2 ^ 32) : nI a <<< (nI k &&& 31) = nI (a * 2 ^ k) := pk_shlN _ _ (sh_n k hk) h
theorem nI_shr {a k : Nat} (hk : k < 32) (h : a < 2 ^ 31) : nI a >>> (nI k &&& 31) = nI (a / 2 ^ k) := pk_shrN h _ _ (sh_n k hk)
/-- one bit -/
def hb (m k : Nat) : Prop := m / 2 ^ k % 2 = 1
theorem nI_bit {m k : Nat} (hk : k < 32) (h : m < 2 ^ 31) : nI m >>> (nI k &&& 31) &&& nI 1 = nI (m / 2 ^ k % 2) := by
  rw [nI_shr hk h]
  exact fa_mask (m / 2 ^ k) 1
/-- how many bits -/
def pc2 : Nat → Nat → Nat
  | 0, _ => 0
  | n + 1, m => m % 2 + pc2 n (m / 2)
def popc (m : Nat) : Nat := pc2 16 m
theorem pc_step : ∀ m, m < 1024 → 0 < m → popc (m &&& (m - 1)) + 1 = popc m ∧ m &&& (m - 1) < m := by decide +kernel
theorem nm_pos {x : Nat} (h : 0 < x) : nI x - 1 = nI (x - 1) := by
  obtain ⟨n, rfl⟩ : ∃ n, x = n + 1 := ⟨x - 1, by omega⟩
  exact nI_pred n
theorem nm_0 : nI 0 - 1 = -1 := by decide
theorem z0 : (0 : Int32) = nI 0 := rfl
theorem ifmin (a b : Nat) : (if a ≤ b then nI a else nI b) = nI (min a b) := by
  by_cases e : a ≤ b
  · rw [if_pos e, Nat.min_eq_left e]
  · rw [if_neg e, Nat.min_eq_right (by omega)]
theorem ifmax (a b : Nat) : (if a < b then nI b else nI a) = nI (max a b) := by
  by_cases e : a < b
  · rw [if_pos e, Nat.max_eq_right (by omega)]
  · rw [if_neg e, Nat.max_eq_left (by omega)]
