/-! ===== bytes, tokens: what both sides read (mine) ===== -/
def fwr (p : Nat → Bool) (b : Nat → Nat) (n : Nat) : Nat → Nat → Nat
  | 0, k => k
  | r + 1, k => if k < n ∧ p (b k) = true then fwr p b n r (k + 1) else k
/-- the first place from k on where p does not hold, or the end -/
def fw (p : Nat → Bool) (b : Nat → Nat) (n k : Nat) : Nat := fwr p b n (n - k) k
theorem fw_y {p : Nat → Bool} {b : Nat → Nat} {n k : Nat} (h1 : k < n) (h2 : p (b k) = true) : fw p b n k = fw p b n (k + 1) := by
  unfold fw
  rw [show n - k = (n - (k + 1)) + 1 by omega]
  show (if k < n ∧ p (b k) = true then fwr p b n (n - (k + 1)) (k + 1) else k) = _
  rw [if_pos ⟨h1, h2⟩]
theorem fw_n {p : Nat → Bool} {b : Nat → Nat} {n k : Nat} (h : ¬ (k < n ∧ p (b k) = true)) : fw p b n k = k := by
  unfold fw
  rcases Nat.eq_zero_or_pos (n - k) with e | e
  · rw [e]; rfl
  · rw [show n - k = (n - (k + 1)) + 1 by omega]
    show (if k < n ∧ p (b k) = true then fwr p b n (n - (k + 1)) (k + 1) else k) = _
    rw [if_neg h]
theorem fwr_b (p : Nat → Bool) (b : Nat → Nat) (n : Nat) : ∀ r k, k ≤ fwr p b n r k ∧ fwr p b n r k ≤ k + r := by
  intro r
  induction r with
  | zero => intro k; exact ⟨Nat.le_refl _, Nat.le_refl _⟩
  | succ r ih =>
    intro k
    show k ≤ (if k < n ∧ p (b k) = true then fwr p b n r (k + 1) else k) ∧ (if k < n ∧ p (b k) = true then fwr p b n r (k + 1) else k) ≤ k + (r + 1)
    have := ih (k + 1)
    split <;> omega
theorem fw_b (p : Nat → Bool) (b : Nat → Nat) {n k : Nat} (h : k ≤ n) : k ≤ fw p b n k ∧ fw p b n k ≤ n := by
  have := fwr_b p b n (n - k) k
  unfold fw
  omega
def isB (c : Nat) : Bool := c == 32 || c == 10
def isD (c : Nat) : Bool := Nat.ble 48 c && Nat.ble c 57
def isL (c : Nat) : Bool := (Nat.ble 97 c && Nat.ble c 122) || (Nat.ble 65 c && Nat.ble c 90)
theorem isB_i (c : Nat) : isB c = true ↔ c = 32 ∨ c = 10 := by
  unfold isB
  rw [Bool.or_eq_true, beq_iff_eq, beq_iff_eq]
theorem isD_i (c : Nat) : isD c = true ↔ 48 ≤ c ∧ c ≤ 57 := by
  unfold isD
  rw [Bool.and_eq_true, Nat.ble_eq, Nat.ble_eq]
theorem isL_i (c : Nat) : isL c = true ↔ (97 ≤ c ∧ c ≤ 122) ∨ (65 ≤ c ∧ c ≤ 90) := by
  unfold isL
  rw [Bool.or_eq_true, Bool.and_eq_true, Bool.and_eq_true, Nat.ble_eq, Nat.ble_eq, Nat.ble_eq, Nat.ble_eq]
/-- a number's value, as the class reckons it and as the reference does -/
def nvr (b : Nat → Nat) (n : Nat) : Nat → Nat → Nat → Nat
  | 0, _, v => v
  | r + 1, k, v => if k < n ∧ isD (b k) = true then nvr b n r (k + 1) (min 10000 (v * 10 + (b k - 48))) else v
def nmr (b : Nat → Nat) (n : Nat) : Nat → Nat → Nat → Nat
  | 0, _, v => v
  | r + 1, k, v => if k < n ∧ isD (b k) = true then nmr b n r (k + 1) (if 99999 < v then v else 10 * v + (b k - 48)) else v
theorem nv_nm (b : Nat → Nat) (n : Nat) : ∀ r k v u, u = min 10000 v → nvr b n r k u = min 10000 (nmr b n r k v) := by
  intro r
  induction r with
  | zero => intro k v u h; exact h
  | succ r ih =>
    intro k v u h
    show (if k < n ∧ isD (b k) = true then nvr b n r (k + 1) (min 10000 (u * 10 + (b k - 48))) else u) = min 10000 (if k < n ∧ isD (b k) = true then nmr b n r (k + 1) (if 99999 < v then v else 10 * v + (b k - 48)) else v)
    split
    · refine ih _ _ _ ?_
      split <;> omega
    · exact h
theorem nmr_b (b : Nat → Nat) (n : Nat) : ∀ r k v, v < 1000000 → nmr b n r k v < 1000000 := by
  intro r
  induction r with
  | zero => intro k v h; exact h
  | succ r ih =>
    intro k v h
    show (if k < n ∧ isD (b k) = true then nmr b n r (k + 1) (if 99999 < v then v else 10 * v + (b k - 48)) else v) < 1000000
    split
    · rename_i c
      have := (isD_i _).mp c.2
      refine ih _ _ ?_
      split <;> omega
    · exact h
/-- a word's code, as the reference reckons it -/
def wdr (b : Nat → Nat) (n : Nat) : Nat → Nat → Nat → Nat
  | 0, _, w => w
  | r + 1, k, w => if k < n ∧ isL (b k) = true then wdr b n r (k + 1) (if w / 281474976710656 ≠ 0 then 1152921504606846976 else w * 256 + b k) else w
theorem wdr_b (b : Nat → Nat) (n : Nat) : ∀ r k w, w ≤ 1152921504606846976 → wdr b n r k w ≤ 1152921504606846976 := by
  intro r
  induction r with
  | zero => intro k v h; exact h
  | succ r ih =>
    intro k w h
    show (if k < n ∧ isL (b k) = true then wdr b n r (k + 1) (if w / 281474976710656 ≠ 0 then 1152921504606846976 else w * 256 + b k) else w) ≤ 1152921504606846976
    split
    · rename_i c
      have := (isL_i _).mp c.2
      refine ih _ _ ?_
      split <;> omega
    · exact h
def wls : List (List Nat) := [[112, 97, 99, 101, 115], [100, 114, 105, 101, 115], [115, 104, 101, 100, 115], [104, 111, 114, 115, 101], [112, 105, 101, 99, 101], [112, 101, 103], [115, 111, 99, 107], [115, 116, 97, 114, 116], [119, 105, 110, 100], [104, 111, 117, 114], [115, 117, 110], [104, 105, 110, 103, 101, 115], [108, 111, 97, 100], [99, 101, 108, 108], [119, 104, 111], [115, 116, 117, 102, 102], [119, 101, 105, 103, 104, 116], [119, 101, 116], [97, 116], [116, 111], [111, 110], [105, 102], [116, 104, 101, 110], [101, 108, 115, 101], [101, 110, 100], [111, 114], [97, 110, 100], [110, 111, 116], [116, 101, 110, 116, 104], [119, 105, 110, 100, 115]]
def cod (w : List Nat) : Nat := w.foldl (fun c x => c * 256 + x) 0
def wcs : List Nat := [482670241139, 431416239475, 495672714355, 448546370405, 482804589413, 7365991, 1936679787, 495873782388, 2003398244, 1752135026, 7566702, 114802033124723, 1819238756, 1667591276, 7825519, 495875090022, 131277443786868, 7824756, 24948, 29807, 28526, 26982, 1952998766, 1701606245, 6647396, 28530, 6385252, 7237492, 499917943912, 512869950579]
/-- the place of a code among the words, from a place on -/
def fnd (c : Nat) : List Nat → Nat → Nat
  | [], _ => 132
  | x :: l, i => if c = x then i else fnd c l (i + 1)
def tokW (c : Nat) : Nat := fnd c wcs 0
theorem wcs_len : wcs.length = 30 := by decide +kernel
theorem wcs_cod : wls.map cod = wcs := by decide +kernel
theorem wcs_inj : ∀ i, i < 30 → tokW (wcs.getD i 0) = i := by decide +kernel
theorem fnd_b (c : Nat) : ∀ l i, i + l.length ≤ 132 → fnd c l i ≤ 132 ∧ (fnd c l i = 132 → ∀ j, j < l.length → c ≠ l.getD j 0) ∧ (fnd c l i ≠ 132 → i ≤ fnd c l i ∧ fnd c l i < i + l.length ∧ c = l.getD (fnd c l i - i) 0) := by
  intro l
  induction l with
  | nil =>
    intro i _
    exact ⟨Nat.le_refl _, fun _ j hj => absurd hj (Nat.not_lt_zero _), fun h => absurd rfl h⟩
  | cons x l ih =>
    intro i hi
    rw [List.length_cons] at hi ⊢
    have e : fnd c (x :: l) i = if c = x then i else fnd c l (i + 1) := rfl
    by_cases h : c = x
    · rw [if_pos h] at e
      rw [e]
      refine ⟨by omega, fun z => by omega, fun _ => ⟨Nat.le_refl _, by omega, ?_⟩⟩
      rw [Nat.sub_self]
      exact h
    · rw [if_neg h] at e
      rw [e]
      obtain ⟨a1, a2, a3⟩ := ih (i + 1) (by omega)
      refine ⟨a1, fun z j hj => ?_, fun z => ?_⟩
      · rcases Nat.eq_zero_or_pos j with e0 | e0
        · subst e0; exact h
        · have := a2 z (j - 1) (by omega)
          rw [show j = (j - 1) + 1 by omega]
          exact this
      · obtain ⟨b1, b2, b3⟩ := a3 z
        refine ⟨by omega, by omega, ?_⟩
        rw [show fnd c l (i + 1) - i = (fnd c l (i + 1) - (i + 1)) + 1 by omega]
        exact b3
theorem tokW_y {c i : Nat} (hi : i < 30) : tokW c = i ↔ c = wcs.getD i 0 := by
  constructor
  · intro h
    have := (fnd_b c wcs 0 (by rw [wcs_len]; decide)).2.2 (by show tokW c ≠ 132; omega)
    rw [this.2.2]
    show wcs.getD (tokW c - 0) 0 = _
    rw [h, Nat.sub_zero]
  · intro h
    rw [h]
    exact wcs_inj i hi
theorem tokW_b (c : Nat) : tokW c < 30 ∨ tokW c = 132 := by
  have := fnd_b c wcs 0 (by rw [wcs_len]; decide)
  rw [wcs_len] at this
  by_cases h : tokW c = 132
  · exact Or.inr h
  · exact Or.inl (by have := (this.2.2 h).2.1; show fnd c wcs 0 < 30; omega)
def sgs : List Nat := [60, 62, 61, 35, 43, 45, 42, 47, 40, 41, 59]
/-- the token of a sign, with the byte that follows -/
def sg (c e : Nat) : Nat := if e = 61 ∧ c = 60 then 128 else if e = 61 ∧ c = 62 then 129 else if c ∈ sgs then c else 132
/-- the byte at a place; 256 behind the end -/
def bA (b : Nat → Nat) (n k : Nat) : Nat := if k < n then b k else 256
/-- the token at a place, its value, its end -/
def tkT (b : Nat → Nat) (n k : Nat) : Nat := if n ≤ k then 131 else if isD (b k) = true then 130 else if isL (b k) = true then tokW (wdr b n (n - k) k 0) else sg (b k) (bA b n (k + 1))
def tkV (b : Nat → Nat) (n k : Nat) : Nat := if n ≤ k then 0 else if isD (b k) = true then nvr b n (n - k) k 0 else 0
def tkE (b : Nat → Nat) (n k : Nat) : Nat := if n ≤ k then k else if isD (b k) = true then fw isD b n k else if isL (b k) = true then fw isL b n k else if sg (b k) (bA b n (k + 1)) = 128 ∨ sg (b k) (bA b n (k + 1)) = 129 then k + 2 else k + 1
/-- the places of the tokens, one behind the other -/
def stP (b : Nat → Nat) (n : Nat) : Nat → Nat
  | 0 => fw isB b n 0
  | i + 1 => fw isB b n (tkE b n (stP b n i))
def stT (b : Nat → Nat) (n i : Nat) : Nat := tkT b n (stP b n i)
def stV (b : Nat → Nat) (n i : Nat) : Nat := tkV b n (stP b n i)
theorem sg_b (c e : Nat) : (sg c e = 128 → c = 60 ∧ e = 61) ∧ (sg c e = 129 → c = 62 ∧ e = 61) ∧ (sg c e ≠ 128 → sg c e ≠ 129 → (sg c e = c ∧ c ∈ sgs) ∨ (sg c e = 132 ∧ ¬ c ∈ sgs)) := by
  have m : c ∈ sgs → c < 63 := by
    intro h
    have : ∀ c, c ∈ sgs → c < 63 := by decide
    exact this c h
  unfold sg
  by_cases h1 : e = 61 ∧ c = 60
  · rw [if_pos h1]
    exact ⟨fun _ => ⟨h1.2, h1.1⟩, fun z => by omega, fun z => absurd rfl z⟩
  · rw [if_neg h1]
    by_cases h2 : e = 61 ∧ c = 62
    · rw [if_pos h2]
      exact ⟨fun z => by omega, fun _ => ⟨h2.2, h2.1⟩, fun _ z => absurd rfl z⟩
    · rw [if_neg h2]
      by_cases h3 : c ∈ sgs
      · rw [if_pos h3]
        have := m h3
        exact ⟨fun z => by omega, fun z => by omega, fun _ _ => Or.inl ⟨rfl, h3⟩⟩
      · rw [if_neg h3]
        exact ⟨fun z => by omega, fun z => by omega, fun _ _ => Or.inr ⟨rfl, h3⟩⟩
theorem tkE_b (b : Nat → Nat) {n k : Nat} (h : k < n) : k < tkE b n k ∧ tkE b n k ≤ n := by
  unfold tkE
  rw [if_neg (by omega)]
  by_cases d : isD (b k) = true
  · rw [if_pos d, fw_y h d]
    have := fw_b isD b (show k + 1 ≤ n by omega)
    omega
  · rw [if_neg d]
    by_cases l : isL (b k) = true
    · rw [if_pos l, fw_y h l]
      have := fw_b isL b (show k + 1 ≤ n by omega)
      omega
    · rw [if_neg l]
      by_cases s2 : sg (b k) (bA b n (k + 1)) = 128 ∨ sg (b k) (bA b n (k + 1)) = 129
      · rw [if_pos s2]
        have q := sg_b (b k) (bA b n (k + 1))
        have e : bA b n (k + 1) = 61 := by
          rcases s2 with z | z
          · exact (q.1 z).2
          · exact (q.2.1 z).2
        unfold bA at e
        have : k + 1 < n := by
          rcases Nat.lt_or_ge (k + 1) n with z | z
          · exact z
          · rw [if_neg (by omega)] at e; omega
        omega
      · rw [if_neg s2]
        omega
theorem tkE_e (b : Nat → Nat) (n : Nat) : tkE b n n = n := by
  unfold tkE
  rw [if_pos (Nat.le_refl _)]
theorem stP_b (b : Nat → Nat) (n : Nat) : ∀ i, stP b n i ≤ n := by
  intro i
  induction i with
  | zero => exact (fw_b isB b (Nat.zero_le n)).2
  | succ i ih =>
    show fw isB b n (tkE b n (stP b n i)) ≤ n
    rcases Nat.lt_or_ge (stP b n i) n with z | z
    · exact (fw_b isB b (tkE_b b z).2).2
    · have : stP b n i = n := by omega
      rw [this, tkE_e]
      exact (fw_b isB b (Nat.le_refl n)).2
theorem stP_s (b : Nat → Nat) (n : Nat) {i : Nat} (h : stP b n i < n) : stP b n i < stP b n (i + 1) := by
  show stP b n i < fw isB b n (tkE b n (stP b n i))
  have a := tkE_b b h
  have := (fw_b isB b a.2).1
  omega
theorem stP_e (b : Nat → Nat) (n : Nat) {i : Nat} (h : stP b n i = n) : stP b n (i + 1) = n := by
  show fw isB b n (tkE b n (stP b n i)) = n
  rw [h, tkE_e]
  exact fw_n (fun z => by omega)
theorem stP_i (b : Nat → Nat) (n : Nat) : ∀ i, (∀ j, j < i → stP b n j < n) → i ≤ stP b n i := by
  intro i
  induction i with
  | zero => intro _; exact Nat.zero_le _
  | succ i ih =>
    intro h
    have := ih (fun j hj => h j (by omega))
    have := stP_s b n (h i (by omega))
    omega
/-- how many tokens there are -/
def stL (b : Nat → Nat) (n : Nat) : Nat := fa_first (fun i => Nat.ble n (stP b n i)) n
theorem stL_1 (b : Nat → Nat) (n : Nat) {i : Nat} (h : i < stL b n) : stP b n i < n := by
  have := fa_first_no (fun i => Nat.ble n (stP b n i)) n i h
  have : ¬ n ≤ stP b n i := fun z => by rw [show Nat.ble n (stP b n i) = true from Nat.ble_eq.mpr z] at this; exact Bool.noConfusion this
  omega
theorem stL_n (b : Nat → Nat) (n : Nat) : stL b n ≤ n := fa_first_le _ n
theorem stL_2 (b : Nat → Nat) (n : Nat) : stP b n (stL b n) = n := by
  have a := stP_b b n (stL b n)
  rcases Nat.lt_or_ge (stL b n) n with z | z
  · have := fa_first_yes (fun i => Nat.ble n (stP b n i)) n z
    have : n ≤ stP b n (stL b n) := Nat.le_of_ble_eq_true this
    omega
  · have := stP_i b n (stL b n) (fun j hj => stL_1 b n hj)
    omega
theorem stL_3 (b : Nat → Nat) (n : Nat) : ∀ r, stP b n (stL b n + r) = n := by
  intro r
  induction r with
  | zero => exact stL_2 b n
  | succ r ih => exact stP_e b n ih
theorem stL_u (b : Nat → Nat) (n : Nat) {i : Nat} (h1 : ∀ j, j < i → stP b n j < n) (h2 : n ≤ stP b n i) : i = stL b n := by
  rcases Nat.lt_trichotomy i (stL b n) with z | z | z
  · have := stL_1 b n z; omega
  · exact z
  · have := h1 _ z
    rw [stL_2] at this
    omega
theorem stT_e (b : Nat → Nat) (n : Nat) {i : Nat} : stT b n i = 131 ↔ stL b n ≤ i := by
  constructor
  · intro h
    rcases Nat.lt_or_ge i (stL b n) with z | z
    · have q := stL_1 b n z
      unfold stT tkT at h
      rw [if_neg (by omega)] at h
      by_cases d : isD (b (stP b n i)) = true
      · rw [if_pos d] at h; omega
      · rw [if_neg d] at h
        by_cases l : isL (b (stP b n i)) = true
        · rw [if_pos l] at h
          have := tokW_b (wdr b n (n - stP b n i) (stP b n i) 0)
          omega
        · rw [if_neg l] at h
          have q := sg_b (b (stP b n i)) (bA b n (stP b n i + 1))
          have := q.2.2 (by omega) (by omega)
          rcases this with ⟨y1, y2⟩ | y
          · have : ∀ c, c ∈ sgs → c < 63 := by decide
            have := this _ y2
            omega
          · omega
    · exact z
  · intro h
    have := stL_3 b n (i - stL b n)
    rw [show stL b n + (i - stL b n) = i by omega] at this
    unfold stT tkT
    rw [if_pos (by omega)]
