/-! ===== rankings: orders in a row, upsets, the search with and without cutting (mine) ===== -/
def itr {σ : Type} (g : Nat → σ → σ) : Nat → σ → σ
  | 0, st => st
  | x + 1, st => g x (itr g x st)
def cat {α : Type} (g : Nat → List α) : Nat → List α
  | 0 => []
  | x + 1 => cat g x ++ g x
abbrev RS : Type := Nat × (Nat → Nat)
def uO (bt : Nat → Nat) (x : Nat) (f : Nat → Nat) : Nat → Nat
  | 0 => 0
  | i + 1 => uO bt x f i + bt (5 * x + f i)
def uA (bt : Nat → Nat) (f : Nat → Nat) : Nat → Nat
  | 0 => 0
  | i + 1 => uA bt f i + uO bt (f i) f i
def rD (bt : Nat → Nat) (n : Nat) : Nat → (Nat → Nat) → Nat → Nat → RS → RS
  | 0, f, _, u, st => if st.1 ≤ u then st else (u, f)
  | m + 1, f, p, u, st => if st.1 ≤ u then st else itr (fun x st => if p / 2 ^ x % 2 = 0 then rD bt n m (va_up f (n - (m + 1)) x) (p ||| 2 ^ x) (u + uO bt x f (n - (m + 1))) st else st) n st
def lv (n : Nat) : Nat → (Nat → Nat) → Nat → List (Nat → Nat)
  | 0, f, _ => [f]
  | m + 1, f, p => cat (fun x => if p / 2 ^ x % 2 = 0 then lv n m (va_up f (n - (m + 1)) x) (p ||| 2 ^ x) else []) n
def stp (bt : Nat → Nat) (n : Nat) (st : RS) (f : Nat → Nat) : RS := if st.1 ≤ uA bt f n then st else (uA bt f n, f)
theorem uO_c {bt f g : Nat → Nat} {x : Nat} : ∀ i, (∀ j, j < i → f j = g j) → uO bt x f i = uO bt x g i := by
  intro i
  induction i with
  | zero => intro _; rfl
  | succ i ih =>
    intro h
    show uO bt x f i + bt (5 * x + f i) = uO bt x g i + bt (5 * x + g i)
    rw [ih (fun j hj => h j (by omega)), h i (by omega)]
theorem uA_c {bt f g : Nat → Nat} : ∀ i, (∀ j, j < i → f j = g j) → uA bt f i = uA bt g i := by
  intro i
  induction i with
  | zero => intro _; rfl
  | succ i ih =>
    intro h
    show uA bt f i + uO bt (f i) f i = uA bt g i + uO bt (g i) g i
    rw [ih (fun j hj => h j (by omega)), h i (by omega), uO_c i (fun j hj => h j (by omega))]
theorem uA_up (bt f : Nat → Nat) (i x : Nat) : uA bt (va_up f i x) (i + 1) = uA bt f i + uO bt x f i := by
  show uA bt (va_up f i x) i + uO bt (va_up f i x i) (va_up f i x) i = _
  rw [up_s, uA_c (g := f) i (fun j hj => up_n f x (by omega)), uO_c (g := f) i (fun j hj => up_n f x (by omega))]
theorem lv_id (bt : Nat → Nat) (n : Nat) : ∀ m f p st, m ≤ n → st.1 ≤ uA bt f (n - m) → (lv n m f p).foldl (stp bt n) st = st := by
  intro m
  induction m with
  | zero =>
    intro f p st _ h
    show stp bt n st f = st
    unfold stp
    exact if_pos h
  | succ m ih =>
    intro f p st hm h
    show (cat (fun x => if p / 2 ^ x % 2 = 0 then lv n m (va_up f (n - (m + 1)) x) (p ||| 2 ^ x) else []) n).foldl (stp bt n) st = st
    have q : ∀ k, (cat (fun x => if p / 2 ^ x % 2 = 0 then lv n m (va_up f (n - (m + 1)) x) (p ||| 2 ^ x) else []) k).foldl (stp bt n) st = st := by
      intro k
      induction k with
      | zero => rfl
      | succ k ihk =>
        show (cat _ k ++ (if p / 2 ^ k % 2 = 0 then lv n m (va_up f (n - (m + 1)) k) (p ||| 2 ^ k) else [])).foldl (stp bt n) st = st
        rw [List.foldl_append, ihk]
        split
        · refine ih _ _ _ (by omega) ?_
          rw [show n - m = n - (m + 1) + 1 by omega, uA_up]
          omega
        · rfl
    exact q n
theorem rD_f (bt : Nat → Nat) (n : Nat) : ∀ m f p u st, m ≤ n → u = uA bt f (n - m) → rD bt n m f p u st = (lv n m f p).foldl (stp bt n) st := by
  intro m
  induction m with
  | zero =>
    intro f p u st _ h
    subst h
    rfl
  | succ m ih =>
    intro f p u st hm h
    by_cases c : st.1 ≤ u
    · rw [lv_id bt n (m + 1) f p st hm (by omega)]
      show (if st.1 ≤ u then st else _) = st
      rw [if_pos c]
    · show (if st.1 ≤ u then st else itr (fun x st => if p / 2 ^ x % 2 = 0 then rD bt n m (va_up f (n - (m + 1)) x) (p ||| 2 ^ x) (u + uO bt x f (n - (m + 1))) st else st) n st) = _
      rw [if_neg c]
      have q : ∀ k, itr (fun x st => if p / 2 ^ x % 2 = 0 then rD bt n m (va_up f (n - (m + 1)) x) (p ||| 2 ^ x) (u + uO bt x f (n - (m + 1))) st else st) k st = (cat (fun x => if p / 2 ^ x % 2 = 0 then lv n m (va_up f (n - (m + 1)) x) (p ||| 2 ^ x) else []) k).foldl (stp bt n) st := by
        intro k
        induction k with
        | zero => rfl
        | succ k ihk =>
          show (if p / 2 ^ k % 2 = 0 then rD bt n m (va_up f (n - (m + 1)) k) (p ||| 2 ^ k) (u + uO bt k f (n - (m + 1))) (itr _ k st) else itr _ k st) = (cat _ k ++ (if p / 2 ^ k % 2 = 0 then lv n m (va_up f (n - (m + 1)) k) (p ||| 2 ^ k) else [])).foldl (stp bt n) st
          rw [List.foldl_append, ihk]
          split
          · refine ih _ _ _ _ (by omega) ?_
            rw [show n - m = n - (m + 1) + 1 by omega, uA_up, h]
          · rfl
      exact q n
theorem stp_le (bt : Nat → Nat) (n : Nat) (st : RS) (f : Nat → Nat) : (stp bt n st f).1 ≤ st.1 ∧ (stp bt n st f).1 ≤ uA bt f n := by
  unfold stp
  split
  · exact ⟨Nat.le_refl _, by omega⟩
  · exact ⟨by show uA bt f n ≤ st.1; omega, Nat.le_refl _⟩
theorem fold_le (bt : Nat → Nat) (n : Nat) : ∀ (l : List (Nat → Nat)) (st : RS), (l.foldl (stp bt n) st).1 ≤ st.1 := by
  intro l
  induction l with
  | nil => intro st; exact Nat.le_refl _
  | cons f l ih => intro st; exact Nat.le_trans (ih _) (stp_le bt n st f).1
theorem itr_le {g : Nat → RS → RS} (h : ∀ x st, (g x st).1 ≤ st.1) : ∀ k st, (itr g k st).1 ≤ st.1 := by
  intro k
  induction k with
  | zero => intro st; exact Nat.le_refl _
  | succ k ih => intro st; exact Nat.le_trans (h k _) (ih st)
theorem rD_le (bt : Nat → Nat) (n : Nat) : ∀ m f p u st, (rD bt n m f p u st).1 ≤ st.1 := by
  intro m
  induction m with
  | zero =>
    intro f p u st
    show (if st.1 ≤ u then st else (u, f)).1 ≤ st.1
    split
    · exact Nat.le_refl _
    · show u ≤ st.1; omega
  | succ m ih =>
    intro f p u st
    show (if st.1 ≤ u then st else itr (fun x st => if p / 2 ^ x % 2 = 0 then rD bt n m (va_up f (n - (m + 1)) x) (p ||| 2 ^ x) (u + uO bt x f (n - (m + 1))) st else st) n st).1 ≤ st.1
    split
    · exact Nat.le_refl _
    · refine itr_le (fun x st => ?_) n st
      show (if p / 2 ^ x % 2 = 0 then rD bt n m (va_up f (n - (m + 1)) x) (p ||| 2 ^ x) (u + uO bt x f (n - (m + 1))) st else st).1 ≤ st.1
      split
      · exact ih _ _ _ _
      · exact Nat.le_refl _
theorem uO_b {bt f : Nat → Nat} {x : Nat} (hb : ∀ k, k < 25 → bt k ≤ 99) (hx : x < 5) : ∀ i, (∀ j, j < i → f j < 5) → uO bt x f i ≤ 99 * i := by
  intro i
  induction i with
  | zero => intro _; exact Nat.le_refl _
  | succ i ih =>
    intro hf
    have := hb (5 * x + f i) (by have := hf i (by omega); omega)
    have := ih (fun j hj => hf j (by omega))
    show uO bt x f i + bt (5 * x + f i) ≤ 99 * (i + 1)
    omega
theorem uA_b {bt f : Nat → Nat} (hb : ∀ k, k < 25 → bt k ≤ 99) : ∀ i, i ≤ 5 → (∀ j, j < i → f j < 5) → uA bt f i ≤ 495 * i := by
  intro i
  induction i with
  | zero => intro _ _; exact Nat.le_refl _
  | succ i ih =>
    intro h5 hf
    have := uO_b (f := f) hb (hf i (by omega)) i (fun j hj => hf j (by omega))
    have := ih (by omega) (fun j hj => hf j (by omega))
    show uA bt f i + uO bt (f i) f i ≤ 495 * (i + 1)
    omega
/-- the reference's upsets -/
def rI1 (bt f : Nat → Nat) (i : Nat) : Nat → Nat
  | 0 => 0
  | k + 1 => rI1 bt f i k + (if i < k then bt (5 * f k + f i) else 0)
def rO (bt f : Nat → Nat) (n : Nat) : Nat → Nat
  | 0 => 0
  | i + 1 => rO bt f n i + rI1 bt f i n
theorem rI1_0 (bt f : Nat → Nat) (i : Nat) : ∀ k, k ≤ i + 1 → rI1 bt f i k = 0 := by
  intro k
  induction k with
  | zero => intro _; rfl
  | succ k ih =>
    intro h
    show rI1 bt f i k + (if i < k then bt (5 * f k + f i) else 0) = 0
    rw [ih (by omega), if_neg (by omega)]
theorem rO_s (bt f : Nat → Nat) (n : Nat) : ∀ a, a ≤ n → rO bt f (n + 1) a = rO bt f n a + uO bt (f n) f a := by
  intro a
  induction a with
  | zero => intro _; rfl
  | succ a ih =>
    intro h
    show rO bt f (n + 1) a + (rI1 bt f a n + (if a < n then bt (5 * f n + f a) else 0)) = rO bt f n a + rI1 bt f a n + (uO bt (f n) f a + bt (5 * f n + f a))
    rw [ih (by omega), if_pos (by omega)]
    omega
theorem rO_u (bt f : Nat → Nat) : ∀ n, rO bt f n n = uA bt f n := by
  intro n
  induction n with
  | zero => rfl
  | succ n ih =>
    show rO bt f (n + 1) n + rI1 bt f n (n + 1) = uA bt f n + uO bt (f n) f n
    rw [rI1_0 bt f n (n + 1) (Nat.le_refl _), rO_s bt f n n (Nat.le_refl _), ih, Nat.add_zero]
/-- the next row -/
def sw (f : Nat → Nat) (i k : Nat) : Nat → Nat := va_up (va_up f i (f k)) k (f i)
def nxi (f : Nat → Nat) : Nat → Nat
  | 0 => 0
  | j + 1 => if f (j + 1) < f j then nxi f j else j + 1
def nxk (f : Nat → Nat) (x : Nat) : Nat → Nat
  | 0 => 0
  | k + 1 => if f (k + 1) < x then nxk f x k else k + 1
def rv : Nat → (Nat → Nat) → Nat → Nat → Nat → Nat
  | 0, f, _, _ => f
  | r + 1, f, p, q => if p < q then rv r (sw f p q) (p + 1) (q - 1) else f
def nxR (n : Nat) (f : Nat → Nat) : Nat → Nat := rv n (sw f (nxi f (n - 1) - 1) (nxk f (f (nxi f (n - 1) - 1)) (n - 1))) (nxi f (n - 1)) (n - 1)
def aB (p : Nat → Bool) : Nat → Bool
  | 0 => true
  | k + 1 => aB p k && p k
theorem aB_t {p : Nat → Bool} : ∀ n, aB p n = true → ∀ j, j < n → p j = true := by
  intro n
  induction n with
  | zero => intro _ j hj; omega
  | succ n ih =>
    intro h j hj
    have h : (aB p n && p n) = true := h
    rw [Bool.and_eq_true] at h
    rcases Nat.lt_or_ge j n with c | c
    · exact ih h.1 j c
    · obtain rfl : j = n := by omega
      exact h.2
def ck (n : Nat) : List (Nat → Nat) → Bool
  | [] => true
  | f :: t => aB (fun j => Nat.blt (f j) n) n && (match t with
    | [] => Nat.beq (nxi f (n - 1)) 0
    | g :: _ => Nat.ble 1 (nxi f (n - 1)) && aB (fun j => Nat.beq (nxR n f j) (g j)) n) && ck n t
def hd0 (n : Nat) : List (Nat → Nat) → Bool
  | [] => false
  | f :: _ => aB (fun j => Nat.beq (f j) j) n
theorem ck_all : ∀ n, n < 6 → ck n (lv n n (fun _ => 0) 0) = true ∧ hd0 n (lv n n (fun _ => 0) 0) = true := by decide +kernel
theorem nxi_p (f : Nat → Nat) : ∀ j, nxi f j ≠ 0 → nxi f j ≤ j ∧ ¬ f (nxi f j) < f (nxi f j - 1) := by
  intro j
  induction j with
  | zero => intro h; exact absurd rfl h
  | succ j ih =>
    intro h
    have e : nxi f (j + 1) = if f (j + 1) < f j then nxi f j else j + 1 := rfl
    by_cases c : f (j + 1) < f j
    · rw [if_pos c] at e
      rw [e] at h ⊢
      have := ih h
      exact ⟨by omega, this.2⟩
    · rw [if_neg c] at e
      rw [e]
      exact ⟨Nat.le_refl _, c⟩
/-- what a ranking answers -/
def rkS (s : Sv) : RS := (lv (s 18 0) (s 18 0) (fun _ => 0) 0).foldl (stp (s 12) (s 18 0)) (1000000, fun _ => 0)
theorem ck_b {n : Nat} {f : Nat → Nat} {t : List (Nat → Nat)} (h : ck n (f :: t) = true) : ∀ j, j < n → f j < n := by
  intro j hj
  have q : aB (fun j => Nat.blt (f j) n) n = true := by
    cases t with
    | nil =>
      have h : (aB (fun j => Nat.blt (f j) n) n && Nat.beq (nxi f (n - 1)) 0 && ck n []) = true := h
      rw [Bool.and_eq_true, Bool.and_eq_true] at h
      exact h.1.1
    | cons g t =>
      have h : (aB (fun j => Nat.blt (f j) n) n && (Nat.ble 1 (nxi f (n - 1)) && aB (fun j => Nat.beq (nxR n f j) (g j)) n) && ck n (g :: t)) = true := h
      rw [Bool.and_eq_true, Bool.and_eq_true] at h
      exact h.1.1
  exact Nat.le_of_ble_eq_true (aB_t n q j hj)
theorem ck_1 {n : Nat} {f : Nat → Nat} (h : ck n [f] = true) : nxi f (n - 1) = 0 := by
  have h : (aB (fun j => Nat.blt (f j) n) n && Nat.beq (nxi f (n - 1)) 0 && ck n []) = true := h
  rw [Bool.and_eq_true, Bool.and_eq_true] at h
  exact Nat.eq_of_beq_eq_true h.1.2
theorem ck_2 {n : Nat} {f g : Nat → Nat} {t : List (Nat → Nat)} (h : ck n (f :: g :: t) = true) : nxi f (n - 1) ≠ 0 ∧ (∀ j, j < n → nxR n f j = g j) ∧ ck n (g :: t) = true := by
  have h : (aB (fun j => Nat.blt (f j) n) n && (Nat.ble 1 (nxi f (n - 1)) && aB (fun j => Nat.beq (nxR n f j) (g j)) n) && ck n (g :: t)) = true := h
  rw [Bool.and_eq_true, Bool.and_eq_true, Bool.and_eq_true] at h
  refine ⟨?_, fun j hj => Nat.eq_of_beq_eq_true (aB_t n h.1.2.2 j hj), h.2⟩
  have := Nat.le_of_ble_eq_true h.1.2.1
  omega
theorem lv_hd {n : Nat} (hn : n < 6) : ∃ f t, lv n n (fun _ => 0) 0 = f :: t ∧ ck n (f :: t) = true ∧ ∀ j, j < n → f j = j := by
  obtain ⟨a, b⟩ := ck_all n hn
  cases e : lv n n (fun _ => 0) 0 with
  | nil => rw [e] at b; exact Bool.noConfusion b
  | cons f t =>
    rw [e] at a b
    exact ⟨f, t, rfl, a, fun j hj => Nat.eq_of_beq_eq_true (aB_t n b j hj)⟩
theorem rk_lt {s : Sv} (hn : s 18 0 ≤ 5) (hb : ∀ k, k < 25 → s 12 k ≤ 99) : (rkS s).1 < 1000000 := by
  obtain ⟨f, t, e, c, _⟩ := lv_hd (n := s 18 0) (by omega)
  unfold rkS
  rw [e]
  show (t.foldl (stp (s 12) (s 18 0)) (stp (s 12) (s 18 0) (1000000, fun _ => 0) f)).1 < 1000000
  have a1 := fold_le (s 12) (s 18 0) t (stp (s 12) (s 18 0) (1000000, fun _ => 0) f)
  have a2 := (stp_le (s 12) (s 18 0) (1000000, fun _ => 0) f).2
  have a3 := uA_b (f := f) hb (s 18 0) hn (fun j hj => by have := ck_b c j hj; omega)
  omega
