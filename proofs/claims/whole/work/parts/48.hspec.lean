/-! ===== an hour, as numbers (mine) ===== -/
theorem s2_if (s : Sv) (a k v b j : Nat) : st2 s a k v b j = if b = a ∧ j = k then v else s b j := by
  by_cases h : b = a ∧ j = k
  · rw [if_pos h, h.1, h.2, s2_s]
  · rw [if_neg h, s2_o _ h]
theorem st2_cm (s : Sv) {a k b j : Nat} (v w : Nat) (e : ¬ (a = b ∧ k = j)) : st2 (st2 s a k v) b j w = st2 (st2 s b j w) a k v := by
  funext x y
  simp only [s2_if]
  (repeat' split) <;> first | rfl | (exfalso; omega)
/-- the pieces on a horse dry, the first n of all -/
def dra (tx : Nat → Tx) (s : Sv) (k : Nat) : Nat → Sv
  | 0 => s
  | n + 1 => if dra tx s k n 3 n = k + 1 then st2 (dra tx s k n) 2 n (dra tx s k n 2 n - drs tx (dra tx s k n 18 3) (dra tx s k n) n k) else dra tx s k n
def dryb (s : Sv) (k : Nat) : Nat → Bool
  | 0 => true
  | n + 1 => dryb s k n && !(decide (s 3 n = k + 1) && decide (0 < s 2 n))
theorem dryb_iff (s : Sv) (k n : Nat) : dryb s k n = true ↔ dryN s k n := by
  induction n with
  | zero => exact ⟨fun _ => trivial, fun _ => rfl⟩
  | succ n ih =>
    show (dryb s k n && !(decide (s 3 n = k + 1) && decide (0 < s 2 n))) = true ↔ (dryN s k n ∧ ¬ (s 3 n = k + 1 ∧ 0 < s 2 n))
    rw [Bool.and_eq_true, ih, Bool.not_eq_true', Bool.and_eq_false_iff, decide_eq_false_iff_not, decide_eq_false_iff_not]
    refine and_congr Iff.rfl ?_
    omega
/-- it goes on, and comes in if it may; wf: it is written down -/
def gp (wf : Bool) (tx : Nat → Tx) (u : Sv) (k : Nat) : Sv := if min 11 (u 0 k + pcs tx u k 0) = 11 ∧ dryb u k (u 18 1) = true then (if wf then wr (st2 (st2 u 0 k (min 11 (u 0 k + pcs tx u k 0))) 1 k (inN u 5 + 1)) k else st2 (st2 u 0 k (min 11 (u 0 k + pcs tx u k 0))) 1 k (inN u 5 + 1)) else st2 u 0 k (min 11 (u 0 k + pcs tx u k 0))
/-- a horse's turn behind drying -/
def gs (wf : Bool) (tx : Nat → Tx) (a : Sv) (k : Nat) : Sv := if lo1 a (k + 1) 0 (a 18 1) = 0 then gp wf tx a k else if a 4 1 % 10 < shd tx a k then st2 (st2 a 4 1 (nx (a 4 1))) 3 (lo1 a (k + 1) 0 (a 18 1) - 1) 0 else gp wf tx (st2 a 4 1 (nx (a 4 1))) k
def go1 (wf : Bool) (tx : Nat → Tx) (s : Sv) (k : Nat) : Sv := gs wf tx (dra tx s k (s 18 1)) k
def hl (wf : Bool) (tx : Nat → Tx) (s : Sv) : Nat → Sv
  | 0 => s
  | n + 1 => if hl wf tx s n 1 n = 0 then go1 wf tx (hl wf tx s n) n else hl wf tx s n
def ps0 (s : Sv) : Sv := st2 (st2 s 4 1 (nx (s 4 1))) 4 2 (s 4 1 % 10)
def pas (wf : Bool) (tx : Nat → Tx) (s : Sv) : Sv := st2 (hl wf tx (ps0 s) (s 18 0)) 4 0 (hl wf tx (ps0 s) (s 18 0) 4 0 + 1)
/-- bounds that an hour needs and keeps -/
def GB (s : Sv) : Prop := s 18 0 ≤ 5 ∧ s 18 1 ≤ 10 ∧ GW (s 18 0) s 0 ∧ (∀ k, k < 5 → s 6 k ≤ 9) ∧ (∀ p, p < 10 → s 7 p ≤ 3 ∧ s 8 p ≤ 9 ∧ s 9 p ≤ 20) ∧ ∀ c, c < 12 → s 10 c ≤ 9
theorem GB_WL {s : Sv} (B : GB s) : WL s := ⟨B.1, B.2.1, ⟨B.2.2.1.1, B.2.2.1.2.2.1⟩, fun k hk => ⟨(B.2.2.1.2.2.2.2.1 k hk).1, B.2.2.2.1 k hk⟩, fun p hp => ⟨(B.2.2.1.2.2.2.2.2.1 p hp).1, (B.2.2.1.2.2.2.2.2.1 p hp).2, (B.2.2.2.2.1 p hp).1, (B.2.2.2.2.1 p hp).2.1⟩, B.2.2.2.2.2⟩
theorem WF_GB {s : Sv} (W : WF s) : GB s := ⟨W.1.1, W.1.2.1, W.2.1, W.2.2.1, W.2.2.2.1, W.2.2.2.2.1⟩
theorem GB_rows {s s' : Sv} (B : GB s) (h : ∀ a k, 6 ≤ a → s' a k = s a k) (G : GW (s 18 0) s' 0) : GB s' := by
  refine ⟨by rw [h _ _ (by omega)]; exact B.1, by rw [h _ _ (by omega)]; exact B.2.1, by rw [h _ _ (by omega)]; exact G, fun k hk => by rw [h _ _ (by omega)]; exact B.2.2.2.1 k hk, fun p hp => ?_, fun c hc => by rw [h _ _ (by omega)]; exact B.2.2.2.2.2 c hc⟩
  rw [h _ _ (by omega), h _ _ (by omega), h _ _ (by omega)]
  exact B.2.2.2.2.1 p hp
theorem GW_up {hs : Nat} {s : Sv} (G : GW hs s 0) {a k v : Nat} (h40 : a = 4 → k = 0 → v ≤ 9999) (h41 : a = 4 → k = 1 → v < 30707) (h42 : a = 4 → k = 2 → v ≤ 9) (h43 : a = 4 → k ≠ 3) (h0 : a = 0 → v ≤ 11 ∧ k < hs) (h1 : a = 1 → v ≤ 5 ∧ k < hs) (h2 : a = 2 → v ≤ 20) (h3 : a = 3 → v ≤ hs) (h5 : a ≠ 5) : GW hs (st2 s a k v) 0 := by
  obtain ⟨a1, a2, a3, a4, b, c, e⟩ := G
  have e43 : st2 s a k v (0 + 4) 3 = s (0 + 4) 3 := by rw [s2_if, if_neg (by omega)]
  refine ⟨?_, ?_, ?_, ?_, fun j hj => ?_, fun p hp => ?_, fun i hi => ?_⟩
  · rw [s2_if]; split <;> omega
  · rw [s2_if]; split <;> omega
  · rw [s2_if]; split <;> omega
  · rw [e43]; exact a4
  · have b1 := b j hj
    have x0 : st2 s a k v 0 j = if 0 = a ∧ j = k then v else s 0 j := s2_if _ _ _ _ _ _
    have x1 : st2 s a k v (0 + 1) j = if 0 + 1 = a ∧ j = k then v else s (0 + 1) j := s2_if _ _ _ _ _ _
    rw [x0, x1]
    refine ⟨by split <;> omega, by split <;> omega, fun hj2 => ⟨?_, ?_⟩⟩
    · rw [if_neg (by omega)]; exact (b1.2.2 hj2).1
    · rw [if_neg (by omega)]; exact (b1.2.2 hj2).2
  · have c1 := c p hp
    rw [s2_if, s2_if]
    refine ⟨by split <;> omega, by split <;> omega⟩
  · rw [e43] at hi
    rw [s2_if, if_neg (by omega)]
    exact e i hi
theorem GB_up {s : Sv} (B : GB s) {a k v : Nat} (h6 : a < 6) (h40 : a = 4 → k = 0 → v ≤ 9999) (h41 : a = 4 → k = 1 → v < 30707) (h42 : a = 4 → k = 2 → v ≤ 9) (h43 : a = 4 → k ≠ 3) (h0 : a = 0 → v ≤ 11 ∧ k < s 18 0) (h1 : a = 1 → v ≤ 5 ∧ k < s 18 0) (h2 : a = 2 → v ≤ 20) (h3 : a = 3 → v ≤ s 18 0) (h5 : a ≠ 5) : GB (st2 s a k v) :=
  GB_rows B (fun x j hx => by rw [s2_if, if_neg (by omega)]) (GW_up B.2.2.1 h40 h41 h42 h43 h0 h1 h2 h3 h5)
theorem nx_lt (x : Nat) : nx x < 30707 := Nat.mod_lt _ (by decide)
theorem cl0_le (z : Int) (t : Nat) : cl0 z t ≤ t := Nat.min_le_right _ _
theorem dra_o (tx : Nat → Tx) (s : Sv) (k n : Nat) {a : Nat} (ha : a ≠ 2) (j : Nat) : dra tx s k n a j = s a j := by
  induction n with
  | zero => rfl
  | succ n ih =>
    show (if dra tx s k n 3 n = k + 1 then st2 (dra tx s k n) 2 n (dra tx s k n 2 n - drs tx (dra tx s k n 18 3) (dra tx s k n) n k) else dra tx s k n) a j = s a j
    split
    · rw [s2_if, if_neg (by omega)]; exact ih
    · exact ih
theorem dra_B {tx : Nat → Tx} {s : Sv} (B : GB s) (k : Nat) {n : Nat} (hn : n ≤ 10) : GB (dra tx s k n) := by
  induction n with
  | zero => exact B
  | succ n ih =>
    have ih := ih (by omega)
    show GB (if dra tx s k n 3 n = k + 1 then st2 (dra tx s k n) 2 n (dra tx s k n 2 n - drs tx (dra tx s k n 18 3) (dra tx s k n) n k) else dra tx s k n)
    split
    · have := (ih.2.2.1.2.2.2.2.2.1 n (by omega)).1
      have : dra tx s k n 2 n ≤ 20 := this
      exact GB_up ih (by omega) (by omega) (by omega) (by omega) (by omega) (by omega) (by omega) (by omega) (by omega) (by omega)
    · exact ih
theorem inN_le (s : Sv) (n : Nat) : inN s n ≤ n := by
  induction n with
  | zero => exact Nat.le_refl _
  | succ n ih =>
    show inN s n + (if 0 < s 1 n then 1 else 0) ≤ n + 1
    split <;> omega
theorem inN_lt (s : Sv) {n k : Nat} (hk : k < n) (h0 : s 1 k = 0) : inN s n < n := by
  induction n with
  | zero => omega
  | succ n ih =>
    show inN s n + (if 0 < s 1 n then 1 else 0) < n + 1
    by_cases e : k = n
    · subst e
      rw [if_neg (by omega)]
      have := inN_le s k
      omega
    · have := ih (by omega)
      split <;> omega
theorem inN_cg {s s' : Sv} (h : ∀ k, s' 1 k = s 1 k) (n : Nat) : inN s' n = inN s n := by
  induction n with
  | zero => rfl
  | succ n ih =>
    show inN s' n + (if 0 < s' 1 n then 1 else 0) = inN s n + (if 0 < s 1 n then 1 else 0)
    rw [ih, h]
theorem inN_x {s : Sv} {m n : Nat} (h : ∀ k, m ≤ k → k < n → s 1 k = 0) (hm : m ≤ n) : inN s n = inN s m := by
  induction n with
  | zero => obtain rfl : m = 0 := by omega
            rfl
  | succ n ih =>
    by_cases e : m = n + 1
    · rw [e]
    · show inN s n + (if 0 < s 1 n then 1 else 0) = _
      rw [if_neg (by have := h n (by omega) (by omega); omega), ih (fun k h1 h2 => h k h1 (by omega)) (by omega)]
      rfl
theorem dryN_cg {s s' : Sv} (h : ∀ p, s' 2 p = s 2 p ∧ s' 3 p = s 3 p) (k n : Nat) : dryN s' k n ↔ dryN s k n := by
  induction n with
  | zero => exact Iff.rfl
  | succ n ih =>
    show (dryN s' k n ∧ ¬ (s' 3 n = k + 1 ∧ 0 < s' 2 n)) ↔ (dryN s k n ∧ ¬ (s 3 n = k + 1 ∧ 0 < s 2 n))
    rw [ih, (h n).1, (h n).2]
theorem ld_cg {s s' : Sv} (h : ∀ p, s' 2 p = s 2 p ∧ s' 3 p = s 3 p ∧ s' 8 p = s 8 p) (k n : Nat) : ld s' k n = ld s k n := by
  induction n with
  | zero => rfl
  | succ n ih =>
    show ld s' k n + (if s' 3 n = k + 1 then s' 8 n + s' 2 n else 0) = ld s k n + (if s 3 n = k + 1 then s 8 n + s 2 n else 0)
    rw [ih, (h n).1, (h n).2.1, (h n).2.2]
/-- the laws don't look at what is drawn, at ranks and at the book -/
theorem ev_cg {s s' : Sv} (h : ∀ a j, ¬ (a = 4 ∧ (j = 1 ∨ j = 3)) → a ≠ 1 → a ≠ 5 → s' a j = s a j) (k m : Nat) : ev s' k m = ev s k m := by
  funext i
  unfold ev
  rw [ld_cg (fun p => ⟨h _ _ (by omega) (by omega) (by omega), h _ _ (by omega) (by omega) (by omega), h _ _ (by omega) (by omega) (by omega)⟩)]
  rw [h 4 0 (by omega) (by omega) (by omega), h 4 2 (by omega) (by omega) (by omega), h 0 k (by omega) (by omega) (by omega), h 10 _ (by omega) (by omega) (by omega), h 6 k (by omega) (by omega) (by omega), h 18 1 (by omega) (by omega) (by omega)]
theorem shd_cg {tx : Nat → Tx} {s s' : Sv} (h : ∀ a j, ¬ (a = 4 ∧ (j = 1 ∨ j = 3)) → a ≠ 1 → a ≠ 5 → s' a j = s a j) (k : Nat) : shd tx s' k = shd tx s k := by
  unfold shd
  rw [h 18 3 (by omega) (by omega) (by omega), ev_cg h, show s' 10 = s 10 from funext fun c => h 10 c (by omega) (by omega) (by omega)]
theorem lo1_le (s : Sv) (q : Nat) : ∀ r p, lo1 s q p r ≤ p + r
  | 0, p => Nat.zero_le _
  | r + 1, p => by
    show (if s 3 p = q then p + 1 else lo1 s q (p + 1) r) ≤ p + (r + 1)
    have := lo1_le s q r (p + 1)
    split <;> omega
theorem wr_o (s : Sv) (k : Nat) {a j : Nat} (h1 : a ≠ 5) (h2 : ¬ (a = 4 ∧ j = 3)) : wr s k a j = s a j := by
  unfold wr
  by_cases h30 : s 4 3 = 30
  · rw [if_pos h30]
    show (if a = 5 ∧ j < 29 then s 5 (j + 1) else if a = 5 ∧ j = 29 then en s k else s a j) = s a j
    rw [if_neg (by omega), if_neg (by omega)]
  · rw [if_neg h30, s2_if, if_neg (by omega), s2_if, if_neg (by omega)]
theorem wr_B {s : Sv} (B : GB s) {k : Nat} (hk : k < 5) (hr : 1 ≤ s 1 k) : GB (wr s k) := by
  obtain ⟨a1, a2, a3, a4, b, c, e⟩ := B.2.2.1
  have a4 : s 4 3 ≤ 30 := a4
  have a1 : s 4 0 ≤ 9999 := a1
  have hr5 : s 1 k ≤ 5 := (b k hk).2.1
  have en1 : en s k < 300000 ∧ 1 ≤ en s k % 6 := by unfold en; omega
  refine GB_rows B (fun a j ha => wr_o s k (by omega) (by omega)) ⟨?_, ?_, ?_, ?_, fun j hj => ?_, fun p hp => ?_, fun i hi => ?_⟩
  · rw [wr_o s k (by omega) (by omega)]; exact a1
  · rw [wr_o s k (by omega) (by omega)]; exact a2
  · rw [wr_o s k (by omega) (by omega)]; exact a3
  · show wr s k 4 3 ≤ 30
    unfold wr
    by_cases h30 : s 4 3 = 30
    · rw [if_pos h30]
      show (if 4 = 5 ∧ 3 < 29 then s 5 (3 + 1) else if 4 = 5 ∧ 3 = 29 then en s k else s 4 3) ≤ 30
      rw [if_neg (by omega), if_neg (by omega)]; exact a4
    · rw [if_neg h30, s2_s]; omega
  · rw [wr_o s k (by omega) (by omega), wr_o s k (by omega) (by omega)]; exact b j hj
  · rw [wr_o s k (by omega) (by omega), wr_o s k (by omega) (by omega)]; exact c p hp
  · have hi : i < wr s k 4 3 := hi
    show wr s k 5 i < 300000 ∧ 1 ≤ wr s k 5 i % 6
    unfold wr at hi ⊢
    by_cases h30 : s 4 3 = 30
    · rw [if_pos h30] at hi ⊢
      have hi : i < (if 4 = 5 ∧ 3 < 29 then s 5 (3 + 1) else if 4 = 5 ∧ 3 = 29 then en s k else s 4 3) := hi
      rw [if_neg (by omega), if_neg (by omega)] at hi
      show (if 5 = 5 ∧ i < 29 then s 5 (i + 1) else if 5 = 5 ∧ i = 29 then en s k else s 5 i) < 300000 ∧ 1 ≤ (if 5 = 5 ∧ i < 29 then s 5 (i + 1) else if 5 = 5 ∧ i = 29 then en s k else s 5 i) % 6
      by_cases il : i = 29
      · rw [if_neg (by omega), if_pos (by omega)]; exact en1
      · rw [if_pos (by omega)]; exact e (i + 1) (by show i + 1 < s 4 3; omega)
    · rw [if_neg h30] at hi ⊢
      rw [s2_s] at hi
      rw [s2_if, if_neg (by omega), s2_if]
      by_cases il : i = s 4 3
      · rw [if_pos (by omega)]; exact en1
      · rw [if_neg (by omega)]; exact e i (by show i < s 4 3; omega)
theorem pcs_le (tx : Nat → Tx) (s : Sv) (k m : Nat) : pcs tx s k m ≤ 3 := by
  unfold pcs
  cases lw tx (s 18 3) 0 with
  | none => show 1 + _ + _ ≤ 3; (repeat' split) <;> omega
  | some v => exact cl0_le _ _
theorem gp_B {wf : Bool} {tx : Nat → Tx} {u : Sv} (B : GB u) {k : Nat} (hk : k < u 18 0) (h0 : u 1 k = 0) : GB (gp wf tx u k) := by
  have b0 := B.1
  have B1 : GB (st2 u 0 k (min 11 (u 0 k + pcs tx u k 0))) := GB_up B (by omega) (by omega) (by omega) (by omega) (by omega) (by omega) (by omega) (by omega) (by omega) (by omega)
  have i5 := inN_lt u (n := 5) (k := k) (by omega) h0
  have e1 : (st2 u 0 k (min 11 (u 0 k + pcs tx u k 0))) 18 0 = u 18 0 := by rw [s2_if, if_neg (by omega)]
  have B2 : GB (st2 (st2 u 0 k (min 11 (u 0 k + pcs tx u k 0))) 1 k (inN u 5 + 1)) := GB_up B1 (by omega) (by omega) (by omega) (by omega) (by omega) (by omega) (by omega) (by omega) (by omega) (by omega)
  unfold gp
  split
  · split
    · exact wr_B B2 (by omega) (by rw [s2_s]; omega)
    · exact B2
  · exact B1
theorem gs_B {wf : Bool} {tx : Nat → Tx} {u : Sv} (B : GB u) {k : Nat} (hk : k < u 18 0) (h0 : u 1 k = 0) : GB (gs wf tx u k) := by
  have n0 := nx_lt (u 4 1)
  have B1 : GB (st2 u 4 1 (nx (u 4 1))) := GB_up B (by omega) (by omega) (by omega) (by omega) (by omega) (by omega) (by omega) (by omega) (by omega) (by omega)
  unfold gs
  split
  · exact gp_B B hk h0
  · split
    · exact GB_up B1 (by omega) (by omega) (by omega) (by omega) (by omega) (by omega) (by omega) (by omega) (by omega) (by omega)
    · exact gp_B B1 (by rw [s2_if, if_neg (by omega)]; exact hk) (by rw [s2_if, if_neg (by omega)]; exact h0)
theorem gp_o (wf : Bool) (tx : Nat → Tx) (u : Sv) (k : Nat) {a : Nat} (ha : 6 ≤ a) (j : Nat) : gp wf tx u k a j = u a j := by
  unfold gp
  (repeat' split) <;> first | (rw [wr_o _ _ (by omega) (by omega), s2_if, if_neg (by omega), s2_if, if_neg (by omega)]) | (rw [s2_if, if_neg (by omega), s2_if, if_neg (by omega)]) | (rw [s2_if, if_neg (by omega)])
theorem gs_o (wf : Bool) (tx : Nat → Tx) (u : Sv) (k : Nat) {a : Nat} (ha : 6 ≤ a) (j : Nat) : gs wf tx u k a j = u a j := by
  unfold gs
  (repeat' split) <;> first | (rw [gp_o _ _ _ _ ha, s2_if, if_neg (by omega)]) | (rw [gp_o _ _ _ _ ha]) | (rw [s2_if, if_neg (by omega), s2_if, if_neg (by omega)])
theorem go1_o (wf : Bool) (tx : Nat → Tx) (s : Sv) (k : Nat) {a : Nat} (ha : 6 ≤ a) (j : Nat) : go1 wf tx s k a j = s a j := by
  unfold go1
  rw [gs_o _ _ _ _ ha, dra_o _ _ _ _ (by omega)]
theorem hl_o (wf : Bool) (tx : Nat → Tx) (s : Sv) (n : Nat) {a : Nat} (ha : 6 ≤ a) (j : Nat) : hl wf tx s n a j = s a j := by
  induction n with
  | zero => rfl
  | succ n ih =>
    show (if hl wf tx s n 1 n = 0 then go1 wf tx (hl wf tx s n) n else hl wf tx s n) a j = s a j
    split
    · rw [go1_o _ _ _ _ ha, ih]
    · exact ih
theorem hl_B {wf : Bool} {tx : Nat → Tx} {s : Sv} (B : GB s) {n : Nat} (hn : n ≤ s 18 0) : GB (hl wf tx s n) := by
  induction n with
  | zero => exact B
  | succ n ih =>
    have ih := ih (by omega)
    show GB (if hl wf tx s n 1 n = 0 then go1 wf tx (hl wf tx s n) n else hl wf tx s n)
    split
    · rename_i h0
      unfold go1
      refine gs_B (dra_B ih n ih.2.1) ?_ ?_
      · rw [dra_o _ _ _ _ (by omega), hl_o _ _ _ _ (by omega)]; omega
      · rw [dra_o _ _ _ _ (by omega)]; exact h0
    · exact ih
theorem ps0_B {s : Sv} (B : GB s) : GB (ps0 s) := by
  have n0 := nx_lt (s 4 1)
  exact GB_up (GB_up B (by omega) (by omega) (by omega) (by omega) (by omega) (by omega) (by omega) (by omega) (by omega) (by omega)) (by omega) (by omega) (by omega) (by omega) (by omega) (by omega) (by omega) (by omega) (by omega) (by omega)
theorem ps0_o (s : Sv) {a j : Nat} (h : ¬ (a = 4 ∧ (j = 1 ∨ j = 2))) : ps0 s a j = s a j := by
  unfold ps0
  rw [s2_if, if_neg (by omega), s2_if, if_neg (by omega)]
theorem pas_o (wf : Bool) (tx : Nat → Tx) (s : Sv) {a : Nat} (ha : 6 ≤ a) (j : Nat) : pas wf tx s a j = s a j := by
  unfold pas
  rw [s2_if, if_neg (by omega), hl_o _ _ _ _ ha, ps0_o _ (by omega)]
/-- an hour leaves the hour's number alone till its end -/
theorem gp_h (wf : Bool) (tx : Nat → Tx) (u : Sv) (k : Nat) : gp wf tx u k 4 0 = u 4 0 := by
  unfold gp
  (repeat' split) <;> first | (rw [wr_o _ _ (by omega) (by omega), s2_if, if_neg (by omega), s2_if, if_neg (by omega)]) | (rw [s2_if, if_neg (by omega), s2_if, if_neg (by omega)]) | (rw [s2_if, if_neg (by omega)])
theorem go1_h (wf : Bool) (tx : Nat → Tx) (s : Sv) (k : Nat) : go1 wf tx s k 4 0 = s 4 0 := by
  unfold go1 gs
  (repeat' split) <;> first | (rw [gp_h, s2_if, if_neg (by omega), dra_o _ _ _ _ (by omega)]) | (rw [gp_h, dra_o _ _ _ _ (by omega)]) | (rw [s2_if, if_neg (by omega), s2_if, if_neg (by omega), dra_o _ _ _ _ (by omega)])
theorem hl_h (wf : Bool) (tx : Nat → Tx) (s : Sv) (n : Nat) : hl wf tx s n 4 0 = s 4 0 := by
  induction n with
  | zero => rfl
  | succ n ih =>
    show (if hl wf tx s n 1 n = 0 then go1 wf tx (hl wf tx s n) n else hl wf tx s n) 4 0 = s 4 0
    split
    · rw [go1_h, ih]
    · exact ih
theorem pas_B {wf : Bool} {tx : Nat → Tx} {s : Sv} (B : GB s) (h9 : s 4 0 < 9999) : GB (pas wf tx s) := by
  unfold pas
  have e0 : ps0 s 18 0 = s 18 0 := ps0_o _ (by omega)
  have Bh := hl_B (wf := wf) (tx := tx) (ps0_B B) (n := s 18 0) (by omega)
  have e1 : hl wf tx (ps0 s) (s 18 0) 4 0 = s 4 0 := by rw [hl_h, ps0_o _ (by omega)]
  exact GB_up Bh (by omega) (by omega) (by omega) (by omega) (by omega) (by omega) (by omega) (by omega) (by omega) (by omega)
theorem pas_h {wf : Bool} {tx : Nat → Tx} {s : Sv} : pas wf tx s 4 0 = s 4 0 + 1 := by
  unfold pas
  rw [s2_s, hl_h, ps0_o _ (by omega)]
