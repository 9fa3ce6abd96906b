/-! ===== what comes, as numbers: the book doesn't matter for it (mine) ===== -/
def AG (s t : Sv) : Prop := ∀ a k, a ≠ 5 → ¬ (a = 4 ∧ k = 3) → s a k = t a k
theorem AG_re (s : Sv) : AG s s := fun _ _ _ _ => rfl
theorem AG_st {s t : Sv} (A : AG s t) (a k v : Nat) : AG (st2 s a k v) (st2 t a k v) := by
  intro x j h1 h2
  rw [s2_if, s2_if, A x j h1 h2]
theorem AG_ev {s t : Sv} (A : AG s t) (k m : Nat) : ev s k m = ev t k m := ev_cg (fun a j h1 h2 h3 => A a j h3 (by omega)) k m
theorem AG_10 {s t : Sv} (A : AG s t) : s 10 = t 10 := funext fun c => A 10 c (by omega) (by omega)
theorem AG_evp {s t : Sv} (A : AG s t) (k p : Nat) : evp s k p = evp t k p := by
  funext i
  unfold evp
  rw [AG_ev A, A 7 p (by omega) (by omega), A 8 p (by omega) (by omega), A 2 p (by omega) (by omega)]
theorem AG_drs {tx : Nat → Tx} {s t : Sv} (A : AG s t) (x p k : Nat) : drs tx x s p k = drs tx x t p k := by
  unfold drs
  rw [AG_evp A, AG_10 A, A 4 2 (by omega) (by omega), A 0 k (by omega) (by omega)]
theorem AG_shd {tx : Nat → Tx} {s t : Sv} (A : AG s t) (k : Nat) : shd tx s k = shd tx t k := by
  unfold shd
  rw [AG_ev A, AG_10 A, A 18 3 (by omega) (by omega)]
theorem AG_pcs {tx : Nat → Tx} {s t : Sv} (A : AG s t) (k m : Nat) : pcs tx s k m = pcs tx t k m := by
  unfold pcs
  rw [AG_ev A, AG_10 A, A 18 3 (by omega) (by omega), A 6 k (by omega) (by omega), A 18 1 (by omega) (by omega), ld_cg (s := t) (fun p => ⟨A 2 p (by omega) (by omega), A 3 p (by omega) (by omega), A 8 p (by omega) (by omega)⟩)]
theorem AG_dra {tx : Nat → Tx} {s t : Sv} (A : AG s t) (k n : Nat) : AG (dra tx s k n) (dra tx t k n) := by
  induction n with
  | zero => exact A
  | succ n ih =>
    show AG (if dra tx s k n 3 n = k + 1 then st2 (dra tx s k n) 2 n (dra tx s k n 2 n - drs tx (dra tx s k n 18 3) (dra tx s k n) n k) else dra tx s k n) (if dra tx t k n 3 n = k + 1 then st2 (dra tx t k n) 2 n (dra tx t k n 2 n - drs tx (dra tx t k n 18 3) (dra tx t k n) n k) else dra tx t k n)
    rw [ih 3 n (by omega) (by omega), ih 2 n (by omega) (by omega), ih 18 3 (by omega) (by omega), AG_drs ih]
    split
    · exact AG_st ih _ _ _
    · exact ih
theorem AG_lo1 {s t : Sv} (A : AG s t) (q : Nat) : ∀ r p, lo1 s q p r = lo1 t q p r
  | 0, p => rfl
  | r + 1, p => by
    show (if s 3 p = q then p + 1 else lo1 s q (p + 1) r) = (if t 3 p = q then p + 1 else lo1 t q (p + 1) r)
    rw [A 3 p (by omega) (by omega), AG_lo1 A q r (p + 1)]
theorem AG_dry {s t : Sv} (A : AG s t) (k n : Nat) : dryb s k n = dryb t k n := by
  induction n with
  | zero => rfl
  | succ n ih =>
    show (dryb s k n && !(decide (s 3 n = k + 1) && decide (0 < s 2 n))) = (dryb t k n && !(decide (t 3 n = k + 1) && decide (0 < t 2 n)))
    rw [ih, A 3 n (by omega) (by omega), A 2 n (by omega) (by omega)]
theorem AG_gp {tx : Nat → Tx} {s t : Sv} (A : AG s t) (k : Nat) : AG (gp true tx s k) (gp false tx t k) := by
  unfold gp
  rw [AG_pcs A, AG_dry A, A 0 k (by omega) (by omega), A 18 1 (by omega) (by omega), inN_cg (s := t) (fun j => A 1 j (by omega) (by omega))]
  split
  · rw [if_pos rfl, if_neg (by decide)]
    intro a j h1 h2
    rw [wr_o _ _ h1 h2]
    exact AG_st (AG_st A _ _ _) _ _ _ a j h1 h2
  · exact AG_st A _ _ _
theorem AG_go1 {tx : Nat → Tx} {s t : Sv} (A : AG s t) (k : Nat) : AG (go1 true tx s k) (go1 false tx t k) := by
  unfold go1
  rw [A 18 1 (by omega) (by omega)]
  have A := AG_dra (tx := tx) A k (t 18 1)
  generalize dra tx s k (t 18 1) = u at A ⊢
  generalize dra tx t k (t 18 1) = v at A ⊢
  unfold gs
  rw [AG_lo1 A, AG_shd A, A 18 1 (by omega) (by omega), A 4 1 (by omega) (by omega)]
  split
  · exact AG_gp A k
  · split
    · exact AG_st (AG_st A _ _ _) _ _ _
    · exact AG_gp (AG_st A _ _ _) k
theorem AG_hl {tx : Nat → Tx} {s t : Sv} (A : AG s t) (n : Nat) : AG (hl true tx s n) (hl false tx t n) := by
  induction n with
  | zero => exact A
  | succ n ih =>
    show AG (if hl true tx s n 1 n = 0 then go1 true tx (hl true tx s n) n else hl true tx s n) (if hl false tx t n 1 n = 0 then go1 false tx (hl false tx t n) n else hl false tx t n)
    rw [ih 1 n (by omega) (by omega)]
    split
    · exact AG_go1 ih n
    · exact ih
theorem AG_pas {tx : Nat → Tx} {s t : Sv} (A : AG s t) : AG (pas true tx s) (pas false tx t) := by
  have A0 : AG (ps0 s) (ps0 t) := by
    unfold ps0
    rw [A 4 1 (by omega) (by omega)]
    exact AG_st (AG_st A _ _ _) _ _ _
  have A1 := AG_hl (tx := tx) A0 (t 18 0)
  unfold pas
  rw [A 18 0 (by omega) (by omega), A1 4 0 (by omega) (by omega)]
  exact AG_st A1 _ _ _
/-- what comes behind n hours, nothing else being done -/
def fts (wf : Bool) (tx : Nat → Tx) (s : Sv) : Nat → Sv
  | 0 => s
  | n + 1 => if fts wf tx s n 4 0 < 9999 then pas wf tx (fts wf tx s n) else fts wf tx s n
theorem fts_o (wf : Bool) (tx : Nat → Tx) (s : Sv) (n : Nat) {a : Nat} (ha : 6 ≤ a) (j : Nat) : fts wf tx s n a j = s a j := by
  induction n with
  | zero => rfl
  | succ n ih =>
    show (if fts wf tx s n 4 0 < 9999 then pas wf tx (fts wf tx s n) else fts wf tx s n) a j = _
    split
    · rw [pas_o _ _ _ ha, ih]
    · exact ih
theorem fts_B {wf : Bool} {tx : Nat → Tx} {s : Sv} (B : GB s) (n : Nat) : GB (fts wf tx s n) := by
  induction n with
  | zero => exact B
  | succ n ih =>
    show GB (if fts wf tx s n 4 0 < 9999 then pas wf tx (fts wf tx s n) else fts wf tx s n)
    split
    · exact pas_B ih (by assumption)
    · exact ih
theorem AG_fts (tx : Nat → Tx) (s : Sv) (n : Nat) : AG (fts true tx s n) (fts false tx s n) := by
  induction n with
  | zero => exact AG_re s
  | succ n ih =>
    show AG (if fts true tx s n 4 0 < 9999 then pas true tx (fts true tx s n) else fts true tx s n) (if fts false tx s n 4 0 < 9999 then pas false tx (fts false tx s n) else fts false tx s n)
    rw [ih 4 0 (by omega) (by omega)]
    split
    · exact AG_pas ih
    · exact ih
/-- hours till one is in -/
def wns (wf : Bool) (tx : Nat → Tx) (s : Sv) : Nat → Sv
  | 0 => s
  | n + 1 => if f1 (wns wf tx s n) 0 5 = 0 then (if wns wf tx s n 4 0 < 9999 then pas wf tx (wns wf tx s n) else wns wf tx s n) else wns wf tx s n
theorem wns_o (wf : Bool) (tx : Nat → Tx) (s : Sv) (n : Nat) {a : Nat} (ha : 6 ≤ a) (j : Nat) : wns wf tx s n a j = s a j := by
  induction n with
  | zero => rfl
  | succ n ih =>
    show (if f1 (wns wf tx s n) 0 5 = 0 then (if wns wf tx s n 4 0 < 9999 then pas wf tx (wns wf tx s n) else wns wf tx s n) else wns wf tx s n) a j = _
    (repeat' split) <;> first | (rw [pas_o _ _ _ ha, ih]) | exact ih
theorem wns_B {wf : Bool} {tx : Nat → Tx} {s : Sv} (B : GB s) (n : Nat) : GB (wns wf tx s n) := by
  induction n with
  | zero => exact B
  | succ n ih =>
    show GB (if f1 (wns wf tx s n) 0 5 = 0 then (if wns wf tx s n 4 0 < 9999 then pas wf tx (wns wf tx s n) else wns wf tx s n) else wns wf tx s n)
    (repeat' split) <;> first | exact pas_B ih (by assumption) | exact ih
theorem f1_cg {s t : Sv} (h : ∀ j, s 1 j = t 1 j) : ∀ r k, f1 s k r = f1 t k r
  | 0, k => rfl
  | r + 1, k => by
    show (if s 1 k = 1 then k + 1 else f1 s (k + 1) r) = (if t 1 k = 1 then k + 1 else f1 t (k + 1) r)
    rw [h k, f1_cg h r (k + 1)]
theorem AG_wns (tx : Nat → Tx) (s : Sv) (n : Nat) : AG (wns true tx s n) (wns false tx s n) := by
  induction n with
  | zero => exact AG_re s
  | succ n ih =>
    show AG (if f1 (wns true tx s n) 0 5 = 0 then (if wns true tx s n 4 0 < 9999 then pas true tx (wns true tx s n) else wns true tx s n) else wns true tx s n) (if f1 (wns false tx s n) 0 5 = 0 then (if wns false tx s n 4 0 < 9999 then pas false tx (wns false tx s n) else wns false tx s n) else wns false tx s n)
    rw [ih 4 0 (by omega) (by omega), f1_cg (t := wns false tx s n) (fun j => ih 1 j (by omega) (by omega))]
    (repeat' split) <;> first | exact AG_pas ih | exact ih
theorem wns_st {wf : Bool} {tx : Nat → Tx} {s : Sv} {n : Nat} (h : f1 (wns wf tx s n) 0 5 ≠ 0) : ∀ m, wns wf tx s (n + m) = wns wf tx s n
  | 0 => rfl
  | m + 1 => by
    have ih := wns_st h m
    show (if f1 (wns wf tx s (n + m)) 0 5 = 0 then (if wns wf tx s (n + m) 4 0 < 9999 then pas wf tx (wns wf tx s (n + m)) else wns wf tx s (n + m)) else wns wf tx s (n + m)) = _
    rw [ih, if_neg h]
/-- drying alone -/
def drn (tx : Nat → Tx) (s : Sv) (k : Nat) : Nat → Sv
  | 0 => s
  | n + 1 => dra tx (drn tx s k n) k (s 18 1)
theorem drn_o (tx : Nat → Tx) (s : Sv) (k n : Nat) {a : Nat} (ha : a ≠ 2) (j : Nat) : drn tx s k n a j = s a j := by
  induction n with
  | zero => rfl
  | succ n ih => show dra tx (drn tx s k n) k (s 18 1) a j = _; rw [dra_o _ _ _ _ ha, ih]
theorem drn_B {tx : Nat → Tx} {s : Sv} (B : GB s) (k n : Nat) : GB (drn tx s k n) := by
  induction n with
  | zero => exact B
  | succ n ih => exact dra_B ih k B.2.1
def dyF (tx : Nat → Tx) (s : Sv) (k : Nat) : Nat → Nat → Int32
  | 0, _ => -1
  | r + 1, n => if dryb (drn tx s k n) k (s 18 1) then nI n else dyF tx s k r (n + 1)
/-- with a sock of weight w behind b hours -/
def nbs (tx : Nat → Tx) (s : Sv) (k b w : Nat) : Nat → Sv
  | 0 => st2 s 0 k 0
  | n + 1 => st2 (dra tx (nbs tx s k b w n) k (s 18 1)) 0 k (min 11 (dra tx (nbs tx s k b w n) k (s 18 1) 0 k + pcs tx (dra tx (nbs tx s k b w n) k (s 18 1)) k (if b ≤ n then w else 0)))
theorem nbs_o (tx : Nat → Tx) (s : Sv) (k b w n : Nat) {a : Nat} (ha : a ≠ 2) (h0 : a ≠ 0) (j : Nat) : nbs tx s k b w n a j = s a j := by
  induction n with
  | zero => show st2 s 0 k 0 a j = _; rw [s2_if, if_neg (by omega)]
  | succ n ih =>
    show st2 (dra tx (nbs tx s k b w n) k (s 18 1)) 0 k _ a j = _
    rw [s2_if, if_neg (by omega), dra_o _ _ _ _ ha, ih]
theorem nbs_B {tx : Nat → Tx} {s : Sv} (B : GB s) {k : Nat} (hk : k < s 18 0) (b w n : Nat) : GB (nbs tx s k b w n) := by
  induction n with
  | zero => exact GB_up B (by omega) (by omega) (by omega) (by omega) (by omega) (by omega) (by omega) (by omega) (by omega) (by omega)
  | succ n ih =>
    have B1 := dra_B (tx := tx) ih k B.2.1
    have e : dra tx (nbs tx s k b w n) k (s 18 1) 18 0 = s 18 0 := by rw [dra_o _ _ _ _ (by omega), nbs_o _ _ _ _ _ _ (by omega) (by omega)]
    exact GB_up B1 (by omega) (by omega) (by omega) (by omega) (by omega) (by omega) (by omega) (by omega) (by omega) (by omega)
def agr (s : Sv) (n c : Nat) : Nat → Bool
  | 0 => true
  | i + 1 => agr s n c i && (!decide (s 14 i = n) || decide (s 15 i = c))
def nbb (tx : Nat → Tx) (s : Sv) (k b w : Nat) : Nat → Bool
  | 0 => true
  | n + 1 => nbb tx s k b w n && agr s (n + 1) (nbs tx s k b w (n + 1) 0 k) (s 18 5)
