/-! ===== contracts: heats on the class's side, the sets are laid and a choice is found (mine) ===== -/
/-- the sets of a size below n, in order: how many, and which -/
def stC (size : Nat) : Nat → Nat
  | 0 => 0
  | v + 1 => if popc v = size then stC size v + 1 else stC size v
def stB (size : Nat) : Nat → Nat → Nat
  | 0 => fun _ => 0
  | v + 1 => if popc v = size then fun j => if j = stC size v then v else stB size v j else stB size v
/-- the least choice that meets all pairs, from the choice n downwards -/
def chs (mt : Nat → Nat) (due all : Nat) : Nat → Nat → Nat
  | 0, c => c
  | n + 1, c => chs mt due all n (if popc (n + 1) < popc c ∧ pmt mt (n + 1) all all = due then n + 1 else c)
theorem stC_b : ∀ n, n < 6 → ∀ z, z < 5 → 2 ≤ z → stC z (2 ^ n) ≤ 10 := by decide +kernel
theorem stC_mo (z : Nat) : ∀ r v, stC z v ≤ stC z (v + r) := by
  intro r
  induction r with
  | zero => intro v; exact Nat.le_refl _
  | succ r ih =>
    intro v
    refine Nat.le_trans (ih v) ?_
    show stC z (v + r) ≤ (if popc (v + r) = z then stC z (v + r) + 1 else stC z (v + r))
    split <;> omega
theorem popc_b : ∀ n : Fin 1024, popc n.val ≤ 10 := by decide +kernel
theorem chs_b (mt : Nat → Nat) (due all : Nat) : ∀ n c m, n < m → c < m → chs mt due all n c < m := by
  intro n
  induction n with
  | zero => intro c m _ h; exact h
  | succ n ih =>
    intro c m h1 h2
    show chs mt due all n _ < m
    refine ih _ m (by omega) ?_
    split <;> omega
