/-! ===== bounds (mine) ===== -/
section WB
variable {s : Sv} (W : WF s)
theorem wb_n (W : WF s) : s 18 0 ≤ 5 ∧ s 18 1 ≤ 10 ∧ s 18 2 ≤ 4 ∧ s 18 3 ≤ s 18 2 ∧ s 18 4 ≤ 30 ∧ s 18 5 ≤ 6 ∧ s 18 6 ≤ 8 := W.1
theorem wb_g (W : WF s) : s 4 0 ≤ 9999 ∧ s 4 1 < 30707 ∧ s 4 2 ≤ 9 ∧ s 4 3 ≤ 30 := ⟨W.2.1.1, W.2.1.2.1, W.2.1.2.2.1, W.2.1.2.2.2.1⟩
theorem wb_h (W : WF s) {k : Nat} (hk : k < 5) : s 0 k ≤ 11 ∧ s 1 k ≤ 5 ∧ (s 18 0 ≤ k → s 0 k = 0 ∧ s 1 k = 0) := W.2.1.2.2.2.2.1 k hk
theorem wb_p (W : WF s) {p : Nat} (hp : p < 10) : s 2 p ≤ 20 ∧ s 3 p ≤ s 18 0 := W.2.1.2.2.2.2.2.1 p hp
theorem wb_b (W : WF s) {i : Nat} (hi : i < s 4 3) : s 5 i < 300000 ∧ 1 ≤ s 5 i % 6 := W.2.1.2.2.2.2.2.2 i hi
theorem wb_hin (W : WF s) {k : Nat} (hk : k < 5) : s 6 k ≤ 9 := W.2.2.1 k hk
theorem wb_told (W : WF s) {p : Nat} (hp : p < 10) : s 7 p ≤ 3 ∧ s 8 p ≤ 9 ∧ s 9 p ≤ 20 := W.2.2.2.1 p hp
theorem wb_win (W : WF s) {k : Nat} (hk : k < 12) : s 10 k ≤ 9 := W.2.2.2.2.1 k hk
theorem wb_odd (W : WF s) {k : Nat} (hk : k < 5) : 2 ≤ s 11 k ∧ s 11 k ≤ 20 := W.2.2.2.2.2.1.1 k hk
theorem wb_bea (W : WF s) {k : Nat} (hk : k < 25) : s 12 k ≤ 99 := W.2.2.2.2.2.1.2.1 k hk
theorem wb_str (W : WF s) {k : Nat} (hk : k < 5) : 1 ≤ s 13 k ∧ s 13 k ≤ 20 := W.2.2.2.2.2.1.2.2 k hk
theorem wb_see (W : WF s) {k : Nat} (hk : k < 6) : s 14 k ≤ 12 ∧ s 15 k ≤ 11 := W.2.2.2.2.2.2.1.1 k hk
theorem wb_sai (W : WF s) {k : Nat} (hk : k < s 18 6) : s 16 k < s 18 1 := W.2.2.2.2.2.2.1.2.1 k hk
theorem wb_sad (W : WF s) {k : Nat} (hk : k < 8) : s 17 k ≤ 20 := W.2.2.2.2.2.2.1.2.2 k hk
theorem wb_row (W : WF s) {j : Nat} (hj : j < s 18 4) : s (1000 + 10 * j + 4) 4 ≤ s 18 1 ∧ GW (s 18 0) s (1000 + 10 * j) := W.2.2.2.2.2.2.2 j hj
end WB
