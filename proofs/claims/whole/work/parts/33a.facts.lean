/-! ===== the relations, fact by fact (mine) ===== -/
section FA
variable {h : Hp} {b : Nat} {s : Sv}
theorem ms_n0 (M : MS h b s) : ab_I h b 0 = nI (s 18 0) := M.1 0 (by decide) (by decide)
theorem ms_n1 (M : MS h b s) : ab_I h b 1 = nI (s 18 1) := M.1 1 (by decide) (by decide)
theorem ms_n2 (M : MS h b s) : ab_I h b 2 = nI (s 18 2) := M.1 2 (by decide) (by decide)
theorem ms_n4 (M : MS h b s) : ab_I h b 4 = nI (s 18 4) := M.1 4 (by decide) (by decide)
theorem ms_n5 (M : MS h b s) : ab_I h b 5 = nI (s 18 5) := M.1 5 (by decide) (by decide)
theorem ms_n6 (M : MS h b s) : ab_I h b 6 = nI (s 18 6) := M.1 6 (by decide) (by decide)
theorem ms_g0 (M : MS h b s) : ab_I h b 7 = nI (s 4 0) := M.1 7 (by decide) (by decide)
theorem ms_g1 (M : MS h b s) : ab_I h b 8 = nI (s 4 1) := M.1 8 (by decide) (by decide)
theorem ms_g2 (M : MS h b s) : ab_I h b 9 = nI (s 4 2) := M.1 9 (by decide) (by decide)
theorem ms_g3 (M : MS h b s) : ab_I h b 10 = nI (s 4 3) := M.1 10 (by decide) (by decide)
theorem ms_cel (M : MS h b s) {k : Nat} (hk : k < 5) : ab_I h b (11 + 2 * k) = nI (s 0 (k)) := by
  have e : ∀ k, k < 5 → (ya (11 + 2 * k) = 0 ∧ yk (11 + 2 * k) = k ∧ 11 + 2 * k < 2131) := by decide
  have q := e k hk
  rw [M.1 _ q.2.2 (by omega), q.1, q.2.1]
theorem ms_ran (M : MS h b s) {k : Nat} (hk : k < 5) : ab_I h b (11 + 2 * k + 1) = nI (s 1 (k)) := by
  have e : ∀ k, k < 5 → (ya (11 + 2 * k + 1) = 1 ∧ yk (11 + 2 * k + 1) = k ∧ 11 + 2 * k + 1 < 2131) := by decide
  have q := e k hk
  rw [M.1 _ q.2.2 (by omega), q.1, q.2.1]
theorem ms_wet (M : MS h b s) {k : Nat} (hk : k < 10) : ab_I h b (21 + 2 * k) = nI (s 2 (k)) := by
  have e : ∀ k, k < 10 → (ya (21 + 2 * k) = 2 ∧ yk (21 + 2 * k) = k ∧ 21 + 2 * k < 2131) := by decide
  have q := e k hk
  rw [M.1 _ q.2.2 (by omega), q.1, q.2.1]
theorem ms_on (M : MS h b s) {k : Nat} (hk : k < 10) : ab_I h b (21 + 2 * k + 1) = nI (s 3 (k)) := by
  have e : ∀ k, k < 10 → (ya (21 + 2 * k + 1) = 3 ∧ yk (21 + 2 * k + 1) = k ∧ 21 + 2 * k + 1 < 2131) := by decide
  have q := e k hk
  rw [M.1 _ q.2.2 (by omega), q.1, q.2.1]
theorem ms_hin (M : MS h b s) {k : Nat} (hk : k < 5) : ab_I h b (41 + k) = nI (s 6 (k)) := by
  have e : ∀ k, k < 5 → (ya (41 + k) = 6 ∧ yk (41 + k) = k ∧ 41 + k < 2131) := by decide
  have q := e k hk
  rw [M.1 _ q.2.2 (by omega), q.1, q.2.1]
theorem ms_stu (M : MS h b s) {k : Nat} (hk : k < 10) : ab_I h b (46 + 3 * k) = nI (s 7 (k)) := by
  have e : ∀ k, k < 10 → (ya (46 + 3 * k) = 7 ∧ yk (46 + 3 * k) = k ∧ 46 + 3 * k < 2131) := by decide
  have q := e k hk
  rw [M.1 _ q.2.2 (by omega), q.1, q.2.1]
theorem ms_wei (M : MS h b s) {k : Nat} (hk : k < 10) : ab_I h b (46 + 3 * k + 1) = nI (s 8 (k)) := by
  have e : ∀ k, k < 10 → (ya (46 + 3 * k + 1) = 8 ∧ yk (46 + 3 * k + 1) = k ∧ 46 + 3 * k + 1 < 2131) := by decide
  have q := e k hk
  rw [M.1 _ q.2.2 (by omega), q.1, q.2.1]
theorem ms_twe (M : MS h b s) {k : Nat} (hk : k < 10) : ab_I h b (46 + 3 * k + 2) = nI (s 9 (k)) := by
  have e : ∀ k, k < 10 → (ya (46 + 3 * k + 2) = 9 ∧ yk (46 + 3 * k + 2) = k ∧ 46 + 3 * k + 2 < 2131) := by decide
  have q := e k hk
  rw [M.1 _ q.2.2 (by omega), q.1, q.2.1]
theorem ms_win (M : MS h b s) {k : Nat} (hk : k < 12) : ab_I h b (76 + k) = nI (s 10 (k)) := by
  have e : ∀ k, k < 12 → (ya (76 + k) = 10 ∧ yk (76 + k) = k ∧ 76 + k < 2131) := by decide
  have q := e k hk
  rw [M.1 _ q.2.2 (by omega), q.1, q.2.1]
theorem ms_odd (M : MS h b s) {k : Nat} (hk : k < 5) : ab_I h b (88 + k) = nI (s 11 (k)) := by
  have e : ∀ k, k < 5 → (ya (88 + k) = 11 ∧ yk (88 + k) = k ∧ 88 + k < 2131) := by decide
  have q := e k hk
  rw [M.1 _ q.2.2 (by omega), q.1, q.2.1]
theorem ms_bea (M : MS h b s) {k j : Nat} (hk : k < 5) (hj : j < 5) : ab_I h b (93 + 5 * k + j) = nI (s 12 (5 * k + j)) := by
  have e : ∀ k, k < 5 → ∀ j, j < 5 → (ya (93 + 5 * k + j) = 12 ∧ yk (93 + 5 * k + j) = 5 * k + j ∧ 93 + 5 * k + j < 2131) := by decide
  have q := e k hk j hj
  rw [M.1 _ q.2.2 (by omega), q.1, q.2.1]
theorem ms_str (M : MS h b s) {k : Nat} (hk : k < 5) : ab_I h b (118 + k) = nI (s 13 (k)) := by
  have e : ∀ k, k < 5 → (ya (118 + k) = 13 ∧ yk (118 + k) = k ∧ 118 + k < 2131) := by decide
  have q := e k hk
  rw [M.1 _ q.2.2 (by omega), q.1, q.2.1]
theorem ms_sh (M : MS h b s) {k : Nat} (hk : k < 6) : ab_I h b (123 + 2 * k) = nI (s 14 (k)) := by
  have e : ∀ k, k < 6 → (ya (123 + 2 * k) = 14 ∧ yk (123 + 2 * k) = k ∧ 123 + 2 * k < 2131) := by decide
  have q := e k hk
  rw [M.1 _ q.2.2 (by omega), q.1, q.2.1]
theorem ms_sc (M : MS h b s) {k : Nat} (hk : k < 6) : ab_I h b (123 + 2 * k + 1) = nI (s 15 (k)) := by
  have e : ∀ k, k < 6 → (ya (123 + 2 * k + 1) = 15 ∧ yk (123 + 2 * k + 1) = k ∧ 123 + 2 * k + 1 < 2131) := by decide
  have q := e k hk
  rw [M.1 _ q.2.2 (by omega), q.1, q.2.1]
theorem ms_sp (M : MS h b s) {k : Nat} (hk : k < 8) : ab_I h b (135 + 2 * k) = nI (s 16 (k)) := by
  have e : ∀ k, k < 8 → (ya (135 + 2 * k) = 16 ∧ yk (135 + 2 * k) = k ∧ 135 + 2 * k < 2131) := by decide
  have q := e k hk
  rw [M.1 _ q.2.2 (by omega), q.1, q.2.1]
theorem ms_sd (M : MS h b s) {k : Nat} (hk : k < 8) : ab_I h b (135 + 2 * k + 1) = nI (s 17 (k)) := by
  have e : ∀ k, k < 8 → (ya (135 + 2 * k + 1) = 17 ∧ yk (135 + 2 * k + 1) = k ∧ 135 + 2 * k + 1 < 2131) := by decide
  have q := e k hk
  rw [M.1 _ q.2.2 (by omega), q.1, q.2.1]
theorem ms_boo (M : MS h b s) {k : Nat} (hk : k < 30) : ab_I h b (2101 + k) = nI (s 5 (k)) := by
  have e : ∀ k, k < 30 → (ya (2101 + k) = 5 ∧ yk (2101 + k) = k ∧ 2101 + k < 2131) := by decide
  have q := e k hk
  rw [M.1 _ q.2.2 (by omega), q.1, q.2.1]
theorem mu_n0 (M : MS h b s) (v : Nat) : MS (ab_sI h b 0 (nI v)) b (st2 s 18 0 v) := MS_up M (o := 0) (by decide) (by decide) v
theorem mu_n1 (M : MS h b s) (v : Nat) : MS (ab_sI h b 1 (nI v)) b (st2 s 18 1 v) := MS_up M (o := 1) (by decide) (by decide) v
theorem mu_n2 (M : MS h b s) (v : Nat) : MS (ab_sI h b 2 (nI v)) b (st2 s 18 2 v) := MS_up M (o := 2) (by decide) (by decide) v
theorem mu_n4 (M : MS h b s) (v : Nat) : MS (ab_sI h b 4 (nI v)) b (st2 s 18 4 v) := MS_up M (o := 4) (by decide) (by decide) v
theorem mu_n5 (M : MS h b s) (v : Nat) : MS (ab_sI h b 5 (nI v)) b (st2 s 18 5 v) := MS_up M (o := 5) (by decide) (by decide) v
theorem mu_n6 (M : MS h b s) (v : Nat) : MS (ab_sI h b 6 (nI v)) b (st2 s 18 6 v) := MS_up M (o := 6) (by decide) (by decide) v
theorem mu_g0 (M : MS h b s) (v : Nat) : MS (ab_sI h b 7 (nI v)) b (st2 s 4 0 v) := MS_up M (o := 7) (by decide) (by decide) v
theorem mu_g1 (M : MS h b s) (v : Nat) : MS (ab_sI h b 8 (nI v)) b (st2 s 4 1 v) := MS_up M (o := 8) (by decide) (by decide) v
theorem mu_g2 (M : MS h b s) (v : Nat) : MS (ab_sI h b 9 (nI v)) b (st2 s 4 2 v) := MS_up M (o := 9) (by decide) (by decide) v
theorem mu_g3 (M : MS h b s) (v : Nat) : MS (ab_sI h b 10 (nI v)) b (st2 s 4 3 v) := MS_up M (o := 10) (by decide) (by decide) v
theorem mu_cel (M : MS h b s) {k : Nat} (hk : k < 5) (v : Nat) : MS (ab_sI h b (11 + 2 * k) (nI v)) b (st2 s 0 (k) v) := by
  have e : ∀ k, k < 5 → (ya (11 + 2 * k) = 0 ∧ yk (11 + 2 * k) = k ∧ 11 + 2 * k < 2131) := by decide
  have q := e k hk
  have p := MS_up M q.2.2 (by omega) v
  rw [q.1, q.2.1] at p
  exact p
theorem mu_ran (M : MS h b s) {k : Nat} (hk : k < 5) (v : Nat) : MS (ab_sI h b (11 + 2 * k + 1) (nI v)) b (st2 s 1 (k) v) := by
  have e : ∀ k, k < 5 → (ya (11 + 2 * k + 1) = 1 ∧ yk (11 + 2 * k + 1) = k ∧ 11 + 2 * k + 1 < 2131) := by decide
  have q := e k hk
  have p := MS_up M q.2.2 (by omega) v
  rw [q.1, q.2.1] at p
  exact p
theorem mu_wet (M : MS h b s) {k : Nat} (hk : k < 10) (v : Nat) : MS (ab_sI h b (21 + 2 * k) (nI v)) b (st2 s 2 (k) v) := by
  have e : ∀ k, k < 10 → (ya (21 + 2 * k) = 2 ∧ yk (21 + 2 * k) = k ∧ 21 + 2 * k < 2131) := by decide
  have q := e k hk
  have p := MS_up M q.2.2 (by omega) v
  rw [q.1, q.2.1] at p
  exact p
theorem mu_on (M : MS h b s) {k : Nat} (hk : k < 10) (v : Nat) : MS (ab_sI h b (21 + 2 * k + 1) (nI v)) b (st2 s 3 (k) v) := by
  have e : ∀ k, k < 10 → (ya (21 + 2 * k + 1) = 3 ∧ yk (21 + 2 * k + 1) = k ∧ 21 + 2 * k + 1 < 2131) := by decide
  have q := e k hk
  have p := MS_up M q.2.2 (by omega) v
  rw [q.1, q.2.1] at p
  exact p
theorem mu_hin (M : MS h b s) {k : Nat} (hk : k < 5) (v : Nat) : MS (ab_sI h b (41 + k) (nI v)) b (st2 s 6 (k) v) := by
  have e : ∀ k, k < 5 → (ya (41 + k) = 6 ∧ yk (41 + k) = k ∧ 41 + k < 2131) := by decide
  have q := e k hk
  have p := MS_up M q.2.2 (by omega) v
  rw [q.1, q.2.1] at p
  exact p
theorem mu_stu (M : MS h b s) {k : Nat} (hk : k < 10) (v : Nat) : MS (ab_sI h b (46 + 3 * k) (nI v)) b (st2 s 7 (k) v) := by
  have e : ∀ k, k < 10 → (ya (46 + 3 * k) = 7 ∧ yk (46 + 3 * k) = k ∧ 46 + 3 * k < 2131) := by decide
  have q := e k hk
  have p := MS_up M q.2.2 (by omega) v
  rw [q.1, q.2.1] at p
  exact p
theorem mu_wei (M : MS h b s) {k : Nat} (hk : k < 10) (v : Nat) : MS (ab_sI h b (46 + 3 * k + 1) (nI v)) b (st2 s 8 (k) v) := by
  have e : ∀ k, k < 10 → (ya (46 + 3 * k + 1) = 8 ∧ yk (46 + 3 * k + 1) = k ∧ 46 + 3 * k + 1 < 2131) := by decide
  have q := e k hk
  have p := MS_up M q.2.2 (by omega) v
  rw [q.1, q.2.1] at p
  exact p
theorem mu_twe (M : MS h b s) {k : Nat} (hk : k < 10) (v : Nat) : MS (ab_sI h b (46 + 3 * k + 2) (nI v)) b (st2 s 9 (k) v) := by
  have e : ∀ k, k < 10 → (ya (46 + 3 * k + 2) = 9 ∧ yk (46 + 3 * k + 2) = k ∧ 46 + 3 * k + 2 < 2131) := by decide
  have q := e k hk
  have p := MS_up M q.2.2 (by omega) v
  rw [q.1, q.2.1] at p
  exact p
theorem mu_win (M : MS h b s) {k : Nat} (hk : k < 12) (v : Nat) : MS (ab_sI h b (76 + k) (nI v)) b (st2 s 10 (k) v) := by
  have e : ∀ k, k < 12 → (ya (76 + k) = 10 ∧ yk (76 + k) = k ∧ 76 + k < 2131) := by decide
  have q := e k hk
  have p := MS_up M q.2.2 (by omega) v
  rw [q.1, q.2.1] at p
  exact p
theorem mu_odd (M : MS h b s) {k : Nat} (hk : k < 5) (v : Nat) : MS (ab_sI h b (88 + k) (nI v)) b (st2 s 11 (k) v) := by
  have e : ∀ k, k < 5 → (ya (88 + k) = 11 ∧ yk (88 + k) = k ∧ 88 + k < 2131) := by decide
  have q := e k hk
  have p := MS_up M q.2.2 (by omega) v
  rw [q.1, q.2.1] at p
  exact p
theorem mu_bea (M : MS h b s) {k j : Nat} (hk : k < 5) (hj : j < 5) (v : Nat) : MS (ab_sI h b (93 + 5 * k + j) (nI v)) b (st2 s 12 (5 * k + j) v) := by
  have e : ∀ k, k < 5 → ∀ j, j < 5 → (ya (93 + 5 * k + j) = 12 ∧ yk (93 + 5 * k + j) = 5 * k + j ∧ 93 + 5 * k + j < 2131) := by decide
  have q := e k hk j hj
  have p := MS_up M q.2.2 (by omega) v
  rw [q.1, q.2.1] at p
  exact p
theorem mu_str (M : MS h b s) {k : Nat} (hk : k < 5) (v : Nat) : MS (ab_sI h b (118 + k) (nI v)) b (st2 s 13 (k) v) := by
  have e : ∀ k, k < 5 → (ya (118 + k) = 13 ∧ yk (118 + k) = k ∧ 118 + k < 2131) := by decide
  have q := e k hk
  have p := MS_up M q.2.2 (by omega) v
  rw [q.1, q.2.1] at p
  exact p
theorem mu_sh (M : MS h b s) {k : Nat} (hk : k < 6) (v : Nat) : MS (ab_sI h b (123 + 2 * k) (nI v)) b (st2 s 14 (k) v) := by
  have e : ∀ k, k < 6 → (ya (123 + 2 * k) = 14 ∧ yk (123 + 2 * k) = k ∧ 123 + 2 * k < 2131) := by decide
  have q := e k hk
  have p := MS_up M q.2.2 (by omega) v
  rw [q.1, q.2.1] at p
  exact p
theorem mu_sc (M : MS h b s) {k : Nat} (hk : k < 6) (v : Nat) : MS (ab_sI h b (123 + 2 * k + 1) (nI v)) b (st2 s 15 (k) v) := by
  have e : ∀ k, k < 6 → (ya (123 + 2 * k + 1) = 15 ∧ yk (123 + 2 * k + 1) = k ∧ 123 + 2 * k + 1 < 2131) := by decide
  have q := e k hk
  have p := MS_up M q.2.2 (by omega) v
  rw [q.1, q.2.1] at p
  exact p
theorem mu_sp (M : MS h b s) {k : Nat} (hk : k < 8) (v : Nat) : MS (ab_sI h b (135 + 2 * k) (nI v)) b (st2 s 16 (k) v) := by
  have e : ∀ k, k < 8 → (ya (135 + 2 * k) = 16 ∧ yk (135 + 2 * k) = k ∧ 135 + 2 * k < 2131) := by decide
  have q := e k hk
  have p := MS_up M q.2.2 (by omega) v
  rw [q.1, q.2.1] at p
  exact p
theorem mu_sd (M : MS h b s) {k : Nat} (hk : k < 8) (v : Nat) : MS (ab_sI h b (135 + 2 * k + 1) (nI v)) b (st2 s 17 (k) v) := by
  have e : ∀ k, k < 8 → (ya (135 + 2 * k + 1) = 17 ∧ yk (135 + 2 * k + 1) = k ∧ 135 + 2 * k + 1 < 2131) := by decide
  have q := e k hk
  have p := MS_up M q.2.2 (by omega) v
  rw [q.1, q.2.1] at p
  exact p
theorem mu_boo (M : MS h b s) {k : Nat} (hk : k < 30) (v : Nat) : MS (ab_sI h b (2101 + k) (nI v)) b (st2 s 5 (k) v) := by
  have e : ∀ k, k < 30 → (ya (2101 + k) = 5 ∧ yk (2101 + k) = k ∧ 2101 + k < 2131) := by decide
  have q := e k hk
  have p := MS_up M q.2.2 (by omega) v
  rw [q.1, q.2.1] at p
  exact p
theorem c_n0 (C : CR h 7 16 29 37 s)  : ab_I h 7 0 = nI (s 18 0) := C.1.1.1
theorem c_n1 (C : CR h 7 16 29 37 s)  : ab_I h 7 2 = nI (s 18 1) := C.1.1.2.1
theorem c_n2 (C : CR h 7 16 29 37 s)  : ab_I h 7 7 = nI (s 18 2) := C.1.1.2.2.1
theorem c_n3 (C : CR h 7 16 29 37 s)  : ab_I h 7 9 = nI (s 18 3) - 1 := C.1.1.2.2.2
theorem c_hin (C : CR h 7 16 29 37 s) {k : Nat} (hk : k < 5) : ab_I h 8 k = nI (s 6 k) := C.1.2.1 k hk
theorem c_stu (C : CR h 7 16 29 37 s) {k : Nat} (hk : k < 10) : ab_I h 9 k = nI (s 7 k) := (C.1.2.2.1 k hk).1
theorem c_wei (C : CR h 7 16 29 37 s) {k : Nat} (hk : k < 10) : ab_I h 10 k = nI (s 8 k) := (C.1.2.2.1 k hk).2.1
theorem c_twe (C : CR h 7 16 29 37 s) {k : Nat} (hk : k < 10) : ab_I h 11 k = nI (s 9 k) := (C.1.2.2.1 k hk).2.2
theorem c_win (C : CR h 7 16 29 37 s) {k : Nat} (hk : k < 12) : ab_I h 12 k = nI (s 10 k) := C.1.2.2.2 k hk
theorem c_n5 (C : CR h 7 16 29 37 s)  : ab_I h 16 3 = nI (s 18 5) := C.2.1.1.1
theorem c_n6 (C : CR h 7 16 29 37 s)  : ab_I h 16 6 = nI (s 18 6) := C.2.1.1.2
theorem c_odd (C : CR h 7 16 29 37 s) {k : Nat} (hk : k < 5) : ab_I h 17 k = nI (s 11 k) := (C.2.1.2.1 k hk).1
theorem c_str (C : CR h 7 16 29 37 s) {k : Nat} (hk : k < 5) : ab_I h 24 k = nI (s 13 k) := (C.2.1.2.1 k hk).2
theorem c_bea (C : CR h 7 16 29 37 s) {k j : Nat} (hk : k < 5) (hj : j < 5) : ab_I h (19 + k) j = nI (s 12 (5 * k + j)) := C.2.1.2.2.1 k j hk hj
theorem c_sh (C : CR h 7 16 29 37 s) {k : Nat} (hk : k < 6) : ab_I h 25 k = nI (s 14 k) := (C.2.1.2.2.2.1 k hk).1
theorem c_sc (C : CR h 7 16 29 37 s) {k : Nat} (hk : k < 6) : ab_I h 26 k = nI (s 15 k) := (C.2.1.2.2.2.1 k hk).2
theorem c_sp (C : CR h 7 16 29 37 s) {k : Nat} (hk : k < 8) : ab_I h 27 k = nI (s 16 k) := (C.2.1.2.2.2.2 k hk).1
theorem c_sd (C : CR h 7 16 29 37 s) {k : Nat} (hk : k < 8) : ab_I h 28 k = nI (s 17 k) := (C.2.1.2.2.2.2 k hk).2
theorem c_kn (C : CR h 7 16 29 37 s)  : ab_I h 29 4 = nI (s 18 1) := C.2.2.1.1.1
theorem c_sun (C : CR h 7 16 29 37 s)  : ab_I h 29 5 = nI (s 4 2) := C.2.2.1.1.2.1
theorem c_hou (C : CR h 7 16 29 37 s)  : ab_I h 29 6 = nI (s 4 0) := C.2.2.1.1.2.2.1
theorem c_x (C : CR h 7 16 29 37 s)  : ab_I h 29 7 = nI (s 4 1) := C.2.2.1.1.2.2.2.1
theorem c_wr (C : CR h 7 16 29 37 s)  : ab_I h 29 8 = nI (s 4 3) := C.2.2.1.1.2.2.2.2.1
theorem c_cel (C : CR h 7 16 29 37 s) {k : Nat} (hk : k < 5) : ab_I h 30 k = nI (s 0 k) := (C.2.2.1.2.1 k hk).1
theorem c_ran (C : CR h 7 16 29 37 s) {k : Nat} (hk : k < 5) : ab_I h 31 k = nI (s 1 k) := (C.2.2.1.2.1 k hk).2
theorem c_wet (C : CR h 7 16 29 37 s) {k : Nat} (hk : k < 10) : ab_I h 32 k = nI (s 2 k) := (C.2.2.1.2.2.1 k hk).1
theorem c_on (C : CR h 7 16 29 37 s) {k : Nat} (hk : k < 10) : ab_I h 33 k = nI (s 3 k) - 1 := (C.2.2.1.2.2.1 k hk).2
theorem c_b0 (C : CR h 7 16 29 37 s) {k : Nat} (hk : k < s 4 3) : ab_I h 34 k = nI (s 5 k / 30) := (C.2.2.1.2.2.2 k hk).1
theorem c_b1 (C : CR h 7 16 29 37 s) {k : Nat} (hk : k < s 4 3) : ab_I h 35 k = nI (s 5 k / 6 % 5) := (C.2.2.1.2.2.2 k hk).2.1
theorem c_b2 (C : CR h 7 16 29 37 s) {k : Nat} (hk : k < s 4 3) : ab_I h 36 k = nI (s 5 k % 6) := (C.2.2.1.2.2.2 k hk).2.2
theorem c_n4 (C : CR h 7 16 29 37 s)  : ab_I h 37 2 = nI (s 18 4) := C.2.2.2.1
theorem g_kn {g kn : Nat} (G : GR h g kn s 0)  : ab_I h g 4 = nI kn := G.1.1
theorem g_sun {g kn : Nat} (G : GR h g kn s 0)  : ab_I h g 5 = nI (s 4 2) := G.1.2.1
theorem g_hou {g kn : Nat} (G : GR h g kn s 0)  : ab_I h g 6 = nI (s 4 0) := G.1.2.2.1
theorem g_x {g kn : Nat} (G : GR h g kn s 0)  : ab_I h g 7 = nI (s 4 1) := G.1.2.2.2.1
theorem g_wr {g kn : Nat} (G : GR h g kn s 0)  : ab_I h g 8 = nI (s 4 3) := G.1.2.2.2.2.1
theorem g_cel {g kn : Nat} (G : GR h g kn s 0) {k : Nat} (hk : k < 5) : ab_I h (g + 1) k = nI (s 0 k) := (G.2.1 k hk).1
theorem g_ran {g kn : Nat} (G : GR h g kn s 0) {k : Nat} (hk : k < 5) : ab_I h (g + 2) k = nI (s 1 k) := (G.2.1 k hk).2
theorem g_wet {g kn : Nat} (G : GR h g kn s 0) {k : Nat} (hk : k < 10) : ab_I h (g + 3) k = nI (s 2 k) := (G.2.2.1 k hk).1
theorem g_on {g kn : Nat} (G : GR h g kn s 0) {k : Nat} (hk : k < 10) : ab_I h (g + 4) k = nI (s 3 k) - 1 := (G.2.2.1 k hk).2
theorem g_b0 {g kn : Nat} (G : GR h g kn s 0) {k : Nat} (hk : k < s 4 3) : ab_I h (g + 5) k = nI (s 5 k / 30) := (G.2.2.2 k hk).1
theorem g_b1 {g kn : Nat} (G : GR h g kn s 0) {k : Nat} (hk : k < s 4 3) : ab_I h (g + 6) k = nI (s 5 k / 6 % 5) := (G.2.2.2 k hk).2.1
theorem g_b2 {g kn : Nat} (G : GR h g kn s 0) {k : Nat} (hk : k < s 4 3) : ab_I h (g + 7) k = nI (s 5 k % 6) := (G.2.2.2 k hk).2.2
end FA
/-- the cells of a green -/
def GSh (h : Hp) (g : Nat) : Prop := (ab_K h g = 1 ∧ ab_K h (g + 1) = 13 ∧ ab_K h (g + 2) = 13 ∧ ab_K h (g + 3) = 13 ∧ ab_K h (g + 4) = 13 ∧ ab_K h (g + 5) = 13 ∧ ab_K h (g + 6) = 13 ∧ ab_K h (g + 7) = 13) ∧ (ab_R h g 0 = some (g + 1) ∧ ab_R h g 1 = some (g + 2) ∧ ab_R h g 2 = some (g + 3) ∧ ab_R h g 3 = some (g + 4) ∧ ab_R h g 9 = some (g + 5) ∧ ab_R h g 10 = some (g + 6) ∧ ab_R h g 11 = some (g + 7)) ∧ (ab_L h (g + 1) = 5 ∧ ab_L h (g + 2) = 5 ∧ ab_L h (g + 3) = 10 ∧ ab_L h (g + 4) = 10 ∧ ab_L h (g + 5) = 30 ∧ ab_L h (g + 6) = 30 ∧ ab_L h (g + 7) = 30)
def tG (g : Nat) : Bool := (tK g == 1) && (tK (g + 1) == 13) && (tK (g + 2) == 13) && (tK (g + 3) == 13) && (tK (g + 4) == 13) && (tK (g + 5) == 13) && (tK (g + 6) == 13) && (tK (g + 7) == 13) && (tR g 0 == some (g + 1)) && (tR g 1 == some (g + 2)) && (tR g 2 == some (g + 3)) && (tR g 3 == some (g + 4)) && (tR g 9 == some (g + 5)) && (tR g 10 == some (g + 6)) && (tR g 11 == some (g + 7)) && (tL (g + 1) == 5) && (tL (g + 2) == 5) && (tL (g + 3) == 10) && (tL (g + 4) == 10) && (tL (g + 5) == 30) && (tL (g + 6) == 30) && (tL (g + 7) == 30) && Nat.ble 5 g && Nat.ble g 586
theorem GSh_of {h : Hp} (S : Sh h) {g : Nat} (e : tG g = true) : GSh h g := by
  simp only [tG, Bool.and_eq_true, beq_iff_eq, Nat.ble_eq] at e
  obtain ⟨⟨⟨⟨⟨⟨⟨⟨⟨⟨⟨⟨⟨⟨⟨⟨⟨⟨⟨⟨⟨⟨⟨k0, k1⟩, k2⟩, k3⟩, k4⟩, k5⟩, k6⟩, k7⟩, r0⟩, r1⟩, r2⟩, r3⟩, r4⟩, r5⟩, r6⟩, l1⟩, l2⟩, l3⟩, l4⟩, l5⟩, l6⟩, l7⟩, b1⟩, b2⟩ := e
  refine ⟨⟨?_, ?_, ?_, ?_, ?_, ?_, ?_, ?_⟩, ⟨?_, ?_, ?_, ?_, ?_, ?_, ?_⟩, ⟨?_, ?_, ?_, ?_, ?_, ?_, ?_⟩⟩
  · rw [S.1 _ (by omega)]; exact k0
  · rw [S.1 _ (by omega)]; exact k1
  · rw [S.1 _ (by omega)]; exact k2
  · rw [S.1 _ (by omega)]; exact k3
  · rw [S.1 _ (by omega)]; exact k4
  · rw [S.1 _ (by omega)]; exact k5
  · rw [S.1 _ (by omega)]; exact k6
  · rw [S.1 _ (by omega)]; exact k7
  · exact S.2.2 _ _ _ r0
  · exact S.2.2 _ _ _ r1
  · exact S.2.2 _ _ _ r2
  · exact S.2.2 _ _ _ r3
  · exact S.2.2 _ _ _ r4
  · exact S.2.2 _ _ _ r5
  · exact S.2.2 _ _ _ r6
  · rw [S.2.1 _ (by omega)]; exact l1
  · rw [S.2.1 _ (by omega)]; exact l2
  · rw [S.2.1 _ (by omega)]; exact l3
  · rw [S.2.1 _ (by omega)]; exact l4
  · rw [S.2.1 _ (by omega)]; exact l5
  · rw [S.2.1 _ (by omega)]; exact l6
  · rw [S.2.1 _ (by omega)]; exact l7
theorem tG_k : ∀ i, i < 30 → tG (39 + 8 * i) = true ∧ tG (309 + 8 * i) = true ∧ tR 38 i = some (39 + 8 * i) ∧ tR 308 i = some (309 + 8 * i) := by decide +kernel
theorem tG_l : tG 29 = true ∧ tG 299 = true ∧ tG 560 = true := by decide +kernel
theorem s2_s (s : Sv) (a k v : Nat) : st2 s a k v a k = v := by
  show va_up s a (va_up (s a) k v) a k = v
  rw [up_s, up_s]
theorem s2_k (s : Sv) (a : Nat) {k j : Nat} (v : Nat) (e : j ≠ k) : st2 s a k v a j = s a j := by
  show va_up s a (va_up (s a) k v) a j = _
  rw [up_s, up_n _ _ e]
theorem s2_a (s : Sv) {a b : Nat} (k j v : Nat) (e : b ≠ a) : st2 s a k v b j = s b j := by
  show va_up s a (va_up (s a) k v) b j = _
  rw [up_n _ _ e]
