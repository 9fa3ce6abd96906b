/-! ===== bounds are kept (mine) ===== -/
def WG (s : Sv) : Prop := GB s ∧ s 18 4 ≤ 30 ∧ (∀ j, j < s 18 4 → s (1000 + 10 * j + 4) 4 ≤ s 18 1 ∧ GW (s 18 0) s (1000 + 10 * j)) ∧ s 18 2 ≤ 4 ∧ s 18 3 ≤ s 18 2
def WH (s : Sv) : Prop := (s 18 5 ≤ 6 ∧ s 18 6 ≤ 8) ∧ ((∀ k, k < 5 → 2 ≤ s 11 k ∧ s 11 k ≤ 20) ∧ (∀ k, k < 25 → s 12 k ≤ 99) ∧ (∀ k, k < 5 → 1 ≤ s 13 k ∧ s 13 k ≤ 20)) ∧ ((∀ k, k < 6 → s 14 k ≤ 12 ∧ s 15 k ≤ 11) ∧ (∀ k, k < s 18 6 → s 16 k < s 18 1) ∧ (∀ k, k < 8 → s 17 k ≤ 20))
theorem WF_iff (s : Sv) : WF s ↔ WG s ∧ WH s := by
  constructor
  · intro W
    exact ⟨⟨WF_GB W, W.1.2.2.2.2.1, W.2.2.2.2.2.2.2, W.1.2.2.1, W.1.2.2.2.1⟩, W.1.2.2.2.2.2, W.2.2.2.2.2.1, W.2.2.2.2.2.2.1⟩
  · rintro ⟨⟨⟨a1, a2, a3, a4, a5, a6⟩, b, c, e, f⟩, g1, g2, g3⟩
    exact ⟨⟨a1, a2, e, f, b, g1.1, g1.2⟩, a3, a4, a5, a6, g2, g3, c⟩
theorem WH_c {s s' : Sv} (W : WH s) (h : ∀ a k, 11 ≤ a → a ≤ 17 → s' a k = s a k) (h5 : s' 18 5 = s 18 5) (h6 : s' 18 6 = s 18 6) (h1 : s 18 1 ≤ s' 18 1) : WH s' := by
  obtain ⟨a, ⟨b1, b2, b3⟩, c1, c2, c3⟩ := W
  refine ⟨by rw [h5, h6]; exact a, ⟨fun k hk => ?_, fun k hk => ?_, fun k hk => ?_⟩, fun k hk => ?_, fun k hk => ?_, fun k hk => ?_⟩
  · rw [h _ _ (by omega) (by omega)]; exact b1 k hk
  · rw [h _ _ (by omega) (by omega)]; exact b2 k hk
  · rw [h _ _ (by omega) (by omega)]; exact b3 k hk
  · rw [h _ _ (by omega) (by omega), h _ _ (by omega) (by omega)]; exact c1 k hk
  · rw [h6] at hk; rw [h _ _ (by omega) (by omega)]; have := c2 k hk; omega
  · rw [h _ _ (by omega) (by omega)]; exact c3 k hk
theorem GW_c {hs : Nat} {s s' : Sv} {r r' : Nat} (h : ∀ a k, a < 6 → ¬ (a = 4 ∧ k = 4) → s' (r' + a) k = s (r + a) k) (G : GW hs s r) : GW hs s' r' := by
  have h0 : ∀ k, s' r' k = s r k := fun k => h 0 k (by omega) (by omega)
  obtain ⟨a1, a2, a3, a4, b, c, e⟩ := G
  refine ⟨?_, ?_, ?_, ?_, fun j hj => ?_, fun p hp => ?_, fun i hi => ?_⟩
  · rw [h _ _ (by omega) (by omega)]; exact a1
  · rw [h _ _ (by omega) (by omega)]; exact a2
  · rw [h _ _ (by omega) (by omega)]; exact a3
  · rw [h _ _ (by omega) (by omega)]; exact a4
  · rw [h0, h _ _ (by omega) (by omega)]; exact b j hj
  · rw [h _ _ (by omega) (by omega), h _ _ (by omega) (by omega)]; exact c p hp
  · rw [h _ _ (by omega) (by omega)] at hi ⊢; exact e i hi
theorem WG_up {s s' : Sv} (W : WG s) (h : ∀ a k, 6 ≤ a → s' a k = s a k) (B : GB s') : WG s' := by
  obtain ⟨_, b, c, e, f⟩ := W
  refine ⟨B, by rw [h _ _ (by omega)]; exact b, fun j hj => ?_, by rw [h _ _ (by omega)]; exact e, by rw [h _ _ (by omega), h _ _ (by omega)]; exact f⟩
  rw [h _ _ (by omega)] at hj
  obtain ⟨c1, c2⟩ := c j hj
  refine ⟨by rw [h _ _ (by omega), h _ _ (by omega)]; exact c1, ?_⟩
  rw [h 18 0 (by omega)]
  exact GW_c (fun a k _ _ => h _ _ (by omega)) c2
theorem kp_B {s : Sv} (B : GB s) : GB (kp s) := by
  have k0 : ∀ k, k ≠ 4 → kp s 18 k = s 18 k := fun k hk => kp_o s (by omega) (by omega)
  refine ⟨by rw [k0 _ (by omega)]; exact B.1, by rw [k0 _ (by omega)]; exact B.2.1, ?_, fun k hk => by rw [kp_o s (by omega) (by omega)]; exact B.2.2.2.1 k hk, fun p hp => ?_, fun c hc => by rw [kp_o s (by omega) (by omega)]; exact B.2.2.2.2.2 c hc⟩
  · rw [k0 _ (by omega)]
    exact GW_c (fun a k ha _ => kp_o s (by omega) (by omega)) B.2.2.1
  · rw [kp_o s (by omega) (by omega), kp_o s (by omega) (by omega), kp_o s (by omega) (by omega)]
    exact B.2.2.2.2.1 p hp
theorem kp_W {s : Sv} (W : WG s) : WG (kp s) := by
  obtain ⟨B, b, c, e, f⟩ := W
  have k0 : ∀ k, k ≠ 4 → kp s 18 k = s 18 k := fun k hk => kp_o s (by omega) (by omega)
  refine ⟨kp_B B, by rw [kp_c s b]; omega, fun j hj => ?_, by rw [k0 _ (by omega)]; exact e, by rw [k0 _ (by omega), k0 _ (by omega)]; exact f⟩
  rw [kp_c s b] at hj
  rw [k0 0 (by omega), k0 1 (by omega)]
  by_cases jn : j + 1 = min 30 (s 18 4 + 1)
  · refine ⟨by rw [kp_new s jn b (by omega), if_pos (by omega)]; exact Nat.le_refl _, ?_⟩
    exact GW_c (r := 0) (fun a k ha hn => by rw [kp_new s jn b ha, if_neg hn, Nat.zero_add]) B.2.2.1
  · obtain ⟨c1, c2⟩ := c (if s 18 4 = 30 then j + 1 else j) (by split <;> omega)
    refine ⟨by rw [kp_old s (by omega) b (by omega)]; exact c1, ?_⟩
    exact GW_c (fun a k ha _ => kp_old s (by omega) b ha) c2
theorem pas_W {wf : Bool} {tx : Nat → Tx} {s : Sv} (W : WG s) (h9 : s 4 0 < 9999) : WG (pas wf tx s) := WG_up W (fun a k ha => pas_o wf tx s ha k) (pas_B W.1 h9)
/-- hours, each kept -/
def hrs (tx : Nat → Tx) (s : Sv) : Nat → Sv
  | 0 => s
  | n + 1 => pas true tx (kp (hrs tx s n))
theorem hrs_h (tx : Nat → Tx) (s : Sv) (n : Nat) : hrs tx s n 4 0 = s 4 0 + n := by
  induction n with
  | zero => rfl
  | succ n ih =>
    show pas true tx (kp (hrs tx s n)) 4 0 = _
    rw [pas_h, kp_o _ (by omega) (by omega), ih]
    omega
theorem hrs_W {tx : Nat → Tx} {s : Sv} (W : WG s) {n : Nat} (h9 : s 4 0 + n ≤ 9999) : WG (hrs tx s n) := by
  induction n with
  | zero => exact W
  | succ n ih =>
    refine pas_W (kp_W (ih (by omega))) ?_
    rw [kp_o _ (by omega) (by omega), hrs_h]
    omega
theorem hrs_o (tx : Nat → Tx) (s : Sv) (n : Nat) {a j : Nat} (h6 : 6 ≤ a) (h : a < 1000) (h4 : ¬ (a = 18 ∧ j = 4)) : hrs tx s n a j = s a j := by
  induction n with
  | zero => rfl
  | succ n ih =>
    show pas true tx (kp (hrs tx s n)) a j = _
    rw [pas_o _ _ _ h6, kp_o _ h h4, ih]
theorem lrn_o (s : Sv) (a b : Nat) {x k : Nat} (h : x ≠ 2) (h3 : x ≠ 3) : lrn s a b x k = s x k := by
  unfold lrn
  rw [if_neg (by omega), if_neg (by omega)]
theorem und_o (s : Sv) {a k : Nat} (ha : 6 ≤ a) (h4 : ¬ (a = 18 ∧ k = 4)) : und s a k = s a k := by
  unfold und
  rw [lrn_o _ _ _ (by omega) (by omega)]
  unfold ro
  rw [if_neg (by omega), s2_if, if_neg h4]
theorem und_c (s : Sv) : und s 18 4 = s 18 4 - 1 := by
  unfold und
  rw [lrn_o _ _ _ (by omega) (by omega)]
  unfold ro
  rw [if_neg (by omega), s2_s]
theorem und_W {s : Sv} (W : WG s) (h0 : 0 < s 18 4) : WG (und s) := by
  obtain ⟨B, b, c, e, f⟩ := W
  obtain ⟨c1, c2⟩ := c (s 18 4 - 1) (by omega)
  have u0 : und s 18 0 = s 18 0 := und_o s (by omega) (by omega)
  have u1 : und s 18 1 = s 18 1 := und_o s (by omega) (by omega)
  have ro9 : ∀ p, ro (st2 s 18 4 (s 18 4 - 1)) (s 18 4 - 1) 9 p = s 9 p := fun p => by unfold ro; rw [if_neg (by omega), s2_if, if_neg (by omega)]
  have G0 : GW (s 18 0) (ro (st2 s 18 4 (s 18 4 - 1)) (s 18 4 - 1)) 0 := GW_c (fun a k ha hn => by unfold ro; rw [Nat.zero_add, if_pos ⟨ha, hn⟩, s2_if, if_neg (by omega)]) c2
  have G1 : GW (s 18 0) (und s) 0 := by
    obtain ⟨a1, a2, a3, a4, g1, g2, g3⟩ := G0
    refine ⟨?_, ?_, ?_, ?_, fun j hj => ?_, fun p hp => ?_, fun i hi => ?_⟩
    · unfold und; rw [lrn_o _ _ _ (by omega) (by omega)]; exact a1
    · unfold und; rw [lrn_o _ _ _ (by omega) (by omega)]; exact a2
    · unfold und; rw [lrn_o _ _ _ (by omega) (by omega)]; exact a3
    · unfold und; rw [lrn_o _ _ _ (by omega) (by omega)]; exact a4
    · unfold und; rw [lrn_o _ _ _ (by omega) (by omega), lrn_o _ _ _ (by omega) (by omega)]; exact g1 j hj
    · have q := g2 p hp
      have t9 := (B.2.2.2.2.1 p hp).2.2
      show und s 2 p ≤ 20 ∧ und s 3 p ≤ s 18 0
      have q : ro (st2 s 18 4 (s 18 4 - 1)) (s 18 4 - 1) 2 p ≤ 20 ∧ ro (st2 s 18 4 (s 18 4 - 1)) (s 18 4 - 1) 3 p ≤ s 18 0 := q
      unfold und lrn
      rw [ro9]
      constructor
      · (repeat' split) <;> omega
      · (repeat' split) <;> omega
    · have hi : i < und s 4 3 := hi
      show und s 5 i < 300000 ∧ 1 ≤ und s 5 i % 6
      unfold und at hi ⊢
      rw [lrn_o _ _ _ (by omega) (by omega)] at hi ⊢
      exact g3 i hi
  refine ⟨⟨by rw [u0]; exact B.1, by rw [u1]; exact B.2.1, by rw [u0]; exact G1, fun k hk => by rw [und_o s (by omega) (by omega)]; exact B.2.2.2.1 k hk, fun p hp => ?_, fun c hc => by rw [und_o s (by omega) (by omega)]; exact B.2.2.2.2.2 c hc⟩, by rw [und_c]; omega, fun j hj => ?_, by rw [und_o s (by omega) (by omega)]; exact e, by rw [und_o s (by omega) (by omega), und_o s (by omega) (by omega)]; exact f⟩
  · rw [und_o s (by omega) (by omega), und_o s (by omega) (by omega), und_o s (by omega) (by omega)]; exact B.2.2.2.2.1 p hp
  · rw [und_c] at hj
    obtain ⟨c1, c2⟩ := c j (by omega)
    rw [u0, u1, und_o s (by omega) (by omega)]
    exact ⟨c1, GW_c (fun a k _ _ => und_o s (by omega) (by omega)) c2⟩
/-- all start anew -/
theorem lu_B {s : Sv} (B : GB s) : GB (lu s) := by
  have o : ∀ a k, 2 ≤ a → lu s a k = s a k := fun a k ha => by unfold lu; rw [if_neg (by omega)]
  obtain ⟨a1, a2, a3, a4, b, c, e⟩ := B.2.2.1
  refine GB_rows B (fun a k ha => o a k (by omega)) ⟨?_, ?_, ?_, ?_, fun j hj => ?_, fun p hp => ?_, fun i hi => ?_⟩
  · rw [o _ _ (by omega)]; exact a1
  · rw [o _ _ (by omega)]; exact a2
  · rw [o _ _ (by omega)]; exact a3
  · rw [o _ _ (by omega)]; exact a4
  · have x0 : lu s 0 j = 0 := by unfold lu; rw [if_pos ⟨by omega, hj⟩]
    have x1 : lu s (0 + 1) j = 0 := by unfold lu; rw [if_pos ⟨by omega, hj⟩]
    rw [x0, x1]
    exact ⟨by omega, by omega, fun _ => ⟨rfl, rfl⟩⟩
  · rw [o _ _ (by omega), o _ _ (by omega)]; exact c p hp
  · rw [o _ _ (by omega)] at hi ⊢; exact e i hi
theorem lu_W {s : Sv} (W : WG s) : WG (lu s) := WG_up W (fun a k ha => by unfold lu; rw [if_neg (by omega)]) (lu_B W.1)
/-- a draw of the years -/
def hpn (tx : Nat → Tx) (s : Sv) (x : Nat) : Sv :=
  if x % 6 < 2 then (if 0 < s 18 1 ∧ 0 < s 18 0 ∧ s 3 (x % s 18 1) = 0 ∧ s 1 (x / 6 % s 18 0) = 0 then st2 s 3 (x % s 18 1) (x / 6 % s 18 0 + 1) else s)
  else if x % 6 = 2 then (if 0 < s 18 1 ∧ s 2 (x % s 18 1) < 20 then st2 s 2 (x % s 18 1) (min 20 (s 2 (x % s 18 1) + (1 + x % 9))) else s)
  else if x % 6 = 3 then (if x % 4 = 0 ∧ 0 < s 18 0 then lu s else s)
  else (if s 4 0 < 9999 then pas true tx s else s)
def yrs (tx : Nat → Tx) (s : Sv) : Nat → Sv
  | 0 => s
  | n + 1 => hpn tx (st2 (yrs tx s n) 4 1 (nx (yrs tx s n 4 1))) (yrs tx s n 4 1)
theorem hpn_o (tx : Nat → Tx) (s : Sv) (x : Nat) {a : Nat} (ha : 6 ≤ a) (j : Nat) : hpn tx s x a j = s a j := by
  unfold hpn
  (repeat' split) <;> first | rfl | (rw [s2_if, if_neg (by omega)]) | exact pas_o _ _ _ ha _ | (unfold lu; rw [if_neg (by omega)])
theorem hpn_W {tx : Nat → Tx} {s : Sv} (W : WG s) (x : Nat) : WG (hpn tx s x) := by
  have B := W.1
  have up : ∀ s', (∀ a k, 6 ≤ a → s' a k = s a k) → GB s' → WG s' := fun s' h B' => WG_up W h B'
  unfold hpn
  split
  · split
    · rename_i c
      have l0 := Nat.mod_lt (x / 6) c.2.1
      exact up _ (fun a k ha => by rw [s2_if, if_neg (by omega)]) (GB_up B (by omega) (by omega) (by omega) (by omega) (by omega) (by omega) (by omega) (by omega) (by omega) (by omega))
    · exact W
  · split
    · split
      · exact up _ (fun a k ha => by rw [s2_if, if_neg (by omega)]) (GB_up B (by omega) (by omega) (by omega) (by omega) (by omega) (by omega) (by omega) (by omega) (by omega) (by omega))
      · exact W
    · split
      · split
        · exact lu_W W
        · exact W
      · split
        · rename_i c
          exact pas_W W c
        · exact W
theorem yrs_W {tx : Nat → Tx} {s : Sv} (W : WG s) (n : Nat) : WG (yrs tx s n) := by
  induction n with
  | zero => exact W
  | succ n ih =>
    refine hpn_W ?_ _
    exact WG_up ih (fun a k ha => by rw [s2_if, if_neg (by omega)]) (GB_up ih.1 (by omega) (by omega) (fun _ _ => nx_lt _) (by omega) (by omega) (by omega) (by omega) (by omega) (by omega) (by omega))
theorem yrs_o (tx : Nat → Tx) (s : Sv) (n : Nat) {a : Nat} (ha : 6 ≤ a) (j : Nat) : yrs tx s n a j = s a j := by
  induction n with
  | zero => rfl
  | succ n ih =>
    show hpn tx (st2 (yrs tx s n) 4 1 (nx (yrs tx s n 4 1))) (yrs tx s n 4 1) a j = _
    rw [hpn_o _ _ _ ha, s2_if, if_neg (by omega), ih]
