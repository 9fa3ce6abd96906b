/-! ===== bounds are kept: what is told (mine) ===== -/
theorem GW_mo {hs hs' : Nat} {s : Sv} {r : Nat} (h : hs ≤ hs') (G : GW hs s r) : GW hs' s r := by
  obtain ⟨a1, a2, a3, a4, b, c, e⟩ := G
  exact ⟨a1, a2, a3, a4, fun k hk => ⟨(b k hk).1, (b k hk).2.1, fun z => (b k hk).2.2 (by omega)⟩, fun p hp => ⟨(c p hp).1, Nat.le_trans (c p hp).2 h⟩, e⟩
def hoS (s : Sv) (a : Nat) : Sv := st2 (st2 s 6 (s 18 0) a) 18 0 (s 18 0 + 1)
def piS (s : Sv) (a b c : Nat) : Sv := st2 (st2 (st2 (st2 (st2 (st2 s 7 (s 18 1) a) 8 (s 18 1) b) 9 (s 18 1) c) 2 (s 18 1) c) 3 (s 18 1) 0) 18 1 (s 18 1 + 1)
theorem ho_W {s : Sv} (W : WG s) {a : Nat} (ha : a ≤ 9) (h5 : s 18 0 < 5) : WG (hoS s a) := by
  obtain ⟨⟨a1, a2, a3, a4, a5, a6⟩, b, c, e, f⟩ := W
  have o : ∀ x j, ¬ (x = 18 ∧ j = 0) → ¬ (x = 6 ∧ j = s 18 0) → hoS s a x j = s x j := fun x j h1 h2 => by unfold hoS; rw [s2_if, if_neg h1, s2_if, if_neg h2]
  have o0 : hoS s a 18 0 = s 18 0 + 1 := by unfold hoS; rw [s2_s]
  have g : ∀ r, r = 0 ∨ 1000 ≤ r → GW (s 18 0) s r → GW (s 18 0 + 1) (hoS s a) r := fun r hr G => GW_mo (by omega) (GW_c (fun x j h1 _ => o _ _ (by omega) (by omega)) G)
  refine ⟨⟨by rw [o0]; omega, by rw [o _ _ (by omega) (by omega)]; exact a2, by rw [o0]; exact g 0 (Or.inl rfl) a3, fun k hk => ?_, fun p hp => ?_, fun c hc => by rw [o _ _ (by omega) (by omega)]; exact a6 c hc⟩, by rw [o _ _ (by omega) (by omega)]; exact b, fun j hj => ?_, by rw [o _ _ (by omega) (by omega)]; exact e, by rw [o _ _ (by omega) (by omega), o _ _ (by omega) (by omega)]; exact f⟩
  · by_cases ek : k = s 18 0
    · unfold hoS
      rw [s2_if, if_neg (by omega), s2_if, if_pos ⟨rfl, ek⟩]
      exact ha
    · rw [o _ _ (by omega) (by omega)]; exact a4 k hk
  · rw [o _ _ (by omega) (by omega), o _ _ (by omega) (by omega), o _ _ (by omega) (by omega)]; exact a5 p hp
  · rw [o _ _ (by omega) (by omega)] at hj
    obtain ⟨c1, c2⟩ := c j hj
    rw [o0, o _ _ (by omega) (by omega), o _ _ (by omega) (by omega)]
    exact ⟨c1, g _ (Or.inr (by omega)) c2⟩
theorem pi_o (s : Sv) (a b c : Nat) {x j : Nat} (h1 : ¬ (x = 18 ∧ j = 1)) (h2 : ¬ ((x = 2 ∨ x = 3 ∨ x = 7 ∨ x = 8 ∨ x = 9) ∧ j = s 18 1)) : piS s a b c x j = s x j := by
  unfold piS
  rw [s2_if, if_neg h1, s2_if, if_neg (by omega), s2_if, if_neg (by omega), s2_if, if_neg (by omega), s2_if, if_neg (by omega), s2_if, if_neg (by omega)]
theorem pi_W {s : Sv} (W : WG s) {a b c : Nat} (ha : a ≤ 3) (hb : b ≤ 9) (hc : c ≤ 20) (h10 : s 18 1 < 10) : WG (piS s a b c) := by
  obtain ⟨⟨a1, a2, a3, a4, a5, a6⟩, b', c', e, f⟩ := W
  have o : ∀ x j, ¬ (x = 18 ∧ j = 1) → ¬ ((x = 2 ∨ x = 3 ∨ x = 7 ∨ x = 8 ∨ x = 9) ∧ j = s 18 1) → piS s a b c x j = s x j := fun x j => pi_o s a b c
  have o1 : piS s a b c 18 1 = s 18 1 + 1 := by unfold piS; rw [s2_s]
  have v : ∀ x, piS s a b c x (s 18 1) = if x = 18 ∧ s 18 1 = 1 then s 18 1 + 1 else if x = 3 then 0 else if x = 2 then c else if x = 9 then c else if x = 8 then b else if x = 7 then a else s x (s 18 1) := by
    intro x
    unfold piS
    simp only [s2_if, and_true]
  have g : ∀ r, 1000 ≤ r → GW (s 18 0) s r → GW (s 18 0) (piS s a b c) r := fun r hr G => GW_c (fun x j h1 _ => o _ _ (by omega) (by omega)) G
  refine ⟨⟨by rw [o _ _ (by omega) (by omega)]; exact a1, by rw [o1]; omega, ?_, fun k hk => by rw [o _ _ (by omega) (by omega)]; exact a4 k hk, fun p hp => ?_, fun c hc => by rw [o _ _ (by omega) (by omega)]; exact a6 c hc⟩, by rw [o _ _ (by omega) (by omega)]; exact b', fun j hj => ?_, by rw [o _ _ (by omega) (by omega)]; exact e, by rw [o _ _ (by omega) (by omega), o _ _ (by omega) (by omega)]; exact f⟩
  · rw [o _ _ (by omega) (by omega)]
    obtain ⟨g1, g2, g3, g4, g5, g6, g7⟩ := a3
    refine ⟨?_, ?_, ?_, ?_, fun j hj => ?_, fun p hp => ?_, fun i hi => ?_⟩
    · rw [o _ _ (by omega) (by omega)]; exact g1
    · rw [o _ _ (by omega) (by omega)]; exact g2
    · rw [o _ _ (by omega) (by omega)]; exact g3
    · rw [o _ _ (by omega) (by omega)]; exact g4
    · rw [o _ _ (by omega) (by omega), o _ _ (by omega) (by omega)]; exact g5 j hj
    · by_cases ep : p = s 18 1
      · subst ep
        rw [v, v, if_neg (by omega), if_neg (by omega), if_pos (by omega), if_neg (by omega), if_pos (by omega)]
        exact ⟨hc, by omega⟩
      · rw [o _ _ (by omega) (by omega), o _ _ (by omega) (by omega)]; exact g6 p hp
    · rw [o _ _ (by omega) (by omega)] at hi ⊢; exact g7 i hi
  · by_cases ep : p = s 18 1
    · subst ep
      rw [v, v, v]
      refine ⟨?_, ?_, ?_⟩
      · rw [if_neg (by omega), if_neg (by omega), if_neg (by omega), if_neg (by omega), if_neg (by omega), if_pos rfl]; exact ha
      · rw [if_neg (by omega), if_neg (by omega), if_neg (by omega), if_neg (by omega), if_pos rfl]; exact hb
      · rw [if_neg (by omega), if_neg (by omega), if_neg (by omega), if_pos rfl]; exact hc
    · rw [o _ _ (by omega) (by omega), o _ _ (by omega) (by omega), o _ _ (by omega) (by omega)]; exact a5 p hp
  · rw [o _ _ (by omega) (by omega)] at hj
    obtain ⟨c1, c2⟩ := c' j hj
    rw [o1, o _ _ (by omega) (by omega), o _ _ (by omega) (by omega)]
    exact ⟨by omega, g _ (by omega) c2⟩
theorem wi_W {s : Sv} (W : WG s) {c w : Nat} (hw : w ≤ 9) : WG (st2 s 10 c w) := by
  obtain ⟨⟨a1, a2, a3, a4, a5, a6⟩, b', c', e, f⟩ := W
  have o : ∀ x j, x ≠ 10 → st2 s 10 c w x j = s x j := fun x j hx => by rw [s2_if, if_neg (by omega)]
  refine ⟨⟨by rw [o _ _ (by omega)]; exact a1, by rw [o _ _ (by omega)]; exact a2, by rw [o _ _ (by omega)]; exact GW_c (fun x j h1 _ => o _ _ (by omega)) a3, fun k hk => by rw [o _ _ (by omega)]; exact a4 k hk, fun p hp => by rw [o _ _ (by omega), o _ _ (by omega), o _ _ (by omega)]; exact a5 p hp, fun c' hc => ?_⟩, by rw [o _ _ (by omega)]; exact b', fun j hj => ?_, by rw [o _ _ (by omega)]; exact e, by rw [o _ _ (by omega), o _ _ (by omega)]; exact f⟩
  · rw [s2_if]
    split
    · exact hw
    · exact a6 c' hc
  · rw [o _ _ (by omega)] at hj
    obtain ⟨c1, c2⟩ := c' j hj
    rw [o _ _ (by omega), o _ _ (by omega), o _ _ (by omega)]
    exact ⟨c1, GW_c (fun x j h1 _ => o _ _ (by omega)) c2⟩
/-- a clause is played -/
def pcl (tx : Nat → Tx) (T : Tx) (s : Sv) (i : Nat) : Bool × Sv :=
  if T.2.1 i 0 = 3 then (if 1 ≤ T.2.1 i 1 ∧ T.2.1 i 1 ≤ 9 ∧ s 18 0 < 5 then (true, hoS s (T.2.1 i 1)) else (false, s))
  else if T.2.1 i 0 = 4 then (if T.2.1 i 1 ≤ 3 ∧ 1 ≤ T.2.1 i 2 ∧ T.2.1 i 2 ≤ 9 ∧ T.2.1 i 3 ≤ 20 ∧ s 18 1 < 10 then (true, piS s (T.2.1 i 1) (T.2.1 i 2) (T.2.1 i 3)) else (false, s))
  else if T.2.1 i 0 = 5 then (if T.2.1 i 2 < 12 ∧ T.2.1 i 1 ≤ 9 then (true, st2 s 10 (T.2.1 i 2) (T.2.1 i 1)) else (false, s))
  else if T.2.1 i 0 = 6 then (if T.2.1 i 1 < s 18 1 ∧ T.2.1 i 2 < s 18 0 ∧ s 3 (T.2.1 i 1) = 0 ∧ s 1 (T.2.1 i 2) = 0 then (true, st2 (kp s) 3 (T.2.1 i 1) (T.2.1 i 2 + 1)) else (false, s))
  else if T.2.1 i 0 = 7 then (if T.2.1 i 2 < s 18 1 ∧ 1 ≤ T.2.1 i 1 ∧ T.2.1 i 1 ≤ 20 ∧ s 2 (T.2.1 i 2) < 20 then (true, st2 (kp s) 2 (T.2.1 i 2) (min 20 (s 2 (T.2.1 i 2) + T.2.1 i 1))) else (false, s))
  else if T.2.1 i 0 = 8 then (if 0 < s 18 0 then (true, lu (kp s)) else (false, s))
  else if T.2.1 i 0 = 9 then (if s 4 0 + T.2.1 i 1 ≤ 9999 then (true, hrs tx s (T.2.1 i 1)) else (false, hrs tx s (9999 - s 4 0)))
  else (true, s)
theorem pcl_W {tx : Nat → Tx} {T : Tx} {s : Sv} (W : WG s) (i : Nat) : WG (pcl tx T s i).2 := by
  have bh : s 4 0 ≤ 9999 := W.1.2.2.1.1
  have W2 := kp_W W
  have k0 : kp s 18 0 = s 18 0 := kp_o s (by omega) (by omega)
  unfold pcl
  (repeat' split)
  · rename_i c; exact ho_W W c.2.1 c.2.2
  · exact W
  · rename_i c; exact pi_W W c.1 c.2.2.1 c.2.2.2.1 c.2.2.2.2
  · exact W
  · rename_i c; exact wi_W W c.2
  · exact W
  · rename_i c
    show WG (st2 (kp s) 3 (T.2.1 i 1) (T.2.1 i 2 + 1))
    exact WG_up W2 (fun a k ha => by rw [s2_if, if_neg (by omega)]) (GB_up W2.1 (by omega) (by omega) (by omega) (by omega) (by omega) (by omega) (by omega) (by omega) (by omega) (by omega))
  · exact W
  · show WG (st2 (kp s) 2 (T.2.1 i 2) (min 20 (s 2 (T.2.1 i 2) + T.2.1 i 1)))
    exact WG_up W2 (fun a k ha => by rw [s2_if, if_neg (by omega)]) (GB_up W2.1 (by omega) (by omega) (by omega) (by omega) (by omega) (by omega) (by omega) (by omega) (by omega) (by omega))
  · exact W
  · exact lu_W W2
  · exact W
  · exact hrs_W W (by omega)
  · exact hrs_W W (by omega)
  · exact W
theorem pcl_o (tx : Nat → Tx) (T : Tx) (s : Sv) (i : Nat) {a k : Nat} (h : 11 ≤ a ∧ a < 18 ∨ a = 18 ∧ (k = 2 ∨ k = 3 ∨ k = 5 ∨ k = 6)) : (pcl tx T s i).2 a k = s a k := by
  unfold pcl
  (repeat' split)
  · show hoS s _ a k = _; unfold hoS; rw [s2_if, if_neg (by omega), s2_if, if_neg (by omega)]
  · rfl
  · exact pi_o s _ _ _ (by omega) (by omega)
  · rfl
  · show st2 s 10 _ _ a k = _; rw [s2_if, if_neg (by omega)]
  · rfl
  · show st2 (kp s) 3 _ _ a k = _; rw [s2_if, if_neg (by omega), kp_o _ (by omega) (by omega)]
  · rfl
  · show st2 (kp s) 2 _ _ a k = _; rw [s2_if, if_neg (by omega), kp_o _ (by omega) (by omega)]
  · rfl
  · show lu (kp s) a k = _; unfold lu; rw [if_neg (by omega), kp_o _ (by omega) (by omega)]
  · rfl
  · exact hrs_o _ _ _ (by omega) (by omega) (by omega)
  · exact hrs_o _ _ _ (by omega) (by omega) (by omega)
  · rfl
/-- all clauses, from the i-th on -/
def plr (tx : Nat → Tx) (T : Tx) : Nat → Nat → Sv → Int32 × Sv
  | 0, _, s => (-1, s)
  | r + 1, i, s => if (pcl tx T s i).1 then plr tx T r (i + 1) (pcl tx T s i).2 else (nI i, (pcl tx T s i).2)
