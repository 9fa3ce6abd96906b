/-! ===== bounds are kept: what is heard, told, and THE TEXT (mine) ===== -/
theorem WGh {s s' : Sv} (W : WG s) (h : ∀ a k, ¬ (11 ≤ a ∧ a ≤ 17) → ¬ (a = 18 ∧ (k = 5 ∨ k = 6)) → s' a k = s a k) : WG s' := by
  obtain ⟨⟨a1, a2, a3, a4, a5, a6⟩, b, c, e, f⟩ := W
  refine ⟨⟨by rw [h _ _ (by omega) (by omega)]; exact a1, by rw [h _ _ (by omega) (by omega)]; exact a2, by rw [h _ _ (by omega) (by omega)]; exact GW_c (fun x j h1 _ => h _ _ (by omega) (by omega)) a3, fun k hk => by rw [h _ _ (by omega) (by omega)]; exact a4 k hk, fun p hp => by rw [h _ _ (by omega) (by omega), h _ _ (by omega) (by omega), h _ _ (by omega) (by omega)]; exact a5 p hp, fun c hc => by rw [h _ _ (by omega) (by omega)]; exact a6 c hc⟩, by rw [h _ _ (by omega) (by omega)]; exact b, fun j hj => ?_, by rw [h _ _ (by omega) (by omega)]; exact e, by rw [h _ _ (by omega) (by omega), h _ _ (by omega) (by omega)]; exact f⟩
  rw [h _ _ (by omega) (by omega)] at hj
  obtain ⟨c1, c2⟩ := c j hj
  rw [h _ _ (by omega) (by omega), h _ _ (by omega) (by omega), h _ _ (by omega) (by omega)]
  exact ⟨c1, GW_c (fun x j h1 _ => h _ _ (by omega) (by omega)) c2⟩
theorem WHg {s s' : Sv} (W : WH s) (h : ∀ a k, (11 ≤ a ∧ a ≤ 17) ∨ (a = 18 ∧ (k = 5 ∨ k = 6)) → s' a k = s a k) (h1 : s 18 1 ≤ s' 18 1) : WH s' := by
  obtain ⟨⟨a1, a2⟩, ⟨b1, b2, b3⟩, c1, c2, c3⟩ := W
  refine ⟨⟨by rw [h _ _ (by omega)]; exact a1, by rw [h _ _ (by omega)]; exact a2⟩, ⟨fun k hk => by rw [h _ _ (by omega)]; exact b1 k hk, fun k hk => by rw [h _ _ (by omega)]; exact b2 k hk, fun k hk => by rw [h _ _ (by omega)]; exact b3 k hk⟩, fun k hk => by rw [h _ _ (by omega), h _ _ (by omega)]; exact c1 k hk, fun k hk => ?_, fun k hk => by rw [h _ _ (by omega)]; exact c3 k hk⟩
  rw [h _ _ (by omega)] at hk ⊢
  exact Nat.lt_of_lt_of_le (c2 k hk) h1
theorem WF_odds {s : Sv} (W : WF s) {c w : Nat} (h1 : 2 ≤ w) (h2 : w ≤ 20) : WF (st2 s 11 c w) := by
  obtain ⟨G, ⟨a1, a2⟩, ⟨b1, b2, b3⟩, c1, c2, c3⟩ := (WF_iff s).mp W
  have o : ∀ a k, ¬ a = 11 → st2 s 11 c w a k = s a k := fun a k h => by rw [s2_if, if_neg (by omega)]
  refine (WF_iff _).mpr ⟨WGh G (fun a k h _ => o a k (by omega)), ⟨by rw [o _ _ (by omega)]; exact a1, by rw [o _ _ (by omega)]; exact a2⟩, ⟨fun k hk => ?_, fun k hk => by rw [o _ _ (by omega)]; exact b2 k hk, fun k hk => by rw [o _ _ (by omega)]; exact b3 k hk⟩, fun k hk => by rw [o _ _ (by omega), o _ _ (by omega)]; exact c1 k hk, fun k hk => ?_, fun k hk => by rw [o _ _ (by omega)]; exact c3 k hk⟩
  · rw [s2_if]
    split
    · exact ⟨h1, h2⟩
    · exact b1 k hk
  · rw [o _ _ (by omega)] at hk
    rw [o _ _ (by omega), o _ _ (by omega)]
    exact c2 k hk
theorem WF_beat {s : Sv} (W : WF s) {c w : Nat} (h2 : w ≤ 99) : WF (st2 s 12 c w) := by
  obtain ⟨G, ⟨a1, a2⟩, ⟨b1, b2, b3⟩, c1, c2, c3⟩ := (WF_iff s).mp W
  have o : ∀ a k, ¬ a = 12 → st2 s 12 c w a k = s a k := fun a k h => by rw [s2_if, if_neg (by omega)]
  refine (WF_iff _).mpr ⟨WGh G (fun a k h _ => o a k (by omega)), ⟨by rw [o _ _ (by omega)]; exact a1, by rw [o _ _ (by omega)]; exact a2⟩, ⟨fun k hk => by rw [o _ _ (by omega)]; exact b1 k hk, fun k hk => ?_, fun k hk => by rw [o _ _ (by omega)]; exact b3 k hk⟩, fun k hk => by rw [o _ _ (by omega), o _ _ (by omega)]; exact c1 k hk, fun k hk => ?_, fun k hk => by rw [o _ _ (by omega)]; exact c3 k hk⟩
  · rw [s2_if]
    split
    · exact h2
    · exact b2 k hk
  · rw [o _ _ (by omega)] at hk
    rw [o _ _ (by omega), o _ _ (by omega)]
    exact c2 k hk
theorem WF_strength {s : Sv} (W : WF s) {c w : Nat} (h1 : 1 ≤ w) (h2 : w ≤ 20) : WF (st2 s 13 c w) := by
  obtain ⟨G, ⟨a1, a2⟩, ⟨b1, b2, b3⟩, c1, c2, c3⟩ := (WF_iff s).mp W
  have o : ∀ a k, ¬ a = 13 → st2 s 13 c w a k = s a k := fun a k h => by rw [s2_if, if_neg (by omega)]
  refine (WF_iff _).mpr ⟨WGh G (fun a k h _ => o a k (by omega)), ⟨by rw [o _ _ (by omega)]; exact a1, by rw [o _ _ (by omega)]; exact a2⟩, ⟨fun k hk => by rw [o _ _ (by omega)]; exact b1 k hk, fun k hk => by rw [o _ _ (by omega)]; exact b2 k hk, fun k hk => ?_⟩, fun k hk => by rw [o _ _ (by omega), o _ _ (by omega)]; exact c1 k hk, fun k hk => ?_, fun k hk => by rw [o _ _ (by omega)]; exact c3 k hk⟩
  · rw [s2_if]
    split
    · exact ⟨h1, h2⟩
    · exact b3 k hk
  · rw [o _ _ (by omega)] at hk
    rw [o _ _ (by omega), o _ _ (by omega)]
    exact c2 k hk
theorem WF_see0 {s : Sv} (W : WF s) : WF (st2 s 18 5 0) := by
  obtain ⟨G, ⟨a1, a2⟩, ⟨b1, b2, b3⟩, c1, c2, c3⟩ := (WF_iff s).mp W
  have o : ∀ a k, ¬ (a = 18 ∧ k = 5) → st2 s 18 5 0 a k = s a k := fun a k h => by rw [s2_if, if_neg h]
  refine (WF_iff _).mpr ⟨WGh G (fun a k _ h => o a k (by omega)), ⟨by rw [s2_s]; omega, by rw [o _ _ (by omega)]; exact a2⟩, ⟨fun k hk => by rw [o _ _ (by omega)]; exact b1 k hk, fun k hk => by rw [o _ _ (by omega)]; exact b2 k hk, fun k hk => by rw [o _ _ (by omega)]; exact b3 k hk⟩, fun k hk => by rw [o _ _ (by omega), o _ _ (by omega)]; exact c1 k hk, fun k hk => ?_, fun k hk => by rw [o _ _ (by omega)]; exact c3 k hk⟩
  rw [o _ _ (by omega)] at hk
  rw [o _ _ (by omega), o _ _ (by omega)]
  exact c2 k hk
theorem WF_said0 {s : Sv} (W : WF s) : WF (st2 s 18 6 0) := by
  obtain ⟨G, ⟨a1, a2⟩, ⟨b1, b2, b3⟩, c1, c2, c3⟩ := (WF_iff s).mp W
  have o : ∀ a k, ¬ (a = 18 ∧ k = 6) → st2 s 18 6 0 a k = s a k := fun a k h => by rw [s2_if, if_neg h]
  refine (WF_iff _).mpr ⟨WGh G (fun a k _ h => o a k (by omega)), ⟨by rw [o _ _ (by omega)]; exact a1, by rw [s2_s]; omega⟩, ⟨fun k hk => by rw [o _ _ (by omega)]; exact b1 k hk, fun k hk => by rw [o _ _ (by omega)]; exact b2 k hk, fun k hk => by rw [o _ _ (by omega)]; exact b3 k hk⟩, fun k hk => by rw [o _ _ (by omega), o _ _ (by omega)]; exact c1 k hk, fun k hk => ?_, fun k hk => by rw [o _ _ (by omega)]; exact c3 k hk⟩
  rw [s2_s] at hk
  omega
theorem WF_see {s : Sv} (W : WF s) {n c : Nat} (h1 : n ≤ 12) (h2 : c < 12) (h5 : s 18 5 < 6) : WF (st2 (st2 (st2 s 14 (s 18 5) n) 15 (s 18 5) c) 18 5 (s 18 5 + 1)) := by
  obtain ⟨G, ⟨a1, a2⟩, ⟨b1, b2, b3⟩, c1, c2, c3⟩ := (WF_iff s).mp W
  obtain ⟨u, hu⟩ : ∃ u, u = st2 (st2 (st2 s 14 (s 18 5) n) 15 (s 18 5) c) 18 5 (s 18 5 + 1) := ⟨_, rfl⟩
  have o : ∀ a k, ¬ (a = 18 ∧ k = 5) → ¬ (a = 14 ∧ k = s 18 5) → ¬ (a = 15 ∧ k = s 18 5) → u a k = s a k := fun a k h h' h'' => by rw [hu, s2_if, if_neg h, s2_if, if_neg h'', s2_if, if_neg h']
  have u5 : u 18 5 = s 18 5 + 1 := by rw [hu, s2_s]
  rw [← hu]
  refine (WF_iff _).mpr ⟨WGh G (fun a k h h' => o a k (by omega) (by omega) (by omega)), ⟨by rw [u5]; omega, by rw [o _ _ (by omega) (by omega) (by omega)]; exact a2⟩, ⟨fun k hk => by rw [o _ _ (by omega) (by omega) (by omega)]; exact b1 k hk, fun k hk => by rw [o _ _ (by omega) (by omega) (by omega)]; exact b2 k hk, fun k hk => by rw [o _ _ (by omega) (by omega) (by omega)]; exact b3 k hk⟩, fun k hk => ?_, fun k hk => ?_, fun k hk => by rw [o _ _ (by omega) (by omega) (by omega)]; exact c3 k hk⟩
  · by_cases e : k = s 18 5
    · have e1 : u 14 k = n := by rw [hu, s2_if, if_neg (by omega), s2_if, if_neg (by omega), s2_if, if_pos ⟨rfl, e⟩]
      have e2 : u 15 k = c := by rw [hu, s2_if, if_neg (by omega), s2_if, if_pos ⟨rfl, e⟩]
      rw [e1, e2]
      omega
    · rw [o _ _ (by omega) (by omega) (by omega), o _ _ (by omega) (by omega) (by omega)]; exact c1 k hk
  · rw [o _ _ (by omega) (by omega) (by omega)] at hk
    rw [o _ _ (by omega) (by omega) (by omega), o _ _ (by omega) (by omega) (by omega)]
    exact c2 k hk
theorem WF_said {s : Sv} (W : WF s) {n c : Nat} (h1 : n < s 18 1) (h2 : c ≤ 20) (h5 : s 18 6 < 8) : WF (st2 (st2 (st2 s 16 (s 18 6) n) 17 (s 18 6) c) 18 6 (s 18 6 + 1)) := by
  obtain ⟨G, ⟨a1, a2⟩, ⟨b1, b2, b3⟩, c1, c2, c3⟩ := (WF_iff s).mp W
  obtain ⟨u, hu⟩ : ∃ u, u = st2 (st2 (st2 s 16 (s 18 6) n) 17 (s 18 6) c) 18 6 (s 18 6 + 1) := ⟨_, rfl⟩
  have o : ∀ a k, ¬ (a = 18 ∧ k = 6) → ¬ (a = 16 ∧ k = s 18 6) → ¬ (a = 17 ∧ k = s 18 6) → u a k = s a k := fun a k h h' h'' => by rw [hu, s2_if, if_neg h, s2_if, if_neg h'', s2_if, if_neg h']
  have u5 : u 18 6 = s 18 6 + 1 := by rw [hu, s2_s]
  rw [← hu]
  refine (WF_iff _).mpr ⟨WGh G (fun a k h h' => o a k (by omega) (by omega) (by omega)), ⟨by rw [o _ _ (by omega) (by omega) (by omega)]; exact a1, by rw [u5]; omega⟩, ⟨fun k hk => by rw [o _ _ (by omega) (by omega) (by omega)]; exact b1 k hk, fun k hk => by rw [o _ _ (by omega) (by omega) (by omega)]; exact b2 k hk, fun k hk => by rw [o _ _ (by omega) (by omega) (by omega)]; exact b3 k hk⟩, fun k hk => by rw [o _ _ (by omega) (by omega) (by omega), o _ _ (by omega) (by omega) (by omega)]; exact c1 k hk, fun k hk => ?_, fun k hk => ?_⟩
  · rw [u5] at hk
    rw [o 18 1 (by omega) (by omega) (by omega)]
    by_cases e : k = s 18 6
    · have e1 : u 16 k = n := by rw [hu, s2_if, if_neg (by omega), s2_if, if_neg (by omega), s2_if, if_pos ⟨rfl, e⟩]
      rw [e1]
      exact h1
    · rw [o _ _ (by omega) (by omega) (by omega)]; exact c2 k (by omega)
  · by_cases e : k = s 18 6
    · have e2 : u 17 k = c := by rw [hu, s2_if, if_neg (by omega), s2_if, if_pos ⟨rfl, e⟩]
      rw [e2]
      exact h2
    · rw [o _ _ (by omega) (by omega) (by omega)]; exact c3 k hk
theorem WF_by {s : Sv} (W : WF s) {t : Nat} (ht : t ≤ s 18 2) : WF (st2 s 18 3 t) := by
  obtain ⟨⟨⟨a1, a2, a3, a4, a5, a6⟩, b, c, e, f⟩, H⟩ := (WF_iff s).mp W
  have h : ∀ a k, ¬ (a = 18 ∧ k = 3) → st2 s 18 3 t a k = s a k := fun a k h => by rw [s2_if, if_neg h]
  refine (WF_iff _).mpr ⟨⟨⟨by rw [h _ _ (by omega)]; exact a1, by rw [h _ _ (by omega)]; exact a2, by rw [h _ _ (by omega)]; exact GW_c (fun x j h1 _ => h _ _ (by omega)) a3, fun k hk => by rw [h _ _ (by omega)]; exact a4 k hk, fun p hp => by rw [h _ _ (by omega), h _ _ (by omega), h _ _ (by omega)]; exact a5 p hp, fun c hc => by rw [h _ _ (by omega)]; exact a6 c hc⟩, by rw [h _ _ (by omega)]; exact b, fun j hj => ?_, by rw [h _ _ (by omega)]; exact e, by rw [s2_s, h _ _ (by omega)]; exact ht⟩, WHg H (fun a k z => h _ _ (by omega)) (by rw [h _ _ (by omega)]; exact Nat.le_refl _)⟩
  rw [h _ _ (by omega)] at hj
  obtain ⟨c1, c2⟩ := c j hj
  rw [h _ _ (by omega), h _ _ (by omega), h _ _ (by omega)]
  exact ⟨c1, GW_c (fun x j h1 _ => h _ _ (by omega)) c2⟩
theorem WF_ho {s : Sv} (W : WF s) {a : Nat} (ha : a ≤ 9) (h5 : s 18 0 < 5) : WF (hoS s a) := by
  obtain ⟨G, H⟩ := (WF_iff s).mp W
  refine (WF_iff _).mpr ⟨ho_W G ha h5, WHg H (fun x k z => ?_) ?_⟩
  · unfold hoS; rw [s2_if, if_neg (by omega), s2_if, if_neg (by omega)]
  · unfold hoS; rw [s2_if, if_neg (by omega), s2_if, if_neg (by omega)]; exact Nat.le_refl _
theorem WF_pi {s : Sv} (W : WF s) {a b c : Nat} (ha : a ≤ 3) (hb : b ≤ 9) (hc : c ≤ 20) (h10 : s 18 1 < 10) : WF (piS s a b c) := by
  obtain ⟨G, H⟩ := (WF_iff s).mp W
  refine (WF_iff _).mpr ⟨pi_W G ha hb hc h10, WHg H (fun x k z => pi_o s a b c (by omega) (by omega)) ?_⟩
  unfold piS
  rw [s2_s]
  omega
theorem WF_wi {s : Sv} (W : WF s) {c w : Nat} (hw : w ≤ 9) : WF (st2 s 10 c w) := by
  obtain ⟨G, H⟩ := (WF_iff s).mp W
  refine (WF_iff _).mpr ⟨wi_W G hw, WHg H (fun x k z => ?_) ?_⟩
  · rw [s2_if, if_neg (by omega)]
  · rw [s2_if, if_neg (by omega)]; exact Nat.le_refl _
theorem pcl_1 (tx : Nat → Tx) (T : Tx) (s : Sv) (i : Nat) : s 18 1 ≤ (pcl tx T s i).2 18 1 := by
  unfold pcl
  (repeat' split)
  · show _ ≤ hoS s (T.2.1 i 1) 18 1; unfold hoS; rw [s2_if, if_neg (by omega), s2_if, if_neg (by omega)]; exact Nat.le_refl _
  · exact Nat.le_refl _
  · show _ ≤ piS s (T.2.1 i 1) (T.2.1 i 2) (T.2.1 i 3) 18 1; unfold piS; rw [s2_s]; omega
  · exact Nat.le_refl _
  · show _ ≤ st2 s 10 (T.2.1 i 2) (T.2.1 i 1) 18 1; rw [s2_if, if_neg (by omega)]; exact Nat.le_refl _
  · exact Nat.le_refl _
  · show _ ≤ st2 (kp s) 3 (T.2.1 i 1) (T.2.1 i 2 + 1) 18 1; rw [s2_if, if_neg (by omega), kp_o _ (by omega) (by omega)]; exact Nat.le_refl _
  · exact Nat.le_refl _
  · show _ ≤ st2 (kp s) 2 (T.2.1 i 2) (min 20 (s 2 (T.2.1 i 2) + T.2.1 i 1)) 18 1; rw [s2_if, if_neg (by omega), kp_o _ (by omega) (by omega)]; exact Nat.le_refl _
  · exact Nat.le_refl _
  · show _ ≤ lu (kp s) 18 1; unfold lu; rw [if_neg (by omega), kp_o _ (by omega) (by omega)]; exact Nat.le_refl _
  · exact Nat.le_refl _
  · show _ ≤ hrs tx s (T.2.1 i 1) 18 1; rw [hrs_o _ _ _ (by omega) (by omega) (by omega)]; exact Nat.le_refl _
  · show _ ≤ hrs tx s (9999 - s 4 0) 18 1; rw [hrs_o _ _ _ (by omega) (by omega) (by omega)]; exact Nat.le_refl _
  · exact Nat.le_refl _
theorem WF_pcl {tx : Nat → Tx} {T : Tx} {s : Sv} (W : WF s) (i : Nat) : WF (pcl tx T s i).2 := by
  obtain ⟨G, H⟩ := (WF_iff s).mp W
  exact (WF_iff _).mpr ⟨pcl_W G i, WHg H (fun x k z => pcl_o _ _ _ _ (by omega)) (pcl_1 _ _ _ _)⟩
theorem WF_plr {tx : Nat → Tx} {T : Tx} : ∀ r i s, WF s → WF (plr tx T r i s).2 := by
  intro r
  induction r with
  | zero => intro i s W; exact W
  | succ r ih =>
    intro i s W
    show WF (if (pcl tx T s i).1 then plr tx T r (i + 1) (pcl tx T s i).2 else (nI i, (pcl tx T s i).2)).2
    split
    · exact ih _ _ (WF_pcl W i)
    · exact WF_pcl W i
