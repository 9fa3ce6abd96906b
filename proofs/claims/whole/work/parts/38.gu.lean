/-! ===== a green is written, one number at a time (mine) ===== -/
section GU
variable {h : Hp} {g kn : Nat} {s : Sv}
theorem gu_kn (G : GR h g kn s 0) (v : Nat) : GR (ab_sI h g 4 (nI v)) g v (s) 0 := by
  obtain ⟨⟨a1, a2, a3, a4, a5, a6⟩, b, c, e⟩ := G
  refine ⟨⟨rI_s _ _ _ _, ((rI_k _ _ _ (by omega)).trans a2).trans rfl, ((rI_k _ _ _ (by omega)).trans a3).trans rfl, ((rI_k _ _ _ (by omega)).trans a4).trans rfl, ((rI_k _ _ _ (by omega)).trans a5).trans rfl, a6⟩, fun k hk => ⟨?_, ?_⟩, fun k hk => ⟨?_, ?_⟩, fun k hk => ?_⟩
  · exact ((rI_a _ _ _ _ (by omega)).trans (b k hk).1).trans rfl
  · exact ((rI_a _ _ _ _ (by omega)).trans (b k hk).2).trans rfl
  · exact ((rI_a _ _ _ _ (by omega)).trans (c k hk).1).trans rfl
  · exact ((rI_a _ _ _ _ (by omega)).trans (c k hk).2).trans rfl
  · exact ⟨(rI_a _ _ _ _ (by omega)).trans (e k hk).1, (rI_a _ _ _ _ (by omega)).trans (e k hk).2.1, (rI_a _ _ _ _ (by omega)).trans (e k hk).2.2⟩
theorem gu_sun (G : GR h g kn s 0) (v : Nat) : GR (ab_sI h g 5 (nI v)) g kn (st2 s 4 2 v) 0 := by
  obtain ⟨⟨a1, a2, a3, a4, a5, a6⟩, b, c, e⟩ := G
  refine ⟨⟨(rI_k _ _ _ (by omega)).trans a1, (rI_s _ _ _ _).trans (congrArg nI (s2_s _ _ _ _).symm), ((rI_k _ _ _ (by omega)).trans a3).trans (congrArg nI (s2_k _ _ _ (by omega)).symm), ((rI_k _ _ _ (by omega)).trans a4).trans (congrArg nI (s2_k _ _ _ (by omega)).symm), ((rI_k _ _ _ (by omega)).trans a5).trans (congrArg nI (s2_k _ _ _ (by omega)).symm), by show st2 s 4 2 v 4 3 ≤ 30; rw [s2_k _ _ _ (by omega)]; exact a6⟩, fun k hk => ⟨?_, ?_⟩, fun k hk => ⟨?_, ?_⟩, fun k hk => ?_⟩
  · exact ((rI_a _ _ _ _ (by omega)).trans (b k hk).1).trans (congrArg nI (s2_a _ _ _ _ (by omega)).symm)
  · exact ((rI_a _ _ _ _ (by omega)).trans (b k hk).2).trans (congrArg nI (s2_a _ _ _ _ (by omega)).symm)
  · exact ((rI_a _ _ _ _ (by omega)).trans (c k hk).1).trans (congrArg nI (s2_a _ _ _ _ (by omega)).symm)
  · exact ((rI_a _ _ _ _ (by omega)).trans (c k hk).2).trans (congrArg (fun z => nI z - 1) (s2_a _ _ _ _ (by omega)).symm)
  · have h5 : (st2 s 4 2 v) (0 + 5) k = s (0 + 5) k := s2_a _ _ _ _ (by omega)
    have h4 : (st2 s 4 2 v) (0 + 4) 3 = s (0 + 4) 3 := s2_k _ _ _ (by omega)
    rw [h4] at hk
    rw [h5]
    exact ⟨(rI_a _ _ _ _ (by omega)).trans (e k hk).1, (rI_a _ _ _ _ (by omega)).trans (e k hk).2.1, (rI_a _ _ _ _ (by omega)).trans (e k hk).2.2⟩
theorem gu_hou (G : GR h g kn s 0) (v : Nat) : GR (ab_sI h g 6 (nI v)) g kn (st2 s 4 0 v) 0 := by
  obtain ⟨⟨a1, a2, a3, a4, a5, a6⟩, b, c, e⟩ := G
  refine ⟨⟨(rI_k _ _ _ (by omega)).trans a1, ((rI_k _ _ _ (by omega)).trans a2).trans (congrArg nI (s2_k _ _ _ (by omega)).symm), (rI_s _ _ _ _).trans (congrArg nI (s2_s _ _ _ _).symm), ((rI_k _ _ _ (by omega)).trans a4).trans (congrArg nI (s2_k _ _ _ (by omega)).symm), ((rI_k _ _ _ (by omega)).trans a5).trans (congrArg nI (s2_k _ _ _ (by omega)).symm), by show st2 s 4 0 v 4 3 ≤ 30; rw [s2_k _ _ _ (by omega)]; exact a6⟩, fun k hk => ⟨?_, ?_⟩, fun k hk => ⟨?_, ?_⟩, fun k hk => ?_⟩
  · exact ((rI_a _ _ _ _ (by omega)).trans (b k hk).1).trans (congrArg nI (s2_a _ _ _ _ (by omega)).symm)
  · exact ((rI_a _ _ _ _ (by omega)).trans (b k hk).2).trans (congrArg nI (s2_a _ _ _ _ (by omega)).symm)
  · exact ((rI_a _ _ _ _ (by omega)).trans (c k hk).1).trans (congrArg nI (s2_a _ _ _ _ (by omega)).symm)
  · exact ((rI_a _ _ _ _ (by omega)).trans (c k hk).2).trans (congrArg (fun z => nI z - 1) (s2_a _ _ _ _ (by omega)).symm)
  · have h5 : (st2 s 4 0 v) (0 + 5) k = s (0 + 5) k := s2_a _ _ _ _ (by omega)
    have h4 : (st2 s 4 0 v) (0 + 4) 3 = s (0 + 4) 3 := s2_k _ _ _ (by omega)
    rw [h4] at hk
    rw [h5]
    exact ⟨(rI_a _ _ _ _ (by omega)).trans (e k hk).1, (rI_a _ _ _ _ (by omega)).trans (e k hk).2.1, (rI_a _ _ _ _ (by omega)).trans (e k hk).2.2⟩
theorem gu_x (G : GR h g kn s 0) (v : Nat) : GR (ab_sI h g 7 (nI v)) g kn (st2 s 4 1 v) 0 := by
  obtain ⟨⟨a1, a2, a3, a4, a5, a6⟩, b, c, e⟩ := G
  refine ⟨⟨(rI_k _ _ _ (by omega)).trans a1, ((rI_k _ _ _ (by omega)).trans a2).trans (congrArg nI (s2_k _ _ _ (by omega)).symm), ((rI_k _ _ _ (by omega)).trans a3).trans (congrArg nI (s2_k _ _ _ (by omega)).symm), (rI_s _ _ _ _).trans (congrArg nI (s2_s _ _ _ _).symm), ((rI_k _ _ _ (by omega)).trans a5).trans (congrArg nI (s2_k _ _ _ (by omega)).symm), by show st2 s 4 1 v 4 3 ≤ 30; rw [s2_k _ _ _ (by omega)]; exact a6⟩, fun k hk => ⟨?_, ?_⟩, fun k hk => ⟨?_, ?_⟩, fun k hk => ?_⟩
  · exact ((rI_a _ _ _ _ (by omega)).trans (b k hk).1).trans (congrArg nI (s2_a _ _ _ _ (by omega)).symm)
  · exact ((rI_a _ _ _ _ (by omega)).trans (b k hk).2).trans (congrArg nI (s2_a _ _ _ _ (by omega)).symm)
  · exact ((rI_a _ _ _ _ (by omega)).trans (c k hk).1).trans (congrArg nI (s2_a _ _ _ _ (by omega)).symm)
  · exact ((rI_a _ _ _ _ (by omega)).trans (c k hk).2).trans (congrArg (fun z => nI z - 1) (s2_a _ _ _ _ (by omega)).symm)
  · have h5 : (st2 s 4 1 v) (0 + 5) k = s (0 + 5) k := s2_a _ _ _ _ (by omega)
    have h4 : (st2 s 4 1 v) (0 + 4) 3 = s (0 + 4) 3 := s2_k _ _ _ (by omega)
    rw [h4] at hk
    rw [h5]
    exact ⟨(rI_a _ _ _ _ (by omega)).trans (e k hk).1, (rI_a _ _ _ _ (by omega)).trans (e k hk).2.1, (rI_a _ _ _ _ (by omega)).trans (e k hk).2.2⟩
theorem gu_cel (G : GR h g kn s 0) {q : Nat} (v : Nat) : GR (ab_sI h (g + 1) q (nI v)) g kn (st2 s 0 q v) 0 := by
  obtain ⟨⟨a1, a2, a3, a4, a5, a6⟩, b, c, e⟩ := G
  refine ⟨⟨(rI_a _ _ _ _ (by omega)).trans a1, ((rI_a _ _ _ _ (by omega)).trans a2).trans (congrArg nI (s2_a _ _ _ _ (by omega)).symm), ((rI_a _ _ _ _ (by omega)).trans a3).trans (congrArg nI (s2_a _ _ _ _ (by omega)).symm), ((rI_a _ _ _ _ (by omega)).trans a4).trans (congrArg nI (s2_a _ _ _ _ (by omega)).symm), ((rI_a _ _ _ _ (by omega)).trans a5).trans (congrArg nI (s2_a _ _ _ _ (by omega)).symm), by show st2 s 0 q v 4 3 ≤ 30; rw [s2_a _ _ _ _ (by omega)]; exact a6⟩, fun k hk => ⟨?_, ?_⟩, fun k hk => ⟨?_, ?_⟩, fun k hk => ?_⟩
  · by_cases ek : k = q
    · subst ek
      exact (rI_s _ _ _ _).trans (congrArg nI (s2_s _ _ _ _).symm)
    · exact ((rI_k _ _ _ ek).trans (b k hk).1).trans (congrArg nI (s2_k _ _ _ ek).symm)
  · exact ((rI_a _ _ _ _ (by omega)).trans (b k hk).2).trans (congrArg nI (s2_a _ _ _ _ (by omega)).symm)
  · exact ((rI_a _ _ _ _ (by omega)).trans (c k hk).1).trans (congrArg nI (s2_a _ _ _ _ (by omega)).symm)
  · exact ((rI_a _ _ _ _ (by omega)).trans (c k hk).2).trans (congrArg (fun z => nI z - 1) (s2_a _ _ _ _ (by omega)).symm)
  · have h5 : (st2 s 0 q v) (0 + 5) k = s (0 + 5) k := s2_a _ _ _ _ (by omega)
    have h4 : (st2 s 0 q v) (0 + 4) 3 = s (0 + 4) 3 := s2_a _ _ _ _ (by omega)
    rw [h4] at hk
    rw [h5]
    exact ⟨(rI_a _ _ _ _ (by omega)).trans (e k hk).1, (rI_a _ _ _ _ (by omega)).trans (e k hk).2.1, (rI_a _ _ _ _ (by omega)).trans (e k hk).2.2⟩
theorem gu_ran (G : GR h g kn s 0) {q : Nat} (v : Nat) : GR (ab_sI h (g + 2) q (nI v)) g kn (st2 s 1 q v) 0 := by
  obtain ⟨⟨a1, a2, a3, a4, a5, a6⟩, b, c, e⟩ := G
  refine ⟨⟨(rI_a _ _ _ _ (by omega)).trans a1, ((rI_a _ _ _ _ (by omega)).trans a2).trans (congrArg nI (s2_a _ _ _ _ (by omega)).symm), ((rI_a _ _ _ _ (by omega)).trans a3).trans (congrArg nI (s2_a _ _ _ _ (by omega)).symm), ((rI_a _ _ _ _ (by omega)).trans a4).trans (congrArg nI (s2_a _ _ _ _ (by omega)).symm), ((rI_a _ _ _ _ (by omega)).trans a5).trans (congrArg nI (s2_a _ _ _ _ (by omega)).symm), by show st2 s 1 q v 4 3 ≤ 30; rw [s2_a _ _ _ _ (by omega)]; exact a6⟩, fun k hk => ⟨?_, ?_⟩, fun k hk => ⟨?_, ?_⟩, fun k hk => ?_⟩
  · exact ((rI_a _ _ _ _ (by omega)).trans (b k hk).1).trans (congrArg nI (s2_a _ _ _ _ (by omega)).symm)
  · by_cases ek : k = q
    · subst ek
      exact (rI_s _ _ _ _).trans (congrArg nI (s2_s _ _ _ _).symm)
    · exact ((rI_k _ _ _ ek).trans (b k hk).2).trans (congrArg nI (s2_k _ _ _ ek).symm)
  · exact ((rI_a _ _ _ _ (by omega)).trans (c k hk).1).trans (congrArg nI (s2_a _ _ _ _ (by omega)).symm)
  · exact ((rI_a _ _ _ _ (by omega)).trans (c k hk).2).trans (congrArg (fun z => nI z - 1) (s2_a _ _ _ _ (by omega)).symm)
  · have h5 : (st2 s 1 q v) (0 + 5) k = s (0 + 5) k := s2_a _ _ _ _ (by omega)
    have h4 : (st2 s 1 q v) (0 + 4) 3 = s (0 + 4) 3 := s2_a _ _ _ _ (by omega)
    rw [h4] at hk
    rw [h5]
    exact ⟨(rI_a _ _ _ _ (by omega)).trans (e k hk).1, (rI_a _ _ _ _ (by omega)).trans (e k hk).2.1, (rI_a _ _ _ _ (by omega)).trans (e k hk).2.2⟩
theorem gu_wet (G : GR h g kn s 0) {q : Nat} (v : Nat) : GR (ab_sI h (g + 3) q (nI v)) g kn (st2 s 2 q v) 0 := by
  obtain ⟨⟨a1, a2, a3, a4, a5, a6⟩, b, c, e⟩ := G
  refine ⟨⟨(rI_a _ _ _ _ (by omega)).trans a1, ((rI_a _ _ _ _ (by omega)).trans a2).trans (congrArg nI (s2_a _ _ _ _ (by omega)).symm), ((rI_a _ _ _ _ (by omega)).trans a3).trans (congrArg nI (s2_a _ _ _ _ (by omega)).symm), ((rI_a _ _ _ _ (by omega)).trans a4).trans (congrArg nI (s2_a _ _ _ _ (by omega)).symm), ((rI_a _ _ _ _ (by omega)).trans a5).trans (congrArg nI (s2_a _ _ _ _ (by omega)).symm), by show st2 s 2 q v 4 3 ≤ 30; rw [s2_a _ _ _ _ (by omega)]; exact a6⟩, fun k hk => ⟨?_, ?_⟩, fun k hk => ⟨?_, ?_⟩, fun k hk => ?_⟩
  · exact ((rI_a _ _ _ _ (by omega)).trans (b k hk).1).trans (congrArg nI (s2_a _ _ _ _ (by omega)).symm)
  · exact ((rI_a _ _ _ _ (by omega)).trans (b k hk).2).trans (congrArg nI (s2_a _ _ _ _ (by omega)).symm)
  · by_cases ek : k = q
    · subst ek
      exact (rI_s _ _ _ _).trans (congrArg nI (s2_s _ _ _ _).symm)
    · exact ((rI_k _ _ _ ek).trans (c k hk).1).trans (congrArg nI (s2_k _ _ _ ek).symm)
  · exact ((rI_a _ _ _ _ (by omega)).trans (c k hk).2).trans (congrArg (fun z => nI z - 1) (s2_a _ _ _ _ (by omega)).symm)
  · have h5 : (st2 s 2 q v) (0 + 5) k = s (0 + 5) k := s2_a _ _ _ _ (by omega)
    have h4 : (st2 s 2 q v) (0 + 4) 3 = s (0 + 4) 3 := s2_a _ _ _ _ (by omega)
    rw [h4] at hk
    rw [h5]
    exact ⟨(rI_a _ _ _ _ (by omega)).trans (e k hk).1, (rI_a _ _ _ _ (by omega)).trans (e k hk).2.1, (rI_a _ _ _ _ (by omega)).trans (e k hk).2.2⟩
theorem gu_on (G : GR h g kn s 0) {q : Nat} (v : Nat) : GR (ab_sI h (g + 4) q (nI v - 1)) g kn (st2 s 3 q v) 0 := by
  obtain ⟨⟨a1, a2, a3, a4, a5, a6⟩, b, c, e⟩ := G
  refine ⟨⟨(rI_a _ _ _ _ (by omega)).trans a1, ((rI_a _ _ _ _ (by omega)).trans a2).trans (congrArg nI (s2_a _ _ _ _ (by omega)).symm), ((rI_a _ _ _ _ (by omega)).trans a3).trans (congrArg nI (s2_a _ _ _ _ (by omega)).symm), ((rI_a _ _ _ _ (by omega)).trans a4).trans (congrArg nI (s2_a _ _ _ _ (by omega)).symm), ((rI_a _ _ _ _ (by omega)).trans a5).trans (congrArg nI (s2_a _ _ _ _ (by omega)).symm), by show st2 s 3 q v 4 3 ≤ 30; rw [s2_a _ _ _ _ (by omega)]; exact a6⟩, fun k hk => ⟨?_, ?_⟩, fun k hk => ⟨?_, ?_⟩, fun k hk => ?_⟩
  · exact ((rI_a _ _ _ _ (by omega)).trans (b k hk).1).trans (congrArg nI (s2_a _ _ _ _ (by omega)).symm)
  · exact ((rI_a _ _ _ _ (by omega)).trans (b k hk).2).trans (congrArg nI (s2_a _ _ _ _ (by omega)).symm)
  · exact ((rI_a _ _ _ _ (by omega)).trans (c k hk).1).trans (congrArg nI (s2_a _ _ _ _ (by omega)).symm)
  · by_cases ek : k = q
    · subst ek
      exact (rI_s _ _ _ _).trans (congrArg (fun z => nI z - 1) (s2_s _ _ _ _).symm)
    · exact ((rI_k _ _ _ ek).trans (c k hk).2).trans (congrArg (fun z => nI z - 1) (s2_k _ _ _ ek).symm)
  · have h5 : (st2 s 3 q v) (0 + 5) k = s (0 + 5) k := s2_a _ _ _ _ (by omega)
    have h4 : (st2 s 3 q v) (0 + 4) 3 = s (0 + 4) 3 := s2_a _ _ _ _ (by omega)
    rw [h4] at hk
    rw [h5]
    exact ⟨(rI_a _ _ _ _ (by omega)).trans (e k hk).1, (rI_a _ _ _ _ (by omega)).trans (e k hk).2.1, (rI_a _ _ _ _ (by omega)).trans (e k hk).2.2⟩
end GU
/-- the cells of a green -/
def gF (g a k : Nat) : Prop := g ≤ a ∧ a < g + 8
theorem fF (h : Hp) {g a : Nat} (k : Nat) (v : Int32) (h1 : g ≤ a) (h2 : a < g + 8) : Fr (gF g) h (ab_sI h a k v) := Fr_sI ⟨h1, h2⟩
theorem Fr_GSh {P : Nat → Nat → Prop} {h h1 : Hp} {g : Nat} (a : Fr P h h1) (S : GSh h g) : GSh h1 g := by
  obtain ⟨a1, a2, a3, -, -⟩ := a
  unfold GSh
  rw [a1, a2, a3]
  exact S
theorem GR_cp {h h' : Hp} {g g' kn kn' r r' : Nat} {s s' : Sv} (R : GR h g kn s r) (h0 : ∀ k, 4 ≤ k → k ≤ 8 → ab_I h' g' k = ab_I h g k) (h1 : ∀ a k, 1 ≤ a → a ≤ 2 → k < 5 → ab_I h' (g' + a) k = ab_I h (g + a) k) (h2 : ∀ a k, 3 ≤ a → a ≤ 4 → k < 10 → ab_I h' (g' + a) k = ab_I h (g + a) k) (h3 : ∀ a k, 5 ≤ a → a ≤ 7 → k < 30 → ab_I h' (g' + a) k = ab_I h (g + a) k) (hk : kn' = kn) (hs : ∀ a k, a < 6 → ¬ (a = 4 ∧ k = 4) → s' (r' + a) k = s (r + a) k) : GR h' g' kn' s' r' := by
  obtain ⟨⟨a1, a2, a3, a4, a5, a6⟩, b, c, e⟩ := R
  have hs0 : ∀ k, s' r' k = s r k := fun k => hs 0 k (by omega) (by omega)
  refine ⟨⟨?_, ?_, ?_, ?_, ?_, ?_⟩, fun k hk => ⟨?_, ?_⟩, fun p hp => ⟨?_, ?_⟩, fun i hi => ?_⟩
  · rw [h0 _ (by omega) (by omega), hk]; exact a1
  · rw [h0 _ (by omega) (by omega), hs _ _ (by omega) (by omega)]; exact a2
  · rw [h0 _ (by omega) (by omega), hs _ _ (by omega) (by omega)]; exact a3
  · rw [h0 _ (by omega) (by omega), hs _ _ (by omega) (by omega)]; exact a4
  · rw [h0 _ (by omega) (by omega), hs _ _ (by omega) (by omega)]; exact a5
  · rw [hs _ _ (by omega) (by omega)]; exact a6
  · rw [h1 _ _ (by omega) (by omega) hk, hs0]; exact (b k hk).1
  · rw [h1 _ _ (by omega) (by omega) hk, hs _ _ (by omega) (by omega)]; exact (b k hk).2
  · rw [h2 _ _ (by omega) (by omega) hp, hs _ _ (by omega) (by omega)]; exact (c p hp).1
  · rw [h2 _ _ (by omega) (by omega) hp, hs _ _ (by omega) (by omega)]; exact (c p hp).2
  · rw [hs _ _ (by omega) (by omega)] at hi
    rw [h3 _ _ (by omega) (by omega) (by omega), h3 _ _ (by omega) (by omega) (by omega), h3 _ _ (by omega) (by omega) (by omega), hs _ _ (by omega) (by omega)]
    exact e i hi
