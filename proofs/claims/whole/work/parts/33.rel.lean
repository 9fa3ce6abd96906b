/-! ===== the state as numbers, and what the cells say of it (mine) ===== -/
/-- rows of numbers: 0 cells, 1 ranks, 2 wets, 3 where a piece is (0: grass), 4 hour, x, sun, written, 5 the book, 6 hinges, 7 stuffs, 8 weights, 9 wets as told, 10 winds, 11 odds, 12 beaten, 13 strengths, 14 15 seen, 16 17 said, 18 horses, pieces, texts, the text (0: none), steps, seens, saids; a step j: 1000 + 10 j + 0 .. 5, as 0 .. 5, with the pieces at (4, 4) -/
abbrev Sv : Type := Nat → Nat → Nat
def st2 (s : Sv) (a k v : Nat) : Sv := va_up s a (va_up (s a) k v)
def ya (o : Nat) : Nat := if o < 7 then 18 else if o < 11 then 4 else if o < 21 then (o - 11) % 2 else if o < 41 then 2 + (o - 21) % 2 else if o < 46 then 6 else if o < 76 then 7 + (o - 46) % 3 else if o < 88 then 10 else if o < 93 then 11 else if o < 118 then 12 else if o < 123 then 13 else if o < 135 then 14 + (o - 123) % 2 else if o < 151 then 16 + (o - 135) % 2 else if o < 2101 then 1000 + 10 * ((o - 151) / 65) + (if (o - 151) % 65 < 5 then 4 else if (o - 151) % 65 < 15 then ((o - 151) % 65 - 5) % 2 else if (o - 151) % 65 < 35 then 2 + ((o - 151) % 65 - 15) % 2 else 5) else 5
def yk (o : Nat) : Nat := if o < 7 then o else if o < 11 then o - 7 else if o < 21 then (o - 11) / 2 else if o < 41 then (o - 21) / 2 else if o < 46 then o - 41 else if o < 76 then (o - 46) / 3 else if o < 88 then o - 76 else if o < 93 then o - 88 else if o < 118 then o - 93 else if o < 123 then o - 118 else if o < 135 then (o - 123) / 2 else if o < 151 then (o - 135) / 2 else if o < 2101 then (if (o - 151) % 65 = 0 then 4 else if (o - 151) % 65 < 5 then (o - 151) % 65 - 1 else if (o - 151) % 65 < 15 then ((o - 151) % 65 - 5) / 2 else if (o - 151) % 65 < 35 then ((o - 151) % 65 - 15) / 2 else (o - 151) % 65 - 35) else o - 2101
/-- where a number lies in the reference's row -/
def yo (a k : Nat) : Nat := if a = 18 then k else if a = 4 then 7 + k else if a < 2 then 11 + 2 * k + a else if a < 4 then 21 + 2 * k + (a - 2) else if a = 5 then 2101 + k else if a = 6 then 41 + k else if a < 10 then 46 + 3 * k + (a - 7) else if a = 10 then 76 + k else if a = 11 then 88 + k else if a = 12 then 93 + k else if a = 13 then 118 + k else if a < 16 then 123 + 2 * k + (a - 14) else if a < 18 then 135 + 2 * k + (a - 16) else
  151 + 65 * ((a - 1000) / 10) + (if (a - 1000) % 10 = 4 then (if k = 4 then 0 else 1 + k) else if (a - 1000) % 10 < 2 then 5 + 2 * k + (a - 1000) % 10 else if (a - 1000) % 10 < 4 then 15 + 2 * k + ((a - 1000) % 10 - 2) else 35 + k)
theorem yo_ok : ∀ o, o < 2131 → yo (ya o) (yk o) = o := by decide +kernel
/-- a row of the reference's, at cell b -/
def MS (h : Hp) (b : Nat) (s : Sv) : Prop := (∀ o, o < 2131 → o ≠ 3 → ab_I h b o = nI (s (ya o) (yk o))) ∧ ab_I h b 3 = nI (s 18 3) - 1
theorem MS_up {h : Hp} {b : Nat} {s : Sv} (M : MS h b s) {o : Nat} (ho : o < 2131) (h3 : o ≠ 3) (v : Nat) : MS (ab_sI h b o (nI v)) b (st2 s (ya o) (yk o) v) := by
  refine ⟨fun q hq q3 => ?_, ?_⟩
  · by_cases e : q = o
    · subst e
      rw [rI_s]
      show nI v = nI (va_up s (ya q) (va_up (s (ya q)) (yk q) v) (ya q) (yk q))
      rw [up_s, up_s]
    · rw [rI_k _ _ _ e, M.1 q hq q3]
      by_cases ea : ya q = ya o
      · have ek : yk q ≠ yk o := fun ek => e (by rw [← yo_ok q hq, ← yo_ok o ho, ea, ek])
        show _ = nI (va_up s (ya o) (va_up (s (ya o)) (yk o) v) (ya q) (yk q))
        rw [ea, up_s, up_n _ _ ek]
      · show _ = nI (va_up s (ya o) (va_up (s (ya o)) (yk o) v) (ya q) (yk q))
        rw [up_n _ _ ea]
  · rw [rI_k _ _ _ (Ne.symm h3), M.2]
    have hne : ¬ (ya o = 18 ∧ yk o = 3) := by
      rintro ⟨e1, e2⟩
      have := yo_ok o ho
      rw [e1, e2] at this
      exact h3 this.symm
    show _ = nI (va_up s (ya o) (va_up (s (ya o)) (yk o) v) 18 3) - 1
    by_cases ea : (18 : Nat) = ya o
    · rw [← ea, up_s, up_n _ _ (fun e => hne ⟨ea.symm, e.symm⟩)]
    · rw [up_n _ _ ea]
theorem MS_c {h h' : Hp} {b b' : Nat} {s : Sv} (M : MS h b s) (e : ∀ k, k < 2131 → ab_I h' b' k = ab_I h b k) : MS h' b' s := ⟨fun o ho h3 => by rw [e o ho]; exact M.1 o ho h3, by rw [e 3 (by decide)]; exact M.2⟩
theorem MS_s {h : Hp} {b : Nat} {s s' : Sv} (M : MS h b s) (e : ∀ o, o < 2131 → s' (ya o) (yk o) = s (ya o) (yk o)) : MS h b s' := ⟨fun o ho h3 => by rw [e o ho]; exact M.1 o ho h3, by rw [M.2]; exact (congrArg (fun q => nI q - 1) (e 3 (by decide))).symm⟩
/-- a green, as numbers -/
def GW (hs : Nat) (s : Sv) (r : Nat) : Prop := s (r + 4) 0 ≤ 9999 ∧ s (r + 4) 1 < 30707 ∧ s (r + 4) 2 ≤ 9 ∧ s (r + 4) 3 ≤ 30 ∧ (∀ k, k < 5 → s r k ≤ 11 ∧ s (r + 1) k ≤ 5 ∧ (hs ≤ k → s r k = 0 ∧ s (r + 1) k = 0)) ∧ (∀ p, p < 10 → s (r + 2) p ≤ 20 ∧ s (r + 3) p ≤ hs) ∧ (∀ i, i < s (r + 4) 3 → s (r + 5) i < 300000 ∧ 1 ≤ s (r + 5) i % 6)
def WF (s : Sv) : Prop := (s 18 0 ≤ 5 ∧ s 18 1 ≤ 10 ∧ s 18 2 ≤ 4 ∧ s 18 3 ≤ s 18 2 ∧ s 18 4 ≤ 30 ∧ s 18 5 ≤ 6 ∧ s 18 6 ≤ 8) ∧ GW (s 18 0) s 0 ∧
  (∀ k, k < 5 → s 6 k ≤ 9) ∧ (∀ p, p < 10 → s 7 p ≤ 3 ∧ s 8 p ≤ 9 ∧ s 9 p ≤ 20) ∧ (∀ c, c < 12 → s 10 c ≤ 9) ∧
  ((∀ k, k < 5 → 2 ≤ s 11 k ∧ s 11 k ≤ 20) ∧ (∀ k, k < 25 → s 12 k ≤ 99) ∧ (∀ k, k < 5 → 1 ≤ s 13 k ∧ s 13 k ≤ 20)) ∧
  ((∀ k, k < 6 → s 14 k ≤ 12 ∧ s 15 k ≤ 11) ∧ (∀ k, k < s 18 6 → s 16 k < s 18 1) ∧ (∀ k, k < 8 → s 17 k ≤ 20)) ∧
  (∀ j, j < s 18 4 → s (1000 + 10 * j + 4) 4 ≤ s 18 1 ∧ GW (s 18 0) s (1000 + 10 * j))
def TR (h : Hp) (t : Nat) (s : Sv) : Prop := (ab_I h t 0 = nI (s 18 0) ∧ ab_I h t 2 = nI (s 18 1) ∧ ab_I h t 7 = nI (s 18 2) ∧ ab_I h t 9 = nI (s 18 3) - 1) ∧ (∀ k, k < 5 → ab_I h (t + 1) k = nI (s 6 k)) ∧
  (∀ p, p < 10 → ab_I h (t + 2) p = nI (s 7 p) ∧ ab_I h (t + 3) p = nI (s 8 p) ∧ ab_I h (t + 4) p = nI (s 9 p)) ∧ (∀ c, c < 12 → ab_I h (t + 5) c = nI (s 10 c))
def HR (h : Hp) (b : Nat) (s : Sv) : Prop := (ab_I h b 3 = nI (s 18 5) ∧ ab_I h b 6 = nI (s 18 6)) ∧ (∀ k, k < 5 → ab_I h (b + 1) k = nI (s 11 k) ∧ ab_I h (b + 8) k = nI (s 13 k)) ∧ (∀ a c, a < 5 → c < 5 → ab_I h (b + 3 + a) c = nI (s 12 (5 * a + c))) ∧
  (∀ k, k < 6 → ab_I h (b + 9) k = nI (s 14 k) ∧ ab_I h (b + 10) k = nI (s 15 k)) ∧ (∀ k, k < 8 → ab_I h (b + 11) k = nI (s 16 k) ∧ ab_I h (b + 12) k = nI (s 17 k))
def GR (h : Hp) (g kn : Nat) (s : Sv) (r : Nat) : Prop := (ab_I h g 4 = nI kn ∧ ab_I h g 5 = nI (s (r + 4) 2) ∧ ab_I h g 6 = nI (s (r + 4) 0) ∧ ab_I h g 7 = nI (s (r + 4) 1) ∧ ab_I h g 8 = nI (s (r + 4) 3) ∧ s (r + 4) 3 ≤ 30) ∧ (∀ k, k < 5 → ab_I h (g + 1) k = nI (s r k) ∧ ab_I h (g + 2) k = nI (s (r + 1) k)) ∧
  (∀ p, p < 10 → ab_I h (g + 3) p = nI (s (r + 2) p) ∧ ab_I h (g + 4) p = nI (s (r + 3) p) - 1) ∧ (∀ i, i < s (r + 4) 3 → ab_I h (g + 5) i = nI (s (r + 5) i / 30) ∧ ab_I h (g + 6) i = nI (s (r + 5) i / 6 % 5) ∧ ab_I h (g + 7) i = nI (s (r + 5) i % 6))
def SR (h : Hp) (st : Nat) (s : Sv) : Prop := ab_I h st 2 = nI (s 18 4) ∧ ∃ nx, nx < 30 ∧ ab_I h st 1 = nI nx ∧ ∀ j, j < s 18 4 → GR h (st + 2 + 8 * ((nx + 30 - s 18 4 + j) % 30)) (s (1000 + 10 * j + 4) 4) s (1000 + 10 * j)
def CR (h : Hp) (t b g st : Nat) (s : Sv) : Prop := TR h t s ∧ HR h b s ∧ GR h g (s 18 1) s 0 ∧ SR h st s
/-- a relation stands where the cells and the numbers that it speaks of stand -/
theorem TR_c {h h' : Hp} {t : Nat} {s s' : Sv} (R : TR h t s) (hI : ∀ a k, t ≤ a → a ≤ t + 5 → ab_I h' a k = ab_I h a k) (h18 : ∀ k, k < 4 → s' 18 k = s 18 k) (hs : ∀ a k, 6 ≤ a → a ≤ 10 → s' a k = s a k) : TR h' t s' := by
  obtain ⟨⟨a1, a2, a3, a4⟩, b, c, e⟩ := R
  refine ⟨⟨?_, ?_, ?_, ?_⟩, fun k hk => ?_, fun p hp => ⟨?_, ?_, ?_⟩, fun k hk => ?_⟩
  · rw [hI _ _ (by omega) (by omega), h18 _ (by omega)]; exact a1
  · rw [hI _ _ (by omega) (by omega), h18 _ (by omega)]; exact a2
  · rw [hI _ _ (by omega) (by omega), h18 _ (by omega)]; exact a3
  · rw [hI _ _ (by omega) (by omega), h18 _ (by omega)]; exact a4
  · rw [hI _ _ (by omega) (by omega), hs _ _ (by omega) (by omega)]; exact b k hk
  · rw [hI _ _ (by omega) (by omega), hs _ _ (by omega) (by omega)]; exact (c p hp).1
  · rw [hI _ _ (by omega) (by omega), hs _ _ (by omega) (by omega)]; exact (c p hp).2.1
  · rw [hI _ _ (by omega) (by omega), hs _ _ (by omega) (by omega)]; exact (c p hp).2.2
  · rw [hI _ _ (by omega) (by omega), hs _ _ (by omega) (by omega)]; exact e k hk
theorem HR_c {h h' : Hp} {t : Nat} {s s' : Sv} (R : HR h t s) (hI : ∀ a k, t ≤ a → a ≤ t + 12 → ab_I h' a k = ab_I h a k) (h5 : s' 18 5 = s 18 5) (h6 : s' 18 6 = s 18 6) (hs : ∀ a k, 11 ≤ a → a ≤ 17 → s' a k = s a k) : HR h' t s' := by
  obtain ⟨⟨a1, a2⟩, b, c, e, f⟩ := R
  refine ⟨⟨?_, ?_⟩, fun k hk => ⟨?_, ?_⟩, fun a k ha hk => ?_, fun k hk => ⟨?_, ?_⟩, fun k hk => ⟨?_, ?_⟩⟩
  · rw [hI _ _ (by omega) (by omega), h5]; exact a1
  · rw [hI _ _ (by omega) (by omega), h6]; exact a2
  · rw [hI _ _ (by omega) (by omega), hs _ _ (by omega) (by omega)]; exact (b k hk).1
  · rw [hI _ _ (by omega) (by omega), hs _ _ (by omega) (by omega)]; exact (b k hk).2
  · rw [hI _ _ (by omega) (by omega), hs _ _ (by omega) (by omega)]; exact c a k ha hk
  · rw [hI _ _ (by omega) (by omega), hs _ _ (by omega) (by omega)]; exact (e k hk).1
  · rw [hI _ _ (by omega) (by omega), hs _ _ (by omega) (by omega)]; exact (e k hk).2
  · rw [hI _ _ (by omega) (by omega), hs _ _ (by omega) (by omega)]; exact (f k hk).1
  · rw [hI _ _ (by omega) (by omega), hs _ _ (by omega) (by omega)]; exact (f k hk).2
theorem GR_c {h h' : Hp} {g g' kn kn' r r' : Nat} {s s' : Sv} (R : GR h g kn s r) (hI : ∀ a k, a < 8 → ab_I h' (g' + a) k = ab_I h (g + a) k) (hk : kn' = kn) (hs : ∀ a k, a < 6 → ¬ (a = 4 ∧ k = 4) → s' (r' + a) k = s (r + a) k) : GR h' g' kn' s' r' := by
  obtain ⟨⟨a1, a2, a3, a4, a5, a6⟩, b, c, e⟩ := R
  have hI0 : ∀ k, ab_I h' g' k = ab_I h g k := fun k => hI 0 k (by omega)
  have hs0 : ∀ k, s' r' k = s r k := fun k => hs 0 k (by omega) (by omega)
  refine ⟨⟨?_, ?_, ?_, ?_, ?_, ?_⟩, fun k hk => ⟨?_, ?_⟩, fun p hp => ⟨?_, ?_⟩, fun i hi => ?_⟩
  · rw [hI0, hk]; exact a1
  · rw [hI0, hs _ _ (by omega) (by omega)]; exact a2
  · rw [hI0, hs _ _ (by omega) (by omega)]; exact a3
  · rw [hI0, hs _ _ (by omega) (by omega)]; exact a4
  · rw [hI0, hs _ _ (by omega) (by omega)]; exact a5
  · rw [hs _ _ (by omega) (by omega)]; exact a6
  · rw [hI _ _ (by omega), hs0]; exact (b k hk).1
  · rw [hI _ _ (by omega), hs _ _ (by omega) (by omega)]; exact (b k hk).2
  · rw [hI _ _ (by omega), hs _ _ (by omega) (by omega)]; exact (c p hp).1
  · rw [hI _ _ (by omega), hs _ _ (by omega) (by omega)]; exact (c p hp).2
  · rw [hs _ _ (by omega) (by omega)] at hi
    rw [hI _ _ (by omega), hI _ _ (by omega), hI _ _ (by omega), hs _ _ (by omega) (by omega)]
    exact e i hi
theorem SR_c {h h' : Hp} {st : Nat} {s s' : Sv} (R : SR h st s) (hI : ∀ a k, st ≤ a → a < st + 242 → ab_I h' a k = ab_I h a k) (h4 : s' 18 4 = s 18 4) (hs : ∀ a k, 1000 ≤ a → s' a k = s a k) : SR h' st s' := by
  obtain ⟨a1, nx, hn, a2, a3⟩ := R
  refine ⟨?_, nx, hn, ?_, fun j hj => ?_⟩
  · rw [hI _ _ (by omega) (by omega), h4]; exact a1
  · rw [hI _ _ (by omega) (by omega)]; exact a2
  · rw [h4] at hj ⊢
    refine GR_c (a3 j hj) (fun a k ha => ?_) (hs _ _ (by omega)) (fun a k ha _ => hs _ _ (by omega))
    have : (nx + 30 - s 18 4 + j) % 30 < 30 := Nat.mod_lt _ (by decide)
    exact hI _ _ (by omega) (by omega)
