/-! ===== the told and the hearsay are written, one number at a time (mine) ===== -/
theorem arU {h : Hp} {x k q v a : Nat} {s : Sv} (e : ab_I h x k = nI (s a k)) : ab_I (ab_sI h x q (nI v)) x k = nI (st2 s a q v a k) := by
  by_cases ek : k = q
  · subst ek
    rw [rI_s, s2_s]
  · rw [rI_k _ _ _ ek, s2_k _ _ _ ek]; exact e
section CU
variable {h : Hp} {s : Sv} {t : Nat}
theorem tu_n0 (T : TR h t s) (v : Nat) : TR (ab_sI h t 0 (nI v)) t (st2 s 18 0 v) := by
  obtain ⟨⟨a1, a2, a3, a4⟩, b, c, e⟩ := T
  refine ⟨⟨?_, ?_, ?_, ?_⟩, fun k hk => ?_, fun p hp => ⟨?_, ?_, ?_⟩, fun k hk => ?_⟩
  · rw [rI_s, s2_s]
  · rw [rI_k _ _ _ (by omega), s2_k _ _ _ (by omega)]; exact a2
  · rw [rI_k _ _ _ (by omega), s2_k _ _ _ (by omega)]; exact a3
  · rw [rI_k _ _ _ (by omega), s2_k _ _ _ (by omega)]; exact a4
  · rw [rI_a _ _ _ _ (by omega), s2_a _ _ _ _ (by omega)]; exact b k hk
  · rw [rI_a _ _ _ _ (by omega), s2_a _ _ _ _ (by omega)]; exact (c p hp).1
  · rw [rI_a _ _ _ _ (by omega), s2_a _ _ _ _ (by omega)]; exact (c p hp).2.1
  · rw [rI_a _ _ _ _ (by omega), s2_a _ _ _ _ (by omega)]; exact (c p hp).2.2
  · rw [rI_a _ _ _ _ (by omega), s2_a _ _ _ _ (by omega)]; exact e k hk
theorem tu_n1 (T : TR h t s) (v : Nat) : TR (ab_sI h t 2 (nI v)) t (st2 s 18 1 v) := by
  obtain ⟨⟨a1, a2, a3, a4⟩, b, c, e⟩ := T
  refine ⟨⟨?_, ?_, ?_, ?_⟩, fun k hk => ?_, fun p hp => ⟨?_, ?_, ?_⟩, fun k hk => ?_⟩
  · rw [rI_k _ _ _ (by omega), s2_k _ _ _ (by omega)]; exact a1
  · rw [rI_s, s2_s]
  · rw [rI_k _ _ _ (by omega), s2_k _ _ _ (by omega)]; exact a3
  · rw [rI_k _ _ _ (by omega), s2_k _ _ _ (by omega)]; exact a4
  · rw [rI_a _ _ _ _ (by omega), s2_a _ _ _ _ (by omega)]; exact b k hk
  · rw [rI_a _ _ _ _ (by omega), s2_a _ _ _ _ (by omega)]; exact (c p hp).1
  · rw [rI_a _ _ _ _ (by omega), s2_a _ _ _ _ (by omega)]; exact (c p hp).2.1
  · rw [rI_a _ _ _ _ (by omega), s2_a _ _ _ _ (by omega)]; exact (c p hp).2.2
  · rw [rI_a _ _ _ _ (by omega), s2_a _ _ _ _ (by omega)]; exact e k hk
theorem tu_n2 (T : TR h t s) (v : Nat) : TR (ab_sI h t 7 (nI v)) t (st2 s 18 2 v) := by
  obtain ⟨⟨a1, a2, a3, a4⟩, b, c, e⟩ := T
  refine ⟨⟨?_, ?_, ?_, ?_⟩, fun k hk => ?_, fun p hp => ⟨?_, ?_, ?_⟩, fun k hk => ?_⟩
  · rw [rI_k _ _ _ (by omega), s2_k _ _ _ (by omega)]; exact a1
  · rw [rI_k _ _ _ (by omega), s2_k _ _ _ (by omega)]; exact a2
  · rw [rI_s, s2_s]
  · rw [rI_k _ _ _ (by omega), s2_k _ _ _ (by omega)]; exact a4
  · rw [rI_a _ _ _ _ (by omega), s2_a _ _ _ _ (by omega)]; exact b k hk
  · rw [rI_a _ _ _ _ (by omega), s2_a _ _ _ _ (by omega)]; exact (c p hp).1
  · rw [rI_a _ _ _ _ (by omega), s2_a _ _ _ _ (by omega)]; exact (c p hp).2.1
  · rw [rI_a _ _ _ _ (by omega), s2_a _ _ _ _ (by omega)]; exact (c p hp).2.2
  · rw [rI_a _ _ _ _ (by omega), s2_a _ _ _ _ (by omega)]; exact e k hk
theorem tu_n3 (T : TR h t s) (v : Nat) : TR (ab_sI h t 9 (nI v - 1)) t (st2 s 18 3 v) := by
  obtain ⟨⟨a1, a2, a3, a4⟩, b, c, e⟩ := T
  refine ⟨⟨?_, ?_, ?_, ?_⟩, fun k hk => ?_, fun p hp => ⟨?_, ?_, ?_⟩, fun k hk => ?_⟩
  · rw [rI_k _ _ _ (by omega), s2_k _ _ _ (by omega)]; exact a1
  · rw [rI_k _ _ _ (by omega), s2_k _ _ _ (by omega)]; exact a2
  · rw [rI_k _ _ _ (by omega), s2_k _ _ _ (by omega)]; exact a3
  · rw [rI_s, s2_s]
  · rw [rI_a _ _ _ _ (by omega), s2_a _ _ _ _ (by omega)]; exact b k hk
  · rw [rI_a _ _ _ _ (by omega), s2_a _ _ _ _ (by omega)]; exact (c p hp).1
  · rw [rI_a _ _ _ _ (by omega), s2_a _ _ _ _ (by omega)]; exact (c p hp).2.1
  · rw [rI_a _ _ _ _ (by omega), s2_a _ _ _ _ (by omega)]; exact (c p hp).2.2
  · rw [rI_a _ _ _ _ (by omega), s2_a _ _ _ _ (by omega)]; exact e k hk
theorem tu_hin (T : TR h t s) {q : Nat} (v : Nat) : TR (ab_sI h (t + 1) q (nI v)) t (st2 s 6 q v) := by
  obtain ⟨⟨a1, a2, a3, a4⟩, b, c, e⟩ := T
  refine ⟨⟨?_, ?_, ?_, ?_⟩, fun k hk => ?_, fun p hp => ⟨?_, ?_, ?_⟩, fun k hk => ?_⟩
  · rw [rI_a _ _ _ _ (by omega), s2_a _ _ _ _ (by omega)]; exact a1
  · rw [rI_a _ _ _ _ (by omega), s2_a _ _ _ _ (by omega)]; exact a2
  · rw [rI_a _ _ _ _ (by omega), s2_a _ _ _ _ (by omega)]; exact a3
  · rw [rI_a _ _ _ _ (by omega), s2_a _ _ _ _ (by omega)]; exact a4
  · exact arU (b k hk)
  · rw [rI_a _ _ _ _ (by omega), s2_a _ _ _ _ (by omega)]; exact (c p hp).1
  · rw [rI_a _ _ _ _ (by omega), s2_a _ _ _ _ (by omega)]; exact (c p hp).2.1
  · rw [rI_a _ _ _ _ (by omega), s2_a _ _ _ _ (by omega)]; exact (c p hp).2.2
  · rw [rI_a _ _ _ _ (by omega), s2_a _ _ _ _ (by omega)]; exact e k hk
theorem tu_stu (T : TR h t s) {q : Nat} (v : Nat) : TR (ab_sI h (t + 2) q (nI v)) t (st2 s 7 q v) := by
  obtain ⟨⟨a1, a2, a3, a4⟩, b, c, e⟩ := T
  refine ⟨⟨?_, ?_, ?_, ?_⟩, fun k hk => ?_, fun p hp => ⟨?_, ?_, ?_⟩, fun k hk => ?_⟩
  · rw [rI_a _ _ _ _ (by omega), s2_a _ _ _ _ (by omega)]; exact a1
  · rw [rI_a _ _ _ _ (by omega), s2_a _ _ _ _ (by omega)]; exact a2
  · rw [rI_a _ _ _ _ (by omega), s2_a _ _ _ _ (by omega)]; exact a3
  · rw [rI_a _ _ _ _ (by omega), s2_a _ _ _ _ (by omega)]; exact a4
  · rw [rI_a _ _ _ _ (by omega), s2_a _ _ _ _ (by omega)]; exact b k hk
  · exact arU ((c p hp).1)
  · rw [rI_a _ _ _ _ (by omega), s2_a _ _ _ _ (by omega)]; exact (c p hp).2.1
  · rw [rI_a _ _ _ _ (by omega), s2_a _ _ _ _ (by omega)]; exact (c p hp).2.2
  · rw [rI_a _ _ _ _ (by omega), s2_a _ _ _ _ (by omega)]; exact e k hk
theorem tu_wei (T : TR h t s) {q : Nat} (v : Nat) : TR (ab_sI h (t + 3) q (nI v)) t (st2 s 8 q v) := by
  obtain ⟨⟨a1, a2, a3, a4⟩, b, c, e⟩ := T
  refine ⟨⟨?_, ?_, ?_, ?_⟩, fun k hk => ?_, fun p hp => ⟨?_, ?_, ?_⟩, fun k hk => ?_⟩
  · rw [rI_a _ _ _ _ (by omega), s2_a _ _ _ _ (by omega)]; exact a1
  · rw [rI_a _ _ _ _ (by omega), s2_a _ _ _ _ (by omega)]; exact a2
  · rw [rI_a _ _ _ _ (by omega), s2_a _ _ _ _ (by omega)]; exact a3
  · rw [rI_a _ _ _ _ (by omega), s2_a _ _ _ _ (by omega)]; exact a4
  · rw [rI_a _ _ _ _ (by omega), s2_a _ _ _ _ (by omega)]; exact b k hk
  · rw [rI_a _ _ _ _ (by omega), s2_a _ _ _ _ (by omega)]; exact (c p hp).1
  · exact arU ((c p hp).2.1)
  · rw [rI_a _ _ _ _ (by omega), s2_a _ _ _ _ (by omega)]; exact (c p hp).2.2
  · rw [rI_a _ _ _ _ (by omega), s2_a _ _ _ _ (by omega)]; exact e k hk
theorem tu_twe (T : TR h t s) {q : Nat} (v : Nat) : TR (ab_sI h (t + 4) q (nI v)) t (st2 s 9 q v) := by
  obtain ⟨⟨a1, a2, a3, a4⟩, b, c, e⟩ := T
  refine ⟨⟨?_, ?_, ?_, ?_⟩, fun k hk => ?_, fun p hp => ⟨?_, ?_, ?_⟩, fun k hk => ?_⟩
  · rw [rI_a _ _ _ _ (by omega), s2_a _ _ _ _ (by omega)]; exact a1
  · rw [rI_a _ _ _ _ (by omega), s2_a _ _ _ _ (by omega)]; exact a2
  · rw [rI_a _ _ _ _ (by omega), s2_a _ _ _ _ (by omega)]; exact a3
  · rw [rI_a _ _ _ _ (by omega), s2_a _ _ _ _ (by omega)]; exact a4
  · rw [rI_a _ _ _ _ (by omega), s2_a _ _ _ _ (by omega)]; exact b k hk
  · rw [rI_a _ _ _ _ (by omega), s2_a _ _ _ _ (by omega)]; exact (c p hp).1
  · rw [rI_a _ _ _ _ (by omega), s2_a _ _ _ _ (by omega)]; exact (c p hp).2.1
  · exact arU ((c p hp).2.2)
  · rw [rI_a _ _ _ _ (by omega), s2_a _ _ _ _ (by omega)]; exact e k hk
theorem tu_win (T : TR h t s) {q : Nat} (v : Nat) : TR (ab_sI h (t + 5) q (nI v)) t (st2 s 10 q v) := by
  obtain ⟨⟨a1, a2, a3, a4⟩, b, c, e⟩ := T
  refine ⟨⟨?_, ?_, ?_, ?_⟩, fun k hk => ?_, fun p hp => ⟨?_, ?_, ?_⟩, fun k hk => ?_⟩
  · rw [rI_a _ _ _ _ (by omega), s2_a _ _ _ _ (by omega)]; exact a1
  · rw [rI_a _ _ _ _ (by omega), s2_a _ _ _ _ (by omega)]; exact a2
  · rw [rI_a _ _ _ _ (by omega), s2_a _ _ _ _ (by omega)]; exact a3
  · rw [rI_a _ _ _ _ (by omega), s2_a _ _ _ _ (by omega)]; exact a4
  · rw [rI_a _ _ _ _ (by omega), s2_a _ _ _ _ (by omega)]; exact b k hk
  · rw [rI_a _ _ _ _ (by omega), s2_a _ _ _ _ (by omega)]; exact (c p hp).1
  · rw [rI_a _ _ _ _ (by omega), s2_a _ _ _ _ (by omega)]; exact (c p hp).2.1
  · rw [rI_a _ _ _ _ (by omega), s2_a _ _ _ _ (by omega)]; exact (c p hp).2.2
  · exact arU (e k hk)
theorem hu_n5 (T : HR h t s) (v : Nat) : HR (ab_sI h t 3 (nI v)) t (st2 s 18 5 v) := by
  obtain ⟨⟨a1, a2⟩, b, c, e, f⟩ := T
  refine ⟨⟨?_, ?_⟩, fun k hk => ⟨?_, ?_⟩, fun x y hx hy => ?_, fun k hk => ⟨?_, ?_⟩, fun k hk => ⟨?_, ?_⟩⟩
  · rw [rI_s, s2_s]
  · rw [rI_k _ _ _ (by omega), s2_k _ _ _ (by omega)]; exact a2
  · rw [rI_a _ _ _ _ (by omega), s2_a _ _ _ _ (by omega)]; exact (b k hk).1
  · rw [rI_a _ _ _ _ (by omega), s2_a _ _ _ _ (by omega)]; exact (b k hk).2
  · rw [rI_a _ _ _ _ (by omega), s2_a _ _ _ _ (by omega)]; exact c x y hx hy
  · rw [rI_a _ _ _ _ (by omega), s2_a _ _ _ _ (by omega)]; exact (e k hk).1
  · rw [rI_a _ _ _ _ (by omega), s2_a _ _ _ _ (by omega)]; exact (e k hk).2
  · rw [rI_a _ _ _ _ (by omega), s2_a _ _ _ _ (by omega)]; exact (f k hk).1
  · rw [rI_a _ _ _ _ (by omega), s2_a _ _ _ _ (by omega)]; exact (f k hk).2
theorem hu_n6 (T : HR h t s) (v : Nat) : HR (ab_sI h t 6 (nI v)) t (st2 s 18 6 v) := by
  obtain ⟨⟨a1, a2⟩, b, c, e, f⟩ := T
  refine ⟨⟨?_, ?_⟩, fun k hk => ⟨?_, ?_⟩, fun x y hx hy => ?_, fun k hk => ⟨?_, ?_⟩, fun k hk => ⟨?_, ?_⟩⟩
  · rw [rI_k _ _ _ (by omega), s2_k _ _ _ (by omega)]; exact a1
  · rw [rI_s, s2_s]
  · rw [rI_a _ _ _ _ (by omega), s2_a _ _ _ _ (by omega)]; exact (b k hk).1
  · rw [rI_a _ _ _ _ (by omega), s2_a _ _ _ _ (by omega)]; exact (b k hk).2
  · rw [rI_a _ _ _ _ (by omega), s2_a _ _ _ _ (by omega)]; exact c x y hx hy
  · rw [rI_a _ _ _ _ (by omega), s2_a _ _ _ _ (by omega)]; exact (e k hk).1
  · rw [rI_a _ _ _ _ (by omega), s2_a _ _ _ _ (by omega)]; exact (e k hk).2
  · rw [rI_a _ _ _ _ (by omega), s2_a _ _ _ _ (by omega)]; exact (f k hk).1
  · rw [rI_a _ _ _ _ (by omega), s2_a _ _ _ _ (by omega)]; exact (f k hk).2
theorem hu_odd (T : HR h t s) {q : Nat} (v : Nat) : HR (ab_sI h (t + 1) q (nI v)) t (st2 s 11 q v) := by
  obtain ⟨⟨a1, a2⟩, b, c, e, f⟩ := T
  refine ⟨⟨?_, ?_⟩, fun k hk => ⟨?_, ?_⟩, fun x y hx hy => ?_, fun k hk => ⟨?_, ?_⟩, fun k hk => ⟨?_, ?_⟩⟩
  · rw [rI_a _ _ _ _ (by omega), s2_a _ _ _ _ (by omega)]; exact a1
  · rw [rI_a _ _ _ _ (by omega), s2_a _ _ _ _ (by omega)]; exact a2
  · exact arU ((b k hk).1)
  · rw [rI_a _ _ _ _ (by omega), s2_a _ _ _ _ (by omega)]; exact (b k hk).2
  · rw [rI_a _ _ _ _ (by omega), s2_a _ _ _ _ (by omega)]; exact c x y hx hy
  · rw [rI_a _ _ _ _ (by omega), s2_a _ _ _ _ (by omega)]; exact (e k hk).1
  · rw [rI_a _ _ _ _ (by omega), s2_a _ _ _ _ (by omega)]; exact (e k hk).2
  · rw [rI_a _ _ _ _ (by omega), s2_a _ _ _ _ (by omega)]; exact (f k hk).1
  · rw [rI_a _ _ _ _ (by omega), s2_a _ _ _ _ (by omega)]; exact (f k hk).2
theorem hu_str (T : HR h t s) {q : Nat} (v : Nat) : HR (ab_sI h (t + 8) q (nI v)) t (st2 s 13 q v) := by
  obtain ⟨⟨a1, a2⟩, b, c, e, f⟩ := T
  refine ⟨⟨?_, ?_⟩, fun k hk => ⟨?_, ?_⟩, fun x y hx hy => ?_, fun k hk => ⟨?_, ?_⟩, fun k hk => ⟨?_, ?_⟩⟩
  · rw [rI_a _ _ _ _ (by omega), s2_a _ _ _ _ (by omega)]; exact a1
  · rw [rI_a _ _ _ _ (by omega), s2_a _ _ _ _ (by omega)]; exact a2
  · rw [rI_a _ _ _ _ (by omega), s2_a _ _ _ _ (by omega)]; exact (b k hk).1
  · exact arU ((b k hk).2)
  · rw [rI_a _ _ _ _ (by omega), s2_a _ _ _ _ (by omega)]; exact c x y hx hy
  · rw [rI_a _ _ _ _ (by omega), s2_a _ _ _ _ (by omega)]; exact (e k hk).1
  · rw [rI_a _ _ _ _ (by omega), s2_a _ _ _ _ (by omega)]; exact (e k hk).2
  · rw [rI_a _ _ _ _ (by omega), s2_a _ _ _ _ (by omega)]; exact (f k hk).1
  · rw [rI_a _ _ _ _ (by omega), s2_a _ _ _ _ (by omega)]; exact (f k hk).2
theorem hu_bea (T : HR h t s) {p q : Nat} (hp : p < 5) (hq : q < 5) (v : Nat) : HR (ab_sI h (t + 3 + p) q (nI v)) t (st2 s 12 (5 * p + q) v) := by
  obtain ⟨⟨a1, a2⟩, b, c, e, f⟩ := T
  refine ⟨⟨?_, ?_⟩, fun k hk => ⟨?_, ?_⟩, fun x y hx hy => ?_, fun k hk => ⟨?_, ?_⟩, fun k hk => ⟨?_, ?_⟩⟩
  · rw [rI_a _ _ _ _ (by omega), s2_a _ _ _ _ (by omega)]; exact a1
  · rw [rI_a _ _ _ _ (by omega), s2_a _ _ _ _ (by omega)]; exact a2
  · rw [rI_a _ _ _ _ (by omega), s2_a _ _ _ _ (by omega)]; exact (b k hk).1
  · rw [rI_a _ _ _ _ (by omega), s2_a _ _ _ _ (by omega)]; exact (b k hk).2
  · by_cases ex : x = p
    · subst ex
      by_cases ey : y = q
      · subst ey
        rw [rI_s, s2_s]
      · rw [rI_k _ _ _ ey, s2_k _ _ _ (by omega)]; exact c x y hx hy
    · rw [rI_a _ _ _ _ (by omega), s2_k _ _ _ (by omega)]; exact c x y hx hy
  · rw [rI_a _ _ _ _ (by omega), s2_a _ _ _ _ (by omega)]; exact (e k hk).1
  · rw [rI_a _ _ _ _ (by omega), s2_a _ _ _ _ (by omega)]; exact (e k hk).2
  · rw [rI_a _ _ _ _ (by omega), s2_a _ _ _ _ (by omega)]; exact (f k hk).1
  · rw [rI_a _ _ _ _ (by omega), s2_a _ _ _ _ (by omega)]; exact (f k hk).2
theorem hu_sh (T : HR h t s) {q : Nat} (v : Nat) : HR (ab_sI h (t + 9) q (nI v)) t (st2 s 14 q v) := by
  obtain ⟨⟨a1, a2⟩, b, c, e, f⟩ := T
  refine ⟨⟨?_, ?_⟩, fun k hk => ⟨?_, ?_⟩, fun x y hx hy => ?_, fun k hk => ⟨?_, ?_⟩, fun k hk => ⟨?_, ?_⟩⟩
  · rw [rI_a _ _ _ _ (by omega), s2_a _ _ _ _ (by omega)]; exact a1
  · rw [rI_a _ _ _ _ (by omega), s2_a _ _ _ _ (by omega)]; exact a2
  · rw [rI_a _ _ _ _ (by omega), s2_a _ _ _ _ (by omega)]; exact (b k hk).1
  · rw [rI_a _ _ _ _ (by omega), s2_a _ _ _ _ (by omega)]; exact (b k hk).2
  · rw [rI_a _ _ _ _ (by omega), s2_a _ _ _ _ (by omega)]; exact c x y hx hy
  · exact arU ((e k hk).1)
  · rw [rI_a _ _ _ _ (by omega), s2_a _ _ _ _ (by omega)]; exact (e k hk).2
  · rw [rI_a _ _ _ _ (by omega), s2_a _ _ _ _ (by omega)]; exact (f k hk).1
  · rw [rI_a _ _ _ _ (by omega), s2_a _ _ _ _ (by omega)]; exact (f k hk).2
theorem hu_sc (T : HR h t s) {q : Nat} (v : Nat) : HR (ab_sI h (t + 10) q (nI v)) t (st2 s 15 q v) := by
  obtain ⟨⟨a1, a2⟩, b, c, e, f⟩ := T
  refine ⟨⟨?_, ?_⟩, fun k hk => ⟨?_, ?_⟩, fun x y hx hy => ?_, fun k hk => ⟨?_, ?_⟩, fun k hk => ⟨?_, ?_⟩⟩
  · rw [rI_a _ _ _ _ (by omega), s2_a _ _ _ _ (by omega)]; exact a1
  · rw [rI_a _ _ _ _ (by omega), s2_a _ _ _ _ (by omega)]; exact a2
  · rw [rI_a _ _ _ _ (by omega), s2_a _ _ _ _ (by omega)]; exact (b k hk).1
  · rw [rI_a _ _ _ _ (by omega), s2_a _ _ _ _ (by omega)]; exact (b k hk).2
  · rw [rI_a _ _ _ _ (by omega), s2_a _ _ _ _ (by omega)]; exact c x y hx hy
  · rw [rI_a _ _ _ _ (by omega), s2_a _ _ _ _ (by omega)]; exact (e k hk).1
  · exact arU ((e k hk).2)
  · rw [rI_a _ _ _ _ (by omega), s2_a _ _ _ _ (by omega)]; exact (f k hk).1
  · rw [rI_a _ _ _ _ (by omega), s2_a _ _ _ _ (by omega)]; exact (f k hk).2
theorem hu_sp (T : HR h t s) {q : Nat} (v : Nat) : HR (ab_sI h (t + 11) q (nI v)) t (st2 s 16 q v) := by
  obtain ⟨⟨a1, a2⟩, b, c, e, f⟩ := T
  refine ⟨⟨?_, ?_⟩, fun k hk => ⟨?_, ?_⟩, fun x y hx hy => ?_, fun k hk => ⟨?_, ?_⟩, fun k hk => ⟨?_, ?_⟩⟩
  · rw [rI_a _ _ _ _ (by omega), s2_a _ _ _ _ (by omega)]; exact a1
  · rw [rI_a _ _ _ _ (by omega), s2_a _ _ _ _ (by omega)]; exact a2
  · rw [rI_a _ _ _ _ (by omega), s2_a _ _ _ _ (by omega)]; exact (b k hk).1
  · rw [rI_a _ _ _ _ (by omega), s2_a _ _ _ _ (by omega)]; exact (b k hk).2
  · rw [rI_a _ _ _ _ (by omega), s2_a _ _ _ _ (by omega)]; exact c x y hx hy
  · rw [rI_a _ _ _ _ (by omega), s2_a _ _ _ _ (by omega)]; exact (e k hk).1
  · rw [rI_a _ _ _ _ (by omega), s2_a _ _ _ _ (by omega)]; exact (e k hk).2
  · exact arU ((f k hk).1)
  · rw [rI_a _ _ _ _ (by omega), s2_a _ _ _ _ (by omega)]; exact (f k hk).2
theorem hu_sd (T : HR h t s) {q : Nat} (v : Nat) : HR (ab_sI h (t + 12) q (nI v)) t (st2 s 17 q v) := by
  obtain ⟨⟨a1, a2⟩, b, c, e, f⟩ := T
  refine ⟨⟨?_, ?_⟩, fun k hk => ⟨?_, ?_⟩, fun x y hx hy => ?_, fun k hk => ⟨?_, ?_⟩, fun k hk => ⟨?_, ?_⟩⟩
  · rw [rI_a _ _ _ _ (by omega), s2_a _ _ _ _ (by omega)]; exact a1
  · rw [rI_a _ _ _ _ (by omega), s2_a _ _ _ _ (by omega)]; exact a2
  · rw [rI_a _ _ _ _ (by omega), s2_a _ _ _ _ (by omega)]; exact (b k hk).1
  · rw [rI_a _ _ _ _ (by omega), s2_a _ _ _ _ (by omega)]; exact (b k hk).2
  · rw [rI_a _ _ _ _ (by omega), s2_a _ _ _ _ (by omega)]; exact c x y hx hy
  · rw [rI_a _ _ _ _ (by omega), s2_a _ _ _ _ (by omega)]; exact (e k hk).1
  · rw [rI_a _ _ _ _ (by omega), s2_a _ _ _ _ (by omega)]; exact (e k hk).2
  · rw [rI_a _ _ _ _ (by omega), s2_a _ _ _ _ (by omega)]; exact (f k hk).1
  · exact arU ((f k hk).2)
end CU
