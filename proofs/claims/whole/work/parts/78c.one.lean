/-! ===== the reference's reader keeps to the grammar: one, all (mine) ===== -/
section LV5
variable (b : Nat → Nat) (n B w0 lw : Nat) (G : Hp → Prop) (Fq : Nat → Nat → Hp → Prop) (h0 : Hp)
def SU0 (o : Nat) (wr : List (Nat × Nat)) (p : List Nat) (y : PO) : Prop := y.1 = 0 → ∀ h' : Hp, Sh h' → Fr (fMr B w0) h0 h' → MRd h' b n B w0 lw (wr ++ y.2.2.1 ++ stlW 7 p) (stlP 7 p) (o - stlN 7 p) y.2.1 1 → G h'
def ONE (q : Nat) : Prop := ∀ (o a i : Nat) (h : Hp) (wr : List (Nat × Nat)) (p : List Nat), Sh h → Fr (fMr B w0) h0 h → MRd h b n B w0 lw wr p o i 0 → w0 + wr.length + p.length ≤ i → i ≤ stL b n → p.length ≤ 6 * o + 5 → o ≤ 8 → 10 * (stL b n - i) < q → stlN 7 p ≤ o → (stT b n i = 27 → ¬ (opN p = 41 ∧ tpA p)) → SU0 b n B w0 lw G h0 o wr p (ps (stT b n) (stV b n) lw q 0 o a i) → FAI b n B w0 Fq h0 (ps (stT b n) (stV b n) lw q 0 o a i) → G h
end LV5
theorem nts_5 : ∀ x, xR 5 x → nts x = 0 := by
  intro x
  induction x with
  | nil => intro _; rfl
  | cons y x ih =>
    intro hx
    show (if y = 20 then 1 else 0) + nts x = 0
    rw [ih (fun u hu => hx u (List.mem_cons_of_mem _ hu)), if_neg]
    intro e
    have := (hx y (List.mem_cons_self ..)).1
    rw [e] at this
    exact absurd this (by decide)
section LV6
variable {b : Nat → Nat} {n B w0 lw : Nat} {G : Hp → Prop} {Fq : Nat → Nat → Hp → Prop} {h0 : Hp}
/-- a sum that stands in something open -/
theorem sum_in (hn : n ≤ 300) (ST : MStp b n B w0 lw G Fq h0) {q : Nat} (IH3 : RUN b n B w0 lw G Fq h0 q 3) {z o a i t : Nat} {h : Hp} {wr : List (Nat × Nat)} {p : List Nat} (hz : z = 40 ∨ z = 42 ∨ z = 43) (ht : t = if z = 40 then 41 else if z = 42 then 23 else 24) (Sx : Sh h) (Fx : Fr (fMr B w0) h0 h) (M : MRd h b n B w0 lw wr (z :: p) o i 0) (iv : w0 + wr.length + (p.length + 1) ≤ i) (hi : i ≤ stL b n) (cap : p.length + 1 ≤ 6 * o) (ho : o ≤ 8) (hf : 10 * (stL b n - i) + 2 < q) {x : PO} (ex : ps (stT b n) (stV b n) lw q 3 o a i = x)
    (ok : x.1 = 0 → stT b n x.2.1 = t → x.2.1 < stL b n → ∀ h1 wr1 x1, Sh h1 → Fr (fMr B w0) h0 h1 → MRd h1 b n B w0 lw wr1 (x1 ++ z :: p) o x.2.1 1 → wr1 ++ mpl x1 = wr ++ x.2.2.1 → (x1 ++ z :: p).length ≤ 158 → w0 + wr1.length + (x1 ++ z :: p).length ≤ x.2.1 → btw (stT b n x.2.1) (x1 ++ z :: p) = -1 → opN (x1 ++ z :: p) = z → stlW 1 (x1 ++ z :: p) = mpl x1 → stlP 1 (x1 ++ z :: p) = z :: p → stlN 1 (x1 ++ z :: p) = 0 → G h1)
    (no : x.1 = 0 → stT b n x.2.1 ≠ t → ∀ h1, MT h1 b n x.2.1 → Fr (fMr B w0) h0 h1 → Fq 1 x.2.1 h1) (fai : FAI b n B w0 Fq h0 x) : G h := by
  have ln := stL_n b n
  have r3 : rkm 3 = 2 := rfl
  have c3 : cpm 3 = 3 := rfl
  have l3 : lvm 3 = 5 := rfl
  have b3 : bxm 3 = 2 := rfl
  have PB := ps_b (T := stT b n) (V := stV b n) (lw := lw) (L := stL b n) (fun i => stT_e b n) q 3 o a i hi (by omega)
  have E := fun y => (ps_end (T := stT b n) (V := stV b n) (lw := lw) q 3 o a i y).1 (by omega)
  have rz : rnk z = 0 := by rcases hz with e | e | e <;> rw [e] <;> decide
  have oz : opN (z :: p) = z := if_pos (by omega)
  have sub := IH3 o a i h wr (z :: p) Sx Fx M (by rw [List.length_cons]; omega) hi (by rw [List.length_cons]; omega) ho (by omega) ⟨by show rnk z < 5; omega, fun _ _ w => by rw [oz] at w; omega, fun w => by omega⟩
  rw [ex] at PB E sub
  refine sub ?_ fai
  intro y h1 wr1 x1 S1 F1 M1 e1 y1 l1 o1 _
  obtain ⟨g1, g2, g3, g4⟩ := PB.1.1 y
  have g5 := PB.2 (by omega) y
  have E := E y
  have n0 := nts_5 x1 y1
  rw [n0, Nat.add_zero] at M1
  have lw2 : wr1.length + x1.length = wr.length + x.2.2.1.length := by
    have := congrArg List.length e1
    rw [List.length_append, List.length_append, mpl_len] at this
    exact this
  have oN : opN (x1 ++ z :: p) = z := (opN_x (by omega : 1 ≤ 5) x1 y1).trans oz
  have bt := btw_no (p := x1 ++ z :: p) E (by rw [oN]; omega)
  obtain ⟨s1, s2, s3⟩ := stl_x (p := z :: p) (l := 1) (by show rnk z < 1; omega) x1 (xR_mo y1 (by omega))
  rw [n0] at s3
  have lc : (x1 ++ z :: p).length = x1.length + (p.length + 1) := by rw [List.length_append, List.length_cons]
  by_cases c : stT b n x.2.1 = t
  · have il : x.2.1 < stL b n := Nat.lt_of_not_le (fun w => by
      have := (stT_e b n).mpr w
      rw [this] at c
      rcases hz with e | e | e <;> rw [e] at ht <;> simp at ht <;> omega)
    exact ok y c il h1 wr1 x1 S1 F1 M1 e1 (by omega) (by omega) bt oN s1 s2 s3
  · refine ST.2.2.1 h1 wr1 (x1 ++ z :: p) o x.2.1 S1 F1 M1 (by omega) bt ?_ (by rw [oN]; omega) (no y c h1 M1.1 F1)
    unfold prt
    rw [oN]
    rcases hz with e | e | e
    · subst e
      rw [if_pos rfl] at ht
      rw [if_pos rfl, if_neg (by omega)]
    · subst e
      rw [if_neg (by decide), if_pos rfl] at ht
      rw [if_neg (by decide), if_neg (by decide), if_pos rfl, if_neg (by omega)]
    · subst e
      rw [if_neg (by decide), if_neg (by decide)] at ht
      rw [if_neg (by decide), if_neg (by decide), if_neg (by decide), if_pos rfl, if_neg (by omega)]
theorem lev_one (hn : n ≤ 300) (hB : B ≤ 2115) (ST : MStp b n B w0 lw G Fq h0) {q : Nat} (IH0 : ONE b n B w0 lw G Fq h0 q) (IH3 : RUN b n B w0 lw G Fq h0 q 3) (IH8 : RUN b n B w0 lw G Fq h0 q 8) : ONE b n B w0 lw G Fq h0 (q + 1) := by
  have ln := stL_n b n
  have r8 : rkm 8 = 5 := rfl
  have PB := fun q' m o a i h1 h2 => ps_b (T := stT b n) (V := stV b n) (lw := lw) (L := stL b n) (fun i => stT_e b n) q' m o a i h1 h2
  intro o a i h wr p Sx Fx M iv hi cap ho hf hs hna suc fai
  have ltx : stT b n i ≠ 131 → i < stL b n := fun e => Nat.lt_of_not_le (fun w => e ((stT_e b n).mpr w))
  have wl := stlW_len 7 p
  refine ST.1 h wr p o i Sx Fx M (by omega) (by omega) ho hs (fun t1 v1 => ?_) (fun t1 v1 => ?_) (fun x v hx h1 M1 F1 => ?_) (fun x hx o8 => ?_) (fun x hx o8 h1 M1 F1 => ?_) (fun t1 t2 t3 => ?_)
  · rw [ps_0n _ _ _ _ _ _ _ t1, if_pos v1] at fai
    exact fai (by show ¬ (2 : Nat) = 0; omega) h M.1 Fx
  · rw [ps_0m _ _ _ _ _ _ _ t1, if_pos v1] at fai
    exact fai (by show ¬ (5 : Nat) = 0; omega) h M.1 Fx
  · have S1 : Sh h1 := Fr_Sh2 Fx F1 Sx
    rcases hx with ⟨t1, v1, rfl, rfl⟩ | ⟨t1, v1, rfl, rfl⟩
    · rw [ps_0n _ _ _ _ _ _ _ t1, if_neg v1] at suc
      exact suc rfl h1 S1 F1 M1
    · rw [ps_0m _ _ _ _ _ _ _ t1, if_neg v1] at suc
      exact suc rfl h1 S1 F1 M1
  · have hO : isO (stT b n i) := by
      rcases hx with z | z | z | z | z | z
      · exact Or.inl z.1
      · exact Or.inr (Or.inl z.1)
      · exact Or.inr (Or.inr (Or.inl z.1))
      · exact Or.inr (Or.inr (Or.inr (Or.inl z.1)))
      · exact Or.inr (Or.inr (Or.inr (Or.inr z.1)))
      · exact absurd ⟨z.2.1, z.2.2.1⟩ (hna z.1)
    rw [ps_0d _ _ _ _ _ _ _ hO (by omega)] at fai
    exact fai (by show ¬ (3 : Nat) = 0; omega) h M.1 Fx
  · have S1 : Sh h1 := Fr_Sh2 Fx F1 Sx
    have hu : (stT b n i = 45 ∧ x = 5) ∨ (stT b n i = 28 ∧ x = 4) ∨ (stT b n i = 29 ∧ x = 2) → G h1 := by
      intro hu
      have il := ltx (by omega)
      have rx : rnk x = 7 ∧ x < 40 ∧ unM (stT b n i) = x := by
        rcases hu with ⟨e1, e2⟩ | ⟨e1, e2⟩ | ⟨e1, e2⟩ <;> rw [e1, e2] <;> decide
      rw [ps_0u _ _ _ _ _ _ _ (by omega) (by omega)] at suc fai
      have A := PB q 0 (o + 1) a (i + 1) (by omega) (by show 10 * (stL b n - (i + 1)) + 0 < q; omega)
      have sW : stlW 7 (x :: p) = (x, 0) :: stlW 7 p := if_pos (by omega)
      have sP : stlP 7 (x :: p) = stlP 7 p := if_pos (by omega)
      have sN : stlN 7 (x :: p) = 1 + stlN 7 p := by
        show (if 7 ≤ rnk x then (if rnk x = 7 ∨ x = 20 then 1 else 0) + stlN 7 p else 0) = _
        rw [if_pos (by omega), if_pos (Or.inl rx.1)]
      have sub := IH0 (o + 1) a (i + 1) h1 wr (x :: p) S1 F1 M1 (by rw [List.length_cons]; omega) (by omega) (by rw [List.length_cons]; omega) (by omega) (by omega) (by rw [sN]; omega) (fun _ w => by
        have : 40 ≤ x ∨ (1 ≤ rnk x ∧ rnk x ≤ 3) := w.2
        omega)
      obtain ⟨y, ey⟩ : ∃ y, y = ps (stT b n) (stV b n) lw q 0 (o + 1) a (i + 1) := ⟨_, rfl⟩
      rw [← ey] at suc fai A sub
      clear ey
      refine sub ?_ ?_
      · intro w h2 S2 F2 M2
        rw [sq_s w] at suc
        refine suc rfl h2 S2 F2 ?_
        rw [sW, sP, sN, show o + 1 - (1 + stlN 7 p) = o - stlN 7 p by omega] at M2
        show MRd h2 b n B w0 lw (wr ++ (y.2.2.1 ++ [(unM (stT b n i), 0)]) ++ stlW 7 p) (stlP 7 p) (o - stlN 7 p) y.2.1 1
        rw [rx.2.2, show wr ++ (y.2.2.1 ++ [(x, 0)]) ++ stlW 7 p = wr ++ y.2.2.1 ++ (x, 0) :: stlW 7 p by rw [← List.append_assoc, List.append_assoc (wr ++ y.2.2.1)]; rfl]
        exact M2
      · intro w h2 T2 F2
        rw [sq_f w] at fai
        exact fai w h2 T2 F2
    rcases hx with ⟨t1, rfl⟩ | z | z | z | ⟨t1, rfl⟩ | z
    · -- in brackets
      have il := ltx (by omega)
      rw [ps_0p _ _ _ _ _ _ _ t1 (by omega)] at suc fai
      obtain ⟨y, ey⟩ : ∃ y, ps (stT b n) (stV b n) lw q 3 (o + 1) a (i + 1) = y := ⟨_, rfl⟩
      rw [ey] at suc fai
      refine sum_in hn ST IH3 (z := 40) (t := 41) (Or.inl rfl) rfl S1 F1 M1 (by omega) (by omega) (by omega) (by omega) (by omega) ey (fun y0 yt yl h2 wr2 x2 S2 F2 M2 e2 len2 iv2 bt oN sW sP sN => ?_) (fun y0 yt h2 T2 F2 => ?_) (fun w h2 T2 F2 => ?_)
      · rw [sq_s y0] at suc
        refine ST.2.2.2.2 h2 wr2 (x2 ++ 40 :: p) (o + 1) y.2.1 40 p S2 F2 M2 len2 (by omega) (by omega) bt ?_ oN (by omega) (by omega) sP (by rw [sN]; omega) (fun h3 M3 F3 => ?_)
        · unfold prt
          rw [oN, if_pos rfl, if_pos yt]
        · rw [sW, sN, if_neg (by decide), List.append_nil, e2, show o + 1 - 0 - 1 - stlN 7 p = o - stlN 7 p by omega] at M3
          refine suc (by show (if stT b n y.2.1 = 41 then em (y.2.1 + 1) [] [] else er 1 y.2.1).1 = 0; rw [if_pos yt]; rfl) h3 (Fr_Sh2 F2 F3 S2) F3 ?_
          show MRd h3 b n B w0 lw (wr ++ (y.2.2.1 ++ (if stT b n y.2.1 = 41 then em (y.2.1 + 1) [] [] else er 1 y.2.1).2.2.1) ++ stlW 7 p) (stlP 7 p) (o - stlN 7 p) (if stT b n y.2.1 = 41 then em (y.2.1 + 1) [] [] else er 1 y.2.1).2.1 1
          rw [if_pos yt]
          show MRd h3 b n B w0 lw (wr ++ (y.2.2.1 ++ []) ++ stlW 7 p) (stlP 7 p) (o - stlN 7 p) (y.2.1 + 1) 1
          rw [List.append_nil]
          exact M3
      · rw [sq_s y0] at fai
        have fai : (if stT b n y.2.1 = 41 then em (y.2.1 + 1) [] [] else er 1 y.2.1).1 ≠ 0 → ∀ h', MT h' b n (if stT b n y.2.1 = 41 then em (y.2.1 + 1) [] [] else er 1 y.2.1).2.1 → Fr (fMr B w0) h0 h' → Fq (if stT b n y.2.1 = 41 then em (y.2.1 + 1) [] [] else er 1 y.2.1).1 (if stT b n y.2.1 = 41 then em (y.2.1 + 1) [] [] else er 1 y.2.1).2.1 h' := fai
        rw [if_neg yt] at fai
        exact fai (by show ¬ (1 : Nat) = 0; omega) h2 T2 F2
      · rw [sq_f w] at fai
        exact fai w h2 T2 F2
    · exact hu (Or.inl z)
    · exact hu (Or.inr (Or.inl z))
    · exact hu (Or.inr (Or.inr z))
    · -- a choice
      have il := ltx (by omega)
      obtain ⟨x0, e0⟩ : ∃ x0, ps (stT b n) (stV b n) lw q 8 (o + 1) a (i + 1) = x0 := ⟨_, rfl⟩
      obtain ⟨x1, e1⟩ : ∃ x1, ps (stT b n) (stV b n) lw q 3 (o + 1) (a + x0.2.2.2.length + 2) (x0.2.1 + 1) = x1 := ⟨_, rfl⟩
      obtain ⟨x2, e2⟩ : ∃ x2, ps (stT b n) (stV b n) lw q 3 (o + 1) (a + x0.2.2.2.length + 2 + x1.2.2.2.length + 2) (x1.2.1 + 1) = x2 := ⟨_, rfl⟩
      rw [ps_0i _ _ _ _ _ _ _ t1 (by omega) e0 e1 e2] at suc fai
      have A := PB q 8 (o + 1) a (i + 1) (by omega) (by omega)
      have E := fun z => (ps_end (T := stT b n) (V := stV b n) (lw := lw) q 8 (o + 1) a (i + 1) z).1 (by omega)
      have sub := IH8 (o + 1) a (i + 1) h1 wr (41 :: p) S1 F1 M1 (by rw [List.length_cons]; omega) (by omega) (by rw [List.length_cons, show cpm 8 = 0 from rfl]; omega) (by omega) (by omega) ⟨by show rnk 41 < 1; decide, fun z => by omega, fun _ => ⟨rfl, Or.inl (by decide)⟩⟩
      rw [e0] at A E sub
      refine sub ?_ ?_
      · intro z0 h2 wr2 u S2 F2 M2 eq2 xu lu ou cu
        obtain ⟨g1, g2, g3, g4⟩ := A.1.1 z0
        have E := E z0
        have lu : u.length ≤ 5 + nts u := lu
        rw [if_neg (fun y => y z0)] at suc fai
        have oN : opN (u ++ 41 :: p) = 41 := (opN_x (l := 1) (Nat.le_refl _) u xu).trans rfl
        have cm := cu (by omega) (41 :: p)
        have bt := btw_j (p := u ++ 41 :: p) E oN cm
        obtain ⟨s1, s2, s3⟩ := stl_x (p := 41 :: p) (l := 1) (by show rnk 41 < 1; decide) u xu
        have lc : (u ++ 41 :: p).length = u.length + (p.length + 1) := by rw [List.length_append, List.length_cons]
        have lw2 : wr2.length + u.length = wr.length + x0.2.2.1.length := by
          have := congrArg List.length eq2
          rw [List.length_append, List.length_append, mpl_len] at this
          exact this
        by_cases y0 : stT b n x0.2.1 = 22
        · rw [if_neg (fun y => y y0)] at suc fai
          have il0 : x0.2.1 < stL b n := Nat.lt_of_not_le (fun w => by have := (stT_e b n).mpr w; omega)
          refine ST.2.2.2.1 h2 wr2 (u ++ 41 :: p) (o + 1 + nts u) x0.2.1 42 41 p S2 F2 M2 (by omega) (by omega) (by omega) bt (Or.inl rfl) ?_ (by omega) s2 (by rw [s3]; omega) (fun h3 M3 F3 => ?_)
          · unfold prt
            rw [oN, if_neg (by decide), if_pos rfl, if_pos ⟨y0, cm⟩]
          · rw [s1, s3, Nat.add_sub_cancel, eq2] at M3
            have l3 : (wr ++ x0.2.2.1).length = wr.length + x0.2.2.1.length := List.length_append
            have A1 := PB q 3 (o + 1) (a + x0.2.2.2.length + 2) (x0.2.1 + 1) (by omega) (by show 10 * (stL b n - (x0.2.1 + 1)) + 2 < q; omega)
            rw [e1] at A1
            refine sum_in hn ST IH3 (z := 42) (t := 23) (Or.inr (Or.inl rfl)) rfl (Fr_Sh2 F2 F3 S2) F3 M3 (by omega) (by omega) (by omega) (by omega) (by omega) e1 (fun z1 y1 il1 h4 wr4 u4 S4 F4 M4 eq4 len4 iv4 bt4 oN4 sW4 sP4 sN4 => ?_) (fun z1 y1 h4 T4 F4 => ?_) (fun w h4 T4 F4 => ?_)
            · obtain ⟨k1, k2, k3, k4⟩ := A1.1.1 z1
              rw [if_neg (fun y => y z1), if_neg (fun y => y y1)] at suc fai
              refine ST.2.2.2.1 h4 wr4 (u4 ++ 42 :: p) (o + 1) x1.2.1 43 42 p S4 F4 M4 len4 (by omega) (by omega) bt4 (Or.inr rfl) ?_ (by omega) sP4 (by rw [sN4]; omega) (fun h5 M5 F5 => ?_)
              · unfold prt
                rw [oN4, if_neg (by decide), if_neg (by decide), if_pos rfl, if_pos y1]
              · rw [sW4, sN4, eq4, Nat.sub_zero] at M5
                have l5 : (wr ++ x0.2.2.1 ++ x1.2.2.1).length = wr.length + x0.2.2.1.length + x1.2.2.1.length := by rw [List.length_append, l3]
                refine sum_in hn ST IH3 (z := 43) (t := 24) (Or.inr (Or.inr rfl)) rfl (Fr_Sh2 F4 F5 S4) F5 M5 (by omega) (by omega) (by omega) (by omega) (by omega) e2 (fun z2 y2 il2 h6 wr6 u6 S6 F6 M6 eq6 len6 iv6 bt6 oN6 sW6 sP6 sN6 => ?_) (fun z2 y2 h6 T6 F6 => ?_) (fun w h6 T6 F6 => ?_)
                · rw [if_neg (fun y => y z2), if_neg (fun y => y y2)] at suc
                  refine ST.2.2.2.2 h6 wr6 (u6 ++ 43 :: p) (o + 1) x2.2.1 43 p S6 F6 M6 len6 (by omega) (by omega) bt6 ?_ oN6 (by omega) (by omega) sP6 (by rw [sN6]; omega) (fun h7 M7 F7 => ?_)
                  · unfold prt
                    rw [oN6, if_neg (by decide), if_neg (by decide), if_neg (by decide), if_pos rfl, if_pos y2]
                  · rw [sW6, sN6, if_pos rfl, eq6, show o + 1 - 0 - 1 - stlN 7 p = o - stlN 7 p by omega] at M7
                    refine suc rfl h7 (Fr_Sh2 F6 F7 S6) F7 ?_
                    show MRd h7 b n B w0 lw (wr ++ (x0.2.2.1 ++ x1.2.2.1 ++ x2.2.2.1 ++ [(3, 0)]) ++ stlW 7 p) (stlP 7 p) (o - stlN 7 p) (x2.2.1 + 1) 1
                    rw [show wr ++ (x0.2.2.1 ++ x1.2.2.1 ++ x2.2.2.1 ++ [(3, 0)]) = wr ++ x0.2.2.1 ++ x1.2.2.1 ++ x2.2.2.1 ++ [(3, 0)] by simp only [List.append_assoc]]
                    exact M7
                · rw [if_neg (fun y => y z2), if_pos y2] at fai
                  exact fai (by show ¬ (1 : Nat) = 0; omega) h6 T6 F6
                · rw [if_pos w] at fai
                  exact fai w h6 T6 F6
            · rw [if_neg (fun y => y z1), if_pos y1] at fai
              exact fai (by show ¬ (1 : Nat) = 0; omega) h4 T4 F4
            · rw [if_pos w] at fai
              exact fai w h4 T4 F4
        · rw [if_pos y0] at fai
          refine ST.2.2.1 h2 wr2 (u ++ 41 :: p) (o + 1 + nts u) x0.2.1 S2 F2 M2 (by omega) bt ?_ (by rw [oN]; decide) (fai (by show ¬ (1 : Nat) = 0; omega) h2 M2.1 F2)
          unfold prt
          rw [oN, if_neg (by decide), if_pos rfl, if_neg (fun w => y0 w.1)]
      · intro w h2 T2 F2
        rw [if_pos w] at fai
        exact fai w h2 T2 F2
    · exact absurd ⟨z.2.1, z.2.2.1⟩ (hna z.1)
  · have tO : ¬ isO (stT b n i) := by
      intro z
      rcases z with z | z | z | z | z
      · exact t3 40 (Or.inl ⟨z, rfl⟩)
      · exact t3 5 (Or.inr (Or.inl ⟨z, rfl⟩))
      · exact t3 4 (Or.inr (Or.inr (Or.inl ⟨z, rfl⟩)))
      · exact t3 2 (Or.inr (Or.inr (Or.inr (Or.inl ⟨z, rfl⟩))))
      · exact t3 41 (Or.inr (Or.inr (Or.inr (Or.inr (Or.inl ⟨z, rfl⟩)))))
    rw [ps_0e _ _ _ _ _ _ _ t1 t2 tO] at fai
    exact fai (by show ¬ (1 : Nat) = 0; omega) h M.1 Fx
theorem one_run {q : Nat} (O : ONE b n B w0 lw G Fq h0 q) : RUN b n B w0 lw G Fq h0 q 0 := by
  intro o a i h wr p Sx Fx M iv hi cap ho hf cx suc fai
  obtain ⟨s1, s2, s3⟩ := stl_0 (show hdR 7 p from cx.1)
  refine O o a i h wr p Sx Fx M iv hi cap ho hf (by rw [s3]; omega) (cx.2.1 (by omega)) ?_ fai
  intro z h' S' F' M'
  rw [s1, s2, s3, List.append_nil] at M'
  exact suc z h' _ [] S' F' M' (by show _ ++ [] = _; rw [List.append_nil]) (fun y hy => absurd hy (List.not_mem_nil)) (Nat.zero_le _) ho (fun w => by omega)
/-- the reference reads as the grammar says -/
theorem sim_all (hn : n ≤ 300) (hB : B ≤ 2115) (ST : MStp b n B w0 lw G Fq h0) : ∀ q, ONE b n B w0 lw G Fq h0 q ∧ RUN b n B w0 lw G Fq h0 q 1 ∧ RUN b n B w0 lw G Fq h0 q 3 ∧ RUN b n B w0 lw G Fq h0 q 5 ∧ RUN b n B w0 lw G Fq h0 q 6 ∧ RUN b n B w0 lw G Fq h0 q 8 := by
  have em' : ∀ (f : Nat → Prop) t, f t ∨ ¬ f t := fun f t => Classical.em _
  have ar : ∀ t, (t = 42 ∨ t = 47 ∨ t = 43 ∨ t = 45) → ∀ p : List Nat, btw t p = nI (opM t) := by
    intro t ht p
    unfold btw
    rcases ht with e | e | e | e <;> subst e <;> rfl
  have st : ∀ N q, q ≤ N → ONE b n B w0 lw G Fq h0 q ∧ RUN b n B w0 lw G Fq h0 q 1 ∧ RUN b n B w0 lw G Fq h0 q 3 ∧ RUN b n B w0 lw G Fq h0 q 5 ∧ RUN b n B w0 lw G Fq h0 q 6 ∧ RUN b n B w0 lw G Fq h0 q 8 := by
    intro N
    induction N with
    | zero =>
      intro q hq
      obtain rfl : q = 0 := by omega
      refine ⟨fun o a i h wr p _ _ _ _ _ _ _ z => by omega, fun o a i h wr p _ _ _ _ _ _ _ z => by omega, fun o a i h wr p _ _ _ _ _ _ _ z => by omega, fun o a i h wr p _ _ _ _ _ _ _ z => by omega, fun o a i h wr p _ _ _ _ _ _ _ z => by omega, fun o a i h wr p _ _ _ _ _ _ _ z => by omega⟩
    | succ N ih =>
      intro q hq
      cases q with
      | zero => exact ih 0 (by omega)
      | succ q =>
        have I := fun q' (h : q' ≤ q) => ih q' (by omega)
        have I0 := I q (Nat.le_refl _)
        refine ⟨lev_one hn hB ST I0.1 I0.2.2.1 I0.2.2.2.2.2, ?_, ?_, lev_ask hn hB ST I0.2.2.1 I0.2.2.2.1, ?_, ?_⟩
        · refine lev_run hn hB ST 1 0 2 (fun t => t = 42 ∨ t = 47) opM (fun t => t) (em' _) (fun q o a i => ps_1 _ _ _ _ _ _ _) (fun q o a i z => (ps_2 _ _ _ _ _ _ _).trans (if_pos z)) (fun q o a i z => (ps_2 _ _ _ _ _ _ _).trans (if_neg z)) (by omega) (by decide) (fun t x0 p z _ _ => ar t (by omega) _) (fun t z => ?_) (fun t p t' z _ => ?_) (fun q' h => one_run (I q' h).1)
          · rcases z with e | e <;> subst e <;> decide
          · rcases z with e | e <;> subst e
            · exact ⟨by show rnk 8 < 7; decide, fun _ _ w => absurd w.2 (by show ¬ (40 ≤ 8 ∨ (1 ≤ rnk 8 ∧ rnk 8 ≤ 3)); decide), fun w => by omega⟩
            · exact ⟨by show rnk 9 < 7; decide, fun _ _ w => absurd w.2 (by show ¬ (40 ≤ 9 ∨ (1 ≤ rnk 9 ∧ rnk 9 ≤ 3)); decide), fun w => by omega⟩
        · refine lev_run hn hB ST 3 1 4 (fun t => t = 43 ∨ t = 45) opM (fun t => t) (em' _) (fun q o a i => ps_3 _ _ _ _ _ _ _) (fun q o a i z => (ps_4 _ _ _ _ _ _ _).trans (if_pos z)) (fun q o a i z => (ps_4 _ _ _ _ _ _ _).trans (if_neg z)) (by omega) (by decide) (fun t x0 p z _ _ => ar t (by omega) _) (fun t z => ?_) (fun t p t' z _ => ?_) (fun q' h => (I q' h).2.1)
          · rcases z with e | e <;> subst e <;> decide
          · rcases z with e | e <;> subst e
            · exact ⟨by show rnk 6 < 6; decide, fun _ _ w => absurd w.2 (by show ¬ (40 ≤ 6 ∨ (1 ≤ rnk 6 ∧ rnk 6 ≤ 3)); decide), fun w => by omega⟩
            · exact ⟨by show rnk 7 < 6; decide, fun _ _ w => absurd w.2 (by show ¬ (40 ≤ 7 ∨ (1 ≤ rnk 7 ∧ rnk 7 ≤ 3)); decide), fun w => by omega⟩
        · refine lev_run hn hB ST 6 5 7 (fun t => t = 26) (fun _ => 21) (fun _ => 26) (em' _) (fun q o a i => ps_6 _ _ _ _ _ _ _) (fun q o a i z => (ps_7 _ _ _ _ _ _ _).trans (if_pos z)) (fun q o a i z => (ps_7 _ _ _ _ _ _ _).trans (if_neg z)) (by omega) (by decide) (fun t x0 p z hx hc => ?_) (fun t z => by subst z; decide) (fun t p t' z hc => ?_) (fun q' h => (I q' h).2.2.2.1)
          · subst z
            obtain ⟨c1, c2⟩ := hc (by omega)
            have o41 : opN (x0 ++ p) = 41 := (opN_x (l := 2) (by omega) x0 hx).trans c1
            unfold btw
            rw [if_neg (by decide), if_neg (by decide), if_neg (by decide), if_neg (by decide), if_neg (fun w => w o41), if_neg (by rw [c2]; decide), if_pos rfl]
          · exact ⟨by show rnk 21 < 4; decide, fun w => by omega, fun _ => ⟨(hc (by omega)).1, Or.inr (by decide)⟩⟩
        · refine lev_run hn hB ST 8 6 9 (fun t => t = 25) (fun _ => 22) (fun _ => 25) (em' _) (fun q o a i => ps_8 _ _ _ _ _ _ _) (fun q o a i z => (ps_9 _ _ _ _ _ _ _).trans (if_pos z)) (fun q o a i z => (ps_9 _ _ _ _ _ _ _).trans (if_neg z)) (by omega) (by decide) (fun t x0 p z hx hc => ?_) (fun t z => by subst z; decide) (fun t p t' z hc => ?_) (fun q' h => (I q' h).2.2.2.2.1)
          · subst z
            obtain ⟨c1, c2⟩ := hc (by omega)
            have o41 : opN (x0 ++ p) = 41 := (opN_x (l := 1) (by omega) x0 hx).trans c1
            unfold btw
            rw [if_neg (by decide), if_neg (by decide), if_neg (by decide), if_neg (by decide), if_neg (fun w => w o41), if_neg (by rw [c2]; decide), if_neg (by decide), if_pos rfl]
          · exact ⟨by show rnk 22 < 2; decide, fun w => by omega, fun _ => ⟨(hc (by omega)).1, Or.inr (by decide)⟩⟩
  exact fun q => st q q (Nat.le_refl _)
end LV6
