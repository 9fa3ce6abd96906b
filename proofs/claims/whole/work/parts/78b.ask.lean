/-! ===== the reference's reader keeps to the grammar: asks (mine) ===== -/
section LV4
variable {b : Nat → Nat} {n B w0 lw : Nat} {G : Hp → Prop} {Fq : Nat → Nat → Hp → Prop} {h0 : Hp}
theorem btw_no {t : Nat} {p : List Nat} (e : endc 3 t) (h : opN p ≠ 41) : btw t p = -1 := by
  have := e.1 (by omega)
  have := e.2.1 (by omega)
  unfold btw
  rw [if_neg (by omega), if_neg (by omega), if_neg (by omega), if_neg (by omega), if_pos h]
theorem btw_c {t : Nat} {p : List Nat} (e : endc 3 t) (h : opN p = 41) (c : cmB p = false) : btw t p = if isC t then nI (opM t) else -1 := by
  have := e.1 (by omega)
  have := e.2.1 (by omega)
  unfold btw
  rw [if_neg (by omega), if_neg (by omega), if_neg (by omega), if_neg (by omega), if_neg (fun z => z h), if_pos c]
theorem btw_j {t : Nat} {p : List Nat} (e : endc 8 t) (h : opN p = 41) (c : cmB p = true) : btw t p = -1 := by
  have := e.1 (by omega)
  have := e.2.1 (by omega)
  have := e.2.2.1 (by omega)
  have := e.2.2.2 (by omega)
  unfold btw
  rw [if_neg (by omega), if_neg (by omega), if_neg (by omega), if_neg (by omega), if_neg (fun z => z h), if_neg (by rw [c]; decide), if_neg (by omega), if_neg (by omega)]
theorem lev_ask (hn : n ≤ 300) (hB : B ≤ 2115) (ST : MStp b n B w0 lw G Fq h0) {q : Nat} (IH3 : RUN b n B w0 lw G Fq h0 q 3) (IH5 : RUN b n B w0 lw G Fq h0 q 5) : RUN b n B w0 lw G Fq h0 (q + 1) 5 := by
  have ln := stL_n b n
  have r5 : rkm 5 = 3 := rfl
  have r3 : rkm 3 = 2 := rfl
  have c5 : cpm 5 = 2 := rfl
  have c3 : cpm 3 = 3 := rfl
  have l5 : lvm 5 = 3 := rfl
  have l3 : lvm 3 = 5 := rfl
  have b5 : bxm 5 = 3 := rfl
  have b3 : bxm 3 = 2 := rfl
  have PB := fun q' m o a i h1 h2 => ps_b (T := stT b n) (V := stV b n) (lw := lw) (L := stL b n) (fun i => stT_e b n) q' m o a i h1 h2
  intro o a i h wr p Sx Fx M iv hi cap ho hf cx suc fai
  obtain ⟨hd4, _, hask⟩ := cx
  have hd4 : hdR 4 p := hd4
  have hask := hask (by omega)
  rw [ps_5] at suc fai
  by_cases t27 : stT b n i = 27
  · rw [if_pos t27] at suc fai
    have il : i < stL b n := Nat.lt_of_not_le (fun z => by have := (stT_e b n).mpr z; omega)
    have s0 := stl_0 (hdR_mo hd4 (by omega : 4 ≤ 7))
    have ox : ∀ x, opx (stT b n i) p x ↔ x = 20 := by
      intro x
      unfold opx
      rw [t27]
      constructor
      · intro z
        rcases z with z | z | z | z | z | z
        · omega
        · omega
        · omega
        · omega
        · omega
        · exact z.2.2.2
      · intro z
        exact Or.inr (Or.inr (Or.inr (Or.inr (Or.inr ⟨rfl, hask.1, hask.2, z⟩))))
    refine ST.1 h wr p o i Sx Fx M (by omega) (by omega) ho (by rw [s0.2.2]; omega) (fun z => by omega) (fun z => by omega) (fun x v z => by omega) (fun x z z8 => ?_) (fun x z z8 h1 M1 F1 => ?_) (fun _ _ z => absurd ((ox 20).mpr rfl) (z 20))
    · rw [if_pos (by omega)] at fai
      exact fai (by show ¬ (3 : Nat) = 0; omega) h M.1 Fx
    · rw [if_neg (by omega)] at suc fai
      rw [(ox x).mp z] at M1
      have A := PB q 5 (o + 1) a (i + 1) (by omega) (by omega)
      have S1 : Sh h1 := Fr_Sh2 Fx F1 Sx
      have sub := IH5 (o + 1) a (i + 1) h1 wr (20 :: p) S1 F1 M1 (by rw [List.length_cons]; omega) (by omega) (by rw [List.length_cons]; omega) (by omega) (by omega) ⟨by show rnk 20 < 4; decide, fun z => by omega, fun _ => ⟨hask.1, Or.inr (by decide)⟩⟩
      obtain ⟨x1, ex⟩ : ∃ x1, x1 = ps (stT b n) (stV b n) lw q 5 (o + 1) a (i + 1) := ⟨_, rfl⟩
      rw [← ex] at suc fai A sub
      clear ex
      refine sub ?_ ?_
      · intro w h2 wr2 x2 S2 F2 M2 e2 y2 l2 o2 c2
        rw [sq_s w] at suc
        have en : nts (x2 ++ [20]) = nts x2 + 1 := by rw [nts_app]; rfl
        refine suc rfl h2 wr2 (x2 ++ [20]) S2 F2 ?_ ?_ (xR_app y2 (xR_1 (by decide) (by decide))) ?_ (by rw [en]; omega) (fun _ p' => ?_)
        · rw [List.append_assoc, en, show o + (nts x2 + 1) = o + 1 + nts x2 by omega]
          exact M2
        · rw [mpl_app, ← List.append_assoc, e2, List.append_assoc]
          rfl
        · rw [List.length_append, en]
          show x2.length + 1 ≤ _
          omega
        · rw [List.append_assoc]
          exact c2 (by omega) _
      · intro w h2 T2 F2
        rw [sq_f w] at fai
        exact fai w h2 T2 F2
  · rw [if_neg t27] at suc fai
    have A := PB q 3 o a i hi (by omega)
    have E := fun z => (ps_end (T := stT b n) (V := stV b n) (lw := lw) q 3 o a i z).1 (by omega)
    have sub := IH3 o a i h wr p Sx Fx M iv hi (by omega) ho (by omega) ⟨hdR_mo hd4 (by decide), fun _ z => absurd z t27, fun z => by omega⟩
    obtain ⟨x, ex⟩ : ∃ x, x = ps (stT b n) (stV b n) lw q 3 o a i := ⟨_, rfl⟩
    rw [← ex] at suc fai A sub E
    clear ex
    refine sub ?_ ?_
    · intro z h1 wr1 x1 S1 F1 M1 e1 y1 l1 o1 _
      obtain ⟨g1, g2, g3, g4⟩ := A.1.1 z
      have g5 := A.2 (by omega) z
      have E := E z
      have n0 : nts x1 = 0 := by
        have : ∀ x, xR 5 x → nts x = 0 := by
          intro x
          induction x with
          | nil => intro _; rfl
          | cons y x ih =>
            intro hx
            show (if y = 20 then 1 else 0) + nts x = 0
            rw [ih (fun u hu => hx u (List.mem_cons_of_mem _ hu)), if_neg]
            intro e
            have := (hx y (List.mem_cons_self ..)).1
            rw [e] at this
            exact absurd this (by decide)
        exact this x1 y1
      have lw2 : wr1.length + x1.length = wr.length + x.2.2.1.length := by
        have := congrArg List.length e1
        rw [List.length_append, List.length_append, mpl_len] at this
        exact this
      have o41 : opN (x1 ++ p) = 41 := (opN_x (by omega : 1 ≤ 5) x1 y1).trans hask.1
      have cf : cmB (x1 ++ p) = false := (cmB_x x1 y1).trans (cmB_f hd4)
      have bt := btw_c (p := x1 ++ p) E o41 cf
      rw [sq_s z] at suc fai
      by_cases c : isC (stT b n x.2.1)
      · rw [if_pos c] at bt
        have il : x.2.1 < stL b n := Nat.lt_of_not_le (fun w => by have := (stT_e b n).mpr w; unfold isC at c; omega)
        have O : opM (stT b n x.2.1) < 40 ∧ rnk (opM (stT b n x.2.1)) = 4 ∧ opM (stT b n x.2.1) ≠ 20 ∧ lvS (opM (stT b n x.2.1)) = 5 := by
          rcases c with e | e | e | e | e | e <;> rw [e] <;> decide
        obtain ⟨s1, s2, s3⟩ := stl_x (p := p) (l := 5) (hdR_mo hd4 (by decide)) x1 y1
        refine ST.2.1 h1 wr1 (x1 ++ p) (o + nts x1) x.2.1 (opM (stT b n x.2.1)) S1 F1 M1 (by rw [List.length_append]; omega) (by rw [List.length_append]; omega) (by omega) O.1 bt (by rw [O.2.2.2, s3]; omega) (fun h2 M2 F2 => ?_)
        rw [O.2.2.2, s1, s2, s3, Nat.add_sub_cancel, e1] at M2
        have S2 : Sh h2 := Fr_Sh2 F1 F2 S1
        have B2 := PB q 3 o (a + x.2.2.2.length) (x.2.1 + 1) (by omega) (by omega)
        have sub2 := IH3 o (a + x.2.2.2.length) (x.2.1 + 1) h2 (wr ++ x.2.2.1) (opM (stT b n x.2.1) :: p) S2 F2 M2 (by rw [List.length_append, List.length_cons]; omega) (by omega) (by rw [List.length_cons]; omega) ho (by omega) ⟨by show rnk _ < 5; rw [O.2.1]; decide, fun _ _ w => ?_, fun w => by omega⟩
        · have suc : SUC b n B w0 lw G h0 5 o wr p (0 + (sq (ps (stT b n) (stV b n) lw q 3 o (a + x.2.2.2.length) (x.2.1 + 1)) (fun i2 _ => em i2 [(opM (stT b n x.2.1), 0)] [stT b n x.2.1])).1, (sq (ps (stT b n) (stV b n) lw q 3 o (a + x.2.2.2.length) (x.2.1 + 1)) (fun i2 _ => em i2 [(opM (stT b n x.2.1), 0)] [stT b n x.2.1])).2.1, x.2.2.1 ++ (sq (ps (stT b n) (stV b n) lw q 3 o (a + x.2.2.2.length) (x.2.1 + 1)) (fun i2 _ => em i2 [(opM (stT b n x.2.1), 0)] [stT b n x.2.1])).2.2.1, x.2.2.2 ++ (sq (ps (stT b n) (stV b n) lw q 3 o (a + x.2.2.2.length) (x.2.1 + 1)) (fun i2 _ => em i2 [(opM (stT b n x.2.1), 0)] [stT b n x.2.1])).2.2.2) := by
            rw [Nat.zero_add]
            have := suc
            simp only [if_pos c] at this
            exact this
          have fai : FAI b n B w0 Fq h0 ((sq (ps (stT b n) (stV b n) lw q 3 o (a + x.2.2.2.length) (x.2.1 + 1)) (fun i2 _ => em i2 [(opM (stT b n x.2.1), 0)] [stT b n x.2.1])).1, (sq (ps (stT b n) (stV b n) lw q 3 o (a + x.2.2.2.length) (x.2.1 + 1)) (fun i2 _ => em i2 [(opM (stT b n x.2.1), 0)] [stT b n x.2.1])).2.1, x.2.2.1 ++ (sq (ps (stT b n) (stV b n) lw q 3 o (a + x.2.2.2.length) (x.2.1 + 1)) (fun i2 _ => em i2 [(opM (stT b n x.2.1), 0)] [stT b n x.2.1])).2.2.1, x.2.2.2 ++ (sq (ps (stT b n) (stV b n) lw q 3 o (a + x.2.2.2.length) (x.2.1 + 1)) (fun i2 _ => em i2 [(opM (stT b n x.2.1), 0)] [stT b n x.2.1])).2.2.2) := by
            have := fai
            simp only [if_pos c] at this
            exact this
          rw [Nat.zero_add] at suc
          obtain ⟨y, ey⟩ : ∃ y, y = ps (stT b n) (stV b n) lw q 3 o (a + x.2.2.2.length) (x.2.1 + 1) := ⟨_, rfl⟩
          rw [← ey] at suc fai B2 sub2
          clear ey
          refine sub2 ?_ ?_
          · intro w h3 wr3 x3 S3 F3 M3 e3 y3 l3' o3 _
            rw [sq_s w] at suc
            have en : nts (x3 ++ [opM (stT b n x.2.1)]) = nts x3 := by
              rw [nts_app]
              show nts x3 + ((if opM (stT b n x.2.1) = 20 then 1 else 0) + 0) = nts x3
              rw [if_neg O.2.2.1]
              rfl
            refine suc rfl h3 wr3 (x3 ++ [opM (stT b n x.2.1)]) S3 F3 ?_ ?_ (xR_app (xR_mo y3 (by decide)) (xR_1 (by rw [O.2.1]; decide) (by rw [O.2.1]; decide))) ?_ (by rw [en]; exact o3) (fun _ p' => ?_)
            · rw [List.append_assoc, en]
              exact M3
            · rw [mpl_app, ← List.append_assoc, e3]
              show wr ++ x.2.2.1 ++ y.2.2.1 ++ [(opM (stT b n x.2.1), 0)] = wr ++ (x.2.2.1 ++ (y.2.2.1 ++ [(opM (stT b n x.2.1), 0)]))
              rw [List.append_assoc, List.append_assoc]
            · rw [List.length_append, en]
              show x3.length + 1 ≤ _
              omega
            · rw [List.append_assoc, cmB_x x3 y3]
              show (if 4 < rnk (opM (stT b n x.2.1)) then _ else decide (rnk (opM (stT b n x.2.1)) = 4)) = true
              rw [if_neg (by omega)]
              exact decide_eq_true O.2.1
          · intro w h3 T3 F3
            rw [sq_f w] at fai
            exact fai w h3 T3 F3
        · have : 40 ≤ opM (stT b n x.2.1) ∨ (1 ≤ rnk (opM (stT b n x.2.1)) ∧ rnk (opM (stT b n x.2.1)) ≤ 3) := w.2
          omega
      · rw [if_neg c] at bt
        have pr : prt (stT b n x.2.1) (x1 ++ p) = -1 := by
          unfold prt
          rw [o41, if_neg (by decide), if_pos rfl, if_neg (fun w => by rw [cf] at w; exact Bool.noConfusion w.2)]
        refine ST.2.2.1 h1 wr1 (x1 ++ p) (o + nts x1) x.2.1 S1 F1 M1 (by rw [List.length_append]; omega) bt pr (by rw [o41]; decide) ?_
        simp only [if_neg c] at fai
        exact fai (by show ¬ (1 : Nat) = 0; omega) h1 M1.1 F1
    · intro z h2 T2 F2
      rw [sq_f z] at fai
      exact fai z h2 T2 F2
end LV4
