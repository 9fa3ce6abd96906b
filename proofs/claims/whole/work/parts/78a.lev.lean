/-! ===== the reference's reader keeps to the grammar: levels (mine) ===== -/
def cpm (m : Nat) : Nat := if m = 0 then 5 else if m = 1 then 4 else if m = 3 then 3 else if m = 5 then 2 else if m = 6 then 1 else 0
def lvm (m : Nat) : Nat := if m = 0 then 7 else if m = 1 then 6 else if m = 3 then 5 else if m = 5 then 3 else if m = 6 then 2 else 1
def bxm (m : Nat) : Nat := if m = 0 then 0 else if m = 1 then 1 else if m = 3 then 2 else if m = 5 then 3 else if m = 6 then 4 else 5
def hlm (m : Nat) : Nat := if m = 0 then 7 else if m = 1 then 6 else if m = 3 then 5 else if m = 5 then 4 else if m = 6 then 2 else 1
def CTX (m : Nat) (p : List Nat) (t : Nat) : Prop := hdR (hlm m) p ∧ (m < 5 → t = 27 → ¬ (opN p = 41 ∧ tpA p)) ∧ (5 ≤ m → opN p = 41 ∧ tpA p)
section LV2
variable (b : Nat → Nat) (n B w0 lw : Nat) (G : Hp → Prop) (Fq : Nat → Nat → Hp → Prop) (h0 : Hp)
/-- what a level leaves -/
def SUC (m o : Nat) (wr0 : List (Nat × Nat)) (p : List Nat) (y : PO) : Prop := y.1 = 0 → ∀ (h' : Hp) (wr' : List (Nat × Nat)) (x : List Nat), Sh h' → Fr (fMr B w0) h0 h' → MRd h' b n B w0 lw wr' (x ++ p) (o + nts x) y.2.1 1 → wr' ++ mpl x = wr0 ++ y.2.2.1 → xR (lvm m) x → x.length ≤ bxm m + nts x → o + nts x ≤ 8 → (5 ≤ m → ∀ p, cmB (x ++ p) = true) → G h'
def FAI (y : PO) : Prop := y.1 ≠ 0 → ∀ h', MT h' b n y.2.1 → Fr (fMr B w0) h0 h' → Fq y.1 y.2.1 h'
def RUN (q m : Nat) : Prop := ∀ (o a i : Nat) (h : Hp) (wr : List (Nat × Nat)) (p : List Nat), Sh h → Fr (fMr B w0) h0 h → MRd h b n B w0 lw wr p o i 0 → w0 + wr.length + p.length ≤ i → i ≤ stL b n → p.length ≤ 6 * o + cpm m → o ≤ 8 → 10 * (stL b n - i) + rkm m < q → CTX m p (stT b n i) → SUC b n B w0 lw G h0 m o wr p (ps (stT b n) (stV b n) lw q m o a i) → FAI b n B w0 Fq h0 (ps (stT b n) (stV b n) lw q m o a i) → G h
def TRU (q m Tm : Nat) : Prop := ∀ (o a i : Nat) (h : Hp) (wr : List (Nat × Nat)) (p x0 : List Nat), Sh h → Fr (fMr B w0) h0 h → MRd h b n B w0 lw wr (x0 ++ p) (o + nts x0) i 1 → w0 + wr.length + (x0.length + p.length) ≤ i → i ≤ stL b n → p.length ≤ 6 * o + cpm m → o ≤ 8 → 10 * (stL b n - i) < q → xR (lvm m) x0 → x0.length ≤ bxm m + nts x0 → o + nts x0 ≤ 8 → (5 ≤ m → ∀ p, cmB (x0 ++ p) = true) → hdR (hlm m) p → (5 ≤ m → opN p = 41 ∧ tpA p) → SUC b n B w0 lw G h0 m o (wr ++ mpl x0) p (ps (stT b n) (stV b n) lw q Tm o a i) → FAI b n B w0 Fq h0 (ps (stT b n) (stV b n) lw q Tm o a i) → G h
end LV2
theorem hdR_mo {l l' : Nat} {p : List Nat} (h : hdR l p) (hl : l ≤ l') : hdR l' p := by
  cases p with
  | nil => exact trivial
  | cons y p => exact Nat.lt_of_lt_of_le h hl
theorem Fr_Sh2 {P : Nat → Nat → Prop} {h0 h h1 : Hp} (F : Fr P h0 h) (F1 : Fr P h0 h1) (S : Sh h) : Sh h1 := by
  refine ⟨fun a ha => ?_, fun a ha => ?_, fun a k c e => ?_⟩
  · rw [show ab_K h1 = ab_K h from F1.1.trans F.1.symm]; exact S.1 a ha
  · rw [show ab_L h1 = ab_L h from F1.2.1.trans F.2.1.symm]; exact S.2.1 a ha
  · rw [show ab_R h1 = ab_R h from F1.2.2.1.trans F.2.2.1.symm]; exact S.2.2 a k c e
section LV3
variable {b : Nat → Nat} {n B w0 lw : Nat} {G : Hp → Prop} {Fq : Nat → Nat → Hp → Prop} {h0 : Hp}
theorem lev_run (hn : n ≤ 300) (hB : B ≤ 2115) (ST : MStp b n B w0 lw G Fq h0) (m S Tm : Nat) (opt : Nat → Prop) (opc tc : Nat → Nat) (dec : ∀ t, opt t ∨ ¬ opt t) (hm : ∀ q o a i, ps (stT b n) (stV b n) lw (q + 1) m o a i = sq (ps (stT b n) (stV b n) lw q S o a i) (fun i1 l => ps (stT b n) (stV b n) lw q Tm o (a + l) i1)) (hT1 : ∀ q o a i, opt (stT b n i) → ps (stT b n) (stV b n) lw (q + 1) Tm o a i = sq (sq (ps (stT b n) (stV b n) lw q S o a (i + 1)) (fun i1 _ => em i1 [(opc (stT b n i), 0)] [tc (stT b n i)])) (fun i1 l => ps (stT b n) (stV b n) lw q Tm o (a + l) i1)) (hT0 : ∀ q o a i, ¬ opt (stT b n i) → ps (stT b n) (stV b n) lw (q + 1) Tm o a i = em i [] []) (hS : S = 0 ∨ S = 1 ∨ S = 5 ∨ S = 6)
    (pr : rkm S + 1 = rkm m ∧ cpm S = cpm m + 1 ∧ lvm m ≤ lvm S ∧ bxm m = bxm S + 1 ∧ hlm m = lvm m ∧ hlm m ≤ hlm S ∧ (5 ≤ m ↔ 5 ≤ S) ∧ 1 ≤ lvm m ∧ bxm m ≤ 5 ∧ cpm m ≤ 4 ∧ rkm S ≤ 4 ∧ lvm m ≤ 6) (hbt : ∀ t x0 p, opt t → xR (lvm m) x0 → (5 ≤ m → opN p = 41 ∧ cmB (x0 ++ p) = true) → btw t (x0 ++ p) = nI (opc t)) (hop : ∀ t, opt t → t ≠ 131 ∧ opc t < 40 ∧ opc t ≠ 20 ∧ rnk (opc t) = lvm m ∧ lvS (opc t) = lvm m) (hcx : ∀ t p t', opt t → (5 ≤ m → opN p = 41 ∧ tpA p) → CTX S (opc t :: p) t') {q : Nat} (IH : ∀ q', q' ≤ q → RUN b n B w0 lw G Fq h0 q' S) : RUN b n B w0 lw G Fq h0 (q + 1) m := by
  obtain ⟨p1, p2, p3, p4, p5, p6, p7, p8, p9, p10, p11, p12⟩ := pr
  have ln := stL_n b n
  have PB := fun q' m o a i h1 h2 => ps_b (T := stT b n) (V := stV b n) (lw := lw) (L := stL b n) (fun i => stT_e b n) q' m o a i h1 h2
  have TR : ∀ t, t ≤ q → TRU b n B w0 lw G Fq h0 t m Tm := by
    intro t
    induction t with
    | zero => intro _ o a i h wr p x0 _ _ _ _ _ _ _ z; omega
    | succ t ih =>
      intro ht o a i h wr p x0 Sx Fx M iv hi cap ho hf hx hxl hxo hcm hdp hop41 suc fai
      rcases dec (stT b n i) with op | op
      · rw [hT1 t o a i op] at suc fai
        obtain ⟨o1, o2, o3, o4, o5⟩ := hop _ op
        have il : i < stL b n := Nat.lt_of_not_le (fun z => o1 ((stT_e b n).mpr z))
        obtain ⟨s1, s2, s3⟩ := stl_x (p := p) (l := lvm m) (by rw [← p5]; exact hdp) x0 hx
        have A := PB t S o a (i + 1) (by omega) (by omega)
        have sub := IH t (by omega) o a (i + 1)
        obtain ⟨x, ex⟩ : ∃ x, x = ps (stT b n) (stV b n) lw t S o a (i + 1) := ⟨_, rfl⟩
        rw [← ex] at suc fai A sub
        clear ex
        refine ST.2.1 h wr (x0 ++ p) (o + nts x0) i (opc (stT b n i)) Sx Fx M (by rw [List.length_append]; omega) (by rw [List.length_append]; omega) (by omega) o2 (hbt _ x0 p op hx (fun z => ⟨(hop41 z).1, hcm z p⟩)) (by rw [o5, s3]; omega) (fun h1 M1 F1 => ?_)
        rw [o5, s1, s2, s3, Nat.add_sub_cancel] at M1
        have S1 : Sh h1 := Fr_Sh2 Fx F1 Sx
        refine sub h1 (wr ++ mpl x0) (opc (stT b n i) :: p) S1 F1 M1 ?_ (by omega) ?_ ho (by omega) (hcx _ p _ op hop41) ?_ ?_
        · rw [List.length_append, mpl_len, List.length_cons]; omega
        · rw [List.length_cons]; omega
        · intro z h2 wr1 x1 S2 F2 M2 e2 x2 l2 o2' c2
          obtain ⟨g1, g2, g3, g4⟩ := A.1.1 z
          have ee : x1 ++ opc (stT b n i) :: p = (x1 ++ [opc (stT b n i)]) ++ p := by rw [List.append_assoc]; rfl
          have en : nts (x1 ++ [opc (stT b n i)]) = nts x1 := by
            rw [nts_app]
            show nts x1 + ((if opc (stT b n i) = 20 then 1 else 0) + 0) = nts x1
            rw [if_neg o3]
            rfl
          have lx : (x1 ++ [opc (stT b n i)]).length = x1.length + 1 := by rw [List.length_append]; rfl
          have lw2 : wr1.length + x1.length = wr.length + x0.length + x.2.2.1.length := by
            have := congrArg List.length e2
            rw [List.length_append, List.length_append, List.length_append, mpl_len, mpl_len] at this
            omega
          have e5 : sq x (fun i1 _ => em i1 [(opc (stT b n i), 0)] [tc (stT b n i)]) = (0, x.2.1, x.2.2.1 ++ [(opc (stT b n i), 0)], x.2.2.2 ++ [tc (stT b n i)]) := sq_s z
          rw [e5, sq_s rfl] at suc fai
          rw [ee, ← en] at M2
          rw [← en] at o2'
          refine ih (by omega) o (a + (x.2.2.2 ++ [tc (stT b n i)]).length) x.2.1 h2 wr1 p (x1 ++ [opc (stT b n i)]) S2 F2 M2 ?_ g2 cap ho (by omega) (xR_app (xR_mo x2 p3) (xR_1 (by rw [o4]; exact Nat.le_refl _) (by omega))) (by rw [lx, en]; omega) o2' (fun z5 p' => ?_) hdp hop41 ?_ ?_
          · rw [lx]; omega
          · rw [List.append_assoc]
            exact c2 (p7.mp z5) _
          · intro y h3 wr3 x3 S3 F3 M3 e3
            refine suc y h3 wr3 x3 S3 F3 M3 ?_
            rw [e3, mpl_app, ← List.append_assoc, e2]
            show wr ++ mpl x0 ++ x.2.2.1 ++ [(opc (stT b n i), 0)] ++ _ = wr ++ mpl x0 ++ ((x.2.2.1 ++ [(opc (stT b n i), 0)]) ++ _)
            rw [List.append_assoc (wr ++ mpl x0), List.append_assoc (wr ++ mpl x0)]
          · exact fai
        · intro z h2 T2 F2
          have e5 : sq x (fun i1 _ => em i1 [(opc (stT b n i), 0)] [tc (stT b n i)]) = x := sq_f z
          rw [e5, sq_f z] at fai
          exact fai z h2 T2 F2
      · rw [hT0 t o a i op] at suc
        refine suc rfl h wr x0 Sx Fx M ?_ hx hxl hxo hcm
        show wr ++ mpl x0 = wr ++ mpl x0 ++ []
        rw [List.append_nil]
  intro o a i h wr p Sx Fx M iv hi cap ho hf cx suc fai
  rw [hm] at suc fai
  have A := PB q S o a i hi (by omega)
  have sub := IH q (Nat.le_refl _) o a i
  obtain ⟨x, ex⟩ : ∃ x, x = ps (stT b n) (stV b n) lw q S o a i := ⟨_, rfl⟩
  rw [← ex] at suc fai A sub
  clear ex
  refine sub h wr p Sx Fx M iv hi (by omega) ho (by omega) ⟨hdR_mo cx.1 p6, fun z => cx.2.1 (by omega), fun z => cx.2.2 (p7.mpr z)⟩ ?_ ?_
  · intro z h2 wr1 x1 S2 F2 M2 e2 x2 l2 o2 c2
    obtain ⟨g1, g2, g3, g4⟩ := A.1.1 z
    have g5 := A.2 (by omega) z
    have lw2 : wr1.length + x1.length = wr.length + x.2.2.1.length := by
      have := congrArg List.length e2
      rw [List.length_append, List.length_append, mpl_len] at this
      exact this
    rw [sq_s z] at suc fai
    refine TR q (Nat.le_refl _) o (a + x.2.2.2.length) x.2.1 h2 wr1 p x1 S2 F2 M2 (by omega) g2 cap ho (by omega) (xR_mo x2 p3) (by omega) o2 (fun z5 => c2 (p7.mp z5)) cx.1 cx.2.2 ?_ fai
    intro y h3 wr3 x3 S3 F3 M3 e3
    refine suc y h3 wr3 x3 S3 F3 M3 ?_
    rw [e3, e2]
    show wr ++ x.2.2.1 ++ _ = wr ++ (x.2.2.1 ++ _)
    rw [List.append_assoc]
  · intro z h2 T2 F2
    rw [sq_f z] at fai
    exact fai z h2 T2 F2
end LV3
