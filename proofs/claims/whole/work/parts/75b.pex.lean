/-! ===== the grammar: what is read is an expression (mine) ===== -/
def nbL (lw : Nat) : Nat := if lw = 1 then 10 else 7
theorem nm_ok {t lw : Nat} (h : 8 ≤ t ∧ t ≤ 17) (h2 : ¬ (15 ≤ t ∧ lw ≠ 1)) : nmM t < nbL lw ∧ tn (nmM t) = t := by
  have e : nmM t < 10 ∧ (t < 15 → nmM t < 7) ∧ tn (nmM t) = t := by
    have : ∀ t : Fin 18, 8 ≤ t.val → nmM t.val < 10 ∧ (t.val < 15 → nmM t.val < 7) ∧ tn (nmM t.val) = t.val := by decide +kernel
    exact this ⟨t, by omega⟩ h.1
  unfold nbL
  refine ⟨?_, e.2.2⟩
  split
  · exact e.1
  · exact e.2.1 (by omega)
theorem op_ok {t : Nat} : (t = 42 ∨ t = 47 ∨ t = 43 ∨ t = 45 → 6 ≤ opM t ∧ opM t < 10 ∧ tb (opM t) = t) ∧ (isC t → 10 ≤ opM t ∧ opM t ≤ 15 ∧ tb (opM t) = t) := by
  constructor
  · rintro (rfl | rfl | rfl | rfl) <;> decide
  · rintro (rfl | rfl | rfl | rfl | rfl | rfl) <;> decide
theorem un_ok {t : Nat} (h : t = 45 ∨ t = 28 ∨ t = 29) : (unM t = 2 ∨ unM t = 4 ∨ unM t = 5) ∧ tu (unM t) = if t = 45 then 133 else t := by
  rcases h with rfl | rfl | rfl <;> decide
def bdm (m : Nat) : Nat := if m = 0 then 1 else if m = 1 then 2 else if m = 2 then 2 else if m = 3 then 3 else if m = 4 then 3 else if m = 5 then 4 else if m = 6 then 5 else if m = 7 then 5 else 6
def XE (nb b B a : Nat) (x : PO) : Prop := ∃ m v, EX nb b a x.2.2.1 x.2.2.2 m v ∧ m ≤ B
def XT (nb b B a : Nat) (x : PO) : Prop := ∀ a0 r0 c0 m0 v0, EX nb b a0 r0 c0 m0 v0 → m0 ≤ B → a = a0 + c0.length → ∃ m v, EX nb b a0 (r0 ++ x.2.2.1) (c0 ++ x.2.2.2) m v ∧ m ≤ B
theorem XE_lev {nb b B B' a : Nat} {x : PO} {k : Nat → Nat → PO} (hx : x.1 = 0 → XE nb b B a x) (hB : B ≤ B') (hk : (k x.2.1 x.2.2.2.length).1 = 0 → XT nb b B' (a + x.2.2.2.length) (k x.2.1 x.2.2.2.length)) (h : (sq x k).1 = 0) : XE nb b B' a (sq x k) := by
  obtain ⟨z1, z2, _⟩ := sq_0 h
  obtain ⟨m, v, e, hm⟩ := hx z1
  rw [sq_s z1]
  exact hk z2 a _ _ m v e (by omega) rfl
theorem XT_e0 {nb b B a i : Nat} : XT nb b B a (em i [] []) := by
  intro a0 r0 c0 m0 v0 e h _
  refine ⟨m0, v0, ?_, h⟩
  show EX nb b a0 (r0 ++ []) (c0 ++ []) m0 v0
  rw [List.append_nil, List.append_nil]
  exact e
theorem XT_bin {nb b B B' a op t : Nat} {x : PO} {k : Nat → Nat → PO} (hop : (b = 0 ∧ 6 ≤ op ∧ op < 10) ∨ (b = 1 ∧ (op = 21 ∨ op = 22))) (ht : tb op = t) (hx : x.1 = 0 → XE nb b B a x) (hB : B + 1 ≤ B') (hk : (k x.2.1 (x.2.2.2.length + 1)).1 = 0 → XT nb b B' (a + (x.2.2.2.length + 1)) (k x.2.1 (x.2.2.2.length + 1))) (h : (sq (sq x (fun i1 _ => em i1 [(op, 0)] [t])) k).1 = 0) : XT nb b B' a (sq (sq x (fun i1 _ => em i1 [(op, 0)] [t])) k) := by
  obtain ⟨z1, z2, _⟩ := sq_0 h
  obtain ⟨y1, _, _⟩ := sq_0 z1
  obtain ⟨m, v, e, hm⟩ := hx y1
  have es : sq x (fun i1 _ => em i1 [(op, 0)] [t]) = (0, x.2.1, x.2.2.1 ++ [(op, 0)], x.2.2.2 ++ [t]) := sq_s y1
  rw [es] at z2 ⊢
  have ln : (x.2.2.2 ++ [t]).length = x.2.2.2.length + 1 := by rw [List.length_append]; rfl
  rw [sq_s rfl]
  intro a0 r0 c0 m0 v0 e0 hm0 ha
  have z2 : (k x.2.1 (x.2.2.2 ++ [t]).length).1 = 0 := z2
  rw [ln] at z2
  have H := hk z2
  show ∃ m v, EX nb b a0 (r0 ++ ((x.2.2.1 ++ [(op, 0)]) ++ (k x.2.1 (x.2.2.2 ++ [t]).length).2.2.1)) (c0 ++ ((x.2.2.2 ++ [t]) ++ (k x.2.1 (x.2.2.2 ++ [t]).length).2.2.2)) m v ∧ m ≤ B'
  rw [ln]
  have E : ∃ v, EX nb b a0 (r0 ++ x.2.2.1 ++ [(op, 0)]) (c0 ++ x.2.2.2 ++ [tb op]) B' v := by
    rcases hop with ⟨hb, h6, h10⟩ | ⟨hb, ho⟩
    · subst hb
      have := EX_bin (o := op) h6 (by omega) e0 (by rw [← ha]; exact e) hm0 (by omega : 1 + m ≤ B')
      rw [if_pos h10] at this
      exact ⟨_, this⟩
    · subst hb
      exact ⟨_, EX_bo ho e0 (by rw [← ha]; exact e) hm0 (by omega : 1 + m ≤ B')⟩
  obtain ⟨v', E⟩ := E
  rw [ht] at E
  have := H a0 (r0 ++ x.2.2.1 ++ [(op, 0)]) (c0 ++ x.2.2.2 ++ [t]) B' v' E (Nat.le_refl _) (by rw [List.length_append, List.length_append]; show a + (x.2.2.2.length + 1) = a0 + (c0.length + x.2.2.2.length + 1); omega)
  rw [← List.append_assoc, ← List.append_assoc, ← List.append_assoc, ← List.append_assoc]
  exact this
theorem ps_EX {T V : Nat → Nat} {lw : Nat} : ∀ q m o a i, o ≤ 8 → (ps T V lw q m o a i).1 = 0 → ((m = 0 ∨ m = 1 ∨ m = 3 → XE (nbL lw) 0 (bdm m + 5 * (8 - o)) a (ps T V lw q m o a i)) ∧ (m = 5 ∨ m = 6 ∨ m = 8 → XE (nbL lw) 1 (bdm m + 5 * (8 - o)) a (ps T V lw q m o a i)) ∧ (m = 2 ∨ m = 4 → XT (nbL lw) 0 (bdm m + 5 * (8 - o)) a (ps T V lw q m o a i)) ∧ (m = 7 ∨ m = 9 → XT (nbL lw) 1 (bdm m + 5 * (8 - o)) a (ps T V lw q m o a i))) := by
  intro q
  induction q with
  | zero => intro m o a i _ h; exact absurd h (by show ¬ (9 : Nat) = 0; omega)
  | succ q ih =>
    have b0 : bdm 0 = 1 := rfl
    have b1 : bdm 1 = 2 := rfl
    have b2' : bdm 2 = 2 := rfl
    have b3 : bdm 3 = 3 := rfl
    have b4 : bdm 4 = 3 := rfl
    have b5 : bdm 5 = 4 := rfl
    have b6 : bdm 6 = 5 := rfl
    have b7 : bdm 7 = 5 := rfl
    have b8 : bdm 8 = 6 := rfl
    have b9 : bdm 9 = 6 := rfl
    have i0 := fun o a i (ho : o ≤ 8) (h : (ps T V lw q 0 o a i).1 = 0) => (ih 0 o a i ho h).1 (by omega)
    have i1 := fun o a i (ho : o ≤ 8) (h : (ps T V lw q 1 o a i).1 = 0) => (ih 1 o a i ho h).1 (by omega)
    have i3 := fun o a i (ho : o ≤ 8) (h : (ps T V lw q 3 o a i).1 = 0) => (ih 3 o a i ho h).1 (by omega)
    have i5 := fun o a i (ho : o ≤ 8) (h : (ps T V lw q 5 o a i).1 = 0) => (ih 5 o a i ho h).2.1 (by omega)
    have i6 := fun o a i (ho : o ≤ 8) (h : (ps T V lw q 6 o a i).1 = 0) => (ih 6 o a i ho h).2.1 (by omega)
    have i8 := fun o a i (ho : o ≤ 8) (h : (ps T V lw q 8 o a i).1 = 0) => (ih 8 o a i ho h).2.1 (by omega)
    have i2 := fun o a i (ho : o ≤ 8) (h : (ps T V lw q 2 o a i).1 = 0) => (ih 2 o a i ho h).2.2.1 (by omega)
    have i4 := fun o a i (ho : o ≤ 8) (h : (ps T V lw q 4 o a i).1 = 0) => (ih 4 o a i ho h).2.2.1 (by omega)
    have i7 := fun o a i (ho : o ≤ 8) (h : (ps T V lw q 7 o a i).1 = 0) => (ih 7 o a i ho h).2.2.2 (by omega)
    have i9 := fun o a i (ho : o ≤ 8) (h : (ps T V lw q 9 o a i).1 = 0) => (ih 9 o a i ho h).2.2.2 (by omega)
    rw [b0] at i0
    rw [b1] at i1
    rw [b3] at i3
    rw [b5] at i5
    rw [b6] at i6
    rw [b8] at i8
    rw [b2'] at i2
    rw [b4] at i4
    rw [b7] at i7
    rw [b9] at i9
    clear ih
    intro m o a i ho h
    refine ⟨?_, ?_, ?_, ?_⟩
    · rintro (rfl | rfl | rfl)
      · rw [b0]
        by_cases t1 : T i = 130
        · rw [ps_0n T V lw q o a i t1] at h ⊢
          by_cases v : 9999 < V i
          · rw [if_pos v] at h; exact absurd h (by show ¬ (2 : Nat) = 0; omega)
          · rw [if_neg v]
            exact ⟨1, _, EX_num _ a (by omega), by omega⟩
        · by_cases t2 : 8 ≤ T i ∧ T i ≤ 17
          · rw [ps_0m T V lw q o a i t2] at h ⊢
            by_cases v : 15 ≤ T i ∧ lw ≠ 1
            · rw [if_pos v] at h; exact absurd h (by show ¬ (5 : Nat) = 0; omega)
            · rw [if_neg v]
              have := nm_ok t2 v
              have E := EX_name (nbL lw) a this.1
              rw [this.2] at E
              exact ⟨1, _, E, by omega⟩
          · by_cases t3 : isO (T i)
            · by_cases o8 : 8 ≤ o
              · rw [ps_0d T V lw q o a i t3 o8] at h; exact absurd h (by show ¬ (3 : Nat) = 0; omega)
              · by_cases t4 : T i = 40
                · rw [ps_0p T V lw q o a i t4 o8] at h ⊢
                  obtain ⟨z1, z2, _⟩ := sq_0 h
                  obtain ⟨m, v, e, hm⟩ := i3 (o + 1) a (i + 1) (by omega) z1
                  rw [sq_s z1]
                  refine ⟨m, v, ?_, by omega⟩
                  by_cases y : T (ps T V lw q 3 (o + 1) a (i + 1)).2.1 = 41
                  · show EX _ 0 a (_ ++ (if T (ps T V lw q 3 (o + 1) a (i + 1)).2.1 = 41 then em ((ps T V lw q 3 (o + 1) a (i + 1)).2.1 + 1) [] [] else er 1 (ps T V lw q 3 (o + 1) a (i + 1)).2.1).2.2.1) (_ ++ (if T (ps T V lw q 3 (o + 1) a (i + 1)).2.1 = 41 then em ((ps T V lw q 3 (o + 1) a (i + 1)).2.1 + 1) [] [] else er 1 (ps T V lw q 3 (o + 1) a (i + 1)).2.1).2.2.2) m v
                    rw [if_pos y]
                    show EX _ 0 a (_ ++ []) (_ ++ []) m v
                    rw [List.append_nil, List.append_nil]
                    exact e
                  · rw [if_neg y] at z2; exact absurd z2 (by show ¬ (1 : Nat) = 0; omega)
                · by_cases t5 : T i = 21
                  · rw [ps_0i T V lw q o a i t5 o8 rfl rfl rfl] at h ⊢
                    have j0 := i8 (o + 1) a (i + 1) (by omega)
                    obtain ⟨x0, e0⟩ : ∃ x0, x0 = ps T V lw q 8 (o + 1) a (i + 1) := ⟨_, rfl⟩
                    rw [← e0] at h j0 ⊢
                    by_cases z0 : x0.1 = 0
                    · rw [if_neg (fun y => y z0)] at h ⊢
                      by_cases y0 : T x0.2.1 = 22
                      · rw [if_neg (fun y => y y0)] at h ⊢
                        have j1 := i3 (o + 1) (a + x0.2.2.2.length + 2) (x0.2.1 + 1) (by omega)
                        obtain ⟨x1, e1⟩ : ∃ x1, x1 = ps T V lw q 3 (o + 1) (a + x0.2.2.2.length + 2) (x0.2.1 + 1) := ⟨_, rfl⟩
                        rw [← e1] at h j1 ⊢
                        by_cases z1 : x1.1 = 0
                        · rw [if_neg (fun y => y z1)] at h ⊢
                          by_cases y1 : T x1.2.1 = 23
                          · rw [if_neg (fun y => y y1)] at h ⊢
                            have j2 := i3 (o + 1) (a + x0.2.2.2.length + 2 + x1.2.2.2.length + 2) (x1.2.1 + 1) (by omega)
                            obtain ⟨x2, e2⟩ : ∃ x2, x2 = ps T V lw q 3 (o + 1) (a + x0.2.2.2.length + 2 + x1.2.2.2.length + 2) (x1.2.1 + 1) := ⟨_, rfl⟩
                            rw [← e2] at h j2 ⊢
                            by_cases z2 : x2.1 = 0
                            · rw [if_neg (fun y => y z2)] at h ⊢
                              by_cases y2 : T x2.2.1 = 24
                              · rw [if_neg (fun y => y y2)] at h ⊢
                                obtain ⟨m0, v0, E0, hm0⟩ := j0 z0
                                obtain ⟨m1, v1, E1, hm1⟩ := j1 z1
                                obtain ⟨m2, v2, E2, hm2⟩ := j2 z2
                                exact ⟨1 + 5 * (8 - o), _, EX_if E0 E1 E2 (by omega) (by omega) (by omega), Nat.le_refl _⟩
                              · rw [if_pos y2] at h; exact absurd h (by show ¬ (1 : Nat) = 0; omega)
                            · rw [if_pos z2] at h; exact absurd h z2
                          · rw [if_pos y1] at h; exact absurd h (by show ¬ (1 : Nat) = 0; omega)
                        · rw [if_pos z1] at h; exact absurd h z1
                      · rw [if_pos y0] at h; exact absurd h (by show ¬ (1 : Nat) = 0; omega)
                    · rw [if_pos z0] at h; exact absurd h z0
                  · have t6 : T i = 45 ∨ T i = 28 ∨ T i = 29 := by unfold isO at t3; omega
                    rw [ps_0u T V lw q o a i t6 o8] at h ⊢
                    obtain ⟨z1, z2, _⟩ := sq_0 h
                    obtain ⟨m, v, e, hm⟩ := i0 (o + 1) a (i + 1) (by omega) z1
                    rw [sq_s z1]
                    have u := un_ok t6
                    have E := EX_un u.1 e
                    rw [u.2] at E
                    exact ⟨m, _, E, by omega⟩
            · rw [ps_0e T V lw q o a i t1 t2 t3] at h; exact absurd h (by show ¬ (1 : Nat) = 0; omega)
      · rw [ps_1] at h ⊢
        exact XE_lev (i0 o a i ho) (by rw [b1]; omega) (fun z => by rw [b1]; exact i2 o _ _ ho z) h
      · rw [ps_3] at h ⊢
        exact XE_lev (i1 o a i ho) (by rw [b3]; omega) (fun z => by rw [b3]; exact i4 o _ _ ho z) h
    · rintro (rfl | rfl | rfl)
      · rw [ps_5] at h ⊢
        by_cases t1 : T i = 27
        · rw [if_pos t1] at h ⊢
          by_cases o8 : 8 ≤ o
          · rw [if_pos o8] at h; exact absurd h (by show ¬ (3 : Nat) = 0; omega)
          · rw [if_neg o8] at h ⊢
            obtain ⟨z1, z2, _⟩ := sq_0 h
            obtain ⟨m, v, e, hm⟩ := i5 (o + 1) a (i + 1) (by omega) z1
            rw [sq_s z1]
            exact ⟨m, _, EX_not e, by rw [b5]; omega⟩
        · rw [if_neg t1] at h ⊢
          obtain ⟨z1, z2, _⟩ := sq_0 h
          obtain ⟨m, v, e, hm⟩ := i3 o a i ho z1
          rw [sq_s z1]
          obtain ⟨x, ex⟩ : ∃ x, x = ps T V lw q 3 o a i := ⟨_, rfl⟩
          rw [← ex] at z1 z2 e ⊢
          by_cases c : isC (T x.2.1)
          · have z2 : (sq (ps T V lw q 3 o (a + x.2.2.2.length) (x.2.1 + 1)) (fun i2 _ => em i2 [(opM (T x.2.1), 0)] [T x.2.1])).1 = 0 := by rw [if_pos c] at z2; exact z2
            obtain ⟨y1, _, _⟩ := sq_0 z2
            obtain ⟨m', v', e', hm'⟩ := i3 o (a + x.2.2.2.length) (x.2.1 + 1) ho y1
            have O := op_ok.2 c
            have E := EX_bin (o := opM (T x.2.1)) (by omega) O.2.1 e e' (show m ≤ 4 + 5 * (8 - o) by omega) (by omega)
            rw [if_neg (by omega), O.2.2] at E
            refine ⟨4 + 5 * (8 - o), fun e w => b2 (opM (T x.2.1)) (v e w) (v' e w), ?_, by rw [b5]; omega⟩
            show EX _ 1 a (x.2.2.1 ++ (if isC (T x.2.1) then sq (ps T V lw q 3 o (a + x.2.2.2.length) (x.2.1 + 1)) (fun i2 _ => em i2 [(opM (T x.2.1), 0)] [T x.2.1]) else er 1 x.2.1).2.2.1) (x.2.2.2 ++ (if isC (T x.2.1) then sq (ps T V lw q 3 o (a + x.2.2.2.length) (x.2.1 + 1)) (fun i2 _ => em i2 [(opM (T x.2.1), 0)] [T x.2.1]) else er 1 x.2.1).2.2.2) _ _
            rw [if_pos c, sq_s y1]
            show EX _ 1 a (x.2.2.1 ++ (_ ++ [(opM (T x.2.1), 0)])) (x.2.2.2 ++ (_ ++ [T x.2.1])) _ _
            rw [← List.append_assoc, ← List.append_assoc]
            exact E
          · rw [if_neg c] at z2; exact absurd z2 (by show ¬ (1 : Nat) = 0; omega)
      · rw [ps_6] at h ⊢
        exact XE_lev (i5 o a i ho) (by rw [b6]; omega) (fun z => by rw [b6]; exact i7 o _ _ ho z) h
      · rw [ps_8] at h ⊢
        exact XE_lev (i6 o a i ho) (by rw [b8]; omega) (fun z => by rw [b8]; exact i9 o _ _ ho z) h
    · rintro (rfl | rfl)
      · rw [ps_2] at h ⊢
        by_cases t : T i = 42 ∨ T i = 47
        · rw [if_pos t] at h ⊢
          have O := op_ok.1 (show T i = 42 ∨ T i = 47 ∨ T i = 43 ∨ T i = 45 by omega)
          exact XT_bin (Or.inl ⟨rfl, O.1, O.2.1⟩) O.2.2 (i0 o a (i + 1) ho) (by rw [b2']; omega) (fun z => by rw [b2']; exact i2 o _ _ ho z) h
        · rw [if_neg t]; exact XT_e0
      · rw [ps_4] at h ⊢
        by_cases t : T i = 43 ∨ T i = 45
        · rw [if_pos t] at h ⊢
          have O := op_ok.1 (show T i = 42 ∨ T i = 47 ∨ T i = 43 ∨ T i = 45 by omega)
          exact XT_bin (Or.inl ⟨rfl, O.1, O.2.1⟩) O.2.2 (i1 o a (i + 1) ho) (by rw [b4]; omega) (fun z => by rw [b4]; exact i4 o _ _ ho z) h
        · rw [if_neg t]; exact XT_e0
    · rintro (rfl | rfl)
      · rw [ps_7] at h ⊢
        by_cases t : T i = 26
        · rw [if_pos t] at h ⊢
          exact XT_bin (Or.inr ⟨rfl, Or.inl rfl⟩) rfl (i5 o a (i + 1) ho) (by rw [b7]; omega) (fun z => by rw [b7]; exact i7 o _ _ ho z) h
        · rw [if_neg t]; exact XT_e0
      · rw [ps_9] at h ⊢
        by_cases t : T i = 25
        · rw [if_pos t] at h ⊢
          exact XT_bin (Or.inr ⟨rfl, Or.inr rfl⟩) rfl (i6 o a (i + 1) ho) (by rw [b9]; omega) (fun z => by rw [b9]; exact i9 o _ _ ho z) h
        · rw [if_neg t]; exact XT_e0
