/-! ===== the reference's pile and the grammar: pure facts (mine) ===== -/
def mpl (x : List Nat) : List (Nat × Nat) := x.map (fun y => (y, 0))
def nts : List Nat → Nat
  | [] => 0
  | y :: x => (if y = 20 then 1 else 0) + nts x
def hdR (l : Nat) : List Nat → Prop
  | [] => True
  | y :: _ => rnk y < l
/-- what waits above: it binds so closely at least, and is of two -/
def xR (l : Nat) (x : List Nat) : Prop := ∀ y, y ∈ x → l ≤ rnk y ∧ rnk y < 7
theorem mpl_app (x y : List Nat) : mpl (x ++ y) = mpl x ++ mpl y := List.map_append
theorem mpl_len (x : List Nat) : (mpl x).length = x.length := List.length_map _
theorem nts_app : ∀ x y : List Nat, nts (x ++ y) = nts x + nts y := by
  intro x
  induction x with
  | nil => intro y; exact (Nat.zero_add _).symm
  | cons a x ih =>
    intro y
    show (if a = 20 then 1 else 0) + nts (x ++ y) = (if a = 20 then 1 else 0) + nts x + nts y
    rw [ih]
    omega
theorem stl_0 {l : Nat} {p : List Nat} (h : hdR l p) : stlW l p = [] ∧ stlP l p = p ∧ stlN l p = 0 := by
  cases p with
  | nil => exact ⟨rfl, rfl, rfl⟩
  | cons y p =>
    have h : rnk y < l := h
    exact ⟨if_neg (by omega), if_neg (by omega), if_neg (by omega)⟩
theorem stl_x {l : Nat} {p : List Nat} (h : hdR l p) : ∀ x, xR l x → stlW l (x ++ p) = mpl x ∧ stlP l (x ++ p) = p ∧ stlN l (x ++ p) = nts x := by
  intro x
  induction x with
  | nil => intro _; exact stl_0 h
  | cons y x ih =>
    intro hx
    obtain ⟨a1, a2, a3⟩ := ih (fun z hz => hx z (List.mem_cons_of_mem _ hz))
    have hy := hx y (List.mem_cons_self ..)
    refine ⟨?_, ?_, ?_⟩
    · show (if l ≤ rnk y then (y, 0) :: stlW l (x ++ p) else []) = (y, 0) :: mpl x
      rw [if_pos hy.1, a1]
    · show (if l ≤ rnk y then stlP l (x ++ p) else y :: (x ++ p)) = p
      rw [if_pos hy.1, a2]
    · show (if l ≤ rnk y then (if rnk y = 7 ∨ y = 20 then 1 else 0) + stlN l (x ++ p) else 0) = (if y = 20 then 1 else 0) + nts x
      rw [if_pos hy.1, a3]
      by_cases e : y = 20
      · rw [if_pos (Or.inr e), if_pos e]
      · rw [if_neg (fun z => z.elim (by omega) e), if_neg e]
theorem xR_mo {l l' : Nat} {x : List Nat} (h : xR l x) (hl : l' ≤ l) : xR l' x := fun y hy => ⟨Nat.le_trans hl (h y hy).1, (h y hy).2⟩
theorem xR_app {l : Nat} {x y : List Nat} (h : xR l x) (h' : xR l y) : xR l (x ++ y) := fun z hz => (List.mem_append.mp hz).elim (h z) (h' z)
theorem xR_1 {l y : Nat} (h : l ≤ rnk y) (h' : rnk y < 7) : xR l [y] := fun z hz => by rw [List.mem_singleton.mp hz]; exact ⟨h, h'⟩
theorem rnk_40 {y : Nat} (h : 1 ≤ rnk y) : y < 40 := by
  unfold rnk at h
  by_cases c : 40 ≤ y
  · rw [if_pos c] at h; omega
  · omega
theorem opN_x {l : Nat} (hl : 1 ≤ l) {p : List Nat} : ∀ x, xR l x → opN (x ++ p) = opN p := by
  intro x
  induction x with
  | nil => intro _; rfl
  | cons y x ih =>
    intro hx
    have hy := rnk_40 (Nat.le_trans hl (hx y (List.mem_cons_self ..)).1)
    show (if 40 ≤ y then y else opN (x ++ p)) = opN p
    rw [if_neg (by omega)]
    exact ih (fun z hz => hx z (List.mem_cons_of_mem _ hz))
theorem cmB_x {p : List Nat} : ∀ x, xR 5 x → cmB (x ++ p) = cmB p := by
  intro x
  induction x with
  | nil => intro _; rfl
  | cons y x ih =>
    intro hx
    have hy := (hx y (List.mem_cons_self ..)).1
    show (if 4 < rnk y then cmB (x ++ p) else decide (rnk y = 4)) = cmB p
    rw [if_pos (by omega)]
    exact ih (fun z hz => hx z (List.mem_cons_of_mem _ hz))
theorem cmB_f {p : List Nat} (h : hdR 4 p) : cmB p = false := by
  cases p with
  | nil => rfl
  | cons y p =>
    have h : rnk y < 4 := h
    show (if 4 < rnk y then cmB p else decide (rnk y = 4)) = false
    rw [if_neg (by omega)]
    exact decide_eq_false (by omega)
/-- where a level ends -/
def endc (m t : Nat) : Prop := (1 ≤ m → t ≠ 42 ∧ t ≠ 47) ∧ (3 ≤ m → t ≠ 43 ∧ t ≠ 45) ∧ (6 ≤ m → t ≠ 26) ∧ (8 ≤ m → t ≠ 25)
theorem endc_mo {m m' t : Nat} (h : endc m t) (hm : m' ≤ m) : endc m' t := ⟨fun z => h.1 (by omega), fun z => h.2.1 (by omega), fun z => h.2.2.1 (by omega), fun z => h.2.2.2 (by omega)⟩
theorem ps_end {T V : Nat → Nat} {lw : Nat} : ∀ q m o a i, (ps T V lw q m o a i).1 = 0 → ((m = 1 ∨ m = 3 ∨ m = 5 ∨ m = 6 ∨ m = 8 → endc m (T (ps T V lw q m o a i).2.1)) ∧ (m = 2 → endc 1 (T (ps T V lw q m o a i).2.1)) ∧ (m = 4 → endc 1 (T i) → endc 3 (T (ps T V lw q m o a i).2.1)) ∧ (m = 7 → endc 5 (T i) → endc 6 (T (ps T V lw q m o a i).2.1)) ∧ (m = 9 → endc 6 (T i) → endc 8 (T (ps T V lw q m o a i).2.1))) := by
  intro q
  induction q with
  | zero => intro m o a i h; exact absurd h (by show ¬ (9 : Nat) = 0; omega)
  | succ q ih =>
    intro m o a i h
    refine ⟨?_, ?_, ?_, ?_, ?_⟩
    · rintro (rfl | rfl | rfl | rfl | rfl)
      · rw [ps_1] at h ⊢
        obtain ⟨z1, z2, z3⟩ := sq_0 h
        rw [z3]
        exact (ih 2 o _ _ z2).2.1 rfl
      · rw [ps_3] at h ⊢
        obtain ⟨z1, z2, z3⟩ := sq_0 h
        rw [z3]
        exact (ih 4 o _ _ z2).2.2.1 rfl ((ih 1 o a i z1).1 (by omega))
      · rw [ps_5] at h ⊢
        by_cases t : T i = 27
        · rw [if_pos t] at h ⊢
          by_cases o8 : 8 ≤ o
          · rw [if_pos o8] at h; exact absurd h (by show ¬ (3 : Nat) = 0; omega)
          · rw [if_neg o8] at h ⊢
            obtain ⟨z1, z2, z3⟩ := sq_0 h
            rw [z3]
            exact (ih 5 (o + 1) a (i + 1) z1).1 (by omega)
        · rw [if_neg t] at h ⊢
          obtain ⟨z1, z2, z3⟩ := sq_0 h
          rw [z3]
          by_cases c : isC (T (ps T V lw q 3 o a i).2.1)
          · rw [if_pos c] at z2 ⊢
            obtain ⟨y1, y2, y3⟩ := sq_0 z2
            rw [y3]
            have := (ih 3 o _ _ y1).1 (by omega)
            exact ⟨fun _ => this.1 (by omega), fun _ => this.2.1 (by omega), fun z => by omega, fun z => by omega⟩
          · rw [if_neg c] at z2; exact absurd z2 (by show ¬ (1 : Nat) = 0; omega)
      · rw [ps_6] at h ⊢
        obtain ⟨z1, z2, z3⟩ := sq_0 h
        rw [z3]
        exact (ih 7 o _ _ z2).2.2.2.1 rfl ((ih 5 o a i z1).1 (by omega))
      · rw [ps_8] at h ⊢
        obtain ⟨z1, z2, z3⟩ := sq_0 h
        rw [z3]
        exact (ih 9 o _ _ z2).2.2.2.2 rfl ((ih 6 o a i z1).1 (by omega))
    · rintro rfl
      rw [ps_2] at h ⊢
      by_cases t : T i = 42 ∨ T i = 47
      · rw [if_pos t] at h ⊢
        obtain ⟨z1, z2, z3⟩ := sq_0 h
        rw [z3]
        exact (ih 2 o _ _ z2).2.1 rfl
      · rw [if_neg t]
        exact ⟨fun _ => ⟨fun z => t (Or.inl z), fun z => t (Or.inr z)⟩, fun z => by omega, fun z => by omega, fun z => by omega⟩
    · rintro rfl e
      rw [ps_4] at h ⊢
      by_cases t : T i = 43 ∨ T i = 45
      · rw [if_pos t] at h ⊢
        obtain ⟨z1, z2, z3⟩ := sq_0 h
        obtain ⟨y1, y2, y3⟩ := sq_0 z1
        rw [z3]
        refine (ih 4 o _ _ z2).2.2.1 rfl ?_
        rw [y3]
        exact (ih 1 o _ _ y1).1 (by omega)
      · rw [if_neg t]
        exact ⟨fun _ => e.1 (by omega), fun _ => ⟨fun z => t (Or.inl z), fun z => t (Or.inr z)⟩, fun z => by omega, fun z => by omega⟩
    · rintro rfl e
      rw [ps_7] at h ⊢
      by_cases t : T i = 26
      · rw [if_pos t] at h ⊢
        obtain ⟨z1, z2, z3⟩ := sq_0 h
        obtain ⟨y1, y2, y3⟩ := sq_0 z1
        rw [z3]
        refine (ih 7 o _ _ z2).2.2.2.1 rfl ?_
        rw [y3]
        exact (ih 5 o _ _ y1).1 (by omega)
      · rw [if_neg t]
        exact ⟨fun _ => e.1 (by omega), fun _ => e.2.1 (by omega), fun _ => t, fun z => by omega⟩
    · rintro rfl e
      rw [ps_9] at h ⊢
      by_cases t : T i = 25
      · rw [if_pos t] at h ⊢
        obtain ⟨z1, z2, z3⟩ := sq_0 h
        obtain ⟨y1, y2, y3⟩ := sq_0 z1
        rw [z3]
        refine (ih 9 o _ _ z2).2.2.2.2 rfl ?_
        rw [y3]
        exact (ih 6 o _ _ y1).1 (by omega)
      · rw [if_neg t]
        exact ⟨fun _ => e.1 (by omega), fun _ => e.2.1 (by omega), fun _ => e.2.2.1 (by omega), fun _ => t⟩
/-- what the reader's loop does, step by step; G: the loop's head holds, Fq: it ends with a fault at a token -/
def MStp (b : Nat → Nat) (n B w0 lw : Nat) (G : Hp → Prop) (Fq : Nat → Nat → Hp → Prop) (h0 : Hp) : Prop :=
  (∀ (h : Hp) (wr : List (Nat × Nat)) (p : List Nat) (o i : Nat), Sh h → Fr (fMr B w0) h0 h → MRd h b n B w0 lw wr p o i 0 → p.length ≤ 158 → w0 + wr.length + p.length ≤ 302 → o ≤ 8 → stlN 7 p ≤ o → (stT b n i = 130 → 9999 < stV b n i → Fq 2 i h) → (8 ≤ stT b n i ∧ stT b n i ≤ 17 → 15 ≤ stT b n i ∧ lw ≠ 1 → Fq 5 i h) → (∀ x v, (stT b n i = 130 ∧ ¬ 9999 < stV b n i ∧ x = 0 ∧ v = stV b n i) ∨ ((8 ≤ stT b n i ∧ stT b n i ≤ 17) ∧ ¬ (15 ≤ stT b n i ∧ lw ≠ 1) ∧ x = 1 ∧ v = nmM (stT b n i)) → ∀ h', MRd h' b n B w0 lw (wr ++ [(x, v)] ++ stlW 7 p) (stlP 7 p) (o - stlN 7 p) (i + 1) 1 → Fr (fMr B w0) h0 h' → G h') → (∀ x, opx (stT b n i) p x → o = 8 → Fq 3 i h) → (∀ x, opx (stT b n i) p x → o ≠ 8 → ∀ h', MRd h' b n B w0 lw wr (x :: p) (o + 1) (i + 1) 0 → Fr (fMr B w0) h0 h' → G h') → (stT b n i ≠ 130 → ¬ (8 ≤ stT b n i ∧ stT b n i ≤ 17) → (∀ x, ¬ opx (stT b n i) p x) → Fq 1 i h) → G h) ∧
  (∀ (h : Hp) (wr : List (Nat × Nat)) (p : List Nat) (o i op : Nat), Sh h → Fr (fMr B w0) h0 h → MRd h b n B w0 lw wr p o i 1 → p.length ≤ 158 → w0 + wr.length + p.length ≤ 302 → o ≤ 8 → op < 40 → btw (stT b n i) p = nI op → stlN (lvS op) p ≤ o → (∀ h', MRd h' b n B w0 lw (wr ++ stlW (lvS op) p) (op :: stlP (lvS op) p) (o - stlN (lvS op) p) (i + 1) 0 → Fr (fMr B w0) h0 h' → G h') → G h) ∧
  (∀ (h : Hp) (wr : List (Nat × Nat)) (p : List Nat) (o i : Nat), Sh h → Fr (fMr B w0) h0 h → MRd h b n B w0 lw wr p o i 1 → p.length ≤ 158 → btw (stT b n i) p = -1 → prt (stT b n i) p = -1 → opN p ≠ 0 → Fq 1 i h → G h) ∧
  (∀ (h : Hp) (wr : List (Nat × Nat)) (p : List Nat) (o i x z : Nat) (p0 : List Nat), Sh h → Fr (fMr B w0) h0 h → MRd h b n B w0 lw wr p o i 1 → p.length ≤ 158 → w0 + wr.length + p.length ≤ 302 → o ≤ 8 → btw (stT b n i) p = -1 → (x = 42 ∨ x = 43) → prt (stT b n i) p = nI x → 40 ≤ z → stlP 1 p = z :: p0 → stlN 1 p ≤ o → (∀ h', MRd h' b n B w0 lw (wr ++ stlW 1 p) (x :: p0) (o - stlN 1 p) (i + 1) 0 → Fr (fMr B w0) h0 h' → G h') → G h) ∧
  (∀ (h : Hp) (wr : List (Nat × Nat)) (p : List Nat) (o i z : Nat) (p0 : List Nat), Sh h → Fr (fMr B w0) h0 h → MRd h b n B w0 lw wr p o i 1 → p.length ≤ 158 → w0 + wr.length + p.length ≤ 302 → o ≤ 8 → btw (stT b n i) p = -1 → prt (stT b n i) p = nI 0 → opN p = z → 40 ≤ z → z < 50 → stlP 1 p = z :: p0 → stlN 1 p + 1 + stlN 7 p0 ≤ o → (∀ h', MRd h' b n B w0 lw (wr ++ stlW 1 p ++ (if z = 43 then [(3, 0)] else []) ++ stlW 7 p0) (stlP 7 p0) (o - stlN 1 p - 1 - stlN 7 p0) (i + 1) 1 → Fr (fMr B w0) h0 h' → G h') → G h)
