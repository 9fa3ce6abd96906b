/-! ===== the constructors: new cells hung into an object (mine) ===== -/
theorem tq_hi (k : Nat) (hk : 32 ≤ k) : ∀ l : List (Nat × Nat), l.all (fun q => Nat.blt q.1 32) = true → tq_lo k l = none
  | [], _ => rfl
  | (f, b) :: l, h => by
    obtain ⟨h1, h2⟩ := Bool.and_eq_true_iff.mp h
    have h1 : Nat.blt f 32 = true := h1
    have h3 : f < 32 := Nat.le_of_ble_eq_true h1
    have e : Nat.beq f k = false := by
      rcases e : Nat.beq f k with _ | _
      · rfl
      · have := Nat.eq_of_beq_eq_true e
        omega
    show (match Nat.beq f k with
      | true => some b
      | false => tq_lo k l) = none
    rw [e]
    exact tq_hi k hk l h2
set_option maxRecDepth 100000 in
set_option maxHeartbeats 4000000 in
theorem tR_hi (a k : Nat) (hk : 32 ≤ k) : tR a k = none := by
  have q := tq_hi k hk
  unfold tR
  repeat' (first | rfl | exact q _ rfl | split)
/-- a new row of a kind, of a length, hung into a field -/
def ct_n (h : Hp) (o k kd len : Nat) : Hp := ab_sR (ab_nw h kd len (fun _ => 0)) o k (some (ab_N h))
def shA (h : Hp) (a : Nat) : Prop := ab_K h a = tK a ∧ ab_L h a = tL a ∧ ∀ k b, tR a k = some b → ab_R h a k = some b
theorem shA_c {h h' : Hp} {a : Nat} (H : shA h a) (e1 : ab_K h' a = ab_K h a) (e2 : ab_L h' a = ab_L h a) (e3 : ab_R h' a = ab_R h a) : shA h' a := ⟨e1.trans H.1, e2.trans H.2.1, fun k b e => by rw [e3]; exact H.2.2 k b e⟩
/-- what a constructor has made so far: rows hung into o, its ints v, the new cells' references w -/
def PR (h : Hp) (o : Nat) (w : Nat → Nat → Option Nat) (l : List (Nat × Nat × Nat)) (v : Nat → Int32) (hi : Hp) : Prop :=
  ab_N hi = ab_N h + l.length ∧ (∀ x, x < o → ab_K hi x = ab_K h x ∧ ab_L hi x = ab_L h x ∧ ab_I hi x = ab_I h x ∧ ab_R hi x = ab_R h x) ∧ (ab_K hi o = ab_K h o ∧ ab_L hi o = ab_L h o ∧ ab_I hi o = v) ∧
  (∀ x k, o < x → x < ab_N hi → ab_R hi x k = w x k) ∧ ∀ j q, l[j]? = some q → ab_K hi (ab_N h + j) = q.2.1 ∧ ab_L hi (ab_N h + j) = q.2.2 ∧ (∀ k, ab_I hi (ab_N h + j) k = 0) ∧ (q.1 < 100 → ab_R hi o q.1 = some (ab_N h + j))
section PRS
variable {h hi : Hp} {o : Nat} {w : Nat → Nat → Option Nat} {l : List (Nat × Nat × Nat)} {v : Nat → Int32}
theorem PR_0 (hN : ab_N h = o + 1) (hI : ab_I h o = v) : PR h o w [] v h := ⟨rfl, fun _ _ => ⟨rfl, rfl, rfl, rfl⟩, ⟨rfl, rfl, hI⟩, fun x k h1 h2 => by omega, fun j q e => by cases e⟩
theorem PR_K (P : PR h o w l v hi) {c : Nat} (hK : ab_K h o = c) (hN : ab_N h = o + 1) {kd len : Nat} {f : Nat → Int32} : ab_K (ab_nw hi kd len f) o = c := (up_n _ _ (show o ≠ ab_N hi by rw [P.1, hN]; omega)).trans (P.2.2.1.1.trans hK)
theorem cn_R (h : Hp) (o k kd len x j : Nat) : ab_R (ct_n h o k kd len) x j = if x = o ∧ j = k then some (ab_N h) else if x = ab_N h then none else ab_R h x j := by
  unfold ct_n
  rw [rR_if]
  by_cases e : x = o ∧ j = k
  · rw [if_pos e, if_pos e]
  · rw [if_neg e, if_neg e]
    show va_up (ab_R h) (ab_N h) (fun _ => none) x j = _
    by_cases e2 : x = ab_N h
    · rw [if_pos e2, e2, up_s]
    · rw [if_neg e2, up_n _ _ e2]
theorem PR_n {k kd len : Nat} (P : PR h o w l v hi) (hN : ab_N h = o + 1) (hw : ∀ j, w (ab_N hi) j = none) (hk : ∀ q ∈ l, q.1 ≠ k) : PR h o w (l ++ [(k, kd, len)]) v (ct_n hi o k kd len) := by
  obtain ⟨p1, p2, p3, p4, p5⟩ := P
  have ne : ∀ x, x < ab_N hi → ab_K (ct_n hi o k kd len) x = ab_K hi x ∧ ab_L (ct_n hi o k kd len) x = ab_L hi x ∧ ab_I (ct_n hi o k kd len) x = ab_I hi x := fun x hx => ⟨up_n _ _ (Nat.ne_of_lt hx), up_n _ _ (Nat.ne_of_lt hx), up_n _ _ (Nat.ne_of_lt hx)⟩
  have nr : ∀ x j, x ≠ o → x < ab_N hi → ab_R (ct_n hi o k kd len) x j = ab_R hi x j := fun x j h1 h2 => by rw [cn_R, if_neg (fun z => h1 z.1), if_neg (Nat.ne_of_lt h2)]
  refine ⟨?_, fun x hx => ?_, ?_, fun x j h1 h2 => ?_, fun j q e => ?_⟩
  · show ab_N hi + 1 = _
    rw [p1, List.length_append]
    rfl
  · obtain ⟨a1, a2, a3⟩ := ne x (by omega)
    obtain ⟨b1, b2, b3, b4⟩ := p2 x hx
    exact ⟨a1.trans b1, a2.trans b2, a3.trans b3, (funext fun j => nr x j (by omega) (by omega)).trans b4⟩
  · obtain ⟨a1, a2, a3⟩ := ne o (by omega)
    exact ⟨a1.trans p3.1, a2.trans p3.2.1, a3.trans p3.2.2⟩
  · have h2 : x < ab_N hi + 1 := h2
    rcases Nat.lt_or_ge x (ab_N hi) with y | y
    · rw [nr x j (by omega) y]
      exact p4 x j h1 y
    · obtain rfl : x = ab_N hi := by omega
      rw [cn_R, if_neg (by omega), if_pos rfl, hw]
  · rw [List.getElem?_append] at e
    by_cases y : j < l.length
    · rw [if_pos y] at e
      obtain ⟨a1, a2, a3⟩ := ne (ab_N h + j) (by omega)
      obtain ⟨b1, b2, b3, b4⟩ := p5 j q e
      refine ⟨a1.trans b1, a2.trans b2, fun z => by rw [a3]; exact b3 z, fun z => ?_⟩
      rw [cn_R, if_neg (fun u => hk q (List.mem_of_getElem? e) u.2), if_neg (by omega)]
      exact b4 z
    · rw [if_neg y] at e
      have hj : j - l.length < 1 := (List.getElem?_eq_some_iff.mp e).1
      obtain rfl : j = l.length := by omega
      rw [Nat.sub_self] at e
      obtain rfl : (k, kd, len) = q := Option.some.inj e
      rw [← p1]
      exact ⟨up_s _ _ _, up_s _ _ _, fun z => congrFun (up_s (ab_I hi) (ab_N hi) (fun _ => 0)) z, fun _ => by rw [cn_R, if_pos ⟨rfl, rfl⟩]⟩
theorem PR_I {k : Nat} {x : Int32} (P : PR h o w l v hi) (hN : ab_N h = o + 1) : PR h o w l (upd v k x) (ab_sI hi o k x) := by
  obtain ⟨p1, p2, p3, p4, p5⟩ := P
  have ne : ∀ y, y ≠ o → ab_I (ab_sI hi o k x) y = ab_I hi y := fun y hy => up_n _ _ hy
  refine ⟨p1, fun y hy => ?_, ⟨p3.1, p3.2.1, ?_⟩, p4, fun j q e => ?_⟩
  · obtain ⟨b1, b2, b3, b4⟩ := p2 y hy
    exact ⟨b1, b2, (ne y (by omega)).trans b3, b4⟩
  · show va_up (ab_I hi) o (upd (ab_I hi o) k x) o = _
    rw [up_s, p3.2.2]
  · obtain ⟨b1, b2, b3, b4⟩ := p5 j q e
    exact ⟨b1, b2, fun z => by rw [ne _ (by omega)]; exact b3 z, b4⟩
/-- new int[n][m], hung into a field -/
theorem PR_m {k n m : Nat} (P : PR h o w l v hi) (hN : ab_N h = o + 1) (hw : ∀ j, w (ab_N hi) j = if j < n then some (ab_N hi + 1 + j) else none) (hw2 : ∀ x j, ab_N hi < x → x ≤ ab_N hi + n → w x j = none) (hk : ∀ q ∈ l, q.1 ≠ k) (hk1 : k < 100) : PR h o w (l ++ ((k, 18, n) :: List.replicate n (100, 13, m))) v (ab_sR (ab_mn hi n m) o k (some (ab_N hi))) := by
  obtain ⟨p1, p2, p3, p4, p5⟩ := P
  have nr : ∀ x j, x ≠ o → ab_R (ab_sR (ab_mn hi n m) o k (some (ab_N hi))) x j = ab_R (ab_mn hi n m) x j := fun x j h1 => by rw [rR_if, if_neg (fun z => h1 z.1)]
  refine ⟨?_, fun x hx => ?_, ?_, fun x j h1 h2 => ?_, fun j q e => ?_⟩
  · show ab_N hi + 1 + n = _
    rw [p1, List.length_append, List.length_cons, List.length_replicate]
    omega
  · obtain ⟨a1, a2, a3, _, a5⟩ := mn_lo hi n m (show x < ab_N hi by omega)
    obtain ⟨b1, b2, b3, b4⟩ := p2 x hx
    exact ⟨a1.trans b1, a2.trans b2, a3.trans b3, (funext fun j => nr x j (by omega)).trans (a5.trans b4)⟩
  · obtain ⟨a1, a2, a3, _, _⟩ := mn_lo hi n m (show o < ab_N hi by omega)
    exact ⟨a1.trans p3.1, a2.trans p3.2.1, a3.trans p3.2.2⟩
  · have h2 : x < ab_N hi + 1 + n := h2
    rw [nr x j (by omega)]
    rcases Nat.lt_trichotomy x (ab_N hi) with y | y | y
    · rw [(mn_lo hi n m y).2.2.2.2]
      exact p4 x j h1 y
    · rw [y, hw]
      exact congrFun (show ab_R (ab_mn hi n m) (ab_N hi) = fun i => if i < n then some (ab_N hi + 1 + i) else none from if_pos rfl) j
    · rw [hw2 x j y (by omega)]
      exact congrFun (show ab_R (ab_mn hi n m) x = fun _ => none from (if_neg (Nat.ne_of_gt y)).trans (if_pos ⟨y, by show x ≤ ab_N hi + n; omega⟩)) j
  · rw [List.getElem?_append] at e
    by_cases y : j < l.length
    · rw [if_pos y] at e
      obtain ⟨a1, a2, a3, _, a5⟩ := mn_lo hi n m (show ab_N h + j < ab_N hi by omega)
      obtain ⟨b1, b2, b3, b4⟩ := p5 j q e
      refine ⟨a1.trans b1, a2.trans b2, fun z => (congrFun a3 z).trans (b3 z), fun z => ?_⟩
      rw [rR_if, if_neg (fun u => hk q (List.mem_of_getElem? e) u.2), (mn_lo hi n m (show o < ab_N hi by omega)).2.2.2.2]
      exact b4 z
    · rw [if_neg y] at e
      obtain ⟨i, rfl⟩ : ∃ i, j = l.length + i := ⟨j - l.length, by omega⟩
      rw [Nat.add_sub_cancel_left] at e
      rw [← Nat.add_assoc, ← p1]
      cases i with
      | zero =>
        obtain rfl : (k, 18, n) = q := Option.some.inj e
        exact ⟨if_pos rfl, if_pos rfl, fun z => congrFun (show ab_I (ab_mn hi n m) (ab_N hi) = fun _ => 0 from if_pos ⟨Nat.le_refl _, Nat.le_add_right _ _⟩) z, fun _ => by rw [rR_if, if_pos ⟨rfl, rfl⟩]; rfl⟩
      | succ i =>
        rw [List.getElem?_cons_succ, List.getElem?_replicate] at e
        have hi' : i < n := by
          rcases Nat.lt_or_ge i n with z | z
          · exact z
          · rw [if_neg (by omega)] at e; cases e
        rw [if_pos hi'] at e
        obtain rfl : (100, 13, m) = q := Option.some.inj e
        obtain ⟨a1, a2, a3⟩ := mn_hi hi n m (show ab_N hi < ab_N hi + (i + 1) by omega) (by omega)
        exact ⟨a1, a2, fun z => congrFun a3 z, fun z => absurd z (show ¬ (100 : Nat) < 100 by decide)⟩
end PRS
/-- the tables say so of an object at o and of the cells behind it -/
def ckP (o c : Nat) (w : Nat → Nat → Option Nat) (l : List (Nat × Nat × Nat)) : Bool :=
  Nat.beq (tK o) c && Nat.beq (tL o) 0 && (List.range l.length).all (fun j => Nat.beq (tK (o + 1 + j)) (l.getD j (0, 0, 0)).2.1 && Nat.beq (tL (o + 1 + j)) (l.getD j (0, 0, 0)).2.2 && (List.range 32).all (fun k => match tR (o + 1 + j) k with
    | none => true
    | some b => decide (w (o + 1 + j) k = some b))) &&
  (List.range 32).all (fun k => match tR o k with
    | none => true
    | some b => (List.range l.length).any (fun j => Nat.beq (l.getD j (0, 0, 0)).1 k && Nat.beq b (o + 1 + j)))
theorem PR_sh {h hi : Hp} {o c : Nat} {w : Nat → Nat → Option Nat} {l : List (Nat × Nat × Nat)} {v : Nat → Int32} (P : PR h o w l v hi) (hN : ab_N h = o + 1) (hK : ab_K h o = c) (hL : ab_L h o = 0) (e : ckP o c w l = true) : ∀ a, o ≤ a → a < o + 1 + l.length → shA hi a := by
  obtain ⟨p1, p2, p3, p4, p5⟩ := P
  unfold ckP at e
  simp only [Bool.and_eq_true] at e
  obtain ⟨⟨⟨e1, e2⟩, e3⟩, e4⟩ := e
  intro a h1 h2
  rcases Nat.eq_or_lt_of_le h1 with y | y
  · subst y
    refine ⟨p3.1.trans (hK.trans (Nat.eq_of_beq_eq_true e1).symm), p3.2.1.trans (hL.trans (Nat.eq_of_beq_eq_true e2).symm), fun k b ek => ?_⟩
    have hk : k < 32 := by
      rcases Nat.lt_or_ge k 32 with z | z
      · exact z
      · rw [tR_hi _ _ z] at ek; cases ek
    have q := List.all_eq_true.mp e4 k (List.mem_range.mpr hk)
    rw [ek] at q
    obtain ⟨j, hj, q⟩ := List.any_eq_true.mp q
    have hj := List.mem_range.mp hj
    obtain ⟨q1, q2⟩ := Bool.and_eq_true_iff.mp q
    have q1 := Nat.eq_of_beq_eq_true q1
    have q2 := Nat.eq_of_beq_eq_true q2
    have ej : l[j]? = some (l.getD j (0, 0, 0)) := by rw [List.getD_eq_getElem?_getD, List.getElem?_eq_getElem hj]; rfl
    have r := (p5 j _ ej).2.2.2 (by rw [q1]; omega)
    rw [q1] at r
    rw [r, q2, hN]
  · obtain ⟨j, rfl⟩ : ∃ j, a = o + 1 + j := ⟨a - (o + 1), by omega⟩
    have hj : j < l.length := by omega
    have q := List.all_eq_true.mp e3 j (List.mem_range.mpr hj)
    simp only [Bool.and_eq_true] at q
    obtain ⟨⟨q1, q2⟩, q3⟩ := q
    have ej : l[j]? = some (l.getD j (0, 0, 0)) := by rw [List.getD_eq_getElem?_getD, List.getElem?_eq_getElem hj]; rfl
    obtain ⟨r1, r2, _, _⟩ := p5 j _ ej
    rw [hN] at r1 r2
    refine ⟨r1.trans (Nat.eq_of_beq_eq_true q1).symm, r2.trans (Nat.eq_of_beq_eq_true q2).symm, fun k b ek => ?_⟩
    have hk : k < 32 := by
      rcases Nat.lt_or_ge k 32 with z | z
      · exact z
      · rw [tR_hi _ _ z] at ek; cases ek
    have q := List.all_eq_true.mp q3 k (List.mem_range.mpr hk)
    rw [ek] at q
    rw [p4 _ k y (by omega)]
    exact of_decide_eq_true q
/-- what a constructor's end hands on -/
def NB (h h' : Hp) (o m : Nat) : Prop := ab_N h' = m ∧ (∀ x, x < o → ab_K h' x = ab_K h x ∧ ab_L h' x = ab_L h x ∧ ab_I h' x = ab_I h x ∧ ab_R h' x = ab_R h x) ∧ ∀ a, o ≤ a → a < m → shA h' a
theorem PR_NB {h hi : Hp} {o c m : Nat} {w : Nat → Nat → Option Nat} {l : List (Nat × Nat × Nat)} {v : Nat → Int32} (P : PR h o w l v hi) (hN : ab_N h = o + 1) (hK : ab_K h o = c) (hL : ab_L h o = 0) (e : ckP o c w l = true) (hm : m = o + 1 + l.length) : NB h hi o m := ⟨by rw [P.1, hN, hm], P.2.1, fun a h1 h2 => PR_sh P hN hK hL e a h1 (by omega)⟩
theorem NB_A {h hi : Hp} {o m c : Nat} {f : Nat → Int32} (B : NB h hi o m) (hc : o ≤ c) : NB h (ab_sA hi c f) o m := ⟨B.1, fun x hx => ⟨(B.2.1 x hx).1, (B.2.1 x hx).2.1, (rA_a _ _ (by omega)).trans (B.2.1 x hx).2.2.1, (B.2.1 x hx).2.2.2⟩, B.2.2⟩
/-- the numbers at the beginning -/
def s0 : Sv := fun a k => if a = 4 then (if k = 1 then 277 else 0) else if a = 10 then 4 else if a = 11 then 3 else if a = 13 then 1 else 0
