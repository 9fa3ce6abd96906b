/-! ===== the laws' grammar over tokens: what both readers do (mine) ===== -/
/-- a fault (0: none), the token come to, the reference's code, the class's code -/
abbrev PO : Type := Nat × Nat × List (Nat × Nat) × List Nat
def sq (x : PO) (k : Nat → Nat → PO) : PO := if x.1 = 0 then ((k x.2.1 x.2.2.2.length).1, (k x.2.1 x.2.2.2.length).2.1, x.2.2.1 ++ (k x.2.1 x.2.2.2.length).2.2.1, x.2.2.2 ++ (k x.2.1 x.2.2.2.length).2.2.2) else x
def em (i : Nat) (r : List (Nat × Nat)) (c : List Nat) : PO := (0, i, r, c)
def er (f i : Nat) : PO := (f, i, [], [])
def opM (t : Nat) : Nat := if t = 43 then 6 else if t = 45 then 7 else if t = 42 then 8 else if t = 47 then 9 else if t = 60 then 10 else if t = 128 then 11 else if t = 62 then 12 else if t = 129 then 13 else if t = 61 then 14 else 15
def unM (t : Nat) : Nat := if t = 45 then 5 else if t = 28 then 4 else 2
def nmM (t : Nat) : Nat := if t = 9 then 0 else if t = 10 then 1 else if t = 8 then 2 else t - 8
abbrev isC (t : Nat) : Prop := t = 60 ∨ t = 62 ∨ t = 61 ∨ t = 35 ∨ t = 128 ∨ t = 129
abbrev isO (t : Nat) : Prop := t = 40 ∨ t = 45 ∨ t = 28 ∨ t = 29 ∨ t = 21
/-- modes: 0 one, 1 product (2 its tail), 3 sum (4), 5 ask, 6 both (7), 8 either (9) -/
def ps (T V : Nat → Nat) (lw : Nat) : Nat → Nat → Nat → Nat → Nat → PO
  | 0, _, _, _, i => er 9 i
  | q + 1, m, o, a, i =>
    if m = 0 then
      (if T i = 130 then (if 9999 < V i then er 2 i else em (i + 1) [(0, V i)] [130, V i])
      else if 8 ≤ T i ∧ T i ≤ 17 then (if 15 ≤ T i ∧ lw ≠ 1 then er 5 i else em (i + 1) [(1, nmM (T i))] [T i])
      else if ¬ isO (T i) then er 1 i
      else if 8 ≤ o then er 3 i
      else if T i = 40 then sq (ps T V lw q 3 (o + 1) a (i + 1)) (fun i1 _ => if T i1 = 41 then em (i1 + 1) [] [] else er 1 i1)
      else if T i = 21 then
        (if (ps T V lw q 8 (o + 1) a (i + 1)).1 ≠ 0 then ps T V lw q 8 (o + 1) a (i + 1)
        else if T (ps T V lw q 8 (o + 1) a (i + 1)).2.1 ≠ 22 then er 1 (ps T V lw q 8 (o + 1) a (i + 1)).2.1
        else if (ps T V lw q 3 (o + 1) (a + (ps T V lw q 8 (o + 1) a (i + 1)).2.2.2.length + 2) ((ps T V lw q 8 (o + 1) a (i + 1)).2.1 + 1)).1 ≠ 0 then ps T V lw q 3 (o + 1) (a + (ps T V lw q 8 (o + 1) a (i + 1)).2.2.2.length + 2) ((ps T V lw q 8 (o + 1) a (i + 1)).2.1 + 1)
        else if T (ps T V lw q 3 (o + 1) (a + (ps T V lw q 8 (o + 1) a (i + 1)).2.2.2.length + 2) ((ps T V lw q 8 (o + 1) a (i + 1)).2.1 + 1)).2.1 ≠ 23 then er 1 (ps T V lw q 3 (o + 1) (a + (ps T V lw q 8 (o + 1) a (i + 1)).2.2.2.length + 2) ((ps T V lw q 8 (o + 1) a (i + 1)).2.1 + 1)).2.1
        else (fun (x0 x1 : PO) => (fun (x2 : PO) => if x2.1 ≠ 0 then x2 else if T x2.2.1 ≠ 24 then er 1 x2.2.1 else (0, x2.2.1 + 1, x0.2.2.1 ++ x1.2.2.1 ++ x2.2.2.1 ++ [(3, 0)], x0.2.2.2 ++ [22, a + x0.2.2.2.length + 2 + x1.2.2.2.length + 2] ++ x1.2.2.2 ++ [23, a + x0.2.2.2.length + 2 + x1.2.2.2.length + 2 + x2.2.2.2.length] ++ x2.2.2.2)) (ps T V lw q 3 (o + 1) (a + x0.2.2.2.length + 2 + x1.2.2.2.length + 2) (x1.2.1 + 1))) (ps T V lw q 8 (o + 1) a (i + 1)) (ps T V lw q 3 (o + 1) (a + (ps T V lw q 8 (o + 1) a (i + 1)).2.2.2.length + 2) ((ps T V lw q 8 (o + 1) a (i + 1)).2.1 + 1)))
      else sq (ps T V lw q 0 (o + 1) a (i + 1)) (fun i1 _ => em i1 [(unM (T i), 0)] [if T i = 45 then 133 else T i]))
    else if m = 1 then sq (ps T V lw q 0 o a i) (fun i1 l => ps T V lw q 2 o (a + l) i1)
    else if m = 2 then (if T i = 42 ∨ T i = 47 then sq (sq (ps T V lw q 0 o a (i + 1)) (fun i1 _ => em i1 [(opM (T i), 0)] [T i])) (fun i1 l => ps T V lw q 2 o (a + l) i1) else em i [] [])
    else if m = 3 then sq (ps T V lw q 1 o a i) (fun i1 l => ps T V lw q 4 o (a + l) i1)
    else if m = 4 then (if T i = 43 ∨ T i = 45 then sq (sq (ps T V lw q 1 o a (i + 1)) (fun i1 _ => em i1 [(opM (T i), 0)] [T i])) (fun i1 l => ps T V lw q 4 o (a + l) i1) else em i [] [])
    else if m = 5 then (if T i = 27 then (if 8 ≤ o then er 3 i else sq (ps T V lw q 5 (o + 1) a (i + 1)) (fun i1 _ => em i1 [(20, 0)] [27])) else sq (ps T V lw q 3 o a i) (fun i1 l => if isC (T i1) then sq (ps T V lw q 3 o (a + l) (i1 + 1)) (fun i2 _ => em i2 [(opM (T i1), 0)] [T i1]) else er 1 i1))
    else if m = 6 then sq (ps T V lw q 5 o a i) (fun i1 l => ps T V lw q 7 o (a + l) i1)
    else if m = 7 then (if T i = 26 then sq (sq (ps T V lw q 5 o a (i + 1)) (fun i1 _ => em i1 [(21, 0)] [26])) (fun i1 l => ps T V lw q 7 o (a + l) i1) else em i [] [])
    else if m = 8 then sq (ps T V lw q 6 o a i) (fun i1 l => ps T V lw q 9 o (a + l) i1)
    else (if T i = 25 then sq (sq (ps T V lw q 6 o a (i + 1)) (fun i1 _ => em i1 [(22, 0)] [25])) (fun i1 l => ps T V lw q 9 o (a + l) i1) else em i [] [])
theorem sq_f {x : PO} {k : Nat → Nat → PO} (h : x.1 ≠ 0) : sq x k = x := if_neg h
theorem sq_s {x : PO} {k : Nat → Nat → PO} (h : x.1 = 0) : sq x k = ((k x.2.1 x.2.2.2.length).1, (k x.2.1 x.2.2.2.length).2.1, x.2.2.1 ++ (k x.2.1 x.2.2.2.length).2.2.1, x.2.2.2 ++ (k x.2.1 x.2.2.2.length).2.2.2) := if_pos h
section PE
variable (T V : Nat → Nat) (lw q o a i : Nat)
theorem ps_1 : ps T V lw (q + 1) 1 o a i = sq (ps T V lw q 0 o a i) (fun i1 l => ps T V lw q 2 o (a + l) i1) := rfl
theorem ps_2 : ps T V lw (q + 1) 2 o a i = if T i = 42 ∨ T i = 47 then sq (sq (ps T V lw q 0 o a (i + 1)) (fun i1 _ => em i1 [(opM (T i), 0)] [T i])) (fun i1 l => ps T V lw q 2 o (a + l) i1) else em i [] [] := rfl
theorem ps_3 : ps T V lw (q + 1) 3 o a i = sq (ps T V lw q 1 o a i) (fun i1 l => ps T V lw q 4 o (a + l) i1) := rfl
theorem ps_4 : ps T V lw (q + 1) 4 o a i = if T i = 43 ∨ T i = 45 then sq (sq (ps T V lw q 1 o a (i + 1)) (fun i1 _ => em i1 [(opM (T i), 0)] [T i])) (fun i1 l => ps T V lw q 4 o (a + l) i1) else em i [] [] := rfl
theorem ps_5 : ps T V lw (q + 1) 5 o a i = if T i = 27 then (if 8 ≤ o then er 3 i else sq (ps T V lw q 5 (o + 1) a (i + 1)) (fun i1 _ => em i1 [(20, 0)] [27])) else sq (ps T V lw q 3 o a i) (fun i1 l => if isC (T i1) then sq (ps T V lw q 3 o (a + l) (i1 + 1)) (fun i2 _ => em i2 [(opM (T i1), 0)] [T i1]) else er 1 i1) := rfl
theorem ps_6 : ps T V lw (q + 1) 6 o a i = sq (ps T V lw q 5 o a i) (fun i1 l => ps T V lw q 7 o (a + l) i1) := rfl
theorem ps_7 : ps T V lw (q + 1) 7 o a i = if T i = 26 then sq (sq (ps T V lw q 5 o a (i + 1)) (fun i1 _ => em i1 [(21, 0)] [26])) (fun i1 l => ps T V lw q 7 o (a + l) i1) else em i [] [] := rfl
theorem ps_8 : ps T V lw (q + 1) 8 o a i = sq (ps T V lw q 6 o a i) (fun i1 l => ps T V lw q 9 o (a + l) i1) := rfl
theorem ps_9 : ps T V lw (q + 1) 9 o a i = if T i = 25 then sq (sq (ps T V lw q 6 o a (i + 1)) (fun i1 _ => em i1 [(22, 0)] [25])) (fun i1 l => ps T V lw q 9 o (a + l) i1) else em i [] [] := rfl
/-- one: a number -/
theorem ps_0n (h : T i = 130) : ps T V lw (q + 1) 0 o a i = if 9999 < V i then er 2 i else em (i + 1) [(0, V i)] [130, V i] := if_pos h
theorem ps_0m (h : 8 ≤ T i ∧ T i ≤ 17) : ps T V lw (q + 1) 0 o a i = if 15 ≤ T i ∧ lw ≠ 1 then er 5 i else em (i + 1) [(1, nmM (T i))] [T i] := (if_neg (show ¬ T i = 130 by omega)).trans (if_pos h)
theorem ps_0e (h1 : T i ≠ 130) (h2 : ¬ (8 ≤ T i ∧ T i ≤ 17)) (h3 : ¬ isO (T i)) : ps T V lw (q + 1) 0 o a i = er 1 i := (if_neg h1).trans ((if_neg h2).trans (if_pos h3))
theorem isO_n {t : Nat} (h : isO t) : t ≠ 130 ∧ ¬ (8 ≤ t ∧ t ≤ 17) := by unfold isO at h; omega
theorem ps_0d (h : isO (T i)) (ho : 8 ≤ o) : ps T V lw (q + 1) 0 o a i = er 3 i := (if_neg (isO_n h).1).trans ((if_neg (isO_n h).2).trans ((if_neg (fun z => z h)).trans (if_pos ho)))
theorem ps_0p (h : T i = 40) (ho : ¬ 8 ≤ o) : ps T V lw (q + 1) 0 o a i = sq (ps T V lw q 3 (o + 1) a (i + 1)) (fun i1 _ => if T i1 = 41 then em (i1 + 1) [] [] else er 1 i1) := by
  have hO : isO (T i) := by unfold isO; omega
  exact (if_neg (isO_n hO).1).trans ((if_neg (isO_n hO).2).trans ((if_neg (fun z => z hO)).trans ((if_neg ho).trans (if_pos h))))
theorem ps_0u (h : T i = 45 ∨ T i = 28 ∨ T i = 29) (ho : ¬ 8 ≤ o) : ps T V lw (q + 1) 0 o a i = sq (ps T V lw q 0 (o + 1) a (i + 1)) (fun i1 _ => em i1 [(unM (T i), 0)] [if T i = 45 then 133 else T i]) := by
  have hO : isO (T i) := by unfold isO; omega
  exact (if_neg (isO_n hO).1).trans ((if_neg (isO_n hO).2).trans ((if_neg (fun z => z hO)).trans ((if_neg ho).trans ((if_neg (show ¬ T i = 40 by omega)).trans (if_neg (show ¬ T i = 21 by omega))))))
theorem ps_0i (h : T i = 21) (ho : ¬ 8 ≤ o) {x0 x1 x2 : PO} (e0 : ps T V lw q 8 (o + 1) a (i + 1) = x0) (e1 : ps T V lw q 3 (o + 1) (a + x0.2.2.2.length + 2) (x0.2.1 + 1) = x1) (e2 : ps T V lw q 3 (o + 1) (a + x0.2.2.2.length + 2 + x1.2.2.2.length + 2) (x1.2.1 + 1) = x2) : ps T V lw (q + 1) 0 o a i = if x0.1 ≠ 0 then x0 else if T x0.2.1 ≠ 22 then er 1 x0.2.1 else if x1.1 ≠ 0 then x1 else if T x1.2.1 ≠ 23 then er 1 x1.2.1 else if x2.1 ≠ 0 then x2 else if T x2.2.1 ≠ 24 then er 1 x2.2.1 else (0, x2.2.1 + 1, x0.2.2.1 ++ x1.2.2.1 ++ x2.2.2.1 ++ [(3, 0)], x0.2.2.2 ++ [22, a + x0.2.2.2.length + 2 + x1.2.2.2.length + 2] ++ x1.2.2.2 ++ [23, a + x0.2.2.2.length + 2 + x1.2.2.2.length + 2 + x2.2.2.2.length] ++ x2.2.2.2) := by
  subst e0
  subst e1
  subst e2
  have hO : isO (T i) := by unfold isO; omega
  exact (if_neg (isO_n hO).1).trans ((if_neg (isO_n hO).2).trans ((if_neg (fun z => z hO)).trans ((if_neg ho).trans ((if_neg (show ¬ T i = 40 by omega)).trans (if_pos h)))))
end PE
