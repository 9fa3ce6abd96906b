/-- what the calls that make cells may make -/
def ab_costs : List (Nat × Nat × Nat) := [(16, 7, 120), (93, 6, 51), (0, 9, 143), (29, 12, 68), (65, 241, 3990), (69, 4, 1203), (44, 10, 1913), (37, 4, 29), (40, 2, 10), (32, 3, 30), (98, 574, 10751), (165, 13, 8284), (330, 1, 600), (45, 6, 1811), (104, 6, 1811), (332, 3661, 946313)]
def ab_rk (m : MR) : Nat := m.2.2.2.2.2.1
def ab_ct (m : MR) : List (Nat × List Nat) := m.2.2.2.2.2.2.1
def ab_cd (m : MR) : List Ent := m.2.2.2.2.2.2.2
def ab_Mc (i : Nat) : Nat := (ab_co i ab_costs).1
def ab_Ms (i : Nat) : Nat := (ab_co i ab_costs).2
/-- the code from a loop's head on -/
def ab_hd (call : CallT) (i : Nat) (m : MR) (Q : Option Value → Hp → Prop) (W : Nat → List Value → Hp → Nat → Nat → Prop) (pc : Nat) (vs : List Value) (h : Hp) (nc ns : Nat) : Prop :=
  match (ab_ct m).find? (fun q => Nat.beq q.1 pc) with
  | some q => ab_vc call ab_costs (ab_rk m) (ab_Mc i) (ab_Ms i) Q W (ab_ct m) (ab_cd m) 4000 (ab_sk pc (ab_cd m)) (ab_lv q.2 vs) [] h nc ns
  | none => False
/-- the code from its entry on -/
def ab_en (call : CallT) (i : Nat) (m : MR) (Q : Option Value → Hp → Prop) (W : Nat → List Value → Hp → Nat → Nat → Prop) (args : List Value) (h : Hp) : Prop :=
  match Nat.ble (ab_cat args) m.2.2.2.1 with
  | true => ab_nx W (ab_ct m) (ab_vc call ab_costs (ab_rk m) (ab_Mc i) (ab_Ms i) Q W (ab_ct m) (ab_cd m) 4000) (ab_cd m) (lv_args 0 args) [] h 0 0
  | false => False
/-- method i, in at most d calls one inside the other, from these arguments and this heap, comes to an end with Q -/
def ab_Ok : Nat → CallT
  | 0 => fun _ _ _ _ => False
  | d + 1 => fun i args h Q => match ab_MT[i]? with
    | none => False
    | some m => ∀ W : Nat → List Value → Hp → Nat → Nat → Prop, (∀ pc vs h nc ns, ab_hd (ab_Ok d) i m Q W pc vs h nc ns → W pc vs h nc ns) → ab_en (ab_Ok d) i m Q W args h
theorem ab_in {d i : Nat} {args : List Value} {h : Hp} {Q : Option Value → Hp → Prop} (m : MR) (hm : ab_MT[i]? = some m)
    (hh : ∀ (call : CallT) (W : Nat → List Value → Hp → Nat → Nat → Prop), (∀ i args h Q, ab_Ok d i args h Q → call i args h Q) → (∀ pc vs h nc ns, ab_hd call i m Q W pc vs h nc ns → W pc vs h nc ns) → ab_en call i m Q W args h) : ab_Ok (d + 1) i args h Q := by
  show (match ab_MT[i]? with
    | none => False
    | some m => ∀ W : Nat → List Value → Hp → Nat → Nat → Prop, (∀ pc vs h nc ns, ab_hd (ab_Ok d) i m Q W pc vs h nc ns → W pc vs h nc ns) → ab_en (ab_Ok d) i m Q W args h)
  rw [hm]
  exact fun W hW => hh (ab_Ok d) W (fun _ _ _ _ q => q) hW
