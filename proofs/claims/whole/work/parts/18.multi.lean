/-! ===== soundness: new int[n][k] (mine); OPEN: its proof needs a law of multianewarray, see NOTES.md ===== -/
section ABM
variable {p : Program} {l : Launch} {e : Env} {R : Room} {s : State} {m : MethodId} {args : Array Value} {below : List Frame} {meth : Method} {c : Code} {Qm : State → Prop}
variable {g : Gl} {L : Nat} {xs : Nat → Int32} {ml : Nat} {cc : ByteArray} {pc : Nat} {lv : Lv} {st : List Value} {h : Hp} {nc ns : Nat} {o : Nat}
theorem ab_mna (F : ab_F p s m args c g L xs cc ml o) {n0 x : Nat} {n k : Int32} (hh : ab_hit ab_np o n0 x = true) (hd : decode cc pc = .ok (.multianewarray n0 2, 4)) (hn : ¬ n < 0) (hk : ¬ k < 0) (hc1 : nc + (1 + n.toNatClampNeg) ≤ R.cells) (hs1 : ns + (n.toNatClampNeg + n.toNatClampNeg * k.toNatClampNeg) ≤ R.slots) (hb1 : n.toNatClampNeg + n.toNatClampNeg * k.toNatClampNeg ≤ 7151329)
    (kk : ab_W p l e R s m args below meth c Qm g L xs ml (pc + 4) lv (.ref (ab_N h) :: st) (ab_mn h n.toNatClampNeg k.toNatClampNeg) (nc + (1 + n.toNatClampNeg)) (ns + (n.toNatClampNeg + n.toNatClampNeg * k.toNatClampNeg))) : ab_W p l e R s m args below meth c Qm g L xs ml pc lv (.int k :: .int n :: st) h nc ns := by
  sorry
end ABM
