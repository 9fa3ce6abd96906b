/-! ===== soundness: the whole of a method; calls of any depth (mine) ===== -/
/-- the code from here on is a rest of the method's -/
def ab_sfx (cs full : List Ent) : Prop := ∃ pre, full = pre ++ cs
theorem ab_sk_sfx (t : Nat) : ∀ full : List Ent, ab_sfx (ab_sk t full) full
  | [] => ⟨[], rfl⟩
  | q :: l => by
    unfold ab_sk
    split
    · exact ⟨[], rfl⟩
    · obtain ⟨pre, h⟩ := ab_sk_sfx t l
      exact ⟨q :: pre, by rw [List.cons_append, ← h]⟩
theorem ab_sk_hd (t : Nat) : ∀ (full : List Ent) (q : Ent) (cs : List Ent), ab_sk t full = q :: cs → q.1 = t
  | [], q, cs, h => by cases h
  | q1 :: l, q, cs, h => by
    unfold ab_sk at h
    split at h
    · rename_i hb
      cases h
      exact Nat.eq_of_beq_eq_true hb
    · exact ab_sk_hd t l q cs h
theorem ab_chn_at : ∀ (pre : List Ent) (e1 e2 : Ent) (cs : List Ent), ab_chn (pre ++ e1 :: e2 :: cs) = true → e2.1 = e1.1 + e1.2.2.1
  | [], e1, e2, cs, h => Nat.eq_of_beq_eq_true (Bool.and_eq_true_iff.mp h).1
  | [q], e1, e2, cs, h => ab_chn_at [] e1 e2 cs (Bool.and_eq_true_iff.mp h).2
  | q :: q2 :: pre, e1, e2, cs, h => ab_chn_at (q2 :: pre) e1 e2 cs (Bool.and_eq_true_iff.mp h).2
theorem ab_gae : ∀ (is : List Nat) (lv : Lv) (acc : List Value) (k : List Value → Prop), ab_ga is lv acc k → ∃ vs, k (acc.reverse ++ vs) ∧ ∀ q ∈ ab_lv is vs, q ∈ lv
  | [], lv, acc, k, h => ⟨[], by rw [List.append_nil]; exact h, fun q hq => absurd hq List.not_mem_nil⟩
  | i :: is, lv, acc, k, h => by
    unfold ab_ga at h
    split at h
    · rename_i v hv
      obtain ⟨vs, h1, h2⟩ := ab_gae is lv (v :: acc) k h
      refine ⟨v :: vs, ?_, fun q hq => ?_⟩
      · rw [List.reverse_cons, List.append_assoc] at h1
        exact h1
      · rcases List.mem_cons.mp hq with rfl | hq
        · exact ab_lkm lv i v hv
        · exact h2 q hq
    · exact h.elim
theorem ab_vc_nil {call : CallT} {costs : List (Nat × Nat × Nat)} {rk Mc Ms : Nat} {Q : Option Value → Hp → Prop} {W : Nat → List Value → Hp → Nat → Nat → Prop} {cuts : List (Nat × List Nat)} {full : List Ent} {n : Nat} {lv : Lv} {st : List Value} {h : Hp} {nc ns : Nat} (hv : ab_vc call costs rk Mc Ms Q W cuts full n [] lv st h nc ns) : False := by
  cases n with
  | zero => exact hv
  | succ n => exact hv
theorem ab_nx_cut {W : Nat → List Value → Hp → Nat → Nat → Prop} {cuts : List (Nat × List Nat)} {rec : List Ent → Lv → List Value → Hp → Nat → Nat → Prop} {pc len x y z : Nat} {i : Instr} {c : Value} {w : List (Int32 × Nat)} {cs : List Ent} {lv : Lv} {st : List Value} {h : Hp} {nc ns : Nat} (hnx : ab_nx W cuts rec ((pc, i, len, x, y, z, true, c, w) :: cs) lv st h nc ns) :
    st = [] ∧ ∃ q, cuts.find? (fun q => Nat.beq q.1 pc) = some q ∧ ab_ga q.2 lv [] (fun vs => W pc vs h nc ns) := by
  simp only [ab_nx] at hnx
  split at hnx
  · rename_i q hq
    exact ⟨rfl, q, hq, hnx⟩
  · exact hnx.elim
section ABO
variable {p : Program} {l : Launch} {e : Env} {R : Room} {s : State} {m : MethodId} {args : Array Value} {below : List Frame} {meth : Method} {c : Code} {Qm : State → Prop}
variable {g : Gl} {L : Nat} {xs : Nat → Int32} {ml : Nat} {cc : ByteArray} {o : Nat}
/-- what a loop's head stands for on the machine -/
def ab_Wh (p : Program) (l : Launch) (e : Env) (R : Room) (s : State) (m : MethodId) (args : Array Value) (below : List Frame) (meth : Method) (c : Code) (Qm : State → Prop) (g : Gl) (L : Nat) (xs : Nat → Int32) (ml : Nat) (ct : List (Nat × List Nat)) (pc : Nat) (vs : List Value) (h : Hp) (nc ns : Nat) : Prop :=
  ∀ q, ct.find? (fun q => Nat.beq q.1 pc) = some q → ab_W p l e R s m args below meth c Qm g L xs ml pc (ab_lv q.2 vs) [] h nc ns
theorem ab_W_sub {pc : Nat} {lv lv' : Lv} {st : List Value} {h : Hp} {nc ns : Nat} (hs : ∀ q ∈ lv', q ∈ lv) (k : ab_W p l e R s m args below meth c Qm g L xs ml pc lv' st h nc ns) : ab_W p l e R s m args below meth c Qm g L xs ml pc lv st h nc ns := by
  intro ls H locs hl hR hS
  refine k ls H locs ⟨hl.1, hl.2.1, fun q hq => ?_⟩ hR hS
  obtain ⟨q0, h0, rfl⟩ := List.mem_map.mp hq
  exact hl.2.2 _ (List.mem_map.mpr ⟨q0, hs q0 h0, rfl⟩)
theorem ab_vcs {d : Nat} (IH : ab_Sd l d) (F : ab_F p s m args c g L xs cc ml o) {ini : Bool} (hini : ini = true → meth.name = "<init>") (hfr : d + 1 ≤ R.frames) (hlo : 60 * (d + 1) ≤ R.locals) {rk Mc Ms : Nat} (hMc : Mc ≤ R.cells) (hMs : Ms ≤ R.slots) (hMb : Ms ≤ 7151329)
    {Q : Option Value → Hp → Prop} {ct : List (Nat × List Nat)} {full : List Ent} (hall : full.all (fun e => ab_okb cc ml e && ab_lkb o ini e) = true) (hchn : ab_chn full = true)
    (hret : ∀ (pc : Nat) (i : Instr) (r : Option Value) (lv : Lv) (h : Hp) (nc ns : Nat), ab_rOK rk i r → decode cc pc = .ok (i, 1) → Q r h → nc ≤ Mc → ns ≤ Ms → ab_W p l e R s m args below meth c Qm g L xs ml pc lv (ab_pu r []) h nc ns) :
    ∀ (n : Nat) (q : Ent) (cs : List Ent) (lv : Lv) (st : List Value) (h : Hp) (nc ns : Nat), ab_sfx (q :: cs) full → ab_vc (ab_Ok d) ab_costs rk Mc Ms Q (ab_Wh p l e R s m args below meth c Qm g L xs ml ct) ct full n (q :: cs) lv st h nc ns → ab_W p l e R s m args below meth c Qm g L xs ml q.1 lv st h nc ns := by
  intro n
  induction n with
  | zero => intro q cs lv st h nc ns _ hv; exact (show False from hv).elim
  | succ n ih =>
    intro q cs lv st h nc ns hsf hv
    have nxt : ∀ (cs : List Ent) (t : Nat), ab_sfx cs full → (∀ q' cs', cs = q' :: cs' → q'.1 = t) → ∀ lv st h nc ns, ab_nx (ab_Wh p l e R s m args below meth c Qm g L xs ml ct) ct (ab_vc (ab_Ok d) ab_costs rk Mc Ms Q (ab_Wh p l e R s m args below meth c Qm g L xs ml ct) ct full n) cs lv st h nc ns → ab_W p l e R s m args below meth c Qm g L xs ml t lv st h nc ns := by
      intro cs t hsf hhd lv st h nc ns hnx
      cases cs with
      | nil =>
        cases n with
        | zero => exact (show False from hnx).elim
        | succ n => exact (show False from hnx).elim
      | cons q' cs' =>
        have et := hhd q' cs' rfl
        obtain ⟨pc', i', len', x', y', z', cut', c', w'⟩ := q'
        cases cut' with
        | false =>
          rw [← et]
          exact ih _ cs' lv st h nc ns hsf hnx
        | true =>
          obtain ⟨rfl, q2, hq, hnx2⟩ := ab_nx_cut hnx
          obtain ⟨vs, h1, h2⟩ := ab_gae _ _ _ _ hnx2
          have h3 := h1 q2 hq
          rw [← et]
          exact ab_W_sub h2 h3
    obtain ⟨pre, hpre⟩ := hsf
    have hq := Bool.and_eq_true_iff.mp (List.all_eq_true.mp hall q (by rw [hpre]; exact List.mem_append_right _ List.mem_cons_self))
    obtain ⟨pc, i, len, x, y, z, cut, k, w⟩ := q
    refine ab_step IH F hini hfr hlo hMc hMs hMb hq.1 hq.2 hv (fun lv st h nc ns hg => ?_) (fun t lv st h nc ns hg => ?_) (fun r lv h nc ns a1 a2 a3 a4 a5 => hret pc i r lv h nc ns a1 a2 a3 a4 a5)
    · refine nxt cs (pc + len) ⟨pre ++ [(pc, i, len, x, y, z, cut, k, w)], by rw [hpre, List.append_assoc]; rfl⟩ (fun q' cs' e => ?_) lv st h nc ns hg
      subst e
      rw [hpre] at hchn
      exact ab_chn_at pre _ _ _ hchn
    · exact nxt (ab_sk t full) t (ab_sk_sfx t full) (fun q' cs' e => ab_sk_hd t full q' cs' e) lv st h nc ns hg
/-- a method that is Ok, on the machine from its entry -/
theorem ab_entry {d : Nat} (IH : ab_Sd l d) (F : ab_F p s m args c g L xs cc ml o) {ini : Bool} (hini : ini = true → meth.name = "<init>") (hfr : d + 1 ≤ R.frames) (hlo : 60 * (d + 1) ≤ R.locals) {i : Nat} {mm : MR} (hm : ab_MT[i]? = some mm) (hMc : ab_Mc i ≤ R.cells) (hMs : ab_Ms i ≤ R.slots) (hMb : ab_Ms i ≤ 7151329)
    (hck : ab_ckb o ini mm = true) (ecc : mm.2.2.1 = cc) (eml : mm.2.2.2.1 = ml) {Q : Option Value → Hp → Prop} {av : List Value} {h : Hp} (hok : ab_Ok (d + 1) i av h Q)
    (hret : ∀ (pc : Nat) (i0 : Instr) (r : Option Value) (lv : Lv) (h : Hp) (nc ns : Nat), ab_rOK (ab_rk mm) i0 r → decode cc pc = .ok (i0, 1) → Q r h → nc ≤ ab_Mc i → ns ≤ ab_Ms i → ab_W p l e R s m args below meth c Qm g L xs ml pc lv (ab_pu r []) h nc ns) :
    ab_W p l e R s m args below meth c Qm g L xs ml 0 (lv_args 0 av) [] h 0 0 := by
  have hok' : ∀ W : Nat → List Value → Hp → Nat → Nat → Prop, (∀ pc vs h nc ns, ab_hd (ab_Ok d) i mm Q W pc vs h nc ns → W pc vs h nc ns) → ab_en (ab_Ok d) i mm Q W av h := by
    have h1 : (match ab_MT[i]? with
      | none => False
      | some m => ∀ W : Nat → List Value → Hp → Nat → Nat → Prop, (∀ pc vs h nc ns, ab_hd (ab_Ok d) i m Q W pc vs h nc ns → W pc vs h nc ns) → ab_en (ab_Ok d) i m Q W av h) := hok
    rw [hm] at h1
    exact h1
  subst ecc
  subst eml
  unfold ab_ckb at hck
  obtain ⟨hck, h0⟩ := Bool.and_eq_true_iff.mp hck
  obtain ⟨hck, hchn⟩ := Bool.and_eq_true_iff.mp hck
  obtain ⟨hck, hall⟩ := Bool.and_eq_true_iff.mp hck
  have key := ab_vcs (rk := ab_rk mm) (Mc := ab_Mc i) (Ms := ab_Ms i) IH F hini hfr hlo hMc hMs hMb (ct := ab_ct mm) (full := ab_cd mm) hall hchn hret
  have cl : ∀ pc vs h nc ns, ab_hd (ab_Ok d) i mm Q (ab_Wh p l e R s m args below meth c Qm g L xs mm.2.2.2.1 (ab_ct mm)) pc vs h nc ns → ab_Wh p l e R s m args below meth c Qm g L xs mm.2.2.2.1 (ab_ct mm) pc vs h nc ns := by
    intro pc vs h nc ns hh q hq
    unfold ab_hd at hh
    rw [hq] at hh
    cases hsk : ab_sk pc (ab_cd mm) with
    | nil => rw [hsk] at hh; exact (ab_vc_nil hh).elim
    | cons q1 cs =>
      rw [hsk] at hh
      have e1 := ab_sk_hd pc (ab_cd mm) q1 cs hsk
      have e2 := ab_sk_sfx pc (ab_cd mm)
      rw [hsk] at e2
      rw [← e1]
      exact key 4000 q1 cs _ _ _ _ _ e2 hh
  have hen0 := hok' _ cl
  unfold ab_en at hen0
  have hen : ab_nx (ab_Wh p l e R s m args below meth c Qm g L xs mm.2.2.2.1 (ab_ct mm)) (ab_ct mm) (ab_vc (ab_Ok d) ab_costs (ab_rk mm) (ab_Mc i) (ab_Ms i) Q (ab_Wh p l e R s m args below meth c Qm g L xs mm.2.2.2.1 (ab_ct mm)) (ab_ct mm) (ab_cd mm) 4000) (ab_cd mm) (lv_args 0 av) [] h 0 0 := by
    split at hen0
    · exact hen0
    · exact hen0.elim
  cases hcd : ab_cd mm with
  | nil =>
    have hcd2 : mm.2.2.2.2.2.2.2 = [] := hcd
    rw [hcd2] at h0
    cases h0
  | cons q1 cs =>
    have hcd2 : mm.2.2.2.2.2.2.2 = q1 :: cs := hcd
    rw [hcd2] at h0
    have e1 : q1.1 = 0 := Nat.eq_of_beq_eq_true h0
    have hen2 : ab_nx (ab_Wh p l e R s m args below meth c Qm g L xs mm.2.2.2.1 (ab_ct mm)) (ab_ct mm) (ab_vc (ab_Ok d) ab_costs (ab_rk mm) (ab_Mc i) (ab_Ms i) Q (ab_Wh p l e R s m args below meth c Qm g L xs mm.2.2.2.1 (ab_ct mm)) (ab_ct mm) (ab_cd mm) 4000) (q1 :: cs) (lv_args 0 av) [] h 0 0 := by
      rw [← hcd]
      exact hen
    obtain ⟨pc', i', len', x', y', z', cut', c', w'⟩ := q1
    have e1 : pc' = 0 := e1
    subst e1
    cases cut' with
    | false => exact key 4000 _ cs _ _ _ _ _ ⟨[], hcd2⟩ hen2
    | true =>
      obtain ⟨-, q2, hq, hnx2⟩ := ab_nx_cut hen2
      obtain ⟨vs, h1, h2⟩ := ab_gae _ _ _ _ hnx2
      have h3 := h1 q2 hq
      exact ab_W_sub h2 h3
/-- the arguments' words fit the locals -/
theorem ab_cat_ok {d i : Nat} {mm : MR} (hm : ab_MT[i]? = some mm) {Q : Option Value → Hp → Prop} {av : List Value} {h : Hp} (hok : ab_Ok (d + 1) i av h Q) : ab_cat av ≤ mm.2.2.2.1 := by
  have h1 : (match ab_MT[i]? with
    | none => False
    | some m => ∀ W : Nat → List Value → Hp → Nat → Nat → Prop, (∀ pc vs h nc ns, ab_hd (ab_Ok d) i m Q W pc vs h nc ns → W pc vs h nc ns) → ab_en (ab_Ok d) i m Q W av h) := hok
  rw [hm] at h1
  have h2 := h1 (fun _ _ _ _ _ => True) (fun _ _ _ _ _ _ => trivial)
  unfold ab_en at h2
  split at h2
  · rename_i hb
    exact Nat.le_of_ble_eq_true hb
  · exact h2.elim
theorem ab_lg_len : ∀ vs : List Value, (lg_sl vs).length = ab_cat vs
  | [] => rfl
  | v :: vs => by
    show ((if v.category = 2 then [Slot.val v, Slot.second] else [Slot.val v]) ++ lg_sl vs).length = v.category + ab_cat vs
    rw [List.length_append, ab_lg_len vs]
    rcases lv_cat v with h | h <;> rw [h] <;> rfl
theorem ab_cat_map (hf : (gl_f g).category = 1) : ∀ vs : List Value, ab_cat (vs.map (gl_cv g)) = ab_cat vs
  | [] => rfl
  | v :: vs => by
    show (gl_cv g v).category + ab_cat (vs.map (gl_cv g)) = v.category + ab_cat vs
    rw [gl_cat hf, ab_cat_map hf vs]
theorem ab_largs (hf : (gl_f g).category = 1) : ∀ (vs : List Value) (k : Nat), lv_args k (vs.map (gl_cv g)) = (lv_args k vs).map (gl_lv g)
  | [], k => rfl
  | v :: vs, k => by
    show (k, gl_cv g v) :: lv_args _ (vs.map (gl_cv g)) = gl_lv g (k, v) :: (lv_args _ vs).map (gl_lv g)
    first
      | rw [ab_largs hf vs, gl_cat hf]
      | (rw [gl_cat hf, ab_largs hf vs])
    rfl
end ABO
