/-! ===== the abstract machine is sound, one instruction after the other: locals, stack, numbers, ways (mine) ===== -/
theorem ab_lkm : ∀ (lv : Lv) (i : Nat) (v : Value), ab_lk lv i = some v → (i, v) ∈ lv
  | [], i, v, h => by cases h
  | q :: l, i, v, h => by
    unfold ab_lk at h
    split at h
    · rename_i hb
      have e := Nat.eq_of_beq_eq_true hb
      cases h
      subst e
      exact List.mem_cons_self
    · exact List.mem_cons_of_mem _ (ab_lkm l i v h)
theorem ab_f1e (i : Nat) : ∀ (lv : Lv) (k : Lv → Prop), ab_f1 i lv k → k (lv.filter (fun q => !(q.1 == i) && !(q.1 + 1 == i && q.2.category == 2)))
  | [], k, h => h
  | q :: l, k, h => by
    unfold ab_f1 at h
    split at h
    · rename_i hb
      have := ab_f1e i l _ h
      rw [List.filter_cons, if_pos hb]
      exact this
    · rename_i hb
      have := ab_f1e i l _ h
      rw [List.filter_cons, if_neg (by rw [hb]; decide)]
      exact this
theorem ab_f2e (i : Nat) : ∀ (lv : Lv) (k : Lv → Prop), ab_f2 i lv k → k (lv.filter (fun q => !(q.1 == i) && (!(q.1 == i + 1) && !(q.1 + 1 == i && q.2.category == 2))))
  | [], k, h => h
  | q :: l, k, h => by
    unfold ab_f2 at h
    split at h
    · rename_i hb
      have := ab_f2e i l _ h
      rw [List.filter_cons, if_pos hb]
      exact this
    · rename_i hb
      have := ab_f2e i l _ h
      rw [List.filter_cons, if_neg (by rw [hb]; decide)]
      exact this
theorem gl_cat {g : Gl} (hf : (gl_f g).category = 1) (v : Value) : (gl_cv g v).category = v.category := by
  cases v <;> first | rfl | exact hf
theorem gl_fl1 {g : Gl} (hf : (gl_f g).category = 1) (i : Nat) (lv : Lv) : (lv.map (gl_lv g)).filter (fun q => !(q.1 == i) && !(q.1 + 1 == i && q.2.category == 2)) = (lv.filter (fun q => !(q.1 == i) && !(q.1 + 1 == i && q.2.category == 2))).map (gl_lv g) := by
  rw [List.filter_map]
  congr 1
  apply List.filter_congr
  intro q _
  show (!(q.1 == i) && !(q.1 + 1 == i && (gl_cv g q.2).category == 2)) = _
  rw [gl_cat hf]
theorem gl_fl2 {g : Gl} (hf : (gl_f g).category = 1) (i : Nat) (lv : Lv) : (lv.map (gl_lv g)).filter (fun q => !(q.1 == i) && (!(q.1 == i + 1) && !(q.1 + 1 == i && q.2.category == 2))) = (lv.filter (fun q => !(q.1 == i) && (!(q.1 == i + 1) && !(q.1 + 1 == i && q.2.category == 2)))).map (gl_lv g) := by
  rw [List.filter_map]
  congr 1
  apply List.filter_congr
  intro q _
  show (!(q.1 == i) && (!(q.1 == i + 1) && !(q.1 + 1 == i && (gl_cv g q.2).category == 2))) = _
  rw [gl_cat hf]
theorem ab_swe (v : Int32) (d : Nat) (k : Nat → Prop) : ∀ (w : List (Int32 × Nat)), ab_sw v d k w → (∀ q ∈ w, ¬ v = q.1) ∧ k d ∨ ∃ (j : Nat) (q : Int32 × Nat), w[j]? = some q ∧ v = q.1 ∧ (∀ (j' : Nat) (q' : Int32 × Nat), j' < j → w[j']? = some q' → ¬ v = q'.1) ∧ k q.2
  | [], h => Or.inl ⟨fun q hq => absurd hq List.not_mem_nil, h⟩
  | q :: l, h => by
    by_cases e : v = q.1
    · exact Or.inr ⟨0, q, rfl, e, fun j' q' hj => absurd hj (Nat.not_lt_zero j'), h.1 e⟩
    · rcases ab_swe v d k l (h.2 e) with ⟨h1, h2⟩ | ⟨j, q1, h1, h2, h3, h4⟩
      · refine Or.inl ⟨fun q' hq' => ?_, h2⟩
        rcases List.mem_cons.mp hq' with rfl | h'
        · exact e
        · exact h1 q' h'
      · refine Or.inr ⟨j + 1, q1, h1, h2, fun j' q' hj hq' => ?_, h4⟩
        cases j' with
        | zero => cases hq'; exact e
        | succ j' => exact h3 j' q' (by omega) hq'
section ABS
variable {p : Program} {l : Launch} {e : Env} {R : Room} {s : State} {m : MethodId} {args : Array Value} {below : List Frame} {meth : Method} {c : Code} {Qm : State → Prop}
/-- the machine, now in this method at pc with what the abstract machine has, comes to Qm -/
def ab_W (p : Program) (l : Launch) (e : Env) (R : Room) (s : State) (m : MethodId) (args : Array Value) (below : List Frame) (meth : Method) (c : Code) (Qm : State → Prop) (g : Gl) (L : Nat) (xs : Nat → Int32) (ml : Nat) (pc : Nat) (lv : Lv) (st : List Value) (h : Hp) (nc ns : Nat) : Prop :=
  ∀ (ls : Array Slot) (H : Heap) (locs : List Loc), lv_has ls ml (lv.map (gl_lv g)) → ab_rel g L xs h H → va_S (gl_A g) s.heap H locs → W p l e R s m args below meth c H locs nc ns Qm (F0 m pc ls (st.map (gl_cv g)))
variable {g : Gl} {L : Nat} {xs : Nat → Int32} {ml : Nat} {cc : ByteArray} {pc : Nat} {lv : Lv} {st : List Value} {h : Hp} {nc ns : Nat}
theorem ab_lo {ls : Array Slot} (hl : lv_has ls ml (lv.map (gl_lv g))) {i : Nat} {v : Value} (hk : ab_lk lv i = some v) : ls[i]? = some (.val (gl_cv g v)) :=
  hl.2.2 (gl_lv g (i, v)) (List.mem_map.mpr ⟨(i, v), ab_lkm lv i v hk, rfl⟩)
set_option maxHeartbeats 4000000 in
/-- the instructions of locals, stack, numbers and ways -/
theorem ab_s1 {call : CallT} {costs : List (Nat × Nat × Nat)} {rk Mc Ms : Nat} {Q : Option Value → Hp → Prop} {i : Instr} {len x y z : Nat} {cut : Bool} {k : Value} {w : List (Int32 × Nat)}
    {go : Lv → List Value → Hp → Nat → Nat → Prop} {jp : Nat → Lv → List Value → Hp → Nat → Nat → Prop}
    (hx : p.tables.exec = Jvm.exec) (hb : c.code = cc) (hf : (gl_f g).category = 1) (hr : gl_f g = .null ∨ ∃ a, gl_f g = .ref a)
    (hok : ab_okb cc ml (pc, i, len, x, y, z, cut, k, w) = true) (hs : ab_sem call costs rk Mc Ms Q i x y z k w lv st h nc ns go jp)
    (hgo : ∀ lv st h nc ns, go lv st h nc ns → ab_W p l e R s m args below meth c Qm g L xs ml (pc + len) lv st h nc ns)
    (hjp : ∀ t lv st h nc ns, jp t lv st h nc ns → ab_W p l e R s m args below meth c Qm g L xs ml t lv st h nc ns)
    (hrest : (match i with
      | .iconst _ | .bipush _ | .sipush _ | .lconst _ | .aconst_null | .iload _ | .iload_n _ | .lload _ | .lload_n _ | .aload _ | .aload_n _ | .istore _ | .istore_n _ | .lstore _ | .lstore_n _ | .astore _ | .astore_n _ | .iinc _ _ | .iadd | .isub | .imul | .idiv | .irem | .iand | .ior | .ixor | .ishl | .ishr | .iushr | .ineg | .i2b | .i2c | .i2l | .l2i | .ladd | .lsub | .lmul | .ldiv | .lrem | .land | .lor | .lneg | .lshl | .lshr | .lcmp | .dup | .dup2 | .pop | .goto _ | .ifCond _ _ | .if_icmp _ _ | .ifnull _ | .ifnonnull _ => true
      | _ => false) = true) :
    ab_W p l e R s m args below meth c Qm g L xs ml pc lv st h nc ns := by
  simp only [ab_okb, Bool.and_eq_true, decide_eq_true_eq] at hok
  obtain ⟨hd, hok⟩ := hok
  cases i with
  | iconst n =>
    have hok := of_decide_eq_true hok
    obtain ⟨rfl, rfl⟩ := hok
    exact fun ls H locs hl hR hS => lv_iconst hx hb hd rfl (hgo _ _ _ _ _ hs ls H locs hl hR hS)
  | bipush n =>
    have hok := of_decide_eq_true hok
    obtain ⟨rfl, rfl⟩ := hok
    exact fun ls H locs hl hR hS => lv_bipush hx hb hd rfl (hgo _ _ _ _ _ hs ls H locs hl hR hS)
  | sipush n =>
    have hok := of_decide_eq_true hok
    obtain ⟨rfl, rfl⟩ := hok
    exact fun ls H locs hl hR hS => lv_sipush hx hb hd rfl (hgo _ _ _ _ _ hs ls H locs hl hR hS)
  | lconst n =>
    have hok := of_decide_eq_true hok
    obtain ⟨rfl, rfl⟩ := hok
    exact fun ls H locs hl hR hS => lv_lconst hx hb hd rfl (hgo _ _ _ _ _ hs ls H locs hl hR hS)
  | aconst_null =>
    have hok := of_decide_eq_true hok
    subst hok
    exact fun ls H locs hl hR hS => lv_null hx hb hd (hgo _ _ _ _ _ hs ls H locs hl hR hS)
  | iload n =>
    have hok := of_decide_eq_true hok
    obtain ⟨rfl, rfl⟩ := hok
    simp only [ab_sem] at hs
    split at hs
    · rename_i v hk
      exact fun ls H locs hl hR hS => lv_iload hx hb hd (ab_lo hl hk) (hgo _ _ _ _ _ hs ls H locs hl hR hS)
    · exact hs.elim
  | iload_n n =>
    have hok := of_decide_eq_true hok
    obtain ⟨rfl, rfl⟩ := hok
    simp only [ab_sem] at hs
    split at hs
    · rename_i v hk
      exact fun ls H locs hl hR hS => lv_iload_n hx hb hd rfl (ab_lo hl hk) (hgo _ _ _ _ _ hs ls H locs hl hR hS)
    · exact hs.elim
  | lload n =>
    have hok := of_decide_eq_true hok
    obtain ⟨rfl, rfl⟩ := hok
    simp only [ab_sem] at hs
    split at hs
    · rename_i v hk
      exact fun ls H locs hl hR hS => lv_lload hx hb hd (ab_lo hl hk) (hgo _ _ _ _ _ hs ls H locs hl hR hS)
    · exact hs.elim
  | lload_n n =>
    have hok := of_decide_eq_true hok
    obtain ⟨rfl, rfl⟩ := hok
    simp only [ab_sem] at hs
    split at hs
    · rename_i v hk
      exact fun ls H locs hl hR hS => lv_lload_n hx hb hd rfl (ab_lo hl hk) (hgo _ _ _ _ _ hs ls H locs hl hR hS)
    · exact hs.elim
  | aload n =>
    have hok := of_decide_eq_true hok
    obtain ⟨rfl, rfl⟩ := hok
    simp only [ab_sem] at hs
    split at hs
    · rename_i v hk
      exact fun ls H locs hl hR hS => lv_aload hx hb hd (ab_lo hl hk) (hgo _ _ _ _ _ hs ls H locs hl hR hS)
    · rename_i hk
      exact fun ls H locs hl hR hS => lv_aloadN hx hb hd (ab_lo hl hk) (hgo _ _ _ _ _ hs ls H locs hl hR hS)
    · rename_i v hk
      intro ls H locs hl hR hS
      have h1 := ab_lo hl hk
      have h2 := hgo _ _ _ _ _ hs ls H locs hl hR hS
      simp only [List.map_cons, gl_cv] at h1 h2 ⊢
      rcases hr with e | ⟨a, e⟩
      · rw [e] at h1 h2
        exact lv_aloadN hx hb hd h1 h2
      · rw [e] at h1 h2
        exact lv_aload hx hb hd h1 h2
    · exact hs.elim
  | aload_n n =>
    have hok := of_decide_eq_true hok
    obtain ⟨rfl, rfl⟩ := hok
    simp only [ab_sem] at hs
    split at hs
    · rename_i v hk
      exact fun ls H locs hl hR hS => lv_aload_n hx hb hd rfl (ab_lo hl hk) (hgo _ _ _ _ _ hs ls H locs hl hR hS)
    · rename_i hk
      exact fun ls H locs hl hR hS => lv_aload_nN hx hb hd rfl (ab_lo hl hk) (hgo _ _ _ _ _ hs ls H locs hl hR hS)
    · rename_i v hk
      intro ls H locs hl hR hS
      have h1 := ab_lo hl hk
      have h2 := hgo _ _ _ _ _ hs ls H locs hl hR hS
      simp only [List.map_cons, gl_cv] at h1 h2 ⊢
      rcases hr with e | ⟨a, e⟩
      · rw [e] at h1 h2
        exact lv_aload_nN hx hb hd rfl h1 h2
      · rw [e] at h1 h2
        exact lv_aload_n hx hb hd rfl h1 h2
    · exact hs.elim
  | istore n =>
    have hok := of_decide_eq_true hok
    obtain ⟨rfl, rfl, hlt⟩ := hok
    simp only [ab_sem] at hs
    split at hs
    · rename_i v st'
      have h1 := ab_f1e _ _ _ hs
      exact fun ls H locs hl hR hS => lv_istore hx hb hd hl hlt (by rw [gl_fl1 hf]; rfl) (fun ls' hl' => hgo _ _ _ _ _ h1 ls' H locs hl' hR hS)
    · exact hs.elim
  | istore_n n =>
    have hok := of_decide_eq_true hok
    obtain ⟨rfl, rfl, hlt⟩ := hok
    simp only [ab_sem] at hs
    split at hs
    · rename_i v st'
      have h1 := ab_f1e _ _ _ hs
      exact fun ls H locs hl hR hS => lv_istore_n hx hb hd rfl hl hlt (by rw [gl_fl1 hf]; rfl) (fun ls' hl' => hgo _ _ _ _ _ h1 ls' H locs hl' hR hS)
    · exact hs.elim
  | lstore n =>
    have hok := of_decide_eq_true hok
    obtain ⟨rfl, rfl, hlt⟩ := hok
    simp only [ab_sem] at hs
    split at hs
    · rename_i v st'
      have h1 := ab_f2e _ _ _ hs
      exact fun ls H locs hl hR hS => lv_lstore hx hb hd hl hlt (by rw [gl_fl2 hf]; rfl) (fun ls' hl' => hgo _ _ _ _ _ h1 ls' H locs hl' hR hS)
    · exact hs.elim
  | lstore_n n =>
    have hok := of_decide_eq_true hok
    obtain ⟨rfl, rfl, hlt⟩ := hok
    simp only [ab_sem] at hs
    split at hs
    · rename_i v st'
      have h1 := ab_f2e _ _ _ hs
      exact fun ls H locs hl hR hS => lv_lstore_n hx hb hd rfl hl hlt (by rw [gl_fl2 hf]; rfl) (fun ls' hl' => hgo _ _ _ _ _ h1 ls' H locs hl' hR hS)
    · exact hs.elim
  | astore n =>
    have hok := of_decide_eq_true hok
    obtain ⟨rfl, rfl, hlt⟩ := hok
    simp only [ab_sem] at hs
    split at hs
    · rename_i v st'
      have h1 := ab_f1e _ _ _ hs
      exact fun ls H locs hl hR hS => lv_astore hx hb hd hl hlt (by rw [gl_fl1 hf]; rfl) (fun ls' hl' => hgo _ _ _ _ _ h1 ls' H locs hl' hR hS)
    · rename_i st'
      have h1 := ab_f1e _ _ _ hs
      exact fun ls H locs hl hR hS => lv_astoreN hx hb hd hl hlt (by rw [gl_fl1 hf]; rfl) (fun ls' hl' => hgo _ _ _ _ _ h1 ls' H locs hl' hR hS)
    · exact hs.elim
  | astore_n n =>
    have hok := of_decide_eq_true hok
    obtain ⟨rfl, rfl, hlt⟩ := hok
    simp only [ab_sem] at hs
    split at hs
    · rename_i v st'
      have h1 := ab_f1e _ _ _ hs
      exact fun ls H locs hl hR hS => lv_astore_n hx hb hd rfl hl hlt (by rw [gl_fl1 hf]; rfl) (fun ls' hl' => hgo _ _ _ _ _ h1 ls' H locs hl' hR hS)
    · rename_i st'
      have h1 := ab_f1e _ _ _ hs
      exact fun ls H locs hl hR hS => lv_astore_nN hx hb hd rfl hl hlt (by rw [gl_fl1 hf]; rfl) (fun ls' hl' => hgo _ _ _ _ _ h1 ls' H locs hl' hR hS)
    · exact hs.elim
  | iinc n k2 =>
    have hok := of_decide_eq_true hok
    obtain ⟨rfl, rfl, hlt, rfl⟩ := hok
    simp only [ab_sem] at hs
    split at hs
    · rename_i v n2 hk he
      cases he
      have h1 := ab_f1e _ _ _ hs
      intro ls H locs hl hR hS
      obtain ⟨j, hj⟩ := List.getElem?_of_mem (List.mem_map.mpr ⟨_, ab_lkm lv _ _ hk, rfl⟩ : gl_lv g (_, .int v) ∈ lv.map (gl_lv g))
      exact lv_iinc hx hb hd hl hj rfl hlt (by rw [gl_fl1 hf]; rfl) (fun ls' hl' => hgo _ _ _ _ _ h1 ls' H locs hl' hR hS)
    · exact hs.elim
  | iadd =>
    have hok := of_decide_eq_true hok
    subst hok
    simp only [ab_sem] at hs
    split at hs
    · exact fun ls H locs hl hR hS => lv_iadd hx hb hd (hgo _ _ _ _ _ hs ls H locs hl hR hS)
    · exact hs.elim
  | isub =>
    have hok := of_decide_eq_true hok
    subst hok
    simp only [ab_sem] at hs
    split at hs
    · exact fun ls H locs hl hR hS => lv_isub hx hb hd (hgo _ _ _ _ _ hs ls H locs hl hR hS)
    · exact hs.elim
  | imul =>
    have hok := of_decide_eq_true hok
    subst hok
    simp only [ab_sem] at hs
    split at hs
    · exact fun ls H locs hl hR hS => lv_imul hx hb hd (hgo _ _ _ _ _ hs ls H locs hl hR hS)
    · exact hs.elim
  | iand =>
    have hok := of_decide_eq_true hok
    subst hok
    simp only [ab_sem] at hs
    split at hs
    · exact fun ls H locs hl hR hS => lv_iand hx hb hd (hgo _ _ _ _ _ hs ls H locs hl hR hS)
    · exact hs.elim
  | ior =>
    have hok := of_decide_eq_true hok
    subst hok
    simp only [ab_sem] at hs
    split at hs
    · exact fun ls H locs hl hR hS => lv_ior hx hb hd (hgo _ _ _ _ _ hs ls H locs hl hR hS)
    · exact hs.elim
  | ixor =>
    have hok := of_decide_eq_true hok
    subst hok
    simp only [ab_sem] at hs
    split at hs
    · exact fun ls H locs hl hR hS => lv_ixor hx hb hd (hgo _ _ _ _ _ hs ls H locs hl hR hS)
    · exact hs.elim
  | ishl =>
    have hok := of_decide_eq_true hok
    subst hok
    simp only [ab_sem] at hs
    split at hs
    · exact fun ls H locs hl hR hS => lv_ishl hx hb hd (hgo _ _ _ _ _ hs ls H locs hl hR hS)
    · exact hs.elim
  | ishr =>
    have hok := of_decide_eq_true hok
    subst hok
    simp only [ab_sem] at hs
    split at hs
    · exact fun ls H locs hl hR hS => lv_ishr hx hb hd (hgo _ _ _ _ _ hs ls H locs hl hR hS)
    · exact hs.elim
  | ineg =>
    have hok := of_decide_eq_true hok
    subst hok
    simp only [ab_sem] at hs
    split at hs
    · exact fun ls H locs hl hR hS => lv_ineg hx hb hd (hgo _ _ _ _ _ hs ls H locs hl hR hS)
    · exact hs.elim
  | ladd =>
    have hok := of_decide_eq_true hok
    subst hok
    simp only [ab_sem] at hs
    split at hs
    · exact fun ls H locs hl hR hS => lv_ladd hx hb hd (hgo _ _ _ _ _ hs ls H locs hl hR hS)
    · exact hs.elim
  | lsub =>
    have hok := of_decide_eq_true hok
    subst hok
    simp only [ab_sem] at hs
    split at hs
    · exact fun ls H locs hl hR hS => lv_lsub hx hb hd (hgo _ _ _ _ _ hs ls H locs hl hR hS)
    · exact hs.elim
  | lmul =>
    have hok := of_decide_eq_true hok
    subst hok
    simp only [ab_sem] at hs
    split at hs
    · exact fun ls H locs hl hR hS => lv_lmul hx hb hd (hgo _ _ _ _ _ hs ls H locs hl hR hS)
    · exact hs.elim
  | land =>
    have hok := of_decide_eq_true hok
    subst hok
    simp only [ab_sem] at hs
    split at hs
    · exact fun ls H locs hl hR hS => lv_land hx hb hd (hgo _ _ _ _ _ hs ls H locs hl hR hS)
    · exact hs.elim
  | lor =>
    have hok := of_decide_eq_true hok
    subst hok
    simp only [ab_sem] at hs
    split at hs
    · exact fun ls H locs hl hR hS => lv_lor hx hb hd (hgo _ _ _ _ _ hs ls H locs hl hR hS)
    · exact hs.elim
  | lneg =>
    have hok := of_decide_eq_true hok
    subst hok
    simp only [ab_sem] at hs
    split at hs
    · exact fun ls H locs hl hR hS => lv_lneg hx hb hd (hgo _ _ _ _ _ hs ls H locs hl hR hS)
    · exact hs.elim
  | iushr =>
    have hok := of_decide_eq_true hok
    subst hok
    simp only [ab_sem] at hs
    split at hs
    · exact fun ls H locs hl hR hS => lv_iushr hx hb hd rfl (hgo _ _ _ _ _ hs ls H locs hl hR hS)
    · exact hs.elim
  | i2b =>
    have hok := of_decide_eq_true hok
    subst hok
    simp only [ab_sem] at hs
    split at hs
    · exact fun ls H locs hl hR hS => lv_i2b hx hb hd rfl (hgo _ _ _ _ _ hs ls H locs hl hR hS)
    · exact hs.elim
  | i2c =>
    have hok := of_decide_eq_true hok
    subst hok
    simp only [ab_sem] at hs
    split at hs
    · exact fun ls H locs hl hR hS => lv_i2c hx hb hd rfl (hgo _ _ _ _ _ hs ls H locs hl hR hS)
    · exact hs.elim
  | i2l =>
    have hok := of_decide_eq_true hok
    subst hok
    simp only [ab_sem] at hs
    split at hs
    · exact fun ls H locs hl hR hS => lv_i2l hx hb hd rfl (hgo _ _ _ _ _ hs ls H locs hl hR hS)
    · exact hs.elim
  | l2i =>
    have hok := of_decide_eq_true hok
    subst hok
    simp only [ab_sem] at hs
    split at hs
    · exact fun ls H locs hl hR hS => lv_l2i hx hb hd rfl (hgo _ _ _ _ _ hs ls H locs hl hR hS)
    · exact hs.elim
  | lshl =>
    have hok := of_decide_eq_true hok
    subst hok
    simp only [ab_sem] at hs
    split at hs
    · exact fun ls H locs hl hR hS => lv_lshl hx hb hd rfl (hgo _ _ _ _ _ hs ls H locs hl hR hS)
    · exact hs.elim
  | lshr =>
    have hok := of_decide_eq_true hok
    subst hok
    simp only [ab_sem] at hs
    split at hs
    · exact fun ls H locs hl hR hS => lv_lshr hx hb hd rfl (hgo _ _ _ _ _ hs ls H locs hl hR hS)
    · exact hs.elim
  | idiv =>
    have hok := of_decide_eq_true hok
    subst hok
    simp only [ab_sem] at hs
    split at hs
    · exact fun ls H locs hl hR hS => lv_idiv hx hb hd hs.1 (hgo _ _ _ _ _ hs.2 ls H locs hl hR hS)
    · exact hs.elim
  | irem =>
    have hok := of_decide_eq_true hok
    subst hok
    simp only [ab_sem] at hs
    split at hs
    · exact fun ls H locs hl hR hS => lv_irem hx hb hd hs.1 (hgo _ _ _ _ _ hs.2 ls H locs hl hR hS)
    · exact hs.elim
  | ldiv =>
    have hok := of_decide_eq_true hok
    subst hok
    simp only [ab_sem] at hs
    split at hs
    · exact fun ls H locs hl hR hS => lv_ldiv hx hb hd hs.1 (hgo _ _ _ _ _ hs.2 ls H locs hl hR hS)
    · exact hs.elim
  | lrem =>
    have hok := of_decide_eq_true hok
    subst hok
    simp only [ab_sem] at hs
    split at hs
    · exact fun ls H locs hl hR hS => lv_lrem hx hb hd hs.1 (hgo _ _ _ _ _ hs.2 ls H locs hl hR hS)
    · exact hs.elim
  | lcmp =>
    have hok := of_decide_eq_true hok
    subst hok
    simp only [ab_sem] at hs
    split at hs
    · exact fun ls H locs hl hR hS => W.lcmp hx hb hd (hgo _ _ _ _ _ hs ls H locs hl hR hS)
    · exact hs.elim
  | dup =>
    have hok := of_decide_eq_true hok
    subst hok
    cases st with
    | nil => exact (show False from hs).elim
    | cons v st' =>
      simp only [ab_sem] at hs
      cases hb1 : Nat.beq v.category 1 with
      | false => rw [hb1] at hs; exact hs.elim
      | true =>
        rw [hb1] at hs
        exact fun ls H locs hl hR hS => lv_dup hx hb hd (by rw [gl_cat hf]; exact Nat.eq_of_beq_eq_true hb1) (hgo _ _ _ _ _ hs ls H locs hl hR hS)
  | dup2 =>
    have hok := of_decide_eq_true hok
    subst hok
    cases st with
    | nil => exact (show False from hs).elim
    | cons v st' =>
      cases st' with
      | nil => exact (show False from hs).elim
      | cons u st' =>
        simp only [ab_sem] at hs
        cases hb1 : (Nat.beq v.category 1 && Nat.beq u.category 1) with
        | false => rw [hb1] at hs; exact hs.elim
        | true =>
          rw [hb1] at hs
          have hb2 := Bool.and_eq_true_iff.mp hb1
          exact fun ls H locs hl hR hS => lv_dup2_11 hx hb hd (by rw [gl_cat hf]; exact Nat.eq_of_beq_eq_true hb2.1) (by rw [gl_cat hf]; exact Nat.eq_of_beq_eq_true hb2.2) (hgo _ _ _ _ _ hs ls H locs hl hR hS)
  | pop =>
    have hok := of_decide_eq_true hok
    subst hok
    cases st with
    | nil => exact (show False from hs).elim
    | cons v st' =>
      simp only [ab_sem] at hs
      cases hb1 : Nat.beq v.category 1 with
      | false => rw [hb1] at hs; exact hs.elim
      | true =>
        rw [hb1] at hs
        exact fun ls H locs hl hR hS => lv_pop hx hb hd (by rw [gl_cat hf]; exact Nat.eq_of_beq_eq_true hb1) (hgo _ _ _ _ _ hs ls H locs hl hR hS)
  | goto n =>
    have hok := of_decide_eq_true hok
    obtain ⟨rfl, ht⟩ := hok
    exact fun ls H locs hl hR hS => lv_goto hx hb hd ht (hjp _ _ _ _ _ _ hs ls H locs hl hR hS)
  | ifCond q n =>
    have hok := of_decide_eq_true hok
    obtain ⟨rfl, ht⟩ := hok
    simp only [ab_sem] at hs
    split at hs
    · cases q with
      | eq => exact fun ls H locs hl hR hS => lv_if_eq hx hb hd ht (fun q => hjp _ _ _ _ _ _ (hs.1 q) ls H locs hl hR hS) (fun q => hgo _ _ _ _ _ (hs.2 q) ls H locs hl hR hS)
      | ne => exact fun ls H locs hl hR hS => lv_if_ne hx hb hd ht (fun q => hjp _ _ _ _ _ _ (hs.1 q) ls H locs hl hR hS) (fun q => hgo _ _ _ _ _ (hs.2 q) ls H locs hl hR hS)
      | lt => exact fun ls H locs hl hR hS => lv_if_lt hx hb hd ht (fun q => hjp _ _ _ _ _ _ (hs.1 q) ls H locs hl hR hS) (fun q => hgo _ _ _ _ _ (hs.2 q) ls H locs hl hR hS)
      | ge => exact fun ls H locs hl hR hS => lv_if_ge hx hb hd ht (fun q => hjp _ _ _ _ _ _ (hs.1 q) ls H locs hl hR hS) (fun q => hgo _ _ _ _ _ (hs.2 q) ls H locs hl hR hS)
      | gt => exact fun ls H locs hl hR hS => lv_if_gt hx hb hd ht (fun q => hjp _ _ _ _ _ _ (hs.1 q) ls H locs hl hR hS) (fun q => hgo _ _ _ _ _ (hs.2 q) ls H locs hl hR hS)
      | le => exact fun ls H locs hl hR hS => lv_if_le hx hb hd ht (fun q => hjp _ _ _ _ _ _ (hs.1 q) ls H locs hl hR hS) (fun q => hgo _ _ _ _ _ (hs.2 q) ls H locs hl hR hS)
    · exact hs.elim
  | if_icmp q n =>
    have hok := of_decide_eq_true hok
    obtain ⟨rfl, ht⟩ := hok
    simp only [ab_sem] at hs
    split at hs
    · cases q with
      | eq => exact fun ls H locs hl hR hS => lv_icmp_eq hx hb hd ht (fun q => hjp _ _ _ _ _ _ (hs.1 q) ls H locs hl hR hS) (fun q => hgo _ _ _ _ _ (hs.2 q) ls H locs hl hR hS)
      | ne => exact fun ls H locs hl hR hS => lv_icmp_ne hx hb hd ht (fun q => hjp _ _ _ _ _ _ (hs.1 q) ls H locs hl hR hS) (fun q => hgo _ _ _ _ _ (hs.2 q) ls H locs hl hR hS)
      | lt => exact fun ls H locs hl hR hS => lv_icmp_lt hx hb hd ht (fun q => hjp _ _ _ _ _ _ (hs.1 q) ls H locs hl hR hS) (fun q => hgo _ _ _ _ _ (hs.2 q) ls H locs hl hR hS)
      | ge => exact fun ls H locs hl hR hS => lv_icmp_ge hx hb hd ht (fun q => hjp _ _ _ _ _ _ (hs.1 q) ls H locs hl hR hS) (fun q => hgo _ _ _ _ _ (hs.2 q) ls H locs hl hR hS)
      | gt => exact fun ls H locs hl hR hS => lv_icmp_gt hx hb hd ht (fun q => hjp _ _ _ _ _ _ (hs.1 q) ls H locs hl hR hS) (fun q => hgo _ _ _ _ _ (hs.2 q) ls H locs hl hR hS)
      | le => exact fun ls H locs hl hR hS => lv_icmp_le hx hb hd ht (fun q => hjp _ _ _ _ _ _ (hs.1 q) ls H locs hl hR hS) (fun q => hgo _ _ _ _ _ (hs.2 q) ls H locs hl hR hS)
    · exact hs.elim
  | ifnull n =>
    have hok := of_decide_eq_true hok
    obtain ⟨rfl, ht⟩ := hok
    simp only [ab_sem] at hs
    split at hs
    · exact fun ls H locs hl hR hS => lv_ifnullN hx hb hd ht (hjp _ _ _ _ _ _ hs ls H locs hl hR hS)
    · exact fun ls H locs hl hR hS => lv_ifnull hx hb hd (hgo _ _ _ _ _ hs ls H locs hl hR hS)
    · exact hs.elim
  | ifnonnull n =>
    have hok := of_decide_eq_true hok
    obtain ⟨rfl, ht⟩ := hok
    simp only [ab_sem] at hs
    split at hs
    · exact fun ls H locs hl hR hS => lv_ifnonnullN hx hb hd (hgo _ _ _ _ _ hs ls H locs hl hR hS)
    · exact fun ls H locs hl hR hS => lv_ifnonnull hx hb hd ht (hjp _ _ _ _ _ _ hs ls H locs hl hR hS)
    · exact hs.elim
  | _ => cases hrest
end ABS
