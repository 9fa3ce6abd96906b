/-! ===== soundness: calls of any depth (mine) ===== -/
theorem ab_rkx {i : Nat} (hi : i < 332) {mm : MR} (hm : ab_MT[i]? = some mm) : plainFor mm.2.1 = true ∧ mm.2.1.cls = mm.1 ∧ (ab_rk mm = 0 → mm.2.2.2.2.1 = some .int) ∧ (ab_rk mm = 1 → mm.2.2.2.2.1 = some .long) ∧ (ab_rk mm = 2 → ∃ rt, mm.2.2.2.2.1 = some rt ∧ ((∃ n, rt = .object n) ∨ ∃ t, rt = .array t)) ∧
    (ab_rk mm = 3 → mm.2.2.2.2.1 = some .boolean) ∧ (ab_rk mm = 4 → mm.2.2.2.2.1 = some .char) ∧ (ab_rk mm = 5 → mm.2.2.2.2.1 = some .byte) ∧ (ab_rk mm = 6 → mm.2.2.2.2.1 = none) := by
  have h := ab_mf_ok i hi
  unfold ab_mfb at h
  rw [hm] at h
  obtain ⟨own, y, cc, ml, ret, rk, ct, cd⟩ := mm
  cases hq : ab_mf[i]? with
  | none => rw [hq] at h; cases h
  | some q =>
    rw [hq] at h
    obtain ⟨k1, k2, p1, p2, p3, p4⟩ := q
    obtain ⟨h, h4⟩ := Bool.and_eq_true_iff.mp h
    obtain ⟨h, -⟩ := Bool.and_eq_true_iff.mp h
    obtain ⟨-, h2⟩ := Bool.and_eq_true_iff.mp h
    have h2 := of_decide_eq_true h2
    refine ⟨h2.2.2.2.2.2, h2.1, fun e => ?_, fun e => ?_, fun e => ?_, fun e => ?_, fun e => ?_, fun e => ?_, fun e => ?_⟩
    · have e : rk = 0 := e
      subst e
      exact of_decide_eq_true h4
    · have e : rk = 1 := e
      subst e
      exact of_decide_eq_true h4
    · have e : rk = 2 := e
      subst e
      cases ret with
      | none => cases h4
      | some rt =>
        cases rt with
        | object n => exact ⟨_, rfl, Or.inl ⟨n, rfl⟩⟩
        | array t => exact ⟨_, rfl, Or.inr ⟨t, rfl⟩⟩
        | _ => cases h4
    · have e : rk = 3 := e
      subst e
      exact of_decide_eq_true h4
    · have e : rk = 4 := e
      subst e
      exact of_decide_eq_true h4
    · have e : rk = 5 := e
      subst e
      exact of_decide_eq_true h4
    · have e : rk = 6 := e
      subst e
      exact of_decide_eq_true h4
theorem ab_Msb : ab_costs.all (fun q => Nat.ble q.2.2 7151329) = true := by decide +kernel
theorem ab_Ms_le (i : Nat) : ab_Ms i ≤ 7151329 := by
  have gen : ∀ l : List (Nat × Nat × Nat), l.all (fun q => Nat.ble q.2.2 7151329) = true → (ab_co i l).2 ≤ 7151329 := by
    intro l
    induction l with
    | nil => intro _; exact Nat.zero_le _
    | cons q l ih =>
      intro h
      obtain ⟨h1, h2⟩ := Bool.and_eq_true_iff.mp h
      unfold ab_co
      split
      · exact Nat.le_of_ble_eq_true h1
      · exact ih h2
  exact gen ab_costs ab_Msb
set_option maxHeartbeats 4000000 in
theorem ab_main (l : Launch) : ∀ d, ab_Sd l d := by
  intro d
  induction d with
  | zero => intro g L xs i m av h Q hi hm hok; exact (show False from hok).elim
  | succ d IH =>
    intro g L xs i mm av h Q hi hm hok
    obtain ⟨o, ini, hck⟩ := ab_ck i hm
    obtain ⟨hpl, hcls, r0, r1, r2, r3, r4, r5, r6⟩ := ab_rkx hi hm
    have hcat := ab_cat_ok hm hok
    refine MetFree.of_bodySF (code := mm.2.2.1) (maxLocals := mm.2.2.2.1) (ret := mm.2.2.2.2.1) hpl ?_ ?_
    · intro args s m h hn
      obtain ⟨meth, c, h1, h2, h3, h4, h5, h6, -, -⟩ := Cond.code_spec hn (atoms_spec (ws := ab_wd mm) h _ List.mem_cons_self)
      exact ⟨meth, c, h1, h2, h3, h4, h5, h6⟩
    · intro p e s m args below meth c s₁ B hml hP _
      have hh0 : s₁.heap = s.heap := by rw [B.state]; rfl
      obtain ⟨rfl, hR, hE⟩ := hP
      have hlocks : meth.locks = false := B.notSynchronized
      have hrt : meth.sig.returnType = mm.2.2.2.2.1 := B.returns
      have hck0 := hck
      unfold ab_ckb at hck0
      obtain ⟨hck0, -⟩ := Bool.and_eq_true_iff.mp hck0
      obtain ⟨hck0, -⟩ := Bool.and_eq_true_iff.mp hck0
      obtain ⟨hck0, -⟩ := Bool.and_eq_true_iff.mp hck0
      obtain ⟨hown0, hini0⟩ := Bool.and_eq_true_iff.mp hck0
      have hown0 := of_decide_eq_true hown0
      have hini : ini = true → meth.name = "<init>" := by
        intro e1
        rw [e1] at hini0
        have h1 : mm.2.1.name = "<init>" := of_decide_eq_true hini0
        rw [← h1]
        exact (name_of_methodNamed B.named B.method).1
      have hown : s.vm.findClass (ab_nm o) = some m.cls := by
        rw [← hown0, ← hcls]
        exact findClass_of_methodNamed B.named
      have hts : ∀ w ∈ ab_TB, w.before (av.map (gl_cv g)).toArray s = true := fun w hw => atoms_spec (ws := ab_wd mm) B.pre w (List.mem_cons_of_mem _ hw)
      have F : ab_F p s m (av.map (gl_cv g)).toArray c g L xs mm.2.2.1 mm.2.2.2.1 o := ⟨B.exec, B.bytes, hml, hown, hts, hE⟩
      obtain ⟨-, -, -, -, -, -, -, -, -, -, -, -, hbs, hfv⟩ := id hE
      have hf : (gl_f g).category = 1 := by rcases hfv with e1 | ⟨a, e1⟩ <;> rw [e1] <;> rfl
      have K : W p l e (ab_rm (d + 1) (ab_Mc i) (ab_Ms i)) s m (av.map (gl_cv g)).toArray below meth c s.heap [] 0 0 (MQ below (ab_Qc g L xs Q) (av.map (gl_cv g)).toArray s (ab_Mc i) (ab_Ms i) (gl_A g)) (entryFrame m (av.map (gl_cv g)).toArray mm.2.2.2.1) := by
        rw [lg_entry_eq]
        have hlen : (lg_sl (av.map (gl_cv g))).length ≤ mm.2.2.2.1 := by rw [ab_lg_len, ab_cat_map hf]; exact hcat
        have hl := lv_entry (av.map (gl_cv g)) hlen
        rw [ab_largs hf] at hl
        refine ab_entry (R := ab_rm (d + 1) (ab_Mc i) (ab_Ms i)) IH F hini (Nat.le_refl _) (Nat.le_refl _) hm (Nat.le_refl _) (Nat.le_refl _) (ab_Ms_le i) hck rfl rfl hok ?_ _ s.heap [] hl hR ⟨Nat.le_refl _, fun _ _ _ => rfl, fun q hq => absurd hq List.not_mem_nil⟩
        intro pc i0 r lv h1 nc ns hr hd hq hnc hns ls H locs hlv hR1 hS1
        refine W.widen hnc hns ?_
        have post : ∀ (r : Option Value), Q r h1 → ∀ t : State, t.heap = H → s.WarmedH t.vm → ab_Qc g L xs Q (av.map (gl_cv g)).toArray s (.returned (r.map (gl_cv g))) t := fun r hq t ht _ => ⟨⟨r, h1, rfl, hq, by rw [ht]; exact hR1⟩, by rw [ht]; exact hS1.1, fun q g1 g2 => by rw [ht]; exact hS1.2.1 q g1 g2⟩
        rcases hr with ⟨rfl, v, rfl, hv⟩ | ⟨rfl, hv, v, rfl⟩ | ⟨rfl, hv, ha⟩ | ⟨rfl, hv, rfl⟩
        · rcases hv with hv | ⟨hv, hv2⟩ | ⟨hv, hv2⟩ | ⟨hv, hv2⟩
          · exact W.iret B.exec B.bytes (hrt.trans (r0 hv)) (post _ hq) hS1.2.2 hd hlocks
          · exact W.zret B.exec B.bytes (hrt.trans (r3 hv)) (by rcases hv2 with rfl | rfl <;> rfl) (post _ hq) hS1.2.2 hd hlocks
          · exact W.zret B.exec B.bytes (hrt.trans (r4 hv)) hv2 (post _ hq) hS1.2.2 hd hlocks
          · exact W.zret B.exec B.bytes (hrt.trans (r5 hv)) hv2 (post _ hq) hS1.2.2 hd hlocks
        · exact W.lret B.exec B.bytes (hrt.trans (r1 hv)) (post _ hq) hS1.2.2 hd hlocks
        · obtain ⟨rt, e1, e2⟩ := r2 hv
          rcases ha with rfl | ⟨a, rfl⟩
          · exact W.aret B.exec B.bytes (hrt.trans e1) e2 (Or.inl rfl) (post _ hq) hS1.2.2 hd hlocks
          · exact W.aret B.exec B.bytes (hrt.trans e1) e2 (Or.inr ⟨_, rfl⟩) (post _ hq) hS1.2.2 hd hlocks
        · exact W.vret B.exec B.bytes (hrt.trans (r6 hv)) (post _ hq) hS1.2.2 hd hlocks
      obtain ⟨t, a1, o', b1, b2, b3⟩ := K s₁ hh0 (Stand.of_body B)
      exact ⟨t, o', a1, b1, b2, ⟨b3.1, b3.2⟩⟩
