/-! ===== soundness: calls (mine) ===== -/
theorem ab_tke {k : List Value → List Value → Prop} : ∀ (n : Nat) (st acc : List Value), ab_tk n st acc k → ∃ as rest, as.length = n ∧ st = as.reverse ++ rest ∧ k (as ++ acc) rest
  | 0, st, acc, h => ⟨[], st, rfl, rfl, h⟩
  | n + 1, [], acc, h => by cases h
  | n + 1, v :: st, acc, h => by
    obtain ⟨as, rest, h1, h2, h3⟩ := ab_tke n st (v :: acc) h
    refine ⟨as ++ [v], rest, by rw [List.length_append, h1]; rfl, ?_, ?_⟩
    · rw [h2, List.reverse_append]
      rfl
    · rw [List.append_assoc]
      exact h3
def ab_rm (d mc ms : Nat) : Room := { frames := d, cells := mc, slots := ms, locals := 60 * d }
def ab_Pc (g : Gl) (L : Nat) (xs : Nat → Int32) (av : List Value) (h : Hp) : Array Value → State → Prop := va_Pc (av.map (gl_cv g)) (fun U => ab_rel g L xs h U.heap ∧ ab_E g L xs U U.heap)
def ab_Qc (g : Gl) (L : Nat) (xs : Nat → Int32) (Q : Option Value → Hp → Prop) : Array Value → State → Outcome → State → Prop := fun _ st oc t => (∃ r h', oc = .returned (r.map (gl_cv g)) ∧ Q r h' ∧ ab_rel g L xs h' t.heap) ∧ va_F (gl_A g) st t
def ab_wd (m : MR) : List Cond := Cond.code m.2.1 m.2.2.1 m.2.2.2.1 m.2.2.2.2.1 :: ab_TB
/-- calls of depth d are sound -/
def ab_Sd (l : Launch) (d : Nat) : Prop := ∀ (g : Gl) (L : Nat) (xs : Nat → Int32) (i : Nat) (m : MR) (av : List Value) (h : Hp) (Q : Option Value → Hp → Prop), i < 332 → ab_MT[i]? = some m → ab_Ok d i av h Q →
  Met l m.2.1 (ab_wd m) (ab_rm d (ab_Mc i) (ab_Ms i)) (ab_Pc g L xs av h) (ab_Qc g L xs Q) (ab_Mc i) (ab_Ms i) (gl_A g)
theorem ab_good : ∀ w ∈ ab_TB, w ∈ ab_TB ∧ ((w.onTables && w.keeps) = true ∨ ∃ ty, w = .arrayClass ty) := fun w h => ⟨h, good_of_word (List.mem_filter.mp h).2⟩
theorem ab_wdG (i : Nat) (hi : i < 332) {m : MR} (hm : ab_MT[i]? = some m) : GoodIn ab_TB (ab_wd m) := by
  intro w hw
  rcases List.mem_cons.mp hw with rfl | h
  · exact ab_good _ (ab_tb (ab_cw i hi hm) rfl)
  · exact ab_good w h
theorem ab_mfx {x : Nat} (hx : x < 332) {m : MR} (hm : ab_MT[x]? = some m) {knd n : Nat} (hkn : ab_kn x knd n = true) :
    (Cond.initialized m.2.1.cls ∈ ab_TB ∧ m.2.1.cls = m.1 ∧ m.2.2.2.1 ≤ 41) ∧ (m.2.1.cls ≠ "java/lang/invoke/MethodHandle" ∧ m.2.1.cls ≠ "java/lang/invoke/VarHandle" ∧ (parseMethodDescriptor m.2.1.desc).map (fun d => d.parameters.length) = some n) ∧ plainFor m.2.1 = true ∧
    (knd = 0 → Cond.instanceMethod m.2.1 ∈ ab_TB ∧ Cond.selects m.2.1.cls m.2.1 m.2.1 ∈ ab_TB) ∧ (knd = 1 → Cond.instanceMethod m.2.1 ∈ ab_TB ∧ m.2.1.name = "<init>" ∧ m.2.2.2.2.1 = none) ∧ (knd = 2 → Cond.static m.2.1 ∈ ab_TB) := by
  have h := ab_mf_ok x hx
  unfold ab_mfb at h
  unfold ab_kn at hkn
  rw [hm] at h
  obtain ⟨own, y, cc, ml, ret, rk, ct, cd⟩ := m
  cases hq : ab_mf[x]? with
  | none => rw [hq] at hkn; cases hkn
  | some q =>
    rw [hq] at hkn h
    obtain ⟨k1, k2, p1, p2, p3, p4⟩ := q
    have hk := Bool.and_eq_true_iff.mp hkn
    have e1 := Nat.eq_of_beq_eq_true hk.1
    have e2 := Nat.eq_of_beq_eq_true hk.2
    dsimp only at e1 e2
    subst e1; subst e2
    simp only [Bool.and_eq_true, decide_eq_true_eq] at h
    obtain ⟨⟨⟨h1, h2⟩, h3⟩, -⟩ := h
    obtain ⟨a1, a2, a3, a4, a5, a6⟩ := h2
    refine ⟨⟨ab_tbi h1 rfl, a1, a2⟩, ⟨a3, a4, a5⟩, a6, fun e => ?_, fun e => ?_, fun e => ?_⟩
    · subst e
      have h3 := of_decide_eq_true h3
      exact ⟨ab_tbi h3.1 rfl, ab_tbi h3.2 rfl⟩
    · subst e
      have h3 := of_decide_eq_true h3
      exact ⟨ab_tbi h3.1 rfl, h3.2⟩
    · subst e
      have h3 := of_decide_eq_true h3
      exact ab_tbi h3 rfl
theorem ab_mp01 : ab_mp.all (fun q => Nat.ble q.2.2.2.1 1) = true := by decide +kernel
section ABL
variable {p : Program} {l : Launch} {e : Env} {R : Room} {s : State} {m : MethodId} {args : Array Value} {below : List Frame} {meth : Method} {c : Code} {Qm : State → Prop}
variable {g : Gl} {L : Nat} {xs : Nat → Int32} {ml : Nat} {cc : ByteArray} {pc : Nat} {lv : Lv} {st : List Value} {h : Hp} {nc ns : Nat} {o : Nat}
theorem ab_blind (av : List Value) : FrameBlind (ab_Pc g L xs av h) := fun a U g' mk q => ⟨q.1, q.2.1, ab_E.same (u := U) rfl q.2.2⟩
theorem ab_link (F : ab_F p s m args c g L xs cc ml o) {n x : Nat} (hh : ab_hitm o n x = true) : (Cond.methodLink (ab_nm o) n (ab_y x)).before args s = true ∨ va_Nw (.methodLinkNest (ab_nm o) n (ab_y x) "ClothesHorses") s := by
  obtain ⟨q, hq, h1⟩ := List.any_eq_true.mp hh
  simp only [Bool.and_eq_true] at h1
  obtain ⟨q1, q2, q3, q4, q5⟩ := q
  have e1 := Nat.eq_of_beq_eq_true h1.1.1
  have e2 := Nat.eq_of_beq_eq_true h1.1.2
  have e3 := Nat.eq_of_beq_eq_true h1.2
  dsimp only at e1 e2 e3
  subst e1; subst e2; subst e3
  have h2 := of_decide_eq_true (List.all_eq_true.mp ab_mp_ok _ hq)
  have h3 := Nat.le_of_ble_eq_true (List.all_eq_true.mp ab_mp01 _ hq)
  dsimp only at h2 h3
  rcases (show q4 = 0 ∨ q4 = 1 by omega) with rfl | rfl
  · exact Or.inl (F.2.2.2.2.1 _ (ab_tbi h2 rfl))
  · have hE := F.2.2.2.2.2
    obtain ⟨-, -, -, -, -, -, -, -, h9, -⟩ := hE
    exact Or.inr (h9 _ hq rfl)
/-- behind a call -/
theorem ab_cont {H : Heap} {locs : List Loc} {mc ms : Nat} {ls : Array Slot} {st0 rest : List Value} {a : Array Value} {Q : Option Value → Hp → Prop} (hr : va_Run p l e R s m args below meth c H locs nc ns mc ms (F0 m pc ls st0) rest (ab_Qc g L xs Q a) (gl_A g)) (hS : va_S (gl_A g) s.heap H locs)
    (kk : ∀ (r : Option Value) (h' : Hp) (H1 : Heap) (locs1 : List Loc), Q r h' → ab_rel g L xs h' H1 → va_S (gl_A g) s.heap H1 locs1 → W p l e R s m args below meth c H1 locs1 (nc + mc) (ns + ms) Qm (F0 m (pc + 3) ls ((r.map (gl_cv g)).toList ++ rest))) : W p l e R s m args below meth c H locs nc ns Qm (F0 m pc ls st0) := by
  intro T hT X
  obtain ⟨v, st₀, t, T', Lc, h0, X', hL, e1, e2, ⟨⟨r, h', hv, hq, hR⟩, hz, hk⟩, st⟩ := hr T hT X
  cases hv
  rw [h0] at hz hk
  rw [← e1] at hR
  obtain ⟨t2, a1, b1⟩ := kk r h' T'.heap (locs ++ Lc) hq hR ⟨Nat.le_trans hS.1 (by rw [e1]; exact hz), fun q h1 h2 => by rw [e1, hk q (Nat.lt_of_lt_of_le h1 hS.1) h2]; exact hS.2.1 q h1 h2, fun q hq => by
      rcases List.mem_append.mp hq with h | h
      · exact hS.2.2 q h
      · exact hL q h⟩ T' rfl X'
  exact ⟨t2, st t2 a1, b1⟩
theorem ab_pu_map (r : Option Value) (st : List Value) : (r.map (gl_cv g)).toList ++ st.map (gl_cv g) = (ab_pu r st).map (gl_cv g) := by
  cases r <;> rfl
theorem ab_pre {H : Heap} {locs : List Loc} (F : ab_F p s m args c g L xs cc ml o) (hR : ab_rel g L xs h H) (hS : va_S (gl_A g) s.heap H locs) (av : List Value) : ∀ U : State, U.heap = H → s.WarmedH U.vm → ab_Pc g L xs av h (av.map (gl_cv g)).toArray U := by
  intro U hU hW
  refine ⟨rfl, by rw [hU]; exact hR, ?_⟩
  rw [hU]
  exact F.2.2.2.2.2.warm hS.2.1 hS.1 hW
/-- a static call -/
theorem ab_cS {d : Nat} (IH : ab_Sd l d) (F : ab_F p s m args c g L xs cc ml o) (hf : (gl_f g).category = 1) (hfr : d + 1 ≤ R.frames) (hlo : 60 * (d + 1) ≤ R.locals) {n x y : Nat} (hx : x < 332) (hh : ab_hitm o n x = true) (hkn : ab_kn x 2 y = true) {as : List Value} (hlen : as.length = y) (hcat : ab_cat st ≤ 8)
    (hc1 : nc + ab_Mc x ≤ R.cells) (hs1 : ns + ab_Ms x ≤ R.slots) (hd : decode cc pc = .ok (.invokestatic n, 3)) {Q : Option Value → Hp → Prop} (hok : ab_Ok d x as h Q)
    (k : ∀ r h', Q r h' → ab_W p l e R s m args below meth c Qm g L xs ml (pc + 3) lv (ab_pu r st) h' (nc + ab_Mc x) (ns + ab_Ms x)) : ab_W p l e R s m args below meth c Qm g L xs ml pc lv (as.reverse ++ st) h nc ns := by
  intro ls H locs hlv hR hS
  obtain ⟨mm, hm⟩ : ∃ mm, ab_MT[x]? = some mm := ⟨_, List.getElem?_eq_getElem (by show x < ab_MT.length; unfold ab_MT; rw [List.length_append, ab_MTX_len]; omega)⟩
  have hy : ab_y x = mm.2.1 := by unfold ab_y; rw [hm]
  have hM := IH g L xs x mm as h Q hx hm hok
  obtain ⟨⟨f1, f2, f3⟩, f4, f5, -, -, f8⟩ := ab_mfx hx hm hkn
  have hlk := ab_link F hh
  rw [hy] at hlk
  have hts := F.2.2.2.2.1
  have hst := hts _ (f8 rfl)
  have hG := ab_wdG x hx hm
  have hRm : (ab_rm d (ab_Mc x) (ab_Ms x)).frames + 1 ≤ R.frames ∧ 8 + (mm.2.2.2.1 + 11) + (ab_rm d (ab_Mc x) (ab_Ms x)).locals ≤ R.locals := ⟨hfr, by show 8 + (mm.2.2.2.1 + 11) + 60 * d ≤ _; omega⟩
  have hp : PreS s H (ab_Pc g L xs as h) (as.map (gl_cv g)) := ⟨ab_blind as, ab_pre F hR hS as⟩
  have hroom : 2 * (F0 m pc ls ((as.reverse ++ st).map (gl_cv g))).monitorRoom + ((st.map (gl_cv g)).map fun v => v.category).sum ≤ 8 := by
    rw [ab_cats hf]
    show 2 * 0 + _ ≤ 8
    omega
  have hstk : (F0 m pc ls ((as.reverse ++ st).map (gl_cv g))).stack = (as.map (gl_cv g)).reverse ++ st.map (gl_cv g) := by
    show (as.reverse ++ st).map (gl_cv g) = _
    rw [List.map_append, List.map_reverse]
  have hl2 : (as.map (gl_cv g)).length = y := by rw [List.length_map]; exact hlen
  have S : CallFix p m c cc ml s args ab_TB (ab_nm o) := ⟨F.1, F.2.1, F.2.2.1, F.2.2.2.1, hts⟩
  rcases hlk with hlk | hlk
  · refine ab_cont (va_runS S hM ⟨callB_of y hts hG rfl rfl rfl (hts _ f1) hlk f4 hRm, hst⟩ hp rfl hl2 hlv.1 hstk hroom hd ⟨hc1, hs1⟩) hS (fun r h' H1 locs1 hq hR1 hS1 => ?_)
    rw [ab_pu_map]
    exact k r h' hq ls H1 locs1 hlv hR1 hS1
  · refine ab_cont (va_runSN S hM ⟨va_cnB y hts hG rfl rfl rfl hlk (hts _ f1) f4 hRm, hst, trivial⟩ hp rfl hl2 hlv.1 hstk hroom hd ⟨hc1, hs1⟩) hS (fun r h' H1 locs1 hq hR1 hS1 => ?_)
    rw [ab_pu_map]
    exact k r h' hq ls H1 locs1 hlv hR1 hS1
/-- a constructor's call -/
theorem ab_cI {d : Nat} (IH : ab_Sd l d) (F : ab_F p s m args c g L xs cc ml o) (hf : (gl_f g).category = 1) (hfr : d + 1 ≤ R.frames) (hlo : 60 * (d + 1) ≤ R.locals) {n x y a : Nat} (hx : x < 332) (hh : ab_hitm o n x = true) (hkn : ab_kn x 1 y = true) {as : List Value} (hlen : as.length = y) (hcat : ab_cat st ≤ 8)
    (hc1 : nc + ab_Mc x ≤ R.cells) (hs1 : ns + ab_Ms x ≤ R.slots) (hd : decode cc pc = .ok (.invokespecial n, 3)) {Q : Option Value → Hp → Prop} (hok : ab_Ok d x (.ref a :: as) h Q)
    (k : ∀ r h', Q r h' → ab_W p l e R s m args below meth c Qm g L xs ml (pc + 3) lv (ab_pu r st) h' (nc + ab_Mc x) (ns + ab_Ms x)) : ab_W p l e R s m args below meth c Qm g L xs ml pc lv (as.reverse ++ .ref a :: st) h nc ns := by
  intro ls H locs hlv hR hS
  obtain ⟨mm, hm⟩ : ∃ mm, ab_MT[x]? = some mm := ⟨_, List.getElem?_eq_getElem (by show x < ab_MT.length; unfold ab_MT; rw [List.length_append, ab_MTX_len]; omega)⟩
  have hy : ab_y x = mm.2.1 := by unfold ab_y; rw [hm]
  have hM := IH g L xs x mm (.ref a :: as) h Q hx hm hok
  obtain ⟨⟨f1, f2, f3⟩, f4, f5, -, f7, -⟩ := ab_mfx hx hm hkn
  obtain ⟨i1, i2, i3⟩ := f7 rfl
  have hlk := ab_link F hh
  rw [hy] at hlk
  have hts := F.2.2.2.2.1
  have hin := hts _ i1
  have hG := ab_wdG x hx hm
  have hw : ab_wd mm = Cond.code mm.2.1 mm.2.2.1 mm.2.2.2.1 none :: ab_TB := by unfold ab_wd; rw [i3]
  have hRm : (ab_rm d (ab_Mc x) (ab_Ms x)).frames + 1 ≤ R.frames ∧ 8 + (mm.2.2.2.1 + 11) + (ab_rm d (ab_Mc x) (ab_Ms x)).locals ≤ R.locals := ⟨hfr, by show 8 + (mm.2.2.2.1 + 11) + 60 * d ≤ _; omega⟩
  have hp : PreS s H (ab_Pc g L xs (.ref a :: as) h) (.ref (gl_ad g a) :: as.map (gl_cv g)) := ⟨ab_blind (.ref a :: as), ab_pre F hR hS (.ref a :: as)⟩
  have hroom : 2 * (F0 m pc ls ((as.reverse ++ .ref a :: st).map (gl_cv g))).monitorRoom + ((st.map (gl_cv g)).map fun v => v.category).sum ≤ 8 := by
    rw [ab_cats hf]
    show 2 * 0 + _ ≤ 8
    omega
  have hstk : (F0 m pc ls ((as.reverse ++ .ref a :: st).map (gl_cv g))).stack = (as.map (gl_cv g)).reverse ++ .ref (gl_ad g a) :: st.map (gl_cv g) := by
    show (as.reverse ++ .ref a :: st).map (gl_cv g) = _
    rw [List.map_append, List.map_reverse]
    rfl
  have hl2 : (as.map (gl_cv g)).length = y := by rw [List.length_map]; exact hlen
  have S : CallFix p m c cc ml s args ab_TB (ab_nm o) := ⟨F.1, F.2.1, F.2.2.1, F.2.2.2.1, hts⟩
  rcases hlk with hlk | hlk
  · refine ab_cont (va_runI S hM ⟨callB_of y hts hG hw rfl rfl (hts _ f1) hlk f4 hRm, i2, hin⟩ hp rfl hl2 hlv.1 hstk hroom hd ⟨hc1, hs1⟩) hS (fun r h' H1 locs1 hq hR1 hS1 => ?_)
    rw [ab_pu_map]
    exact k r h' hq ls H1 locs1 hlv hR1 hS1
  · refine ab_cont (va_runIN S hM ⟨va_cnB y hts hG hw rfl rfl hlk (hts _ f1) f4 hRm, i2, hin⟩ hp rfl hl2 hlv.1 hstk hroom hd ⟨hc1, hs1⟩) hS (fun r h' H1 locs1 hq hR1 hS1 => ?_)
    rw [ab_pu_map]
    exact k r h' hq ls H1 locs1 hlv hR1 hS1
/-- the receiver's cell -/
theorem ab_rcv {H : Heap} {locs : List Loc} (F : ab_F p s m args c g L xs cc ml o) (hR : ab_rel g L xs h H) (hS : va_S (gl_A g) s.heap H locs) {a z : Nat} (hz : z < 13 ∨ z = 20) (hk : ab_K h a = z) : ∃ cell : Cell, H[gl_ad g a]? = some cell ∧ cell.vm.isStatics = false ∧ s.vm.findClass (ab_nm z) = some cell.cls := by
  obtain ⟨hx, hb, hml, hown, hts, hE⟩ := F
  rcases hz with hz | rfl
  · obtain ⟨h5, hn⟩ := ab_k0 hR.2.2 (a := a) (by omega)
    have he := ab_at g h h5 hn
    rw [ab_ceO hz hk] at he
    have h1 := va_recv hE.1 hR.1 (ab_vw z hz) he
    rcases (show z = 0 ∨ z = 1 ∨ z = 2 ∨ z = 3 ∨ z = 4 ∨ z = 5 ∨ z = 6 ∨ z = 7 ∨ z = 8 ∨ z = 9 ∨ z = 10 ∨ z = 11 ∨ z = 12 by omega) with rfl | rfl | rfl | rfl | rfl | rfl | rfl | rfl | rfl | rfl | rfl | rfl | rfl <;> exact h1
  · obtain ⟨i, hi, ha⟩ := ab_k20 hR hk
    subst ha
    obtain ⟨-, -, -, hSt, -⟩ := hE
    have h1 := vk_recv hSt hi hS
    rw [ab_ad_lo g (by omega)]
    exact h1
/-- a call of an object's method -/
theorem ab_cV {d : Nat} (IH : ab_Sd l d) (F : ab_F p s m args c g L xs cc ml o) (hf : (gl_f g).category = 1) (hfr : d + 1 ≤ R.frames) (hlo : 60 * (d + 1) ≤ R.locals) {n x y a z : Nat} (hx : x < 332) (hh : ab_hitm o n x = true) (hkn : ab_kn x 0 y = true) (hz : z < 13 ∨ z = 20) (hzc : ab_nm z = (ab_y x).cls) (hk : ab_K h a = z) {as : List Value} (hlen : as.length = y) (hcat : ab_cat st ≤ 8)
    (hc1 : nc + ab_Mc x ≤ R.cells) (hs1 : ns + ab_Ms x ≤ R.slots) (hd : decode cc pc = .ok (.invokevirtual n, 3)) {Q : Option Value → Hp → Prop} (hok : ab_Ok d x (.ref a :: as) h Q)
    (k : ∀ r h', Q r h' → ab_W p l e R s m args below meth c Qm g L xs ml (pc + 3) lv (ab_pu r st) h' (nc + ab_Mc x) (ns + ab_Ms x)) : ab_W p l e R s m args below meth c Qm g L xs ml pc lv (as.reverse ++ .ref a :: st) h nc ns := by
  intro ls H locs hlv hR hS
  obtain ⟨mm, hm⟩ : ∃ mm, ab_MT[x]? = some mm := ⟨_, List.getElem?_eq_getElem (by show x < ab_MT.length; unfold ab_MT; rw [List.length_append, ab_MTX_len]; omega)⟩
  have hy : ab_y x = mm.2.1 := by unfold ab_y; rw [hm]
  have hM := IH g L xs x mm (.ref a :: as) h Q hx hm hok
  obtain ⟨⟨f1, f2, f3⟩, f4, f5, f6, -, -⟩ := ab_mfx hx hm hkn
  obtain ⟨i1, i2⟩ := f6 rfl
  have hlk := ab_link F hh
  rw [hy] at hlk hzc
  have hts := F.2.2.2.2.1
  have hG := ab_wdG x hx hm
  have hrc := ab_rcv F hR hS hz hk
  rw [hzc] at hrc
  have hRm : (ab_rm d (ab_Mc x) (ab_Ms x)).frames + 1 ≤ R.frames ∧ 8 + (mm.2.2.2.1 + 11) + (ab_rm d (ab_Mc x) (ab_Ms x)).locals ≤ R.locals := ⟨hfr, by show 8 + (mm.2.2.2.1 + 11) + 60 * d ≤ _; omega⟩
  have hp : PreV s H mm.2.1.cls (gl_ad g a) (ab_Pc g L xs (.ref a :: as) h) (as.map (gl_cv g)) := ⟨ab_blind (.ref a :: as), hrc, ab_pre F hR hS (.ref a :: as)⟩
  have hroom : 2 * (F0 m pc ls ((as.reverse ++ .ref a :: st).map (gl_cv g))).monitorRoom + ((st.map (gl_cv g)).map fun v => v.category).sum ≤ 8 := by
    rw [ab_cats hf]
    show 2 * 0 + _ ≤ 8
    omega
  have hstk : (F0 m pc ls ((as.reverse ++ .ref a :: st).map (gl_cv g))).stack = (as.map (gl_cv g)).reverse ++ .ref (gl_ad g a) :: st.map (gl_cv g) := by
    show (as.reverse ++ .ref a :: st).map (gl_cv g) = _
    rw [List.map_append, List.map_reverse]
    rfl
  have hl2 : (as.map (gl_cv g)).length = y := by rw [List.length_map]; exact hlen
  have S : CallFix p m c cc ml s args ab_TB (ab_nm o) := ⟨F.1, F.2.1, F.2.2.1, F.2.2.2.1, hts⟩
  rcases hlk with hlk | hlk
  · refine ab_cont (va_runV S hM ⟨callB_of y hts hG rfl rfl rfl (hts _ f1) hlk f4 hRm, hts _ i1, hts _ i2⟩ hp rfl hl2 hlv.1 hstk hroom hd ⟨hc1, hs1⟩) hS (fun r h' H1 locs1 hq hR1 hS1 => ?_)
    rw [ab_pu_map]
    exact k r h' hq ls H1 locs1 hlv hR1 hS1
  · refine ab_cont (va_runVN S hM ⟨va_cnB y hts hG rfl rfl rfl hlk (hts _ f1) f4 hRm, hts _ i1, hts _ i2⟩ hp rfl hl2 hlv.1 hstk hroom hd ⟨hc1, hs1⟩) hS (fun r h' H1 locs1 hq hR1 hS1 => ?_)
    rw [ab_pu_map]
    exact k r h' hq ls H1 locs1 hlv hR1 hS1
end ABL
