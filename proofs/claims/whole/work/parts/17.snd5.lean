/-! ===== soundness: constants, statics, natives (mine) ===== -/
section ABK
variable {p : Program} {l : Launch} {e : Env} {R : Room} {s : State} {m : MethodId} {args : Array Value} {below : List Frame} {meth : Method} {c : Code} {Qm : State → Prop}
variable {g : Gl} {L : Nat} {xs : Nat → Int32} {ml : Nat} {cc : ByteArray} {pc : Nat} {lv : Lv} {st : List Value} {h : Hp} {nc ns : Nat} {o : Nat}
theorem ab_cats (hf : (gl_f g).category = 1) : ∀ st : List Value, ((st.map (gl_cv g)).map (fun v => v.category)).sum = ab_cat st
  | [] => rfl
  | v :: st => by
    show (gl_cv g v).category + ((st.map (gl_cv g)).map (fun v => v.category)).sum = v.category + ab_cat st
    rw [gl_cat hf, ab_cats hf st]
theorem ab_kpi (F : ab_F p s m args c g L xs cc ml o) {n : Nat} {k : Value} (hh : ab_kp.any (fun q => Nat.beq q.1 o && Nat.beq q.2.1 n && decide (k = .int q.2.2.1)) = true) : ∃ v, k = .int v ∧ (Cond.constant (ab_nm o) n v).before args s = true := by
  obtain ⟨q, hq, h1⟩ := List.any_eq_true.mp hh
  simp only [Bool.and_eq_true, decide_eq_true_eq] at h1
  have h2 := of_decide_eq_true (List.all_eq_true.mp ab_kp_ok q hq)
  rw [Nat.eq_of_beq_eq_true h1.1.1, Nat.eq_of_beq_eq_true h1.1.2] at h2
  exact ⟨_, h1.2, F.2.2.2.2.1 _ (ab_tbi h2 rfl)⟩
theorem ab_jpi (F : ab_F p s m args c g L xs cc ml o) {n : Nat} {k : Value} (hh : ab_jp.any (fun q => Nat.beq q.1 o && Nat.beq q.2.1 n && decide (k = .long q.2.2.1)) = true) : ∃ v, k = .long v ∧ (Cond.constantLong (ab_nm o) n v).before args s = true := by
  obtain ⟨q, hq, h1⟩ := List.any_eq_true.mp hh
  simp only [Bool.and_eq_true, decide_eq_true_eq] at h1
  have h2 := of_decide_eq_true (List.all_eq_true.mp ab_jp_ok q hq)
  rw [Nat.eq_of_beq_eq_true h1.1.1, Nat.eq_of_beq_eq_true h1.1.2] at h2
  exact ⟨_, h1.2, F.2.2.2.2.1 _ (ab_tbi h2 rfl)⟩
theorem ab_ldc (F : ab_F p s m args c g L xs cc ml o) {n : Nat} {k : Value} (hh : (ab_kp.any (fun q => Nat.beq q.1 o && Nat.beq q.2.1 n && decide (k = .int q.2.2.1)) || (Nat.beq o 8 && ((Nat.beq n 78 && decide (k = .ref 1)) || (Nat.beq n 88 && decide (k = .ref 3))))) = true) (hd : decode cc pc = .ok (.ldc n, 2))
    (kk : ab_W p l e R s m args below meth c Qm g L xs ml (pc + 2) lv (k :: st) h nc ns) : ab_W p l e R s m args below meth c Qm g L xs ml pc lv st h nc ns := by
  rcases Bool.or_eq_true_iff.mp hh with hh | hh
  · obtain ⟨v, rfl, hc⟩ := ab_kpi F hh
    exact fun ls H locs hl hR hS => lv_ldc F.1 F.2.1 F.2.2.2.1 hc hd (kk ls H locs hl hR hS)
  · obtain ⟨ho, hh⟩ := Bool.and_eq_true_iff.mp hh
    have ho := Nat.eq_of_beq_eq_true ho
    subst ho
    obtain ⟨hx, hb, hml, hown, hts, hE⟩ := F
    obtain ⟨-, -, -, -, hr0, hr1, -⟩ := hE
    rcases Bool.or_eq_true_iff.mp hh with hh | hh
    · obtain ⟨hn, hk⟩ := Bool.and_eq_true_iff.mp hh
      have hn := Nat.eq_of_beq_eq_true hn
      have hk := of_decide_eq_true hk
      subst hn
      subst hk
      exact fun ls H locs hl hR hS => va_ldcS hx hb hown hr0 hd (kk ls H locs hl hR hS)
    · obtain ⟨hn, hk⟩ := Bool.and_eq_true_iff.mp hh
      have hn := Nat.eq_of_beq_eq_true hn
      have hk := of_decide_eq_true hk
      subst hn
      subst hk
      exact fun ls H locs hl hR hS => va_ldcS hx hb hown hr1 hd (kk ls H locs hl hR hS)
theorem ab_ldcw (F : ab_F p s m args c g L xs cc ml o) {n : Nat} {k : Value} (hh : ab_kp.any (fun q => Nat.beq q.1 o && Nat.beq q.2.1 n && decide (k = .int q.2.2.1)) = true) (hd : decode cc pc = .ok (.ldc_w n, 3))
    (kk : ab_W p l e R s m args below meth c Qm g L xs ml (pc + 3) lv (k :: st) h nc ns) : ab_W p l e R s m args below meth c Qm g L xs ml pc lv st h nc ns := by
  obtain ⟨v, rfl, hc⟩ := ab_kpi F hh
  exact fun ls H locs hl hR hS => lv_ldcw F.1 F.2.1 F.2.2.2.1 hc hd (kk ls H locs hl hR hS)
theorem ab_ldc2 (F : ab_F p s m args c g L xs cc ml o) {n : Nat} {k : Value} (hh : ab_jp.any (fun q => Nat.beq q.1 o && Nat.beq q.2.1 n && decide (k = .long q.2.2.1)) = true) (hd : decode cc pc = .ok (.ldc2_w n, 3))
    (kk : ab_W p l e R s m args below meth c Qm g L xs ml (pc + 3) lv (k :: st) h nc ns) : ab_W p l e R s m args below meth c Qm g L xs ml pc lv st h nc ns := by
  obtain ⟨v, rfl, hc⟩ := ab_jpi F hh
  exact fun ls H locs hl hR hS => lv_ldc2 F.1 F.2.1 F.2.2.2.1 hc hd (kk ls H locs hl hR hS)
theorem ab_gst (F : ab_F p s m args c g L xs cc ml o) {n : Nat} {k : Value} (hh : (Nat.beq o 20 && ((Nat.beq n 38 && decide (k = .int 1)) || (Nat.beq n 1053 && decide (k = .float 0)))) = true) (hd : decode cc pc = .ok (.getstatic n, 3))
    (kk : ab_W p l e R s m args below meth c Qm g L xs ml (pc + 3) lv (k :: st) h nc ns) : ab_W p l e R s m args below meth c Qm g L xs ml pc lv st h nc ns := by
  simp only [Bool.and_eq_true, Bool.or_eq_true, decide_eq_true_eq] at hh
  obtain ⟨ho, hh⟩ := hh
  have ho := Nat.eq_of_beq_eq_true ho
  subst ho
  obtain ⟨hx, hb, hml, hown, hts, hE⟩ := F
  obtain ⟨-, -, -, -, -, -, hz0, hz1, -⟩ := hE
  rcases hh with ⟨hn, rfl⟩ | ⟨hn, rfl⟩
  · have hn := Nat.eq_of_beq_eq_true hn
    subst hn
    exact fun ls H locs hl hR hS => va_gets hx hb hz0 hS hown (hts (.fieldLink RJ0 38 "java/lang/String" "COMPACT_STRINGS" "Z") (ab_tb (by decide +kernel) rfl)) (fun _ q => q) hd (kk ls H locs hl hR hS)
  · have hn := Nat.eq_of_beq_eq_true hn
    subst hn
    exact fun ls H locs hl hR hS => va_gets hx hb hz1 hS hown (hts (.fieldLink RJ0 1053 "jdk/internal/util/Preconditions" "SIOOBE_FORMATTER" "Ljava/util/function/BiFunction;") (ab_tb (by decide +kernel) rfl)) (fun _ q => q) hd (kk ls H locs hl hR hS)
theorem ab_xpi (F : ab_F p s m args c g L xs cc ml o) {n k : Nat} (hh : ab_hit ab_xp o n k = true) : (Cond.methodLink (ab_nm o) n (ab_xy k)).before args s = true := by
  obtain ⟨q4, hq⟩ := ab_hit_of hh
  have hl := of_decide_eq_true (List.all_eq_true.mp ab_xp_ok _ hq)
  exact F.2.2.2.2.1 _ (ab_tbi hl rfl)
theorem ab_oin (F : ab_F p s m args c g L xs cc ml o) (hf : (gl_f g).category = 1) {n a : Nat} (hh : ab_hit ab_xp o n 9001 = true) (hcat : ab_cat st ≤ 8) (hfr : 1 ≤ R.frames) (hlo : 60 ≤ R.locals) (hd : decode cc pc = .ok (.invokespecial n, 3))
    (k : ab_W p l e R s m args below meth c Qm g L xs ml (pc + 3) lv st h nc ns) : ab_W p l e R s m args below meth c Qm g L xs ml pc lv (.ref a :: st) h nc ns := by
  have hl := ab_xpi F hh
  obtain ⟨hx, hb, hml, hown, hts, hE⟩ := F
  intro ls H locs hlv hR hS
  refine W.objInit hx hb hown hl (hts _ (ab_tb (w := .instanceMethod Lib.objectInit) (by decide +kernel) rfl)) (hts _ (ab_tb (w := .code Lib.objectInit ⟨#[0xb1]⟩ 1 none) (by decide +kernel) rfl)) rfl (hlv.1.trans hml.symm) rfl hd hfr ?_ (k ls H locs hlv hR hS)
  rw [ab_cats hf]
  show 2 * 0 + ab_cat st + 12 ≤ R.locals
  omega
theorem ab_cpy (F : ab_F p s m args c g L xs cc ml o) (hf : (gl_f g).category = 1) {n0 a b : Nat} {sp dp n : Int32} (hh : ab_hit ab_xp o n0 9002 = true) (hka : ab_K h a = 13) (hkb : ab_K h b = 13) (h1 : ¬ sp < 0) (h2 : ¬ dp < 0) (h3 : ¬ n < 0) (h4 : sp.toNatClampNeg + n.toNatClampNeg ≤ ab_L h a) (h5 : dp.toNatClampNeg + n.toNatClampNeg ≤ ab_L h b)
    (hcat : ab_cat st ≤ 8) (hfr : 1 ≤ R.frames) (hlo : 60 ≤ R.locals) (hd : decode cc pc = .ok (.invokestatic n0, 3))
    (k : ab_W p l e R s m args below meth c Qm g L xs ml (pc + 3) lv st (ab_sA h b (va_cpy (ab_I h a) (ab_I h b) sp.toNatClampNeg dp.toNatClampNeg n.toNatClampNeg)) nc ns) : ab_W p l e R s m args below meth c Qm g L xs ml pc lv (.int n :: .int dp :: .ref b :: .int sp :: .ref a :: st) h nc ns := by
  have hlink := ab_xpi F hh
  obtain ⟨hx, hb, hml, hown, hts, hE⟩ := F
  intro ls H locs hlv hR hS
  obtain ⟨ha5, han⟩ := ab_k0 hR.2.2 (a := a) (by rw [hka]; decide)
  obtain ⟨hb5, hbn⟩ := ab_k0 hR.2.2 (a := b) (by rw [hkb]; decide)
  have hea := ab_at g h ha5 han
  have heb := ab_at g h hb5 hbn
  rw [ab_ce13 hka] at hea
  rw [ab_ce13 hkb] at heb
  have nn : ∀ z : Int32, ¬ z < 0 → z.toInt = (z.toNatClampNeg : Int) := by
    intro z hz
    have hz0 : (0 : Int) ≤ z.toInt := by
      have := Int32.not_lt.mp hz
      simpa using Int32.le_iff_toInt_le.mp this
    show z.toInt = ((z.toInt.toNat : Nat) : Int)
    omega
  have hnw : nativeFrameWords "java/lang/System" "arraycopy" 5 ≤ 20 := by decide +kernel
  intro T hT X
  have hc0 : H[gl_ad g a]? = some (vp_cell (gl_cy g 0) (ab_L h a, .inl (ab_I h a))) := hR.1 _ _ hea
  have hc1 : H[gl_ad g b]? = some (vp_cell (gl_cy g 0) (ab_L h b, .inl (ab_I h b))) := hR.1 _ _ heb
  obtain ⟨-, k0, hk0, cm0, hkk0⟩ := (hE.1.2 0 _ rfl).1 (ab_L h a) (fun j => .int (ab_I h a j))
  obtain ⟨vm', X', step⟩ := X.arraycopy hx hown hlink (hts (.native arraycopyName) (ab_tb (by decide +kernel) rfl)) (hts (.static arraycopyName) (ab_tb (by decide +kernel) rfl)) (hts (.initialized "java/lang/System") (ab_tb (by decide +kernel) rfl)) (src := gl_ad g a) (dst := gl_ad g b) (cs := vp_cell (gl_cy g 0) (ab_L h a, .inl (ab_I h a))) (cd := vp_cell (gl_cy g 0) (ab_L h b, .inl (ab_I h b))) (srcPos := sp) (destPos := dp) (n := n) (by rw [hT]; exact hc0) (by rw [hT]; exact hc1)
    (fun _ h => by cases h) (fun _ h => by cases h) (fun h => by cases h) (fun h => by cases h) hk0 hk0 hkk0 hkk0 (by simp [refKind]) h1 h2 h3
    (by rw [nn sp h1, nn n h3]; show ¬ _ > ((arrV _ (ab_L h a) (fun j => .int (ab_I h a j))).slots.size : Int); rw [arrV_size]; omega)
    (by rw [nn dp h2, nn n h3]; show ¬ _ > ((arrV _ (ab_L h b) (fun j => .int (ab_I h b j))).slots.size : Int); rw [arrV_size]; omega)
    (fun vm₁ _ i hi => by
      have e1 : (vp_cell (gl_cy g 0) (ab_L h a, .inl (ab_I h a))).slots.getD (sp.toNatClampNeg + i) .null = .int (ab_I h a (sp.toNatClampNeg + i)) := by
        show (arrV _ (ab_L h a) (fun j => .int (ab_I h a j))).slots.getD _ _ = _
        rw [Array.getD_eq_getD_getElem?, arrV_read _ _ (by omega)]
        rfl
      refine ⟨?_, ?_⟩
      · rw [e1]
        rfl
      · rw [e1]
        exact trivial)
    (g := F0 m pc ls (.int n :: .int dp :: .ref (gl_ad g b) :: .int sp :: .ref (gl_ad g a) :: st.map (gl_cv g))) rfl (by rw [hml]; exact hlv.1) (rest := st.map (gl_cv g)) rfl (by rw [hb]; exact hd) hfr (by show 2 * 0 + _ + _ ≤ _; rw [ab_cats hf]; omega)
  have e1 : copied (vp_cell (gl_cy g 0) (ab_L h a, .inl (ab_I h a))) (vp_cell (gl_cy g 0) (ab_L h b, .inl (ab_I h b))) sp dp n = vp_cell (gl_cy g 0) (ab_L h b, .inl (va_cpy (ab_I h a) (ab_I h b) sp.toNatClampNeg dp.toNatClampNeg n.toNatClampNeg)) := va_copied (fun z => .int z) _ _ _ _ h4
  rw [e1] at X' step
  have hl : gl_ad g b < H.size := (Array.getElem?_eq_some_iff.mp hc1).1
  generalize hnc : vp_cell (gl_cy g 0) (ab_L h b, .inl (va_cpy (ab_I h a) (ab_I h b) sp.toNatClampNeg dp.toNatClampNeg n.toNatClampNeg)) = nc1 at X' step
  have hheap : ((T.setVm vm').setCell (gl_ad g b) nc1).heap = H.setIfInBounds (gl_ad g b) nc1 := by rw [← hT]; rfl
  have oq : ∀ q : Nat, q ≠ gl_ad g b → (H.setIfInBounds (gl_ad g b) nc1)[q]? = H[q]? := fun q hq => by simp [Array.getElem?_setIfInBounds, Ne.symm hq]
  have z : (H.setIfInBounds (gl_ad g b) nc1).size = H.size := by simp
  obtain ⟨t, a1, b1⟩ := k ls _ _ hlv (ab_relw hR hb5 hbn rfl (fun q hq => ab_ce_eq rfl rfl (va_up_ne _ _ hq) rfl rfl) (ab_wfA hR.2.2 hb5 _) (by
      rw [ab_ce13 (show ab_K (ab_sA h b (va_cpy (ab_I h a) (ab_I h b) sp.toNatClampNeg dp.toNatClampNeg n.toNatClampNeg)) b = 13 from hkb)]
      show (H.setIfInBounds (gl_ad g b) nc1)[gl_ad g b]? = some (vp_cell _ _)
      rw [show ab_I (ab_sA h b (va_cpy (ab_I h a) (ab_I h b) sp.toNatClampNeg dp.toNatClampNeg n.toNatClampNeg)) b = va_cpy (ab_I h a) (ab_I h b) sp.toNatClampNeg dp.toNatClampNeg n.toNatClampNeg from ab_up0 _ _ _, show ab_L (ab_sA h b (va_cpy (ab_I h a) (ab_I h b) sp.toNatClampNeg dp.toNatClampNeg n.toNatClampNeg)) b = ab_L h b from rfl, hnc]
      simp [Array.getElem?_setIfInBounds, hl]) z oq) ⟨by rw [z]; exact hS.1, fun q g1 g2 => by
      rw [oq q (fun e => g2 (by rw [e]; exact ab_Aad g hb5))]
      exact hS.2.1 q g1 g2, fun q hq => by
      rcases List.mem_append.mp hq with h | h
      · exact hS.2.2 q h
      · obtain ⟨z, -, hz⟩ := List.mem_map.mp h
        rw [← hz]
        exact ab_Aad g hb5⟩ _ hheap X'
  exact ⟨t, step t a1, b1⟩
theorem ab_cln (F : ab_F p s m args c g L xs cc ml o) (hf : (gl_f g).category = 1) {n0 a : Nat} (hh : ab_hit ab_xp o n0 9003 = true) (hka : ab_K h a = 13) (hcat : ab_cat st ≤ 8) (hfr : 1 ≤ R.frames) (hlo : 60 ≤ R.locals) (hc1 : nc + 1 ≤ R.cells) (hs1 : ns + ab_L h a ≤ R.slots) (hd : decode cc pc = .ok (.invokevirtual n0, 3))
    (k : ab_W p l e R s m args below meth c Qm g L xs ml (pc + 3) lv (.ref (ab_N h) :: st) (ab_nw h 13 (ab_L h a) (ab_I h a)) (nc + 1) (ns + ab_L h a)) : ab_W p l e R s m args below meth c Qm g L xs ml pc lv (.ref a :: st) h nc ns := by
  have hlink := ab_xpi F hh
  obtain ⟨hx, hb, hml, hown, hts, hE⟩ := F
  intro ls H locs hlv hR hS
  obtain ⟨ha5, han⟩ := ab_k0 hR.2.2 (a := a) (by rw [hka]; decide)
  have hea := ab_at g h ha5 han
  rw [ab_ce13 hka] at hea
  obtain ⟨hEK, -, -, -, -, -, -, -, -, hcl, -⟩ := hE
  have hnm : s.vm.findClass "[I" = some (gl_cy g 0) := va_nm_int (hEK.2 0 _ rfl).2
  have hc0 : H[gl_ad g a]? = some (vp_cell (gl_cy g 0) (ab_L h a, .inl (ab_I h a))) := hR.1 _ _ hea
  generalize hvc : vp_cell (gl_cy g 0) (ab_L h a, .inl (ab_I h a)) = vc at hc0
  have hsz : vc.slots.size = ab_L h a := by rw [← hvc]; exact arrV_size _ _ _
  have hvm0 : vc.vm = .none := by rw [← hvc]; rfl
  have hcl0 : vc.cls = gl_cy g 0 := by rw [← hvc]; rfl
  have hcellE : ({ cls := vc.cls, slots := vc.slots } : Cell) = vc := by rw [← hvc]; rfl
  obtain ⟨c0, t0', f1, f2, f3⟩ := Cond.castable_spec (va_Nw.use (A := args) rfl hcl)
  cases hnm.symm.trans f1
  intro T hT X
  have hcellT : T.heap[gl_ad g a]? = some vc := by rw [hT]; exact hc0
  obtain ⟨-, kA, hkA, comp, hkind⟩ := State.isArrayOf_alike X.warmed.alike ((hEK.2 0 _ rfl).1 0 (fun _ => .null))
  obtain ⟨-, kS, hkS, compS, hkindS⟩ := (hEK.2 0 _ rfl).1 0 (fun _ => .null)
  obtain ⟨vm', X', stp⟩ := X.cloneArray hx hown hlink (hts (.sameMethod "[I" "java/lang/Object" "clone" "()Ljava/lang/Object;") (ab_tb (by decide +kernel) rfl)) (hts (.native ⟨"java/lang/Object", "clone", "()Ljava/lang/Object;"⟩) (ab_tb (by decide +kernel) rfl)) (hts (.instanceMethod ⟨"java/lang/Object", "clone", "()Ljava/lang/Object;"⟩) (ab_tb (by decide +kernel) rfl)) (hts (.selects "[I" ⟨"[I", "clone", "()Ljava/lang/Object;"⟩ ⟨"java/lang/Object", "clone", "()Ljava/lang/Object;"⟩) (ab_tb (by decide +kernel) rfl)) (a := gl_ad g a) (cell := vc) hcellT (fun k h => by rw [hvm0] at h; cases h) (by rw [hvm0]; exact fun h => by cases h) (by rw [hcl0]; exact hnm) f2 (by rw [hcl0]; exact f3)
    (fun i v hv => by
      rw [hcl0]
      have hk' : T.vm.classes[gl_cy g 0]? = some kA := hkA
      have hfit : fits .int v = true := va_fit (cA := gl_cy g 0) (n := ab_L h a) (F := fun j => .int (ab_I h a j)) (fun _ _ => rfl) i v (by rw [← hvc] at hv; exact hv)
      simpa [State.fitsSlot, State.slotType?, hk', hkind] using hfit)
    (g := F0 m pc ls (.ref (gl_ad g a) :: st.map (gl_cv g))) rfl (by rw [hml]; exact hlv.1) rfl (by rw [hb]; exact hd) hfr (by show 2 * 0 + _ + 14 ≤ _; rw [ab_cats hf]; omega) hc1 (by rw [hsz]; exact hs1) (hloader := by rw [hcl0]; exact Vm.clonesLoader_of_array hkS hkindS)
  rw [hcellE, hsz] at X'
  generalize hH1 : H.push vc = H1
  have z1 : H1.size = H.size + 1 := by rw [← hH1, Array.size_push]
  have e1 : H1[H.size]? = some vc := by rw [← hH1, Array.getElem?_push_size]
  have o1 : ∀ q : Nat, q < H.size → H1[q]? = H[q]? := fun q hq => by rw [← hH1, Array.getElem?_push, if_neg (Nat.ne_of_lt hq)]
  have k' := k ls H1 locs hlv (ab_reln hR rfl (fun b hb => ab_nw_ce _ _ _ hb) (ab_wfN hR.2.2 _ _ _) (by
    have hkx : ab_K (ab_nw h 13 (ab_L h a) (ab_I h a)) (ab_N h) = 13 := ab_up0 _ _ _
    rw [ab_ce13 hkx, show ab_L (ab_nw h 13 (ab_L h a) (ab_I h a)) (ab_N h) = ab_L h a from ab_up0 _ _ _, show ab_I (ab_nw h 13 (ab_L h a) (ab_I h a)) (ab_N h) = ab_I h a from ab_up0 _ _ _, ← hR.2.1]
    show H1[H.size]? = some (vp_cell _ _)
    rw [hvc]
    exact e1) z1 o1) (ab_Sn hS z1 o1)
  rw [List.map_cons, ab_adN hR] at k'
  obtain ⟨t, b1, b2⟩ := k' ((T.setVm vm').pushCell vc) (by rw [← hH1, ← hT]; rfl) X'
  refine ⟨t, stp t ?_, b2⟩
  rw [hcellE, hT]
  exact b1
end ABK
