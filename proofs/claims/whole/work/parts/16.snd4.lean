/-! ===== soundness: makings, constants, switches, natives (mine) ===== -/
section ABJ
variable {p : Program} {l : Launch} {e : Env} {R : Room} {s : State} {m : MethodId} {args : Array Value} {below : List Frame} {meth : Method} {c : Code} {Qm : State → Prop}
variable {g : Gl} {L : Nat} {xs : Nat → Int32} {ml : Nat} {cc : ByteArray} {pc : Nat} {lv : Lv} {st : List Value} {h : Hp} {nc ns : Nat} {o : Nat}
theorem ab_reln {H H1 : Heap} {h' : Hp} (hR : ab_rel g L xs h H) (hN : ab_N h' = ab_N h + 1) (ho : ∀ b, b < ab_N h → ab_ce g h' b = ab_ce g h b) (hw : ab_wf L xs h') (hat : va_at (gl_D g) vwCl (gl_b g + (ab_N h - 5), ab_ce g h' (ab_N h)) H1) (z : H1.size = H.size + 1) (oq : ∀ q, q < H.size → H1[q]? = H[q]?) : ab_rel g L xs h' H1 := by
  refine ⟨?_, ?_, hw⟩
  · rw [← ab_psh g hR.2.2.1 hN ho]
    refine (hR.1.kept (fun k q hq => oq q.1 (hR.1 k q hq).lt)).app (fun k q hq => ?_)
    have hz : k < 1 := (List.getElem?_eq_some_iff.mp hq).1
    rw [show k = 0 by omega] at hq
    cases hq
    exact hat
  · rw [hN, z, hR.2.1]
    have := hR.2.2.1
    omega
theorem ab_nw_ce (k n : Nat) (f : Nat → Int32) {b : Nat} (hb : b < ab_N h) : ab_ce g (ab_nw h k n f) b = ab_ce g h b := by
  have hne : b ≠ h.2.2.2.2.2 := Nat.ne_of_lt hb
  exact ab_ce_eq (va_up_ne _ _ hne) (va_up_ne _ _ hne) (va_up_ne _ _ hne) (va_up_ne _ _ hne) (va_up_ne _ _ hne)
theorem ab_adN {H : Heap} (hR : ab_rel g L xs h H) : gl_cv g (.ref (ab_N h)) = .ref H.size := by
  show Value.ref (gl_ad g (ab_N h)) = _
  rw [ab_ad5 g hR.2.2.1, hR.2.1]
theorem ab_Sn {A : Nat → Prop} {H0 H H1 : Heap} {locs : List Loc} (hS : va_S A H0 H locs) (z : H1.size = H.size + 1) (oq : ∀ q, q < H.size → H1[q]? = H[q]?) : va_S A H0 H1 locs :=
  ⟨Nat.le_trans hS.1 (by omega), fun x h1 h2 => (oq x (Nat.lt_of_lt_of_le h1 hS.1)).trans (hS.2.1 x h1 h2), hS.2.2⟩
/-- an object is made -/
theorem ab_newO (F : ab_F p s m args c g L xs cc ml o) {n x : Nat} (hh : ab_hit ab_cp o n x = true) (hd : decode cc pc = .ok (.new n, 3)) (hc1 : nc + 1 ≤ R.cells) (hs1 : ns + (ab_fts.getD x []).length ≤ R.slots)
    (k : ab_W p l e R s m args below meth c Qm g L xs ml (pc + 3) lv (.ref (ab_N h) :: st) (ab_nw h x 0 (fun _ => 0)) (nc + 1) (ns + (ab_fts.getD x []).length)) : ab_W p l e R s m args below meth c Qm g L xs ml pc lv st h nc ns := by
  obtain ⟨hx, hb, hml, hown, hts, hE⟩ := F
  obtain ⟨q4, hq⟩ := ab_hit_of hh
  obtain ⟨hl, hx13⟩ := of_decide_eq_true (List.all_eq_true.mp ab_cp_ok _ hq)
  obtain ⟨hi1, hi2⟩ := ab_ip_ok x hx13
  intro ls H locs hlv hR hS
  have hc := ab_vw x hx13
  have hKn := hE.1.1 x _ hc
  refine W.newcK hx hb hown (hts _ (ab_tbi hl rfl)) (hts _ (ab_tbi hi1 rfl)) (hts _ (ab_tbi hi2 rfl)) rfl hd hc1 hs1 hKn.2.1 rfl fun H1 kC hkC e1 z1 o1 => ?_
  have k' := k ls H1 locs hlv (ab_reln hR rfl (fun b hb => ab_nw_ce _ _ _ hb) (ab_wfN hR.2.2 _ _ _) ?_ z1 o1) (ab_Sn hS z1 o1)
  · rw [List.map_cons, ab_adN hR] at k'
    exact k'
  · have hkx : ab_K (ab_nw h x 0 (fun _ => 0)) (ab_N h) = x := by show va_up h.1 h.2.2.2.2.2 x h.2.2.2.2.2 = x; simp [va_up]
    rw [ab_ceO hx13 hkx, ← hR.2.1]
    refine ⟨_, hc, (u_born (ab_ty x) hts (ab_uwT x hx13) hKn hkC e1 (ab_ty_ok x hx13)).to fun j hj => ?_⟩
    show _ = (ab_fl g (ab_nw h x 0 (fun _ => 0)) (ab_N h) (ab_fts.getD x [])).getD j .null
    rw [List.getD_eq_getElem?_getD, ab_fl_at _ hj, ab_getD hj]
    have h1 := ab_ft_ok x hx13 j hj
    have h2 := ab_ty_ok x hx13 j hj
    unfold ab_ftb at h1
    rw [h2] at h1
    have e0 : ∀ q, va_up h.2.2.1 h.2.2.2.2.2 (fun _ => (0 : Int32)) h.2.2.2.2.2 q = 0 := fun q => by simp [va_up]
    have e2 : ∀ q, va_up h.2.2.2.1 h.2.2.2.2.2 (fun _ => (0 : Int64)) h.2.2.2.2.2 q = 0 := fun q => by simp [va_up]
    have e3 : ∀ q, va_up h.2.2.2.2.1 h.2.2.2.2.2 (fun _ => (none : Option Nat)) h.2.2.2.2.2 q = none := fun q => by simp [va_up]
    cases hty : ab_ty x j <;> rw [hty] at h1 <;> first | (cases h1; done) | skip
    · rw [Nat.eq_of_beq_eq_true h1]
      show Value.int 0 = Value.int (va_up h.2.2.1 h.2.2.2.2.2 (fun _ => (0 : Int32)) h.2.2.2.2.2 j)
      rw [e0]
    · rw [Nat.eq_of_beq_eq_true h1]
      show Value.long 0 = Value.long (va_up h.2.2.2.1 h.2.2.2.2.2 (fun _ => (0 : Int64)) h.2.2.2.2.2 j)
      rw [e2]
    · rw [Nat.eq_of_beq_eq_true h1]
      show Value.int 0 = Value.int (va_up h.2.2.1 h.2.2.2.2.2 (fun _ => (0 : Int32)) h.2.2.2.2.2 j)
      rw [e0]
    · rw [Nat.eq_of_beq_eq_true h1]
      show Value.null = va_rf ((va_up h.2.2.2.2.1 h.2.2.2.2.2 (fun _ => (none : Option Nat)) h.2.2.2.2.2 j).map (gl_ad g))
      rw [e3]
      rfl
    · rw [Nat.eq_of_beq_eq_true h1]
      show Value.null = va_rf ((va_up h.2.2.2.2.1 h.2.2.2.2.2 (fun _ => (none : Option Nat)) h.2.2.2.2.2 j).map (gl_ad g))
      rw [e3]
      rfl
theorem ab_up0 {α : Type} (f : Nat → α) (k : Nat) (v : α) : va_up f k v k = v := by simp [va_up]
/-- a row of numbers is made -/
theorem ab_newA (F : ab_F p s m args c g L xs cc ml o) {t : ArrayType} {x : Nat} {n : Int32} (hh : (match t with
      | .int => Nat.beq x 13
      | .long => Nat.beq x 14
      | .boolean => Nat.beq x 15
      | _ => false) = true) (hd : decode cc pc = .ok (.newarray t, 2)) (hn : ¬ n < 0) (hc1 : nc + 1 ≤ R.cells) (hs1 : ns + n.toNatClampNeg ≤ R.slots) (hb1 : n.toNatClampNeg ≤ 7151329)
    (k : ab_W p l e R s m args below meth c Qm g L xs ml (pc + 2) lv (.ref (ab_N h) :: st) (ab_nw h x n.toNatClampNeg (fun _ => 0)) (nc + 1) (ns + n.toNatClampNeg)) : ab_W p l e R s m args below meth c Qm g L xs ml pc lv (.int n :: st) h nc ns := by
  obtain ⟨hx, hb, hml, hown, hts, hE⟩ := F
  intro ls H locs hlv hR hS
  have row : ∀ (ty : FieldType) (t0 : Nat) (cy : ClassId) (x' : vp_A), newarray.typeOf t = ty → (Cond.arrayClass ty).before args s = true → n.toNatClampNeg * componentBytes ty ≤ 536870912 → s.vm.findClass ("[" ++ ty.toString) = some cy → vp_cell cy x' = arrV cy n.toNatClampNeg (fun _ => defaultValue ty) → ab_ce g (ab_nw h x n.toNatClampNeg (fun _ => 0)) (ab_N h) = .inl (cy, x') →
      W p l e R s m args below meth c H locs nc ns Qm (F0 m pc ls (.int n :: st.map (gl_cv g))) := by
    intro ty t0 cy x' hty harr hbytes hcy hcell hce
    subst hty
    refine va_newaK hx hb harr rfl hd rfl hn rfl hbytes hc1 hs1 rfl fun H1 cA e1 z1 o1 _ hNm => ?_
    have ec : cA = cy := Option.some.inj (hNm.symm.trans hcy)
    subst ec
    have k' := k ls H1 locs hlv (ab_reln hR rfl (fun b hb => ab_nw_ce _ _ _ hb) (ab_wfN hR.2.2 _ _ _) ?_ z1 o1) (ab_Sn hS z1 o1)
    · rw [List.map_cons, ab_adN hR] at k'
      exact k'
    · rw [hce, ← hR.2.1]
      show H1[H.size]? = some (vp_cell _ _)
      rw [hcell]
      exact e1
  have hkx : ab_K (ab_nw h x n.toNatClampNeg (fun _ => 0)) (ab_N h) = x := ab_up0 _ _ _
  have hlx : ab_L (ab_nw h x n.toNatClampNeg (fun _ => 0)) (ab_N h) = n.toNatClampNeg := ab_up0 _ _ _
  have hix : ab_I (ab_nw h x n.toNatClampNeg (fun _ => 0)) (ab_N h) = fun _ => 0 := ab_up0 _ _ _
  have hjx : ab_J (ab_nw h x n.toNatClampNeg (fun _ => 0)) (ab_N h) = fun _ => 0 := ab_up0 _ _ _
  cases t with
  | int =>
    have e1 := Nat.eq_of_beq_eq_true hh
    refine row .int 0 (gl_cy g 0) (n.toNatClampNeg, .inl (fun _ => 0)) rfl (hts _ (ab_tb (by decide +kernel) rfl)) (by show _ * 4 ≤ _; omega) (hE.1.2 0 _ rfl).2 rfl ?_
    rw [ab_ce13 (hkx.trans e1), hlx, hix]
  | long =>
    have e1 := Nat.eq_of_beq_eq_true hh
    refine row .long 1 (gl_cy g 1) (n.toNatClampNeg, .inr (.inl (fun _ => 0))) rfl (hts _ (ab_tb (by decide +kernel) rfl)) (by show _ * 8 ≤ _; omega) (hE.1.2 1 _ rfl).2 rfl ?_
    rw [ab_ce14 (hkx.trans e1), hlx, hjx]
  | boolean =>
    have e1 := Nat.eq_of_beq_eq_true hh
    refine row .boolean 2 (gl_cy g 2) (n.toNatClampNeg, .inl (fun _ => 0)) rfl (hts _ (ab_tb (by decide +kernel) rfl)) (by show _ * 1 ≤ _; omega) (hE.1.2 2 _ rfl).2 rfl ?_
    rw [ab_ce15 (hkx.trans e1), hlx, hix]
  | _ => cases hh
/-- a row of references is made -/
theorem ab_newR (F : ab_F p s m args c g L xs cc ml o) {n0 x : Nat} {n : Int32} (hh : ab_hit ab_ap o n0 x = true) (hd : decode cc pc = .ok (.anewarray n0, 3)) (hn : ¬ n < 0) (hc1 : nc + 1 ≤ R.cells) (hs1 : ns + n.toNatClampNeg ≤ R.slots) (hb1 : n.toNatClampNeg ≤ 7151329)
    (k : ab_W p l e R s m args below meth c Qm g L xs ml (pc + 3) lv (.ref (ab_N h) :: st) (ab_nw h x n.toNatClampNeg (fun _ => 0)) (nc + 1) (ns + n.toNatClampNeg)) : ab_W p l e R s m args below meth c Qm g L xs ml pc lv (.int n :: st) h nc ns := by
  obtain ⟨hx, hb, hml, hown, hts, hE⟩ := F
  obtain ⟨q4, hq⟩ := ab_hit_of hh
  obtain ⟨hl, hx2⟩ := of_decide_eq_true (List.all_eq_true.mp ab_ap_ok _ hq)
  have hl2 := hts _ (ab_tbi hl rfl)
  intro ls H locs hlv hR hS
  have row : ∀ (C : String) (t0 : Nat) (cy : ClassId), (Cond.classLink (ab_nm o) n0 C).before args s = true → va_AO C s → s.vm.findClass ("[" ++ (FieldType.object C).toString) = some cy → ab_ce g (ab_nw h x n.toNatClampNeg (fun _ => 0)) (ab_N h) = .inl (cy, n.toNatClampNeg, .inr (.inr (.inr (.inr (fun _ => none))))) →
      W p l e R s m args below meth c H locs nc ns Qm (F0 m pc ls (.int n :: st.map (gl_cv g))) := by
    intro C t0 cy hcl hov hcy hce
    refine W.anew hx hb hown hcl (va_AO.use hov) rfl hd rfl hn (by omega) hc1 hs1 fun cA kA comp f1 f2 f3 f4 => ?_
    have ec : cA = cy := Option.some.inj (f1.symm.trans hcy)
    subst ec
    generalize hH1 : H.push ({ cls := cA, slots := Array.replicate n.toNatClampNeg .null, vm := .none } : Cell) = H1
    have z1 : H1.size = H.size + 1 := by rw [← hH1, Array.size_push]
    have e1 : H1[H.size]? = some (arrV cA n.toNatClampNeg (fun _ => .null)) := by rw [← hH1, Array.getElem?_push_size, ← arrV_new]
    have o1 : ∀ q : Nat, q < H.size → H1[q]? = H[q]? := fun q hq => by rw [← hH1, Array.getElem?_push, if_neg (Nat.ne_of_lt hq)]
    have k' := k ls H1 locs hlv (ab_reln hR rfl (fun b hb => ab_nw_ce _ _ _ hb) (ab_wfN hR.2.2 _ _ _) ?_ z1 o1) (ab_Sn hS z1 o1)
    · rw [List.map_cons, ab_adN hR] at k'
      exact k'
    · rw [hce, ← hR.2.1]
      show H1[H.size]? = some (vp_cell _ _)
      rw [e1]
      rfl
  have hkx : ab_K (ab_nw h x n.toNatClampNeg (fun _ => 0)) (ab_N h) = x := ab_up0 _ _ _
  have hlx : ab_L (ab_nw h x n.toNatClampNeg (fun _ => 0)) (ab_N h) = n.toNatClampNeg := ab_up0 _ _ _
  have hrx : ab_R (ab_nw h x n.toNatClampNeg (fun _ => 0)) (ab_N h) = fun _ => none := ab_up0 _ _ _
  obtain ⟨hEK, -, -, -, -, -, -, -, -, -, hE11, hE12, -, -⟩ := hE
  rcases hx2 with e1 | e1
  · have e1 : x = 16 := e1
    subst e1
    obtain ⟨kA, comp, k1, k2, k3, k4⟩ := (hEK.2 3 _ rfl).2
    refine row RX1 3 (gl_cy g 3) hl2 hE11 k4 ?_
    rw [ab_ce16 hkx, hlx, hrx]
    rfl
  · have e1 : x = 17 := e1
    subst e1
    obtain ⟨kA, comp, k1, k2, k3, k4⟩ := (hEK.2 4 _ rfl).2
    refine row RX9 4 (gl_cy g 4) hl2 hE12.1 k4 ?_
    rw [ab_ce17 hkx, hlx, hrx]
    rfl
theorem ab_cst (F : ab_F p s m args c g L xs cc ml o) {n a : Nat} (hh : ab_hit ab_kc o n 13 = true) (hk : ab_K h a = 13) (hd : decode cc pc = .ok (.checkcast n, 3)) (k : ab_W p l e R s m args below meth c Qm g L xs ml (pc + 3) lv (.ref a :: st) h nc ns) : ab_W p l e R s m args below meth c Qm g L xs ml pc lv (.ref a :: st) h nc ns := by
  obtain ⟨hx, hb, hml, hown, hts, hE⟩ := F
  obtain ⟨q4, hq⟩ := ab_hit_of hh
  have hl := of_decide_eq_true (List.all_eq_true.mp ab_kc_ok _ hq)
  intro ls H locs hlv hR hS
  obtain ⟨h5, hn⟩ := ab_k0 hR.2.2 (a := a) (by rw [hk]; decide)
  have he := ab_at g h h5 hn
  rw [ab_ce13 hk] at he
  exact va_castA hx hb hown (hts _ (ab_tbi hl rfl)) hR.1 (a - 5) he (va_nm_int (hE.1.2 0 _ rfl).2) hd (k ls H locs hlv hR hS)
/-- switches -/
theorem ab_tsw (hx : p.tables.exec = Jvm.exec) (hb : c.code = cc) {d lo hi : Int} {offs : Array Int} {len x : Nat} {w : List (Int32 × Nat)} {v : Int32} {jp : Nat → Prop} (hd : decode cc pc = .ok (.tableswitch d lo hi offs, len))
    (ho1 : (pc : Int) + d = (x : Int) ∧ hi - lo + 1 = (offs.size : Int) ∧ w.length = offs.size) (ho2 : (List.range w.length).all (fun j => decide (((w.getD j (0, 0)).1).toInt = lo + (j : Int) ∧ (pc : Int) + offs.getD j 0 = ((w.getD j (0, 0)).2 : Int))) = true)
    (hs : ab_sw v x jp w) (hjp : ∀ t, jp t → ab_W p l e R s m args below meth c Qm g L xs ml t lv st h nc ns) : ab_W p l e R s m args below meth c Qm g L xs ml pc lv (.int v :: st) h nc ns := by
  intro ls H locs hlv hR hS
  have key : ∀ (j : Nat) (q : Int32 × Nat), w[j]? = some q → q.1.toInt = lo + (j : Int) ∧ offs[j]? = some (offs.getD j 0) ∧ (pc : Int) + offs.getD j 0 = (q.2 : Int) ∧ j < w.length := by
    intro j q hq
    have hl := (List.getElem?_eq_some_iff.mp hq).1
    have h1 := of_decide_eq_true (List.all_eq_true.mp ho2 j (List.mem_range.mpr hl))
    rw [List.getD_eq_getElem?_getD, hq] at h1
    refine ⟨h1.1, ?_, h1.2, hl⟩
    rw [Array.getD_eq_getD_getElem?, Array.getElem?_eq_getElem (by omega)]
    rfl
  rcases ab_swe v x jp w hs with ⟨h1, h2⟩ | ⟨j, q, h1, h2, -, h4⟩
  · refine lv_tableOut hx hb hd ?_ ho1.1 (hjp _ h2 ls H locs hlv hR hS)
    refine Decidable.or_iff_not_imp_left.mpr fun hlo => ?_
    refine Int.lt_of_not_ge fun hhi => ?_
    have hj : (v.toInt - lo).toNat < w.length := by omega
    obtain ⟨q, hq⟩ : ∃ q, w[(v.toInt - lo).toNat]? = some q := ⟨_, List.getElem?_eq_getElem hj⟩
    obtain ⟨k1, -, -, -⟩ := key _ q hq
    exact h1 q (List.mem_of_getElem? hq) (Int32.toInt_inj.mp (by rw [k1]; omega))
  · obtain ⟨k1, k2, k3, k4⟩ := key j q h1
    have hv : v.toInt = lo + (j : Int) := by rw [h2]; exact k1
    exact lv_tableIn hx hb hd (by omega) (by omega) (by rw [show (v.toInt - lo).toNat = j by omega]; exact k2) k3 (hjp _ h4 ls H locs hlv hR hS)
theorem ab_lsw (hx : p.tables.exec = Jvm.exec) (hb : c.code = cc) {d : Int} {ps : Array (Int × Int)} {len x : Nat} {w : List (Int32 × Nat)} {v : Int32} {jp : Nat → Prop} (hd : decode cc pc = .ok (.lookupswitch d ps, len))
    (ho1 : (pc : Int) + d = (x : Int) ∧ w.length = ps.toList.length ∧ (ps.toList.zip (ps.toList.drop 1)).all (fun (a, next) => a.1 < next.1) = true) (ho2 : (List.range w.length).all (fun j => decide (((w.getD j (0, 0)).1).toInt = (ps.toList.getD j (0, 0)).1 ∧ (pc : Int) + (ps.toList.getD j (0, 0)).2 = ((w.getD j (0, 0)).2 : Int))) = true)
    (hs : ab_sw v x jp w) (hjp : ∀ t, jp t → ab_W p l e R s m args below meth c Qm g L xs ml t lv st h nc ns) : ab_W p l e R s m args below meth c Qm g L xs ml pc lv (.int v :: st) h nc ns := by
  intro ls H locs hlv hR hS
  have gen : ∀ (qs : List (Int × Int)) (w : List (Int32 × Nat)), w.length = qs.length → (∀ j, j < w.length → ((w.getD j (0, 0)).1).toInt = (qs.getD j (0, 0)).1 ∧ (pc : Int) + (qs.getD j (0, 0)).2 = ((w.getD j (0, 0)).2 : Int)) → ab_sw v x jp w → ∃ (off : Int) (t : Nat), Op.lookupswitch.offset qs d v.toInt = off ∧ (pc : Int) + off = (t : Int) ∧ jp t := by
    intro qs
    induction qs with
    | nil =>
      intro w hl _ hs
      cases w with
      | nil => exact ⟨d, x, rfl, ho1.1, hs⟩
      | cons a b => cases hl
    | cons q qs ih =>
      intro w hl hw hs
      cases w with
      | nil => cases hl
      | cons a b =>
        have h0 := hw 0 (Nat.zero_lt_succ _)
        by_cases ev : v = a.1
        · refine ⟨q.2, a.2, ?_, h0.2, hs.1 ev⟩
          obtain ⟨q1, q2⟩ := q
          rw [Op.lookupswitch.offset_cons, if_pos]
          rw [ev]
          exact h0.1.symm
        · obtain ⟨off, t, e1, e2, e3⟩ := ih b (Nat.succ.inj hl) (fun j hj => hw (j + 1) (Nat.succ_lt_succ hj)) (hs.2 ev)
          obtain ⟨q1, q2⟩ := q
          refine ⟨off, t, ?_, e2, e3⟩
          rw [lv_osw (a := q1) ev h0.1]
          exact e1
  obtain ⟨off, t, e1, e2, e3⟩ := gen ps.toList w ho1.2.1 (fun j hj => of_decide_eq_true (List.all_eq_true.mp ho2 j (List.mem_range.mpr hj))) hs
  exact lv_lookup hx hb hd ho1.2.2 e1 e2 (hjp _ e3 ls H locs hlv hR hS)
end ABJ
