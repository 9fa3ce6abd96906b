/-! ===== soundness: fields, arrays, constants, switches (mine) ===== -/
theorem ab_hit_of {l : List (Nat × Nat × Nat × Nat)} {o n x : Nat} (h : ab_hit l o n x = true) : ∃ k, (o, n, x, k) ∈ l := by
  obtain ⟨q, hq, h1⟩ := List.any_eq_true.mp h
  simp only [Bool.and_eq_true] at h1
  obtain ⟨q1, q2, q3, q4⟩ := q
  have e1 := Nat.eq_of_beq_eq_true h1.1.1
  have e2 := Nat.eq_of_beq_eq_true h1.1.2
  have e3 := Nat.eq_of_beq_eq_true h1.2
  dsimp only at e1 e2 e3
  subst e1; subst e2; subst e3
  exact ⟨q4, hq⟩
theorem ab_hit5_of {l : List (Nat × Nat × Nat × Nat × Nat)} {o n x y : Nat} (h : ab_hit5 l o n x y = true) : ∃ k, (o, n, x, y, k) ∈ l := by
  obtain ⟨q, hq, h1⟩ := List.any_eq_true.mp h
  simp only [Bool.and_eq_true] at h1
  obtain ⟨q1, q2, q3, q4, q5⟩ := q
  have e1 := Nat.eq_of_beq_eq_true h1.1.1.1
  have e2 := Nat.eq_of_beq_eq_true h1.1.1.2
  have e3 := Nat.eq_of_beq_eq_true h1.1.2
  have e4 := Nat.eq_of_beq_eq_true h1.2
  dsimp only at e1 e2 e3 e4
  subst e1; subst e2; subst e3; subst e4
  exact ⟨q5, hq⟩
theorem ab_fp_in {o n x y : Nat} (h : ab_hit5 ab_fp o n x y = true) : Cond.fieldLink (ab_nm o) n (ab_T x y).1 (ab_T x y).2.1 (ab_T x y).2.2.1 ∈ ab_TB ∧ x < 13 ∧ y < (ab_fts.getD x []).length := by
  obtain ⟨k, hk⟩ := ab_hit5_of h
  have h1 := of_decide_eq_true (List.all_eq_true.mp ab_fp_ok _ hk)
  exact ⟨ab_tbi h1.1 rfl, h1.2.1, h1.2.2⟩
theorem ab_decl : ∀ ci, ci < 13 → ∀ k, k < (ab_fts.getD ci []).length → (ab_T ci k).1 = ab_nm ci := by decide +kernel
section ABH
variable {p : Program} {l : Launch} {e : Env} {R : Room} {s : State} {m : MethodId} {args : Array Value} {below : List Frame} {meth : Method} {c : Code} {Qm : State → Prop}
variable {g : Gl} {L : Nat} {xs : Nat → Int32} {ml : Nat} {cc : ByteArray} {pc : Nat} {lv : Lv} {st : List Value} {h : Hp} {nc ns : Nat} {o : Nat}
/-- the frame: the machine, the code, the class, the words, what holds of the tables at the entry -/
def ab_F (p : Program) (s : State) (m : MethodId) (args : Array Value) (c : Code) (g : Gl) (L : Nat) (xs : Nat → Int32) (cc : ByteArray) (ml o : Nat) : Prop :=
  p.tables.exec = Jvm.exec ∧ c.code = cc ∧ c.maxLocals = ml ∧ s.vm.findClass (ab_nm o) = some m.cls ∧ (∀ w ∈ ab_TB, w.before args s = true) ∧ ab_E g L xs s s.heap
theorem ab_gI (F : ab_F p s m args c g L xs cc ml o) {n x y a : Nat} (hh : ab_hit5 ab_fp o n x y = true) (hk : ab_K h a = x) (hd : decode cc pc = .ok (.getfield n, 3)) {v : Value} (hv : ab_fv g h a y ((ab_fts.getD x []).getD y 9) = gl_cv g v)
    (k : ab_W p l e R s m args below meth c Qm g L xs ml (pc + 3) lv (v :: st) h nc ns) : ab_W p l e R s m args below meth c Qm g L xs ml pc lv (.ref a :: st) h nc ns := by
  obtain ⟨hx, hb, hml, hown, hts, hE⟩ := F
  obtain ⟨hl, hx13, hy⟩ := ab_fp_in hh
  intro ls H locs hlv hR hS
  obtain ⟨h5, hn⟩ := ab_k0 hR.2.2 (a := a) (by rw [hk]; omega)
  have he := ab_at g h h5 hn
  rw [ab_ceO hx13 hk] at he
  refine va_get (C := ab_C x) (T := ab_T x) (N := (ab_fts.getD x []).length) (ref := (ab_T x y).1) hx hb hts (ab_uwT x hx13) hown hE.1 hR.1 (a - 5) he (ab_vw x hx13) y hy (hts _ hl) (fun _ q => q) (v := gl_cv g v) ?_ hd (k ls H locs hlv hR hS)
  rw [ab_fl_at _ hy, ab_getD hy, hv]
theorem ab_relw {H H1 : Heap} {h' : Hp} {a : Nat} (hR : ab_rel g L xs h H) (h5 : 5 ≤ a) (hn : a < ab_N h) (hN : ab_N h' = ab_N h) (ho : ∀ b, b ≠ a → ab_ce g h' b = ab_ce g h b) (hw : ab_wf L xs h') (hat : va_at (gl_D g) vwCl (gl_ad g a, ab_ce g h' a) H1) (z : H1.size = H.size) (oq : ∀ q, q ≠ gl_ad g a → H1[q]? = H[q]?) : ab_rel g L xs h' H1 := by
  refine ⟨?_, ?_, hw⟩
  · rw [← ab_set g h5 hn hN ho]
    exact hR.1.set (ab_D g h) (ab_at g h h5 hn) hat oq
  · rw [hN, z]
    exact hR.2.1
theorem ab_Aad (g : Gl) {a : Nat} (h5 : 5 ≤ a) : gl_A g (gl_ad g a) := by
  rw [ab_ad5 g h5]
  exact Nat.le_add_right _ _
/-- a field is written: the new heap's cell is the old one's with it -/
theorem ab_pF (F : ab_F p s m args c g L xs cc ml o) {n x y a : Nat} {ini : Bool} (hini : ini = true → meth.name = "<init>") (hh : ab_hit5 ab_fp o n x y = true) (hfin : (!(ab_T x y).2.2.2 || (ini && Nat.beq x o)) = true) (hk : ab_K h a = x) (hd : decode cc pc = .ok (.putfield n, 3)) {v : Value} {h' : Hp}
    (hn1 : narrow (ab_ty x y) (gl_cv g v) = gl_cv g v) (hn2 : fits (ab_ty x y) (gl_cv g v) = true)
    (hN : ab_N h' = ab_N h) (hK' : ∀ b, ab_K h' b = ab_K h b) (ho : ∀ b, b ≠ a → ab_ce g h' b = ab_ce g h b) (hw' : ab_wf L xs h → 5 ≤ a → ab_wf L xs h') (hset : (ab_fl g h a (ab_fts.getD x [])).set y (gl_cv g v) = ab_fl g h' a (ab_fts.getD x []))
    (k : ab_W p l e R s m args below meth c Qm g L xs ml (pc + 3) lv st h' nc ns) : ab_W p l e R s m args below meth c Qm g L xs ml pc lv (v :: .ref a :: st) h nc ns := by
  obtain ⟨hx, hb, hml, hown, hts, hE⟩ := F
  obtain ⟨hl, hx13, hy⟩ := ab_fp_in hh
  intro ls H locs hlv hR hS
  obtain ⟨h5, hn⟩ := ab_k0 hR.2.2 (a := a) (by rw [hk]; omega)
  have he := ab_at g h h5 hn
  rw [ab_ceO hx13 hk] at he
  have hin := ab_uwT x hx13
  have hty := ab_ty_ok x hx13
  have hc := ab_vw x hx13
  have hap := va_apart (own := ab_nm o) hts hin (ab_ty x) hty (ab_nm_ok x hx13) hE.1 hc
  obtain ⟨r, h1, cell, q1, q2, q3, q4⟩ := hR.1 (a - 5) _ he
  have hr : r = (ab_C x, ab_T x, (ab_fts.getD x []).length) := Option.some.inj (h1.symm.trans hc)
  subst hr
  obtain ⟨hSl, hfc, kC, hkC, hkind⟩ := hE.1.1 x _ hc
  obtain ⟨cf, kf, fi, f, hi, hsl⟩ := hSl y hy
  have hlay := hts _ (hin _ (u_in_lay hy))
  unfold u_lay at hlay
  have hst := (u_facts hfc hkC (u_lays hts hin hy) hi).1
  have fin : ∀ H' : Heap, H'[gl_ad g a]? = some (cell.setSlot f.slot (gl_cv g v)) → H'.size = H.size → (∀ q, q ≠ gl_ad g a → H'[q]? = H[q]?) → W p l e R s m args below meth c H' (locs ++ [⟨gl_ad g a, f.slot⟩]) nc ns Qm (F0 m (pc + 3) ls (st.map (gl_cv g))) := by
    intro H' e1 e2 e3
    rw [hsl] at e1
    refine k ls H' _ hlv (ab_relw hR h5 hn hN ho (hw' hR.2.2 h5) ?_ e2 e3) (hS.put e2 e3 (ab_Aad g h5))
    rw [ab_ceO hx13 ((hK' a).trans hk), ← hset]
    exact ⟨_, hc, t_OB.to (V := updV (vp_V (ab_fl g h a (ab_fts.getD x []))) y (gl_cv g v)) ⟨_, e1, q2, q3, t_set q4 hap hy _⟩ (fun j _ => vp_updV_set (by rw [ab_fl_len]; exact hy) _ j)⟩
  cases hf : (ab_T x y).2.2.2 with
  | false =>
    rw [if_neg (by rw [hf]; decide)] at hlay
    have h6 := u_store hfc hkC hkind hlay hi (hty y hy) hn1 hn2
    exact W.putK hx hb (f := f) ⟨hown, hts _ hl, ⟨_, _, _, hi⟩, hst⟩ (by rw [q2]; exact h6) q1 q3 (by rw [hsl]; exact k2_hasslot (q4 y hy)) rfl rfl hd fin
  | true =>
    rw [if_pos hf] at hlay
    rw [hf] at hfin
    have hfin2 : (ini && Nat.beq x o) = true := hfin
    have hio := Bool.and_eq_true_iff.mp hfin2
    have hxo : x = o := Nat.eq_of_beq_eq_true hio.2
    have hcf : m.cls = cf := by
      obtain ⟨_, _, c', _, _, _, -, -, hf', -, -, -, hown2, -⟩ := Cond.laysFinal_spec hlay
      have e1 : c' = cf := by have := hi.symm.trans hf'; simp at this; exact this.1.symm
      have hdecl : (ab_T x y).1 = ab_nm o := by rw [← hxo]; exact ab_decl x hx13 y hy
      rw [hdecl] at hown2
      rw [← e1]; exact Option.some.inj (hown.symm.trans hown2)
    have h6 := u_fits hfc hkC hkind (Or.inr hlay) hi (hty y hy) hn1 hn2
    exact W.putFinK hx hb hown (hts _ hl) hi hst hcf (hini hio.1) (by rw [q2]; exact h6) q1 q3 (by rw [hsl]; exact k2_hasslot (q4 y hy)) rfl rfl hd fin
/-- an int row is read -/
theorem ab_ial (F : ab_F p s m args c g L xs cc ml o) {a : Nat} {j : Int32} (hk : ab_K h a = 13) (hj : vp_in j (ab_L h a)) (hd : decode cc pc = .ok (.iaload, 1)) (k : ab_W p l e R s m args below meth c Qm g L xs ml (pc + 1) lv (.int (ab_I h a j.toNatClampNeg) :: st) h nc ns) : ab_W p l e R s m args below meth c Qm g L xs ml pc lv (.int j :: .ref a :: st) h nc ns := by
  obtain ⟨hx, hb, hml, hown, hts, hE⟩ := F
  intro ls H locs hlv hR hS
  obtain ⟨h5, hn⟩ := ab_k0 hR.2.2 (a := a) (by rw [hk]; decide)
  have he := ab_at g h h5 hn
  rw [ab_ce13 hk] at he
  exact va_iald hx hb hE.1 hR.1 (a - 5) 0 he rfl hj hd (k ls H locs hlv hR hS)
theorem ab_ialS (F : ab_F p s m args c g L xs cc ml o) {a : Nat} {j : Int32} (ha : a = 0) (hj : vp_in j (ab_L h a)) (hd : decode cc pc = .ok (.iaload, 1)) (k : ab_W p l e R s m args below meth c Qm g L xs ml (pc + 1) lv (.int (ab_I h a j.toNatClampNeg) :: st) h nc ns) : ab_W p l e R s m args below meth c Qm g L xs ml pc lv (.int j :: .ref a :: st) h nc ns := by
  obtain ⟨hx, hb, hml, hown, hts, hE⟩ := F
  intro ls H locs hlv hR hS
  subst ha
  obtain ⟨e1, e2, e3, e4⟩ := hR.2.2.2.1 0 (by decide)
  have k' := k ls H locs hlv hR hS
  rw [e3] at k'
  rw [e2] at hj
  obtain ⟨-, hX, hlt, -, -, -, -, -, -, -, -, -, hsz, -⟩ := hE
  exact va_sld hx hb hX (Nat.lt_of_lt_of_le hlt hsz) (Nat.not_le.mpr hlt) hS hj hd k'
theorem ab_zal (F : ab_F p s m args c g L xs cc ml o) {a : Nat} {j : Int32} (hk : ab_K h a = 15) (hj : vp_in j (ab_L h a)) (hd : decode cc pc = .ok (.baload, 1)) (k : ab_W p l e R s m args below meth c Qm g L xs ml (pc + 1) lv (.int (ab_I h a j.toNatClampNeg) :: st) h nc ns) : ab_W p l e R s m args below meth c Qm g L xs ml pc lv (.int j :: .ref a :: st) h nc ns := by
  obtain ⟨hx, hb, hml, hown, hts, hE⟩ := F
  intro ls H locs hlv hR hS
  obtain ⟨h5, hn⟩ := ab_k0 hR.2.2 (a := a) (by rw [hk]; decide)
  have he := ab_at g h h5 hn
  rw [ab_ce15 hk] at he
  exact va_zald hx hb hE.1 hR.1 (a - 5) 2 he rfl hj hd (k ls H locs hlv hR hS)
theorem ab_lal (F : ab_F p s m args c g L xs cc ml o) {a : Nat} {j : Int32} (hk : ab_K h a = 14) (hj : vp_in j (ab_L h a)) (hd : decode cc pc = .ok (.laload, 1)) (k : ab_W p l e R s m args below meth c Qm g L xs ml (pc + 1) lv (.long (ab_J h a j.toNatClampNeg) :: st) h nc ns) : ab_W p l e R s m args below meth c Qm g L xs ml pc lv (.int j :: .ref a :: st) h nc ns := by
  obtain ⟨hx, hb, hml, hown, hts, hE⟩ := F
  intro ls H locs hlv hR hS
  obtain ⟨h5, hn⟩ := ab_k0 hR.2.2 (a := a) (by rw [hk]; decide)
  have he := ab_at g h h5 hn
  rw [ab_ce14 hk] at he
  exact va_lald hx hb hE.1 hR.1 (a - 5) 1 he rfl hj hd (k ls H locs hlv hR hS)
theorem ab_ist (F : ab_F p s m args c g L xs cc ml o) {a : Nat} {j v : Int32} (hk : ab_K h a = 13) (hj : vp_in j (ab_L h a)) (hd : decode cc pc = .ok (.iastore, 1)) (k : ab_W p l e R s m args below meth c Qm g L xs ml (pc + 1) lv st (ab_sI h a j.toNatClampNeg v) nc ns) : ab_W p l e R s m args below meth c Qm g L xs ml pc lv (.int v :: .int j :: .ref a :: st) h nc ns := by
  obtain ⟨hx, hb, hml, hown, hts, hE⟩ := F
  intro ls H locs hlv hR hS
  obtain ⟨h5, hn⟩ := ab_k0 hR.2.2 (a := a) (by rw [hk]; decide)
  have he := ab_at g h h5 hn
  rw [ab_ce13 hk] at he
  refine W.iast hx hb (hR.1 (a - 5) _ he) ((hE.1.2 0 _ rfl).1 _ _) (fun q => by cases q) (by show ¬ (j < 0 ∨ (arrV _ _ _).slots.size ≤ _); rw [arrV_size]; exact hj) rfl rfl hd fun H1 e1 z oq => ?_
  refine k ls H1 _ hlv (ab_relw hR h5 hn rfl (fun b hb => ab_ce_eq rfl rfl (va_up_ne _ _ hb) rfl rfl) (ab_wfI hR.2.2 h5 _ _) ?_ z oq) (hS.put z oq (ab_Aad g h5))
  rw [ab_ce13 (show ab_K (ab_sI h a j.toNatClampNeg v) a = 13 from hk)]
  show H1[gl_ad g a]? = some (vp_cell _ _)
  rw [e1, vp_cell_i, vp_cell_i, arrV_store]
  congr 2
  funext q
  show updV (fun q => Value.int (ab_I h a q)) j.toNatClampNeg (.int v) q = .int (va_up h.2.2.1 a (upd (h.2.2.1 a) j.toNatClampNeg v) a q)
  by_cases hq : q = j.toNatClampNeg
  · subst hq
    simp [updV, upd, va_up]
  · simp [updV, upd, va_up, hq]
theorem ab_zst (F : ab_F p s m args c g L xs cc ml o) {a : Nat} {j v : Int32} (hk : ab_K h a = 15) (hj : vp_in j (ab_L h a)) (hd : decode cc pc = .ok (.bastore, 1)) (k : ab_W p l e R s m args below meth c Qm g L xs ml (pc + 1) lv st (ab_sI h a j.toNatClampNeg (v &&& 1)) nc ns) : ab_W p l e R s m args below meth c Qm g L xs ml pc lv (.int v :: .int j :: .ref a :: st) h nc ns := by
  obtain ⟨hx, hb, hml, hown, hts, hE⟩ := F
  intro ls H locs hlv hR hS
  obtain ⟨h5, hn⟩ := ab_k0 hR.2.2 (a := a) (by rw [hk]; decide)
  have he := ab_at g h h5 hn
  rw [ab_ce15 hk] at he
  refine W.zast hx hb (hR.1 (a - 5) _ he) ((hE.1.2 2 _ rfl).1 _ _) (fun q => by cases q) (by show ¬ (j < 0 ∨ (arrV _ _ _).slots.size ≤ _); rw [arrV_size]; exact hj) rfl rfl hd fun H1 e1 z oq => ?_
  refine k ls H1 _ hlv (ab_relw hR h5 hn rfl (fun b hb => ab_ce_eq rfl rfl (va_up_ne _ _ hb) rfl rfl) (ab_wfI hR.2.2 h5 _ _) ?_ z oq) (hS.put z oq (ab_Aad g h5))
  rw [ab_ce15 (show ab_K (ab_sI h a j.toNatClampNeg (v &&& 1)) a = 15 from hk)]
  show H1[gl_ad g a]? = some (vp_cell _ _)
  rw [e1, vp_cell_i, vp_cell_i, arrV_store]
  congr 2
  funext q
  show updV (fun q => Value.int (ab_I h a q)) j.toNatClampNeg (.int (v &&& 1)) q = .int (va_up h.2.2.1 a (upd (h.2.2.1 a) j.toNatClampNeg (v &&& 1)) a q)
  by_cases hq : q = j.toNatClampNeg
  · subst hq
    simp [updV, upd, va_up]
  · simp [updV, upd, va_up, hq]
theorem ab_lst (F : ab_F p s m args c g L xs cc ml o) {a : Nat} {j : Int32} {v : Int64} (hk : ab_K h a = 14) (hj : vp_in j (ab_L h a)) (hd : decode cc pc = .ok (.lastore, 1)) (k : ab_W p l e R s m args below meth c Qm g L xs ml (pc + 1) lv st (ab_sJ h a j.toNatClampNeg v) nc ns) : ab_W p l e R s m args below meth c Qm g L xs ml pc lv (.long v :: .int j :: .ref a :: st) h nc ns := by
  obtain ⟨hx, hb, hml, hown, hts, hE⟩ := F
  intro ls H locs hlv hR hS
  obtain ⟨h5, hn⟩ := ab_k0 hR.2.2 (a := a) (by rw [hk]; decide)
  have he := ab_at g h h5 hn
  rw [ab_ce14 hk] at he
  refine W.last hx hb (hR.1 (a - 5) _ he) ((hE.1.2 1 _ rfl).1 _ _) (fun q => by cases q) (by show ¬ (j < 0 ∨ (arrV _ _ _).slots.size ≤ _); rw [arrV_size]; exact hj) rfl rfl hd fun H1 e1 z oq => ?_
  refine k ls H1 _ hlv (ab_relw hR h5 hn rfl (fun b hb => ab_ce_eq rfl rfl rfl (va_up_ne _ _ hb) rfl) (ab_wfJ hR.2.2 _ _) ?_ z oq) (hS.put z oq (ab_Aad g h5))
  rw [ab_ce14 (show ab_K (ab_sJ h a j.toNatClampNeg v) a = 14 from hk)]
  show H1[gl_ad g a]? = some (vp_cell _ _)
  rw [e1, vp_cell_l, vp_cell_l, arrV_store]
  congr 2
  funext q
  show updV (fun q => Value.long (ab_J h a q)) j.toNatClampNeg (.long v) q = .long (va_up h.2.2.2.1 a (vp_updL (h.2.2.2.1 a) j.toNatClampNeg v) a q)
  by_cases hq : q = j.toNatClampNeg
  · subst hq
    simp [updV, vp_updL, va_up]
  · simp [updV, vp_updL, va_up, hq]
end ABH
