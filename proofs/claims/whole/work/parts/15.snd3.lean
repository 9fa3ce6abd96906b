/-! ===== soundness: rows of references, lengths, texts, constants, makings (mine) ===== -/
section ABI
variable {p : Program} {l : Launch} {e : Env} {R : Room} {s : State} {m : MethodId} {args : Array Value} {below : List Frame} {meth : Method} {c : Code} {Qm : State → Prop}
variable {g : Gl} {L : Nat} {xs : Nat → Int32} {ml : Nat} {cc : ByteArray} {pc : Nat} {lv : Lv} {st : List Value} {h : Hp} {nc ns : Nat} {o : Nat}
theorem ab_kro {H : Heap} (hR : ab_rel g L xs h H) {a k : Nat} (hk : ab_K h a = k) (h19 : 19 ≤ k) (h21 : k ≤ 21) : a < 5 := by
  refine Nat.lt_of_not_le fun h5 => ?_
  by_cases hn : a < ab_N h
  · have h1 := hR.1 (a - 5) _ (ab_at g h h5 hn)
    have e1 : ab_ce g h a = .inr (k, ab_fl g h a (ab_fts.getD k [])) := by
      unfold ab_ce
      rw [hk]
      rcases (show k = 19 ∨ k = 20 ∨ k = 21 by omega) with rfl | rfl | rfl <;> rfl
    rw [e1] at h1
    obtain ⟨r, hr, -⟩ := h1
    rw [List.getElem?_eq_none (by show 13 ≤ k; omega)] at hr
    cases hr
  · have := hR.2.2.2.2 a (by omega)
    rw [hk] at this
    omega
theorem ab_k19 {H : Heap} (hR : ab_rel g L xs h H) {a : Nat} (hk : ab_K h a = 19) : a = 0 := by
  have h5 := ab_kro hR hk (by omega) (by omega)
  rw [(hR.2.2.2.1 a h5).1] at hk
  rcases (show a = 0 ∨ a = 1 ∨ a = 2 ∨ a = 3 ∨ a = 4 by omega) with rfl | rfl | rfl | rfl | rfl <;> first | rfl | exact absurd (show (20 : Nat) = 19 from hk) (by decide) | exact absurd (show (21 : Nat) = 19 from hk) (by decide)
theorem ab_k20 {H : Heap} (hR : ab_rel g L xs h H) {a : Nat} (hk : ab_K h a = 20) : ∃ i, i < 2 ∧ a = 2 * i + 1 := by
  have h5 := ab_kro hR hk (by omega) (by omega)
  rw [(hR.2.2.2.1 a h5).1] at hk
  rcases (show a = 0 ∨ a = 1 ∨ a = 2 ∨ a = 3 ∨ a = 4 by omega) with rfl | rfl | rfl | rfl | rfl <;> first | exact ⟨0, by decide, rfl⟩ | exact ⟨1, by decide, rfl⟩ | exact absurd (show (19 : Nat) = 20 from hk) (by decide) | exact absurd (show (21 : Nat) = 20 from hk) (by decide)
theorem ab_k21 {H : Heap} (hR : ab_rel g L xs h H) {a : Nat} (hk : ab_K h a = 21) : ∃ i, i < 2 ∧ a = 2 * i + 2 := by
  have h5 := ab_kro hR hk (by omega) (by omega)
  rw [(hR.2.2.2.1 a h5).1] at hk
  rcases (show a = 0 ∨ a = 1 ∨ a = 2 ∨ a = 3 ∨ a = 4 by omega) with rfl | rfl | rfl | rfl | rfl <;> first | exact ⟨0, by decide, rfl⟩ | exact ⟨1, by decide, rfl⟩ | exact absurd (show (19 : Nat) = 21 from hk) (by decide) | exact absurd (show (20 : Nat) = 21 from hk) (by decide)
theorem ab_ad_lo (g : Gl) {a : Nat} (h : a < 5) : gl_ad g a = gl_r g a := by
  unfold gl_ad
  rw [if_pos h]
/-- a reference off a row -/
theorem ab_aal (F : ab_F p s m args c g L xs cc ml o) {a x : Nat} {j : Int32} (hx3 : (Nat.beq x 16 || Nat.beq x 17 || Nat.beq x 18) = true) (hk : ab_K h a = x) (hj : vp_in j (ab_L h a)) (hd : decode cc pc = .ok (.aaload, 1))
    (k0 : ab_R h a j.toNatClampNeg = none → ab_W p l e R s m args below meth c Qm g L xs ml (pc + 1) lv (.null :: st) h nc ns) (k1 : ∀ b, ab_R h a j.toNatClampNeg = some b → ab_W p l e R s m args below meth c Qm g L xs ml (pc + 1) lv (.ref b :: st) h nc ns) : ab_W p l e R s m args below meth c Qm g L xs ml pc lv (.int j :: .ref a :: st) h nc ns := by
  obtain ⟨hx, hb, hml, hown, hts, hE⟩ := F
  intro ls H locs hlv hR hS
  have hx18 : x ≤ 18 ∧ (x = 16 ∨ x = 17 ∨ x = 18) := by
    simp only [Bool.or_eq_true] at hx3
    rcases hx3 with (h1 | h1) | h1 <;> have := Nat.eq_of_beq_eq_true h1 <;> omega
  obtain ⟨h5, hn⟩ := ab_k0 hR.2.2 (a := a) (by rw [hk]; exact hx18.1)
  have he := ab_at g h h5 hn
  have kk : W p l e R s m args below meth c H locs nc ns Qm (F0 m (pc + 1) ls (va_rf ((ab_R h a j.toNatClampNeg).map (gl_ad g)) :: st.map (gl_cv g))) := by
    cases hr : ab_R h a j.toNatClampNeg with
    | none => exact k0 hr ls H locs hlv hR hS
    | some b => exact k1 b hr ls H locs hlv hR hS
  have hlt : j.toNatClampNeg < ab_L h a := Nat.not_le.mp fun q => hj (Or.inr q)
  have row : ∀ (cA : ClassId) (ty : FieldType) (t0 : Nat), (ab_tys g)[t0]? = some (cA, ty) → ty.isReference = true → ab_ce g h a = .inl (cA, ab_L h a, .inr (.inr (.inr (.inr (fun k => (ab_R h a k).map (gl_ad g)))))) → W p l e R s m args below meth c H locs nc ns Qm (F0 m pc ls (.int j :: .ref (gl_ad g a) :: st.map (gl_cv g))) := by
    intro cA ty t0 ht href hce
    rw [hce] at he
    exact W.aald (v := va_rf ((ab_R h a j.toNatClampNeg).map (gl_ad g))) (ty := ty) hx hb (hR.1 (a - 5) _ he) ((hE.1.2 t0 _ ht).1 _ (fun q => va_rf ((ab_R h a q).map (gl_ad g)))) href (fun q => by cases q) (by show ¬ (j < 0 ∨ (arrV _ _ _).slots.size ≤ _); rw [arrV_size]; exact hj) (by show (arrV _ _ _).slots[_]? = _; rw [arrV_read _ _ hlt]) rfl rfl hd kk
  rcases hx18.2 with rfl | rfl | rfl
  · exact row _ _ 3 rfl rfl (ab_ce16 hk)
  · exact row _ _ 4 rfl rfl (ab_ce17 hk)
  · exact row _ _ 5 rfl rfl (ab_ce18 hk)
/-- a reference into a row -/
theorem ab_ast (F : ab_F p s m args c g L xs cc ml o) {a b x y : Nat} {j : Int32} (hxy : ((Nat.beq x 16 && Nat.beq y 1) || (Nat.beq x 17 && Nat.beq y 9)) = true) (hk : ab_K h a = x) (hj : vp_in j (ab_L h a)) (hkb : ab_K h b = y) (hd : decode cc pc = .ok (.aastore, 1))
    (k : ab_W p l e R s m args below meth c Qm g L xs ml (pc + 1) lv st (ab_sR h a j.toNatClampNeg (some b)) nc ns) : ab_W p l e R s m args below meth c Qm g L xs ml pc lv (.ref b :: .int j :: .ref a :: st) h nc ns := by
  obtain ⟨hx, hb, hml, hown, hts, hE⟩ := F
  intro ls H locs hlv hR hS
  have hq : (x = 16 ∧ y = 1) ∨ (x = 17 ∧ y = 9) := by
    simp only [Bool.or_eq_true, Bool.and_eq_true] at hxy
    rcases hxy with ⟨h1, h2⟩ | ⟨h1, h2⟩ <;> have := Nat.eq_of_beq_eq_true h1 <;> have := Nat.eq_of_beq_eq_true h2 <;> omega
  obtain ⟨h5, hn⟩ := ab_k0 hR.2.2 (a := a) (by omega)
  obtain ⟨h5b, hnb⟩ := ab_k0 hR.2.2 (a := b) (by omega)
  have he := ab_at g h h5 hn
  have hv := ab_at g h h5b hnb
  have hlt : j.toNatClampNeg < ab_L h a := Nat.not_le.mp fun q => hj (Or.inr q)
  have h0 : ¬ j < 0 := fun q => hj (Or.inl q)
  have hy13 : y < 13 := by omega
  rw [ab_ceO hy13 hkb] at hv
  obtain ⟨r', hr', cellV, g1, g2, g3, -⟩ := hR.1 (b - 5) _ hv
  have hcls := (hE.1.1 y _ (ab_vw y hy13)).2
  have row : ∀ (cA : ClassId) (t0 : Nat), (ab_tys g)[t0]? = some (cA, .object (ab_C y)) → (∀ h' : Hp, ab_K h' a = x → ab_ce g h' a = .inl (cA, ab_L h' a, .inr (.inr (.inr (.inr (fun k => (ab_R h' a k).map (gl_ad g))))))) → W p l e R s m args below meth c H locs nc ns Qm (F0 m pc ls (.ref (gl_ad g b) :: .int j :: .ref (gl_ad g a) :: st.map (gl_cv g))) := by
    intro cA t0 ht hce
    rw [hce h hk] at he
    obtain ⟨kA, comp, k1, k2, k3, -⟩ := (hE.1.2 t0 _ ht).2
    have hcomp : comp = (gl_D g).1 y := Option.some.inj (k3.symm.trans hcls.1)
    subst hcomp
    obtain ⟨kC, hkC, -⟩ := hcls.2
    refine W.aast hx hb (hR.1 (a - 5) _ he) (fun q h => by cases h) (fun h => by cases h) k1 k2 rfl hkC ⟨h0, by show _ < (arrV _ _ _).slots.size; rw [arrV_size]; exact hlt⟩ g1 (fun q h => by rw [g3] at h; cases h) (by rw [g2]; exact hkC) (by rw [g2]; exact va_assign hcls) rfl rfl hd fun H1 e1 z oq => ?_
    refine k ls H1 _ hlv (ab_relw hR h5 hn rfl (fun q hq => ab_ce_eq rfl rfl rfl rfl (va_up_ne _ _ hq)) (ab_wfR hR.2.2 h5 _ _) ?_ z oq) (hS.put z oq (ab_Aad g h5))
    rw [hce (ab_sR h a j.toNatClampNeg (some b)) hk]
    show H1[gl_ad g a]? = some (vp_cell _ _)
    rw [e1, vp_cell_q, vp_cell_q, arrV_store]
    congr 2
    funext q
    show updV (fun q => va_rf ((ab_R h a q).map (gl_ad g))) j.toNatClampNeg (.ref (gl_ad g b)) q = va_rf (((va_up h.2.2.2.2.1 a (va_up (h.2.2.2.2.1 a) j.toNatClampNeg (some b))) a q).map (gl_ad g))
    by_cases hq : q = j.toNatClampNeg
    · subst hq
      simp [updV, va_up, va_rf]
    · simp [updV, va_up, hq]
  rcases hq with ⟨rfl, rfl⟩ | ⟨rfl, rfl⟩
  · exact row _ 3 rfl (fun h' hk' => ab_ce16 hk')
  · exact row _ 4 rfl (fun h' hk' => ab_ce17 hk')
theorem ab_astN (F : ab_F p s m args c g L xs cc ml o) {a x y : Nat} {j : Int32} (hxy : ((Nat.beq x 16 && Nat.beq y 1) || (Nat.beq x 17 && Nat.beq y 9)) = true) (hk : ab_K h a = x) (hj : vp_in j (ab_L h a)) (hd : decode cc pc = .ok (.aastore, 1))
    (k : ab_W p l e R s m args below meth c Qm g L xs ml (pc + 1) lv st (ab_sR h a j.toNatClampNeg none) nc ns) : ab_W p l e R s m args below meth c Qm g L xs ml pc lv (.null :: .int j :: .ref a :: st) h nc ns := by
  obtain ⟨hx, hb, hml, hown, hts, hE⟩ := F
  intro ls H locs hlv hR hS
  have hq : (x = 16 ∧ y = 1) ∨ (x = 17 ∧ y = 9) := by
    simp only [Bool.or_eq_true, Bool.and_eq_true] at hxy
    rcases hxy with ⟨h1, h2⟩ | ⟨h1, h2⟩ <;> have := Nat.eq_of_beq_eq_true h1 <;> have := Nat.eq_of_beq_eq_true h2 <;> omega
  obtain ⟨h5, hn⟩ := ab_k0 hR.2.2 (a := a) (by omega)
  have he := ab_at g h h5 hn
  have row : ∀ (cA : ClassId) (C : String) (t0 : Nat), (ab_tys g)[t0]? = some (cA, .object C) → (∀ h' : Hp, ab_K h' a = x → ab_ce g h' a = .inl (cA, ab_L h' a, .inr (.inr (.inr (.inr (fun k => (ab_R h' a k).map (gl_ad g))))))) → W p l e R s m args below meth c H locs nc ns Qm (F0 m pc ls (.null :: .int j :: .ref (gl_ad g a) :: st.map (gl_cv g))) := by
    intro cA C t0 ht hce
    rw [hce h hk] at he
    refine va_WaastN (C := C) hx hb (hR.1 (a - 5) _ he) ((hE.1.2 t0 _ ht).1 _ (fun q => va_rf ((ab_R h a q).map (gl_ad g)))) (fun h => by cases h) (by show ¬ (j < 0 ∨ (arrV _ _ _).slots.size ≤ _); rw [arrV_size]; exact hj) rfl rfl hd fun H1 e1 z oq => ?_
    refine k ls H1 _ hlv (ab_relw hR h5 hn rfl (fun q hq => ab_ce_eq rfl rfl rfl rfl (va_up_ne _ _ hq)) (ab_wfR hR.2.2 h5 _ _) ?_ z oq) (hS.put z oq (ab_Aad g h5))
    rw [hce (ab_sR h a j.toNatClampNeg none) hk]
    show H1[gl_ad g a]? = some (vp_cell _ _)
    rw [e1, vp_cell_q, vp_cell_q, arrV_store]
    congr 2
    funext q
    show updV (fun q => va_rf ((ab_R h a q).map (gl_ad g))) j.toNatClampNeg .null q = va_rf (((va_up h.2.2.2.2.1 a (va_up (h.2.2.2.2.1 a) j.toNatClampNeg none)) a q).map (gl_ad g))
    by_cases hq : q = j.toNatClampNeg
    · subst hq
      simp [updV, va_up, va_rf]
    · simp [updV, va_up, hq]
  rcases hq with ⟨rfl, rfl⟩ | ⟨rfl, rfl⟩
  · exact row _ _ 3 rfl (fun h' hk' => ab_ce16 hk')
  · exact row _ _ 4 rfl (fun h' hk' => ab_ce17 hk')
/-- lengths -/
theorem ab_aln (F : ab_F p s m args c g L xs cc ml o) {a x : Nat} (hx3 : (Nat.beq x 13 || Nat.beq x 19 || Nat.beq x 21) = true) (hk : ab_K h a = x) (hd : decode cc pc = .ok (.arraylength, 1))
    (k : ab_W p l e R s m args below meth c Qm g L xs ml (pc + 1) lv (.int (Int32.ofNat (ab_L h a)) :: st) h nc ns) : ab_W p l e R s m args below meth c Qm g L xs ml pc lv (.ref a :: st) h nc ns := by
  obtain ⟨hx, hb, hml, hown, hts, hE⟩ := F
  intro ls H locs hlv hR hS
  have k' := k ls H locs hlv hR hS
  simp only [Bool.or_eq_true] at hx3
  rcases hx3 with (h1 | h1) | h1 <;> have e1 := Nat.eq_of_beq_eq_true h1 <;> subst e1
  · obtain ⟨h5, hn⟩ := ab_k0 hR.2.2 (a := a) (by rw [hk]; decide)
    have he := ab_at g h h5 hn
    rw [ab_ce13 hk] at he
    exact va_alen hx hb hE.1 hR.1 (a - 5) 0 he rfl rfl hd k'
  · have ha := ab_k19 hR hk
    subst ha
    obtain ⟨e1, e2, e3, e4⟩ := hR.2.2.2.1 0 (by decide)
    rw [e2] at k'
    obtain ⟨-, hX, hlt, -, -, -, -, -, -, -, -, -, hsz, -⟩ := hE
    exact va_slen hx hb hX (Nat.lt_of_lt_of_le hlt hsz) (Nat.not_le.mpr hlt) hS hd k'
  · obtain ⟨i, hi, ha⟩ := ab_k21 hR hk
    subst ha
    obtain ⟨e1, e2, e3, e4⟩ := hR.2.2.2.1 (2 * i + 2) (by omega)
    rw [e2] at k'
    obtain ⟨-, -, -, hSt, -⟩ := hE
    obtain ⟨cell, t1, t2, t3, t4, t5, t6, t7⟩ := (hSt.1 i hi).2.2.2
    have ead : gl_cv g (.ref (2 * i + 2)) = .ref (ab_adV g i) := by
      show Value.ref (gl_ad g (2 * i + 2)) = _
      rw [ab_ad_lo g (by omega)]
      rfl
    have elen : ab_L (ab_h0 L xs) (2 * i + 2) = ab_lens.getD i 0 := by
      rcases (show i = 0 ∨ i = 1 by omega) with rfl | rfl <;> rfl
    rw [elen] at k'
    rw [List.map_cons, ead]
    exact W.alen (n := Int32.ofNat (ab_lens.getD i 0)) hx hb (by rw [hS.2.1 _ (Array.getElem?_eq_some_iff.mp t1).1 t7]; exact t1) t2 t5 rfl rfl hd k'
/-- a text's bytes -/
theorem ab_bal (F : ab_F p s m args c g L xs cc ml o) {a : Nat} {j : Int32} (hk : ab_K h a = 21) (hj : vp_in j (ab_L h a)) (hd : decode cc pc = .ok (.baload, 1)) (k : ab_W p l e R s m args below meth c Qm g L xs ml (pc + 1) lv (.int (ab_I h a j.toNatClampNeg) :: st) h nc ns) : ab_W p l e R s m args below meth c Qm g L xs ml pc lv (.int j :: .ref a :: st) h nc ns := by
  obtain ⟨hx, hb, hml, hown, hts, hE⟩ := F
  intro ls H locs hlv hR hS
  have k' := k ls H locs hlv hR hS
  obtain ⟨i, hi, ha⟩ := ab_k21 hR hk
  subst ha
  obtain ⟨e1, e2, e3, e4⟩ := hR.2.2.2.1 (2 * i + 2) (by omega)
  rw [e3] at k'
  rw [e2] at hj
  obtain ⟨-, -, -, hSt, -⟩ := hE
  obtain ⟨cell, t1, t2, t3, t4, t5, t6, t7⟩ := (hSt.1 i hi).2.2.2
  have ead : gl_cv g (.ref (2 * i + 2)) = .ref (ab_adV g i) := by
    show Value.ref (gl_ad g (2 * i + 2)) = _
    rw [ab_ad_lo g (by omega)]
    rfl
  have elen : ab_L (ab_h0 L xs) (2 * i + 2) = ab_lens.getD i 0 := by
    rcases (show i = 0 ∨ i = 1 by omega) with rfl | rfl <;> rfl
  have eb : ∀ q, ab_I (ab_h0 L xs) (2 * i + 2) q = ([ab_b0, ab_b1].getD i []).getD q 0 := by
    intro q
    rcases (show i = 0 ∨ i = 1 by omega) with rfl | rfl <;> rfl
  rw [elen] at hj
  rw [eb] at k'
  have hlt : j.toNatClampNeg < ab_lens.getD i 0 := Nat.not_le.mp fun q => hj (Or.inr q)
  show W p l e R s m args below meth c H locs nc ns Qm (F0 m pc ls (.int j :: gl_cv g (.ref (2 * i + 2)) :: st.map (gl_cv g)))
  rw [ead]
  exact W.bald (v := .int (([ab_b0, ab_b1].getD i []).getD j.toNatClampNeg 0)) hx hb (by rw [hS.2.1 _ (Array.getElem?_eq_some_iff.mp t1).1 t7]; exact t1) t2 t3 (fun q => by
    rcases q with q | q
    · exact hj (Or.inl q)
    · omega) (t6 _ hlt) rfl rfl hd k'
/-- a text's fields -/
theorem ab_gS (F : ab_F p s m args c g L xs cc ml o) {n y a : Nat} (ho : o = 20) (hn : (n = 9 ∧ y = 0) ∨ (n = 15 ∧ y = 1)) (hk : ab_K h a = 20) (hd : decode cc pc = .ok (.getfield n, 3)) {v : Value} (hv : (y = 0 ∧ ∃ b, ab_R h a 0 = some b ∧ v = .ref b) ∨ (y = 1 ∧ v = .int (ab_I h a 1)))
    (k : ab_W p l e R s m args below meth c Qm g L xs ml (pc + 3) lv (v :: st) h nc ns) : ab_W p l e R s m args below meth c Qm g L xs ml pc lv (.ref a :: st) h nc ns := by
  obtain ⟨hx, hb, hml, hown, hts, hE⟩ := F
  intro ls H locs hlv hR hS
  have k' := k ls H locs hlv hR hS
  obtain ⟨i, hi, ha⟩ := ab_k20 hR hk
  subst ha
  subst ho
  obtain ⟨e1, e2, e3, e4⟩ := hR.2.2.2.1 (2 * i + 1) (by omega)
  obtain ⟨-, -, -, hSt, -⟩ := hE
  have ead : gl_cv g (.ref (2 * i + 1)) = .ref (ab_adK g i) := by
    show Value.ref (gl_ad g (2 * i + 1)) = _
    rw [ab_ad_lo g (by omega)]
    rfl
  rw [List.map_cons] at k'
  rw [List.map_cons, ead]
  rcases hn with ⟨rfl, rfl⟩ | ⟨rfl, rfl⟩
  · rcases hv with ⟨-, b, hb1, rfl⟩ | ⟨h1, -⟩
    · rw [e4] at hb1
      have eb : b = 2 * i + 2 := by
        rcases (show i = 0 ∨ i = 1 by omega) with rfl | rfl <;> exact (Option.some.inj hb1).symm
      subst eb
      have eav : gl_cv g (.ref (2 * i + 2)) = .ref (ab_adV g i) := by
        show Value.ref (gl_ad g (2 * i + 2)) = _
        rw [ab_ad_lo g (by omega)]
        rfl
      rw [eav] at k'
      exact vk_getf hx hb (hSt.1 i hi).2.2.1 hS hown (hts (.fieldLink RJ0 9 "java/lang/String" "value" "[B") (ab_tb (by decide +kernel) rfl)) (fun _ q => q) hd k'
    · exact absurd h1 (by decide)
  · rcases hv with ⟨h1, -⟩ | ⟨-, rfl⟩
    · exact absurd h1 (by decide)
    · rw [e3] at k'
      have e0 : ab_I (ab_h0 L xs) (2 * i + 1) 1 = 0 := by
        rcases (show i = 0 ∨ i = 1 by omega) with rfl | rfl <;> rfl
      rw [e0] at k'
      exact vk_getf hx hb (hSt.1 i hi).2.1 hS hown (hts (.fieldLink RJ0 15 "java/lang/String" "coder" "B") (ab_tb (by decide +kernel) rfl)) (fun _ q => q) hd k'
end ABI
