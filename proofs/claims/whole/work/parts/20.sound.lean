/-! ===== soundness: any instruction; any method (mine) ===== -/
/-- what a return gives, by the kind of the method -/
def ab_rOK (rk : Nat) (i : Instr) (r : Option Value) : Prop :=
  (i = .ireturn ∧ ∃ v : Int32, r = some (.int v) ∧ (rk = 0 ∨ (rk = 3 ∧ (v = 0 ∨ v = 1)) ∨ (rk = 4 ∧ narrow .char (.int v) = .int v) ∨ (rk = 5 ∧ narrow .byte (.int v) = .int v))) ∨ (i = .lreturn ∧ rk = 1 ∧ ∃ v : Int64, r = some (.long v)) ∨
  (i = .areturn ∧ rk = 2 ∧ (r = some .null ∨ ∃ a, r = some (.ref a))) ∨ (i = .return_ ∧ rk = 6 ∧ r = none)
theorem ab_rt_of {Mc Ms nc ns : Nat} {P : Prop} (h : ab_rt Mc Ms nc ns P) : nc ≤ Mc ∧ ns ≤ Ms ∧ P := by
  unfold ab_rt at h
  split at h
  · rename_i hb
    have hb2 := Bool.and_eq_true_iff.mp hb
    exact ⟨Nat.le_of_ble_eq_true hb2.1, Nat.le_of_ble_eq_true hb2.2, h⟩
  · exact h.elim
section ABN
variable {p : Program} {l : Launch} {e : Env} {R : Room} {s : State} {m : MethodId} {args : Array Value} {below : List Frame} {meth : Method} {c : Code} {Qm : State → Prop}
variable {g : Gl} {L : Nat} {xs : Nat → Int32} {ml : Nat} {cc : ByteArray} {pc : Nat} {lv : Lv} {st : List Value} {h : Hp} {nc ns : Nat} {o : Nat}
theorem ab_cl_of {d Mc Ms x : Nat} {as : List Value} {k : Option Value → Hp → Nat → Nat → Prop} (hnc : nc ≤ Mc) (hns : ns ≤ Ms) (h0 : ab_cl (ab_Ok d) ab_costs Mc Ms x as h nc ns k) : nc + ab_Mc x ≤ Mc ∧ ns + ab_Ms x ≤ Ms ∧ ab_Ok d x as h (fun r h' => k r h' (nc + ab_Mc x) (ns + ab_Ms x)) := by
  unfold ab_cl at h0
  unfold ab_Mc ab_Ms
  cases hq : ab_co x ab_costs with
  | mk mc ms =>
    rw [hq] at h0
    cases mc with
    | zero =>
      cases ms with
      | zero => exact ⟨hnc, hns, h0⟩
      | succ ms => exact h0
    | succ mc => exact h0
set_option maxHeartbeats 4000000 in
/-- any instruction -/
theorem ab_step {d : Nat} (IH : ab_Sd l d) (F : ab_F p s m args c g L xs cc ml o) {ini : Bool} (hini : ini = true → meth.name = "<init>") (hfr : d + 1 ≤ R.frames) (hlo : 60 * (d + 1) ≤ R.locals) {rk Mc Ms : Nat} (hMc : Mc ≤ R.cells) (hMs : Ms ≤ R.slots) (hMb : Ms ≤ 7151329) (hnc : nc ≤ Mc) (hns : ns ≤ Ms)
    {Q : Option Value → Hp → Prop} {i : Instr} {len x y z : Nat} {cut : Bool} {k : Value} {w : List (Int32 × Nat)} {go : Lv → List Value → Hp → Nat → Nat → Prop} {jp : Nat → Lv → List Value → Hp → Nat → Nat → Prop}
    (hok : ab_okb cc ml (pc, i, len, x, y, z, cut, k, w) = true) (hlk : ab_lkb o ini (pc, i, len, x, y, z, cut, k, w) = true) (hs : ab_sem (ab_Ok d) ab_costs rk Mc Ms Q i x y z k w lv st h nc ns go jp)
    (hgo : ∀ lv st h nc ns, go lv st h nc ns → ab_W p l e R s m args below meth c Qm g L xs ml (pc + len) lv st h nc ns)
    (hjp : ∀ t lv st h nc ns, jp t lv st h nc ns → ab_W p l e R s m args below meth c Qm g L xs ml t lv st h nc ns)
    (hret : ∀ (r : Option Value) (lv : Lv) (h : Hp) (nc ns : Nat), ab_rOK rk i r → decode cc pc = .ok (i, 1) → Q r h → nc ≤ Mc → ns ≤ Ms → ab_W p l e R s m args below meth c Qm g L xs ml pc lv (ab_pu r []) h nc ns) :
    ab_W p l e R s m args below meth c Qm g L xs ml pc lv st h nc ns := by
  obtain ⟨hx, hb, hml, hown, hts, hE⟩ := id F
  obtain ⟨-, -, -, -, -, -, -, -, -, -, -, -, -, hfv⟩ := id hE
  have hf : (gl_f g).category = 1 := by rcases hfv with e1 | ⟨a, e1⟩ <;> rw [e1] <;> rfl
  have hfr1 : 1 ≤ R.frames := by omega
  have hlo1 : 60 ≤ R.locals := by omega
  have hok0 := hok
  unfold ab_okb at hok
  have hok2 := Bool.and_eq_true_iff.mp hok
  have hd : decode cc pc = .ok (i, len) := of_decide_eq_true hok2.1
  have hok1 := hok2.2
  cases i with
  | ldc n =>
    have e1 := of_decide_eq_true hok1
    subst e1
    exact ab_ldc F hlk hd (hgo _ _ _ _ _ hs)
  | ldc_w n =>
    have e1 := of_decide_eq_true hok1
    subst e1
    exact ab_ldcw F hlk hd (hgo _ _ _ _ _ hs)
  | ldc2_w n =>
    have e1 := of_decide_eq_true hok1
    subst e1
    exact ab_ldc2 F hlk hd (hgo _ _ _ _ _ hs)
  | getstatic n =>
    have e1 := of_decide_eq_true hok1
    subst e1
    exact ab_gst F hlk hd (hgo _ _ _ _ _ hs)
  | getfield n =>
    have e1 := of_decide_eq_true hok1
    subst e1
    simp only [ab_sem] at hs
    split at hs
    · rename_i a st'
      obtain ⟨hk, hs⟩ := hs
      rcases Bool.or_eq_true_iff.mp hlk with hlk | hlk
      · simp only [Bool.and_eq_true] at hlk
        obtain ⟨⟨h1, h2⟩, h3⟩ := hlk
        have ex := Nat.eq_of_beq_eq_true h1
        have eo := Nat.eq_of_beq_eq_true h2
        rw [ex] at hk
        rcases Bool.or_eq_true_iff.mp h3 with h3 | h3
        · simp only [Bool.and_eq_true] at h3
          have en := Nat.eq_of_beq_eq_true h3.1.1
          have ey := Nat.eq_of_beq_eq_true h3.1.2
          have ez := Nat.eq_of_beq_eq_true h3.2
          subst ez; subst ey; subst en
          obtain ⟨b, hb1, hs⟩ := hs
          exact ab_gS F eo (Or.inl ⟨rfl, rfl⟩) hk hd (Or.inl ⟨rfl, b, hb1, rfl⟩) (hgo _ _ _ _ _ hs)
        · simp only [Bool.and_eq_true] at h3
          have en := Nat.eq_of_beq_eq_true h3.1.1
          have ey := Nat.eq_of_beq_eq_true h3.1.2
          have ez := Nat.eq_of_beq_eq_true h3.2
          subst ez; subst ey; subst en
          exact ab_gS F eo (Or.inr ⟨rfl, rfl⟩) hk hd (Or.inr ⟨rfl, rfl⟩) (hgo _ _ _ _ _ hs)
      · obtain ⟨h1, h2⟩ := Bool.and_eq_true_iff.mp hlk
        have ez := Nat.eq_of_beq_eq_true h2
        obtain ⟨-, hx13, hy13⟩ := ab_fp_in h1
        have hft := ab_ft_ok x hx13 y hy13
        unfold ab_ftb at hft
        rw [ab_ty_ok x hx13 y hy13, ← ez] at hft
        cases hty : ab_ty x y <;> rw [hty] at hft <;> first | (cases hft; done) | skip
        · have e0 := Nat.eq_of_beq_eq_true hft
          subst e0
          exact ab_gI F h1 hk hd (v := .int (ab_I h a y)) (by rw [← ez]; rfl) (hgo _ _ _ _ _ hs)
        · have e0 := Nat.eq_of_beq_eq_true hft
          subst e0
          exact ab_gI F h1 hk hd (v := .long (ab_J h a y)) (by rw [← ez]; rfl) (hgo _ _ _ _ _ hs)
        · have e0 := Nat.eq_of_beq_eq_true hft
          subst e0
          exact ab_gI F h1 hk hd (v := .int (ab_I h a y)) (by rw [← ez]; rfl) (hgo _ _ _ _ _ hs)
        · have e0 := Nat.eq_of_beq_eq_true hft
          subst e0
          obtain ⟨b, hb1, hs⟩ := hs
          exact ab_gI F h1 hk hd (v := .ref b) (by rw [← ez]; show va_rf ((ab_R h a y).map (gl_ad g)) = _; rw [hb1]; rfl) (hgo _ _ _ _ _ hs)
        · have e0 := Nat.eq_of_beq_eq_true hft
          subst e0
          obtain ⟨b, hb1, hs⟩ := hs
          exact ab_gI F h1 hk hd (v := .ref b) (by rw [← ez]; show va_rf ((ab_R h a y).map (gl_ad g)) = _; rw [hb1]; rfl) (hgo _ _ _ _ _ hs)
    · exact hs.elim
  | putfield n =>
    have e1 := of_decide_eq_true hok1
    subst e1
    obtain ⟨hlk, h3⟩ := Bool.and_eq_true_iff.mp hlk
    obtain ⟨h1, h2⟩ := Bool.and_eq_true_iff.mp hlk
    have ez := Nat.eq_of_beq_eq_true h2
    obtain ⟨-, hx13, hy13⟩ := ab_fp_in h1
    have hft := ab_ft_ok x hx13 y hy13
    unfold ab_ftb at hft
    rw [ab_ty_ok x hx13 y hy13, ← ez] at hft
    have ez9 : (ab_fts.getD x []).getD y 0 = z := (ab_getD hy13).trans ez.symm
    simp only [ab_sem] at hs
    split at hs
    · rename_i v a st'
      cases hty : ab_ty x y <;> rw [hty] at hft <;> first | (cases hft; done) | skip
      refine ab_pF F hini h1 h3 hs.1 hd (v := .int v) (h' := ab_sI h a y v) (by rw [hty]; rfl) (by rw [hty]; rfl) rfl (fun _ => rfl) (fun b hb => ab_ce_eq rfl rfl (va_up_ne _ _ hb) rfl rfl) (fun hw h5 => ab_wfI hw h5 _ _) ?_ (hgo _ _ _ _ _ hs.2)
      refine ab_fl_set _ _ hy13 ?_ ?_
      · rw [ez9]
        show Value.int (va_up h.2.2.1 a (upd (h.2.2.1 a) y v) a y) = .int v
        simp [va_up, upd]
      · intro j hj t
        unfold ab_fv
        rw [show ab_I (ab_sI h a y v) a j = ab_I h a j by show va_up h.2.2.1 a (upd (h.2.2.1 a) y v) a j = h.2.2.1 a j; simp [va_up, upd, hj]]
        rfl
    · rename_i v a st'
      cases hty : ab_ty x y <;> rw [hty] at hft <;> first | (cases hft; done) | skip
      refine ab_pF F hini h1 h3 hs.1 hd (v := .long v) (h' := ab_sJ h a y v) (by rw [hty]; rfl) (by rw [hty]; rfl) rfl (fun _ => rfl) (fun b hb => ab_ce_eq rfl rfl rfl (va_up_ne _ _ hb) rfl) (fun hw h5 => ab_wfJ hw _ _) ?_ (hgo _ _ _ _ _ hs.2)
      refine ab_fl_set _ _ hy13 ?_ ?_
      · rw [ez9]
        show Value.long (va_up h.2.2.2.1 a (vp_updL (h.2.2.2.1 a) y v) a y) = .long v
        simp [va_up, vp_updL]
      · intro j hj t
        unfold ab_fv
        rw [show ab_J (ab_sJ h a y v) a j = ab_J h a j by show va_up h.2.2.2.1 a (vp_updL (h.2.2.2.1 a) y v) a j = h.2.2.2.1 a j; simp [va_up, vp_updL, hj]]
        rfl
    · rename_i v a st'
      have hset : (ab_fl g h a (ab_fts.getD x [])).set y (gl_cv g (.ref v)) = ab_fl g (ab_sR h a y (some v)) a (ab_fts.getD x []) := by
        refine ab_fl_set _ _ hy13 ?_ ?_
        · rw [ez9]
          show va_rf ((va_up h.2.2.2.2.1 a (va_up (h.2.2.2.2.1 a) y (some v)) a y).map (gl_ad g)) = _
          simp [va_up, va_rf, gl_cv]
        · intro j hj t
          unfold ab_fv
          rw [show ab_R (ab_sR h a y (some v)) a j = ab_R h a j by show va_up h.2.2.2.2.1 a (va_up (h.2.2.2.2.1 a) y (some v)) a j = h.2.2.2.2.1 a j; simp [va_up, hj]]
          rfl
      cases hty : ab_ty x y <;> rw [hty] at hft <;> first | (cases hft; done) | skip
      · exact ab_pF F hini h1 h3 hs.1 hd (v := .ref v) (h' := ab_sR h a y (some v)) (by rw [hty]; rfl) (by rw [hty]; rfl) rfl (fun _ => rfl) (fun b hb => ab_ce_eq rfl rfl rfl rfl (va_up_ne _ _ hb)) (fun hw h5 => ab_wfR hw h5 _ _) hset (hgo _ _ _ _ _ hs.2)
      · exact ab_pF F hini h1 h3 hs.1 hd (v := .ref v) (h' := ab_sR h a y (some v)) (by rw [hty]; rfl) (by rw [hty]; rfl) rfl (fun _ => rfl) (fun b hb => ab_ce_eq rfl rfl rfl rfl (va_up_ne _ _ hb)) (fun hw h5 => ab_wfR hw h5 _ _) hset (hgo _ _ _ _ _ hs.2)
    · rename_i v a st'
      obtain ⟨hk, hv, hs⟩ := hs
      cases hty : ab_ty x y <;> rw [hty] at hft <;> first | (cases hft; done) | skip
      refine ab_pF F hini h1 h3 hk hd (v := .int v) (h' := ab_sI h a y v) (by rw [hty]; rcases hv with rfl | rfl <;> rfl) (by rw [hty]; rcases hv with rfl | rfl <;> rfl) rfl (fun _ => rfl) (fun b hb => ab_ce_eq rfl rfl (va_up_ne _ _ hb) rfl rfl) (fun hw h5 => ab_wfI hw h5 _ _) ?_ (hgo _ _ _ _ _ hs)
      refine ab_fl_set _ _ hy13 ?_ ?_
      · rw [ez9]
        show Value.int (va_up h.2.2.1 a (upd (h.2.2.1 a) y v) a y) = .int v
        simp [va_up, upd]
      · intro j hj t
        unfold ab_fv
        rw [show ab_I (ab_sI h a y v) a j = ab_I h a j by show va_up h.2.2.1 a (upd (h.2.2.1 a) y v) a j = h.2.2.1 a j; simp [va_up, upd, hj]]
        rfl
    · exact hs.elim
  | iaload =>
    have e1 := of_decide_eq_true hok1
    subst e1
    simp only [ab_sem] at hs
    split at hs
    · rename_i j a st'
      obtain ⟨hk, hj, hs⟩ := hs
      rcases Bool.or_eq_true_iff.mp hlk with hlk | hlk
      · exact ab_ial F (hk.trans (Nat.eq_of_beq_eq_true hlk)) hj hd (hgo _ _ _ _ _ hs)
      · intro ls H locs hlv hR hS
        exact ab_ialS F (ab_k19 hR (hk.trans (Nat.eq_of_beq_eq_true hlk))) hj hd (hgo _ _ _ _ _ hs) ls H locs hlv hR hS
    · exact hs.elim
  | baload =>
    have e1 := of_decide_eq_true hok1
    subst e1
    simp only [ab_sem] at hs
    split at hs
    · rename_i j a st'
      obtain ⟨hk, hj, hs⟩ := hs
      rcases Bool.or_eq_true_iff.mp hlk with hlk | hlk
      · exact ab_zal F (hk.trans (Nat.eq_of_beq_eq_true hlk)) hj hd (hgo _ _ _ _ _ hs)
      · exact ab_bal F (hk.trans (Nat.eq_of_beq_eq_true hlk)) hj hd (hgo _ _ _ _ _ hs)
    · exact hs.elim
  | laload =>
    have e1 := of_decide_eq_true hok1
    subst e1
    simp only [ab_sem] at hs
    split at hs
    · exact ab_lal F hs.1 hs.2.1 hd (hgo _ _ _ _ _ hs.2.2)
    · exact hs.elim
  | aaload =>
    have e1 := of_decide_eq_true hok1
    subst e1
    simp only [ab_sem] at hs
    split at hs
    · exact ab_aal F hlk hs.1 hs.2.1 hd (fun q => hgo _ _ _ _ _ (hs.2.2.1 q)) (fun b q => hgo _ _ _ _ _ (hs.2.2.2 b q))
    · exact hs.elim
  | iastore =>
    have e1 := of_decide_eq_true hok1
    subst e1
    simp only [ab_sem] at hs
    split at hs
    · exact ab_ist F hs.1 hs.2.1 hd (hgo _ _ _ _ _ hs.2.2)
    · exact hs.elim
  | bastore =>
    have e1 := of_decide_eq_true hok1
    subst e1
    simp only [ab_sem] at hs
    split at hs
    · exact ab_zst F hs.1 hs.2.1 hd (hgo _ _ _ _ _ hs.2.2)
    · exact hs.elim
  | lastore =>
    have e1 := of_decide_eq_true hok1
    subst e1
    simp only [ab_sem] at hs
    split at hs
    · exact ab_lst F hs.1 hs.2.1 hd (hgo _ _ _ _ _ hs.2.2)
    · exact hs.elim
  | aastore =>
    have e1 := of_decide_eq_true hok1
    subst e1
    simp only [ab_sem] at hs
    split at hs
    · exact ab_ast F hlk hs.1 hs.2.1 hs.2.2.1 hd (hgo _ _ _ _ _ hs.2.2.2)
    · exact ab_astN F hlk hs.1 hs.2.1 hd (hgo _ _ _ _ _ hs.2.2)
    · exact hs.elim
  | arraylength =>
    have e1 := of_decide_eq_true hok1
    subst e1
    simp only [ab_sem] at hs
    split at hs
    · exact ab_aln F hlk hs.1 hd (hgo _ _ _ _ _ hs.2)
    · exact hs.elim
  | new n =>
    have e1 := of_decide_eq_true hok1
    subst e1
    obtain ⟨h1, h2⟩ := Bool.and_eq_true_iff.mp hlk
    have ey := Nat.eq_of_beq_eq_true h2
    subst ey
    simp only [ab_sem] at hs
    exact ab_newO F h1 hd (by omega) (by omega) (hgo _ _ _ _ _ hs.2.2)
  | newarray t =>
    have e1 := of_decide_eq_true hok1
    subst e1
    simp only [ab_sem] at hs
    split at hs
    · exact ab_newA F hlk hd hs.1 (by omega) (by omega) (by omega) (hgo _ _ _ _ _ hs.2.2.2)
    · exact hs.elim
  | anewarray n =>
    have e1 := of_decide_eq_true hok1
    subst e1
    simp only [ab_sem] at hs
    split at hs
    · exact ab_newR F hlk hd hs.1 (by omega) (by omega) (by omega) (hgo _ _ _ _ _ hs.2.2.2)
    · exact hs.elim
  | multianewarray n n2 =>
    have e1 := of_decide_eq_true hok1
    obtain ⟨e1, e2⟩ := e1
    subst e1; subst e2
    simp only [ab_sem] at hs
    split at hs
    · obtain ⟨h1, h2, h3, h4, h5⟩ := hs
      exact ab_mna F hlk hd h1 h2 (by omega) (by omega) (by omega) (hgo _ _ _ _ _ h5)
    · exact hs.elim
  | checkcast n =>
    have e1 := of_decide_eq_true hok1
    subst e1
    simp only [ab_sem] at hs
    split at hs
    · exact ab_cst F hlk hs.1 hd (hgo _ _ _ _ _ hs.2)
    · exact hs.elim
  | tableswitch d1 lo hi offs =>
    obtain ⟨h1, h2⟩ := Bool.and_eq_true_iff.mp hok1
    simp only [ab_sem] at hs
    split at hs
    · exact ab_tsw hx hb hd (of_decide_eq_true h1) h2 hs (fun t q => hjp _ _ _ _ _ _ q)
    · exact hs.elim
  | lookupswitch d1 ps =>
    obtain ⟨h1, h2⟩ := Bool.and_eq_true_iff.mp hok1
    simp only [ab_sem] at hs
    split at hs
    · exact ab_lsw hx hb hd (of_decide_eq_true h1) h2 hs (fun t q => hjp _ _ _ _ _ _ q)
    · exact hs.elim
  | invokevirtual n => sorry
  | invokestatic n => sorry
  | invokespecial n => sorry
  | ireturn =>
    have e1 := of_decide_eq_true hok1
    subst e1
    simp only [ab_sem] at hs
    split at hs
    · rename_i v
      split at hs
      · obtain ⟨a1, a2, a3⟩ := ab_rt_of hs
        exact hret (some (.int v)) _ _ _ _ (Or.inl ⟨rfl, v, rfl, Or.inl rfl⟩) hd a3 a1 a2
      · obtain ⟨a1, a2, a3⟩ := ab_rt_of hs.2
        exact hret (some (.int v)) _ _ _ _ (Or.inl ⟨rfl, v, rfl, Or.inr (Or.inl ⟨rfl, hs.1⟩)⟩) hd a3 a1 a2
      · obtain ⟨a1, a2, a3⟩ := ab_rt_of hs.2
        exact hret (some (.int v)) _ _ _ _ (Or.inl ⟨rfl, v, rfl, Or.inr (Or.inr (Or.inl ⟨rfl, hs.1⟩))⟩) hd a3 a1 a2
      · obtain ⟨a1, a2, a3⟩ := ab_rt_of hs.2
        exact hret (some (.int v)) _ _ _ _ (Or.inl ⟨rfl, v, rfl, Or.inr (Or.inr (Or.inr ⟨rfl, hs.1⟩))⟩) hd a3 a1 a2
      · exact hs.elim
    · exact hs.elim
  | lreturn =>
    have e1 := of_decide_eq_true hok1
    subst e1
    simp only [ab_sem] at hs
    split at hs
    · rename_i v
      obtain ⟨a1, a2, a3⟩ := ab_rt_of hs
      exact hret (some (.long v)) _ _ _ _ (Or.inr (Or.inl ⟨rfl, rfl, v, rfl⟩)) hd a3 a1 a2
    · exact hs.elim
  | areturn =>
    have e1 := of_decide_eq_true hok1
    subst e1
    simp only [ab_sem] at hs
    split at hs
    · rename_i a
      obtain ⟨a1, a2, a3⟩ := ab_rt_of hs
      exact hret (some (.ref a)) _ _ _ _ (Or.inr (Or.inr (Or.inl ⟨rfl, rfl, Or.inr ⟨a, rfl⟩⟩))) hd a3 a1 a2
    · obtain ⟨a1, a2, a3⟩ := ab_rt_of hs
      exact hret (some .null) _ _ _ _ (Or.inr (Or.inr (Or.inl ⟨rfl, rfl, Or.inl rfl⟩))) hd a3 a1 a2
    · exact hs.elim
  | return_ =>
    have e1 := of_decide_eq_true hok1
    subst e1
    simp only [ab_sem] at hs
    split at hs
    · obtain ⟨a1, a2, a3⟩ := ab_rt_of hs
      exact hret none _ _ _ _ (Or.inr (Or.inr (Or.inr ⟨rfl, rfl, rfl⟩))) hd a3 a1 a2
    · exact hs.elim
  | _ => first | exact ab_s1 hx hb hf hfv hok0 hs hgo hjp rfl | exact (show False from hs).elim
end ABN
