/-! ===== soundness: any instruction; any method (mine) ===== -/
/-- what a return gives, by the kind of the method -/
def ab_rOK (rk : Nat) (i : Instr) (r : Option Value) : Prop :=
  (i = .ireturn ∧ ∃ v : Int32, r = some (.int v) ∧ (rk = 0 ∨ (rk = 3 ∧ (v = 0 ∨ v = 1)) ∨ (rk = 4 ∧ narrow .char (.int v) = .int v) ∨ (rk = 5 ∧ narrow .byte (.int v) = .int v))) ∨ (i = .lreturn ∧ rk = 1 ∧ ∃ v : Int64, r = some (.long v)) ∨
  (i = .areturn ∧ rk = 2 ∧ (r = some .null ∨ ∃ a, r = some (.ref a))) ∨ (i = .return_ ∧ rk = 6 ∧ r = none)
theorem ab_rt_of {Mc Ms nc ns : Nat} {P : Prop} (h : ab_rt Mc Ms nc ns P) : nc ≤ Mc ∧ ns ≤ Ms ∧ P := by
  unfold ab_rt at h
  split at h
  · rename_i hb
    have hb2 := Bool.and_eq_true_iff.mp hb
    exact ⟨Nat.le_of_ble_eq_true hb2.1, Nat.le_of_ble_eq_true hb2.2, h⟩
  · exact h.elim
/-- objects' methods stand in the classes 0 to 12, or in String -/
theorem ab_zno0 : (List.range 332).all (fun x => (match ab_mf[x]? with
  | some q => !(Nat.beq q.1 0)
  | none => true) || (List.range 31).all (fun z => decide (z < 13 ∨ z = 20) || !(decide (ab_nm z = (ab_y x).cls)))) = true := by decide +kernel
theorem ab_zno {x z n : Nat} (hx : x < 332) (hz : ¬ (z < 13 ∨ z = 20)) (hz2 : z ≤ 30) (hk : ab_kn x 0 n = true) (he : ab_nm z = (ab_y x).cls) : False := by
  have h := List.all_eq_true.mp ab_zno0 x (List.mem_range.mpr hx)
  rcases Bool.or_eq_true_iff.mp h with h | h
  · unfold ab_kn at hk
    cases hq : ab_mf[x]? with
    | none => rw [hq] at hk; cases hk
    | some q =>
      rw [hq] at hk h
      have := (Bool.and_eq_true_iff.mp hk).1
      dsimp only at h
      rw [this] at h
      cases h
  · have h2 := List.all_eq_true.mp h z (List.mem_range.mpr (by omega))
    rcases Bool.or_eq_true_iff.mp h2 with h2 | h2
    · exact hz (of_decide_eq_true h2)
    · rw [decide_eq_true he] at h2
      cases h2
section ABN
variable {p : Program} {l : Launch} {e : Env} {R : Room} {s : State} {m : MethodId} {args : Array Value} {below : List Frame} {meth : Method} {c : Code} {Qm : State → Prop}
variable {g : Gl} {L : Nat} {xs : Nat → Int32} {ml : Nat} {cc : ByteArray} {pc : Nat} {lv : Lv} {st : List Value} {h : Hp} {nc ns : Nat} {o : Nat}
theorem ab_cl_of {d Mc Ms x : Nat} {as : List Value} {k : Option Value → Hp → Nat → Nat → Prop} (h0 : ab_cl (ab_Ok d) ab_costs Mc Ms x as h nc ns k) : nc + ab_Mc x ≤ Mc ∧ ns + ab_Ms x ≤ Ms ∧ ab_Ok d x as h (fun r h' => k r h' (nc + ab_Mc x) (ns + ab_Ms x)) := by
  unfold ab_cl at h0
  unfold ab_Mc ab_Ms
  cases hq : ab_co x ab_costs with
  | mk mc ms =>
    rw [hq] at h0
    cases mc with
    | zero =>
      cases ms with
      | zero => exact ab_rt_of h0
      | succ ms => exact h0
    | succ mc => exact h0
theorem ab_mx {x : Nat} (hx : x < 332) {A B C D : Prop} (h : match x with
    | 9001 => A
    | 9002 => B
    | 9003 => C
    | 9999 => False
    | _ => D) : D := by
  split at h
  · omega
  · omega
  · omega
  · omega
  · exact h
set_option maxHeartbeats 4000000 in
/-- any instruction -/
theorem ab_step {d : Nat} (IH : ab_Sd l d) (F : ab_F p s m args c g L xs cc ml o) {ini : Bool} (hini : ini = true → meth.name = "<init>") (hfr : d + 1 ≤ R.frames) (hlo : 60 * (d + 1) ≤ R.locals) {rk Mc Ms : Nat} (hMc : Mc ≤ R.cells) (hMs : Ms ≤ R.slots) (hMb : Ms ≤ 7151329)
    {Q : Option Value → Hp → Prop} {i : Instr} {len x y z : Nat} {cut : Bool} {k : Value} {w : List (Int32 × Nat)} {go : Lv → List Value → Hp → Nat → Nat → Prop} {jp : Nat → Lv → List Value → Hp → Nat → Nat → Prop}
    (hok : ab_okb cc ml (pc, i, len, x, y, z, cut, k, w) = true) (hlk : ab_lkb o ini (pc, i, len, x, y, z, cut, k, w) = true) (hs : ab_sem (ab_Ok d) ab_costs rk Mc Ms Q i x y z k w lv st h nc ns go jp)
    (hgo : ∀ lv st h nc ns, go lv st h nc ns → ab_W p l e R s m args below meth c Qm g L xs ml (pc + len) lv st h nc ns)
    (hjp : ∀ t lv st h nc ns, jp t lv st h nc ns → ab_W p l e R s m args below meth c Qm g L xs ml t lv st h nc ns)
    (hret : ∀ (r : Option Value) (lv : Lv) (h : Hp) (nc ns : Nat), ab_rOK rk i r → decode cc pc = .ok (i, 1) → Q r h → nc ≤ Mc → ns ≤ Ms → ab_W p l e R s m args below meth c Qm g L xs ml pc lv (ab_pu r []) h nc ns) :
    ab_W p l e R s m args below meth c Qm g L xs ml pc lv st h nc ns := by
  obtain ⟨hx, hb, hml, hown, hts, hE⟩ := id F
  obtain ⟨-, -, -, -, -, -, -, -, -, -, -, -, -, hfv⟩ := id hE
  have hf : (gl_f g).category = 1 := by rcases hfv with e1 | ⟨a, e1⟩ <;> rw [e1] <;> rfl
  have hfr1 : 1 ≤ R.frames := by omega
  have hlo1 : 60 ≤ R.locals := by omega
  have hok0 := hok
  unfold ab_okb at hok
  have hok2 := Bool.and_eq_true_iff.mp hok
  have hd : decode cc pc = .ok (i, len) := of_decide_eq_true hok2.1
  have hok1 := hok2.2
  cases i with
  | ldc n =>
    have e1 := of_decide_eq_true hok1
    subst e1
    exact ab_ldc F hlk hd (hgo _ _ _ _ _ hs)
  | ldc_w n =>
    have e1 := of_decide_eq_true hok1
    subst e1
    exact ab_ldcw F hlk hd (hgo _ _ _ _ _ hs)
  | ldc2_w n =>
    have e1 := of_decide_eq_true hok1
    subst e1
    exact ab_ldc2 F hlk hd (hgo _ _ _ _ _ hs)
  | getstatic n =>
    have e1 := of_decide_eq_true hok1
    subst e1
    exact ab_gst F hlk hd (hgo _ _ _ _ _ hs)
  | getfield n =>
    have e1 := of_decide_eq_true hok1
    subst e1
    simp only [ab_sem] at hs
    split at hs
    · rename_i a st'
      obtain ⟨hk, hs⟩ := hs
      rcases Bool.or_eq_true_iff.mp hlk with hlk | hlk
      · simp only [Bool.and_eq_true] at hlk
        obtain ⟨⟨h1, h2⟩, h3⟩ := hlk
        have ex := Nat.eq_of_beq_eq_true h1
        have eo := Nat.eq_of_beq_eq_true h2
        rw [ex] at hk
        rcases Bool.or_eq_true_iff.mp h3 with h3 | h3
        · simp only [Bool.and_eq_true] at h3
          have en := Nat.eq_of_beq_eq_true h3.1.1
          have ey := Nat.eq_of_beq_eq_true h3.1.2
          have ez := Nat.eq_of_beq_eq_true h3.2
          subst ez; subst ey; subst en
          obtain ⟨b, hb1, hs⟩ := hs
          exact ab_gS F eo (Or.inl ⟨rfl, rfl⟩) hk hd (Or.inl ⟨rfl, b, hb1, rfl⟩) (hgo _ _ _ _ _ hs)
        · simp only [Bool.and_eq_true] at h3
          have en := Nat.eq_of_beq_eq_true h3.1.1
          have ey := Nat.eq_of_beq_eq_true h3.1.2
          have ez := Nat.eq_of_beq_eq_true h3.2
          subst ez; subst ey; subst en
          exact ab_gS F eo (Or.inr ⟨rfl, rfl⟩) hk hd (Or.inr ⟨rfl, rfl⟩) (hgo _ _ _ _ _ hs)
      · obtain ⟨h1, h2⟩ := Bool.and_eq_true_iff.mp hlk
        have ez := Nat.eq_of_beq_eq_true h2
        obtain ⟨-, hx13, hy13⟩ := ab_fp_in h1
        have hft := ab_ft_ok x hx13 y hy13
        unfold ab_ftb at hft
        rw [ab_ty_ok x hx13 y hy13, ← ez] at hft
        cases hty : ab_ty x y <;> rw [hty] at hft <;> first | (cases hft; done) | skip
        · have e0 := Nat.eq_of_beq_eq_true hft
          subst e0
          exact ab_gI F h1 hk hd (v := .int (ab_I h a y)) (by rw [← ez]; rfl) (hgo _ _ _ _ _ hs)
        · have e0 := Nat.eq_of_beq_eq_true hft
          subst e0
          exact ab_gI F h1 hk hd (v := .long (ab_J h a y)) (by rw [← ez]; rfl) (hgo _ _ _ _ _ hs)
        · have e0 := Nat.eq_of_beq_eq_true hft
          subst e0
          exact ab_gI F h1 hk hd (v := .int (ab_I h a y)) (by rw [← ez]; rfl) (hgo _ _ _ _ _ hs)
        · have e0 := Nat.eq_of_beq_eq_true hft
          subst e0
          obtain ⟨b, hb1, hs⟩ := hs
          exact ab_gI F h1 hk hd (v := .ref b) (by rw [← ez]; show va_rf ((ab_R h a y).map (gl_ad g)) = _; rw [hb1]; rfl) (hgo _ _ _ _ _ hs)
        · have e0 := Nat.eq_of_beq_eq_true hft
          subst e0
          obtain ⟨b, hb1, hs⟩ := hs
          exact ab_gI F h1 hk hd (v := .ref b) (by rw [← ez]; show va_rf ((ab_R h a y).map (gl_ad g)) = _; rw [hb1]; rfl) (hgo _ _ _ _ _ hs)
    · exact hs.elim
  | putfield n =>
    have e1 := of_decide_eq_true hok1
    subst e1
    obtain ⟨hlk, h3⟩ := Bool.and_eq_true_iff.mp hlk
    obtain ⟨h1, h2⟩ := Bool.and_eq_true_iff.mp hlk
    have ez := Nat.eq_of_beq_eq_true h2
    obtain ⟨-, hx13, hy13⟩ := ab_fp_in h1
    have hft := ab_ft_ok x hx13 y hy13
    unfold ab_ftb at hft
    rw [ab_ty_ok x hx13 y hy13, ← ez] at hft
    have ez9 : (ab_fts.getD x []).getD y 0 = z := (ab_getD hy13).trans ez.symm
    simp only [ab_sem] at hs
    split at hs
    · rename_i v a st' hz0
      cases hty : ab_ty x y <;> rw [hty] at hft <;> first | (cases hft; done) | skip
      refine ab_pF F hini h1 h3 hs.1 hd (v := .int v) (h' := ab_sI h a y v) (by rw [hty]; rfl) (by rw [hty]; rfl) rfl (fun _ => rfl) (fun b hb => ab_ce_eq rfl rfl (va_up_ne _ _ hb) rfl rfl) (fun hw h5 => ab_wfI hw h5 _ _) ?_ (hgo _ _ _ _ _ hs.2)
      refine ab_fl_set _ _ hy13 ?_ ?_
      · rw [ez9]
        show Value.int (va_up h.2.2.1 a (upd (h.2.2.1 a) y v) a y) = .int v
        simp [va_up, upd]
      · intro j hj t
        unfold ab_fv
        rw [show ab_I (ab_sI h a y v) a j = ab_I h a j by show va_up h.2.2.1 a (upd (h.2.2.1 a) y v) a j = h.2.2.1 a j; simp [va_up, upd, hj]]
        rfl
    · rename_i v a st' hz0
      cases hty : ab_ty x y <;> rw [hty] at hft <;> first | (cases hft; done) | skip
      refine ab_pF F hini h1 h3 hs.1 hd (v := .long v) (h' := ab_sJ h a y v) (by rw [hty]; rfl) (by rw [hty]; rfl) rfl (fun _ => rfl) (fun b hb => ab_ce_eq rfl rfl rfl (va_up_ne _ _ hb) rfl) (fun hw h5 => ab_wfJ hw _ _) ?_ (hgo _ _ _ _ _ hs.2)
      refine ab_fl_set _ _ hy13 ?_ ?_
      · rw [ez9]
        show Value.long (va_up h.2.2.2.1 a (vp_updL (h.2.2.2.1 a) y v) a y) = .long v
        simp [va_up, vp_updL]
      · intro j hj t
        unfold ab_fv
        rw [show ab_J (ab_sJ h a y v) a j = ab_J h a j by show va_up h.2.2.2.1 a (vp_updL (h.2.2.2.1 a) y v) a j = h.2.2.2.1 a j; simp [va_up, vp_updL, hj]]
        rfl
    · rename_i v a st' hz0
      have hset : (ab_fl g h a (ab_fts.getD x [])).set y (gl_cv g (.ref v)) = ab_fl g (ab_sR h a y (some v)) a (ab_fts.getD x []) := by
        refine ab_fl_set _ _ hy13 ?_ ?_
        · rw [ez9]
          show va_rf ((va_up h.2.2.2.2.1 a (va_up (h.2.2.2.2.1 a) y (some v)) a y).map (gl_ad g)) = _
          simp [va_up, va_rf, gl_cv]
        · intro j hj t
          unfold ab_fv
          rw [show ab_R (ab_sR h a y (some v)) a j = ab_R h a j by show va_up h.2.2.2.2.1 a (va_up (h.2.2.2.2.1 a) y (some v)) a j = h.2.2.2.2.1 a j; simp [va_up, hj]]
          rfl
      cases hty : ab_ty x y <;> rw [hty] at hft <;> first | (cases hft; done) | skip
      · exact ab_pF F hini h1 h3 hs.1 hd (v := .ref v) (h' := ab_sR h a y (some v)) (by rw [hty]; rfl) (by rw [hty]; rfl) rfl (fun _ => rfl) (fun b hb => ab_ce_eq rfl rfl rfl rfl (va_up_ne _ _ hb)) (fun hw h5 => ab_wfR hw h5 _ _) hset (hgo _ _ _ _ _ hs.2)
      · exact ab_pF F hini h1 h3 hs.1 hd (v := .ref v) (h' := ab_sR h a y (some v)) (by rw [hty]; rfl) (by rw [hty]; rfl) rfl (fun _ => rfl) (fun b hb => ab_ce_eq rfl rfl rfl rfl (va_up_ne _ _ hb)) (fun hw h5 => ab_wfR hw h5 _ _) hset (hgo _ _ _ _ _ hs.2)
    · rename_i v a st' hz0
      obtain ⟨hk, hv, hs⟩ := hs
      cases hty : ab_ty x y <;> rw [hty] at hft <;> first | (cases hft; done) | skip
      refine ab_pF F hini h1 h3 hk hd (v := .int v) (h' := ab_sI h a y v) (by rw [hty]; rcases hv with rfl | rfl <;> rfl) (by rw [hty]; rcases hv with rfl | rfl <;> rfl) rfl (fun _ => rfl) (fun b hb => ab_ce_eq rfl rfl (va_up_ne _ _ hb) rfl rfl) (fun hw h5 => ab_wfI hw h5 _ _) ?_ (hgo _ _ _ _ _ hs)
      refine ab_fl_set _ _ hy13 ?_ ?_
      · rw [ez9]
        show Value.int (va_up h.2.2.1 a (upd (h.2.2.1 a) y v) a y) = .int v
        simp [va_up, upd]
      · intro j hj t
        unfold ab_fv
        rw [show ab_I (ab_sI h a y v) a j = ab_I h a j by show va_up h.2.2.1 a (upd (h.2.2.1 a) y v) a j = h.2.2.1 a j; simp [va_up, upd, hj]]
        rfl
    · exact hs.elim
  | iaload =>
    have e1 := of_decide_eq_true hok1
    subst e1
    simp only [ab_sem] at hs
    split at hs
    · rename_i j a st'
      obtain ⟨hk, hj, hs⟩ := hs
      rcases Bool.or_eq_true_iff.mp hlk with hlk | hlk
      · exact ab_ial F (hk.trans (Nat.eq_of_beq_eq_true hlk)) hj hd (hgo _ _ _ _ _ hs)
      · intro ls H locs hlv hR hS
        exact ab_ialS F (ab_k19 hR (hk.trans (Nat.eq_of_beq_eq_true hlk))) hj hd (hgo _ _ _ _ _ hs) ls H locs hlv hR hS
    · exact hs.elim
  | baload =>
    have e1 := of_decide_eq_true hok1
    subst e1
    simp only [ab_sem] at hs
    split at hs
    · rename_i j a st'
      obtain ⟨hk, hj, hs⟩ := hs
      rcases Bool.or_eq_true_iff.mp hlk with hlk | hlk
      · exact ab_zal F (hk.trans (Nat.eq_of_beq_eq_true hlk)) hj hd (hgo _ _ _ _ _ hs)
      · exact ab_bal F (hk.trans (Nat.eq_of_beq_eq_true hlk)) hj hd (hgo _ _ _ _ _ hs)
    · exact hs.elim
  | laload =>
    have e1 := of_decide_eq_true hok1
    subst e1
    simp only [ab_sem] at hs
    split at hs
    · exact ab_lal F hs.1 hs.2.1 hd (hgo _ _ _ _ _ hs.2.2)
    · exact hs.elim
  | aaload =>
    have e1 := of_decide_eq_true hok1
    subst e1
    simp only [ab_sem] at hs
    split at hs
    · exact ab_aal F hlk hs.1 hs.2.1 hd (fun q => hgo _ _ _ _ _ (hs.2.2.1 q)) (fun b q => hgo _ _ _ _ _ (hs.2.2.2 b q))
    · exact hs.elim
  | iastore =>
    have e1 := of_decide_eq_true hok1
    subst e1
    simp only [ab_sem] at hs
    split at hs
    · exact ab_ist F hs.1 hs.2.1 hd (hgo _ _ _ _ _ hs.2.2)
    · exact hs.elim
  | bastore =>
    have e1 := of_decide_eq_true hok1
    subst e1
    simp only [ab_sem] at hs
    split at hs
    · exact ab_zst F hs.1 hs.2.1 hd (hgo _ _ _ _ _ hs.2.2)
    · exact hs.elim
  | lastore =>
    have e1 := of_decide_eq_true hok1
    subst e1
    simp only [ab_sem] at hs
    split at hs
    · exact ab_lst F hs.1 hs.2.1 hd (hgo _ _ _ _ _ hs.2.2)
    · exact hs.elim
  | aastore =>
    have e1 := of_decide_eq_true hok1
    subst e1
    simp only [ab_sem] at hs
    split at hs
    · exact ab_ast F hlk hs.1 hs.2.1 hs.2.2.1 hd (hgo _ _ _ _ _ hs.2.2.2)
    · exact ab_astN F hlk hs.1 hs.2.1 hd (hgo _ _ _ _ _ hs.2.2)
    · exact hs.elim
  | arraylength =>
    have e1 := of_decide_eq_true hok1
    subst e1
    simp only [ab_sem] at hs
    split at hs
    · exact ab_aln F hlk hs.1 hd (hgo _ _ _ _ _ hs.2)
    · exact hs.elim
  | new n =>
    have e1 := of_decide_eq_true hok1
    subst e1
    obtain ⟨h1, h2⟩ := Bool.and_eq_true_iff.mp hlk
    have ey := Nat.eq_of_beq_eq_true h2
    subst ey
    simp only [ab_sem] at hs
    exact ab_newO F h1 hd (by omega) (by omega) (hgo _ _ _ _ _ hs.2.2)
  | newarray t =>
    have e1 := of_decide_eq_true hok1
    subst e1
    simp only [ab_sem] at hs
    split at hs
    · exact ab_newA F hlk hd hs.1 (by omega) (by omega) (by omega) (hgo _ _ _ _ _ hs.2.2.2)
    · exact hs.elim
  | anewarray n =>
    have e1 := of_decide_eq_true hok1
    subst e1
    simp only [ab_sem] at hs
    split at hs
    · exact ab_newR F hlk hd hs.1 (by omega) (by omega) (by omega) (hgo _ _ _ _ _ hs.2.2.2)
    · exact hs.elim
  | multianewarray n n2 =>
    have e1 := of_decide_eq_true hok1
    obtain ⟨e1, e2⟩ := e1
    subst e1; subst e2
    simp only [ab_sem] at hs
    split at hs
    · obtain ⟨h1, h2, h3, h4, h5⟩ := hs
      exact ab_mna F hlk hd h1 h2 (by omega) (by omega) (by omega) (hgo _ _ _ _ _ h5)
    · exact hs.elim
  | checkcast n =>
    have e1 := of_decide_eq_true hok1
    subst e1
    simp only [ab_sem] at hs
    split at hs
    · exact ab_cst F hlk hs.1 hd (hgo _ _ _ _ _ hs.2)
    · exact hs.elim
  | tableswitch d1 lo hi offs =>
    obtain ⟨h1, h2⟩ := Bool.and_eq_true_iff.mp hok1
    simp only [ab_sem] at hs
    split at hs
    · exact ab_tsw hx hb hd (of_decide_eq_true h1) h2 hs (fun t q => hjp _ _ _ _ _ _ q)
    · exact hs.elim
  | lookupswitch d1 ps =>
    obtain ⟨h1, h2⟩ := Bool.and_eq_true_iff.mp hok1
    simp only [ab_sem] at hs
    split at hs
    · exact ab_lsw hx hb hd (of_decide_eq_true h1) h2 hs (fun t q => hjp _ _ _ _ _ _ q)
    · exact hs.elim
  | invokestatic n =>
    have e1 := of_decide_eq_true hok1
    subst e1
    simp only [ab_sem] at hs
    obtain ⟨as, rest, hlen, hst, hs1⟩ := ab_tke _ _ _ hs
    rw [List.append_nil] at hs1
    clear hs
    have hs := hs1
    clear hs1
    subst hst
    cases hcat : Nat.ble (ab_cat rest) 8 with
    | false => rw [hcat] at hs; exact hs.elim
    | true =>
      rw [hcat] at hs
      dsimp only at hs
      have hcat := Nat.le_of_ble_eq_true hcat
      rcases Bool.or_eq_true_iff.mp hlk with hlk | hlk
      · rcases Bool.or_eq_true_iff.mp hlk with hlk | hlk
        · have ex := Nat.eq_of_beq_eq_true hlk
          subst ex
          exact (show False from hs).elim
        · simp only [Bool.and_eq_true] at hlk
          have ex := Nat.eq_of_beq_eq_true hlk.1.1
          subst ex
          split at hs
          · omega
          · split at hs
            · obtain ⟨k1, k2, k3, k4, k5, k6, k7, k8⟩ := hs
              exact ab_cpy F hf hlk.2 k1 k2 k3 k4 k5 k6 k7 hcat hfr1 hlo1 hd (hgo _ _ _ _ _ k8)
            · exact hs.elim
          · omega
          · omega
          · exact absurd (rfl : (9002 : Nat) = 9002) (by assumption)
      · simp only [Bool.and_eq_true] at hlk
        obtain ⟨⟨⟨a1, a2⟩, a3⟩, a4⟩ := hlk
        have hx332 : x < 332 := Nat.le_of_ble_eq_true a1
        have ez := Nat.eq_of_beq_eq_true a2
        subst ez
        split at hs
        · omega
        · omega
        · omega
        · omega
        · obtain ⟨c1, c2, c3⟩ := ab_cl_of (show ab_cl (ab_Ok d) ab_costs Mc Ms x as h nc ns (fun r h nc ns => go lv (ab_pu r rest) h nc ns) from hs)
          exact ab_cS IH F hf hfr hlo hx332 a3 a4 hlen hcat (by omega) (by omega) hd c3 (fun r h' q => hgo _ _ _ _ _ q)
  | invokespecial n =>
    have e1 := of_decide_eq_true hok1
    subst e1
    simp only [ab_sem] at hs
    obtain ⟨as, rest, hlen, hst, hs1⟩ := ab_tke _ _ _ hs
    rw [List.append_nil] at hs1
    clear hs
    have hs := hs1
    clear hs1
    subst hst
    cases hcat : Nat.ble (ab_cat rest) 8 with
    | false => rw [hcat] at hs; exact hs.elim
    | true =>
      rw [hcat] at hs
      dsimp only at hs
      have hcat := Nat.le_of_ble_eq_true hcat
      rcases Bool.or_eq_true_iff.mp hlk with hlk | hlk
      · rcases Bool.or_eq_true_iff.mp hlk with hlk | hlk
        · have ex := Nat.eq_of_beq_eq_true hlk
          subst ex
          exact (show False from hs).elim
        · simp only [Bool.and_eq_true] at hlk
          have ex := Nat.eq_of_beq_eq_true hlk.1.1
          subst ex
          split at hs
          · split at hs
            · exact ab_oin F hf hlk.2 hcat hfr1 hlo1 hd (hgo _ _ _ _ _ hs)
            · exact hs.elim
          · omega
          · omega
          · omega
          · exact absurd (rfl : (9001 : Nat) = 9001) (by assumption)
      · simp only [Bool.and_eq_true] at hlk
        obtain ⟨⟨⟨⟨a1, a2⟩, a3⟩, a4⟩, a5⟩ := hlk
        have hx332 : x < 332 := Nat.le_of_ble_eq_true a1
        have ez := Nat.eq_of_beq_eq_true a2
        subst ez
        have hy1 := Nat.le_of_ble_eq_true a5
        cases as with
        | nil =>
          split at hs
          · omega
          · omega
          · omega
          · omega
          · exact (show False from hs).elim
        | cons v as =>
          have hlen2 : as.length = y - 1 := by rw [← hlen]; rfl
          split at hs
          · omega
          · omega
          · omega
          · omega
          cases v with
          | ref a =>
            obtain ⟨c1, c2, c3⟩ := ab_cl_of (show ab_cl (ab_Ok d) ab_costs Mc Ms x (.ref a :: as) h nc ns (fun r h nc ns => go lv (ab_pu r rest) h nc ns) from hs)
            rw [List.reverse_cons, List.append_assoc]
            exact ab_cI IH F hf hfr hlo hx332 a3 a4 hlen2 hcat (by omega) (by omega) hd c3 (fun r h' q => hgo _ _ _ _ _ q)
          | _ => exact (show False from hs).elim
  | invokevirtual n =>
    have e1 := of_decide_eq_true hok1
    subst e1
    simp only [ab_sem] at hs
    obtain ⟨as, rest, hlen, hst, hs1⟩ := ab_tke _ _ _ hs
    rw [List.append_nil] at hs1
    clear hs
    have hs := hs1
    clear hs1
    subst hst
    cases hcat : Nat.ble (ab_cat rest) 8 with
    | false => rw [hcat] at hs; exact hs.elim
    | true =>
      rw [hcat] at hs
      dsimp only at hs
      have hcat := Nat.le_of_ble_eq_true hcat
      rcases Bool.or_eq_true_iff.mp hlk with hlk | hlk
      · rcases Bool.or_eq_true_iff.mp hlk with hlk | hlk
        · have ex := Nat.eq_of_beq_eq_true hlk
          subst ex
          exact (show False from hs).elim
        · simp only [Bool.and_eq_true] at hlk
          have ex := Nat.eq_of_beq_eq_true hlk.1.1
          subst ex
          split at hs
          · omega
          · omega
          · split at hs
            · obtain ⟨k1, k2, k3, k4⟩ := hs
              exact ab_cln F hf hlk.2 k1 hcat hfr1 hlo1 (by omega) (by omega) hd (hgo _ _ _ _ _ k4)
            · exact hs.elim
          · omega
          · exact absurd (rfl : (9003 : Nat) = 9003) (by assumption)
      · simp only [Bool.and_eq_true, decide_eq_true_eq] at hlk
        obtain ⟨⟨⟨⟨⟨a1, a2⟩, a3⟩, a4⟩, a5⟩, a6⟩ := hlk
        have hx332 : x < 332 := Nat.le_of_ble_eq_true a1
        have hz30 : z ≤ 30 := Nat.le_of_ble_eq_true a2
        have hy1 := Nat.le_of_ble_eq_true a5
        cases as with
        | nil =>
          split at hs
          · omega
          · omega
          · omega
          · omega
          · split at hs
            · omega
            · exact hs.elim
        | cons v as =>
          have hlen2 : as.length = y - 1 := by rw [← hlen]; rfl
          split at hs
          · omega
          · omega
          · omega
          · omega
          split at hs
          · omega
          · cases v with
            | ref a =>
              have hs2 : ab_K h a = z ∧ ab_cl (ab_Ok d) ab_costs Mc Ms x (.ref a :: as) h nc ns (fun r h nc ns => go lv (ab_pu r rest) h nc ns) := by
                dsimp only at hs
                split at hs
                · omega
                · exact hs
              have hz : z < 13 ∨ z = 20 := by
                by_cases hz : z < 13 ∨ z = 20
                · exact hz
                · exfalso
                  exact ab_zno hx332 (by omega) (by omega) a4 a6
              obtain ⟨c1, c2, c3⟩ := ab_cl_of hs2.2
              rw [List.reverse_cons, List.append_assoc]
              exact ab_cV IH F hf hfr hlo hx332 a3 a4 hz a6 hs2.1 hlen2 hcat (by omega) (by omega) hd c3 (fun r h' q => hgo _ _ _ _ _ q)
            | _ => exact (show False from hs).elim
  | ireturn =>
    have e1 := of_decide_eq_true hok1
    subst e1
    simp only [ab_sem] at hs
    split at hs
    · rename_i v
      split at hs
      · obtain ⟨a1, a2, a3⟩ := ab_rt_of hs
        exact hret (some (.int v)) _ _ _ _ (Or.inl ⟨rfl, v, rfl, Or.inl rfl⟩) hd a3 a1 a2
      · obtain ⟨a1, a2, a3⟩ := ab_rt_of hs.2
        exact hret (some (.int v)) _ _ _ _ (Or.inl ⟨rfl, v, rfl, Or.inr (Or.inl ⟨rfl, hs.1⟩)⟩) hd a3 a1 a2
      · obtain ⟨a1, a2, a3⟩ := ab_rt_of hs.2
        exact hret (some (.int v)) _ _ _ _ (Or.inl ⟨rfl, v, rfl, Or.inr (Or.inr (Or.inl ⟨rfl, hs.1⟩))⟩) hd a3 a1 a2
      · obtain ⟨a1, a2, a3⟩ := ab_rt_of hs.2
        exact hret (some (.int v)) _ _ _ _ (Or.inl ⟨rfl, v, rfl, Or.inr (Or.inr (Or.inr ⟨rfl, hs.1⟩))⟩) hd a3 a1 a2
      · exact hs.elim
    · exact hs.elim
  | lreturn =>
    have e1 := of_decide_eq_true hok1
    subst e1
    simp only [ab_sem] at hs
    split at hs
    · rename_i v
      obtain ⟨a1, a2, a3⟩ := ab_rt_of hs
      exact hret (some (.long v)) _ _ _ _ (Or.inr (Or.inl ⟨rfl, rfl, v, rfl⟩)) hd a3 a1 a2
    · exact hs.elim
  | areturn =>
    have e1 := of_decide_eq_true hok1
    subst e1
    simp only [ab_sem] at hs
    split at hs
    · rename_i a
      obtain ⟨a1, a2, a3⟩ := ab_rt_of hs
      exact hret (some (.ref a)) _ _ _ _ (Or.inr (Or.inr (Or.inl ⟨rfl, rfl, Or.inr ⟨a, rfl⟩⟩))) hd a3 a1 a2
    · obtain ⟨a1, a2, a3⟩ := ab_rt_of hs
      exact hret (some .null) _ _ _ _ (Or.inr (Or.inr (Or.inl ⟨rfl, rfl, Or.inl rfl⟩))) hd a3 a1 a2
    · exact hs.elim
  | return_ =>
    have e1 := of_decide_eq_true hok1
    subst e1
    simp only [ab_sem] at hs
    split at hs
    · obtain ⟨a1, a2, a3⟩ := ab_rt_of hs
      exact hret none _ _ _ _ (Or.inr (Or.inr (Or.inr ⟨rfl, rfl, rfl⟩))) hd a3 a1 a2
    · exact hs.elim
  | _ => first | exact ab_s1 hx hb hf hfv hok0 hs hgo hjp rfl | exact (show False from hs).elim
end ABN
