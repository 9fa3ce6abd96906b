/-! ===== the law's entry: what the Statement gives, as the abstract machine's beginning (mine) ===== -/
def R_law : String := "ClothesHorsesLaw"
def lw_P (b : Addr) (xs : List Int32) (args : Array Value) (s : State) : Prop := args = #[.ref b] ∧ s.IntsAt b xs ∧ xs.length ≤ 3072 ∧ (Jvm.Cond.and given_1 narrow_1).before args s = true
def lw_Q (_ : Array Value) (s : State) (o : Outcome) (t : State) : Prop := o = .returned (some (.int 1)) ∧ Framed s o t [] 650306 7151329
def lw_Z (below : List Frame) (a : Array Value) (s : State) : State → Prop := fun t => ∃ o, t.status = .running ∧ Ended t below o ∧ lw_Q a s o t
/-- the law's own end, with 1 on the stack, nothing written that was there before, its room as the claim has it -/
theorem lw_ret {p : Program} {l : Launch} {e : Env} {s : State} {m : MethodId} {below : List Frame} {meth : Method} {c : Code} {b : Nat} (hx : p.tables.exec = Jvm.exec) (hb : c.code = code) (hr : meth.sig.returnType = ret) (hlocks : meth.locks = false) {pc : Nat} {H : Heap} {ls : Array Slot} (hdg : decode code pc = .ok (.ireturn, 1)) : W p l e room_1 s m #[Value.ref b] below meth c H [] 650306 7151329 (lw_Z below #[Value.ref b] s) (F0 m pc ls [.int 1]) := by
  intro T hT X
  obtain ⟨fs, hret, hrun, hended, hW, hframe⟩ := X.leave (v := some (.int 1)) (hlocks := hlocks) (fun h => by rw [hr] at h; cases h)
  have hmeth' : T.vm.method? m = some meth := X.method'
  refine ⟨T.setFrames fs, ?_, .returned (some (.int 1)), hrun, hended, rfl, ⟨_, rfl⟩, hW, hframe⟩
  jvm_step X.here [X.here.top, hx, hb, hdg, hmeth', hr, ret, narrow_b1]
  (try refine ⟨rfl, ?_⟩); (try refine ⟨rfl, ?_⟩)
  first | (intro acts; rw [hret _ acts rfl rfl rfl]) | rw [hret _ _ rfl rfl rfl]
  exact Steps.refl _
def lw_At (p : Program) (s : State) (m : MethodId) (meth : Method) (c : Code) (b L : Nat) (xs : Nat → Int32) : Prop :=
  p.tables.exec = Jvm.exec ∧ c.code = code ∧ meth.sig.returnType = ret ∧ c.maxLocals = 4 ∧ s.vm.findClass R_law = some m.cls ∧ (∀ w ∈ lw_tbl, w.before #[Value.ref b] s = true) ∧ va_X b L xs s s.heap ∧ b < s.heap.size ∧ meth.locks = false ∧ (Jvm.Cond.and given_1 narrow_1).before #[Value.ref b] s = true
def ab_tm (i : Nat) : Term := match i with
  | 0 => .string "ClothesHorses$Tape" 78
  | _ => .string "ClothesHorses$Tape" 88
def ab_elc (i j : Nat) : Cond := .eq (.elem (.field (ab_tm i) "java/lang/String" "value" "[B") (.int (Int32.ofNat j))) (.int (([ab_b0, ab_b1].getD i []).getD j 0))
theorem ab_el0 : ∀ j, j < ab_b0.length → ab_elc 0 j ∈ flatC (Jvm.Cond.and given_1 narrow_1) := by decide +kernel
theorem ab_el1 : ∀ j, j < ab_b1.length → ab_elc 1 j ∈ flatC (Jvm.Cond.and given_1 narrow_1) := by decide +kernel
section ABP
variable {args : Array Value} {s : State}
theorem ab_arr {ty : FieldType} (h : (Cond.arrayClass ty).before args s = true) (hn : (∃ C, ty = .object C) → False) : ∃ c, ArrOfT s c ty ∧ va_RA s c ty := by
  obtain ⟨c, k, comp, h1, h2, h3⟩ := Cond.arrayClass_spec (args := args) (first := s) (o := none) (s := s) (idx := []) h
  refine ⟨c, fun n z => ⟨fun k h => (by cases h), k, h2, comp, h3⟩, ?_⟩
  cases ty <;> first | exact h1 | exact absurd ⟨_, rfl⟩ hn
theorem ab_arrO {C : String} (h : va_AO C s) : ∃ c, ArrOfT s c (.object C) ∧ va_RA s c (.object C) := by
  obtain ⟨comp, c, k, h1, h2, h3, h4, h5⟩ := Cond.arrayOver_spec h
  exact ⟨c, fun n z => ⟨fun k h => (by cases h), k, h3, comp, h4⟩, k, comp, h3, h4, h1, h5⟩
theorem ab_arrA {t : FieldType} (h : (Cond.arrayOver (.array t)).before args s = true) : ∃ (c comp : ClassId) (k : Class), (ArrOfT s c (.array t) ∧ va_RA s c (.array t)) ∧ s.vm.findClass ("[" ++ t.toString) = some comp ∧ s.vm.classes[c]? = some k ∧ k.kind = .array comp (.array t) := by
  obtain ⟨comp, c, k, h1, -, h3, h4, h5⟩ := arrayOverA_spec (t := t) h
  exact ⟨c, comp, k, ⟨fun n z => ⟨fun k h => (by cases h), k, h3, comp, h4⟩, h5⟩, h1, h3, h4⟩
end ABP
theorem ab_start {p : Program} {s : State} {m : MethodId} {meth : Method} {c : Code} {b L : Nat} {xs : Nat → Int32} (C0 : lw_At p s m meth c b L xs) : ∃ g : Gl, gl_b g = s.heap.size ∧ gl_r g 0 = b ∧ ab_E g L xs s s.heap := by
  obtain ⟨hx, hb, hr, hml, hown, hts, hX, hbl, hlocks, hgv⟩ := C0
  have hs := flat_of_before _ hgv
  have hA : ∀ a : Nat, a < s.heap.size → ¬ (fun q : Nat => s.heap.size ≤ q) a := fun a h => Nat.not_le.mpr h
  have hch : ∀ ci : Nat, ∃ q : ClassId × (Nat → Nat), ci < 13 → u_Kn s (ab_C ci) (ab_T ci) (ab_fts.getD ci []).length q.1 q.2 := by
    intro ci
    by_cases h : ci < 13
    · obtain ⟨cC, iS, hk⟩ := u_known hts (ab_uw ci h) (hts _ (List.mem_of_getElem? (ab_ip_ok ci h).1))
      exact ⟨(cC, iS), fun _ => hk⟩
    · exact ⟨(m.cls, fun _ => 0), fun h' => absurd h' h⟩
  obtain ⟨q, hq⟩ := Classical.axiomOfChoice hch
  have hO1 : va_AO RX1 s := va_AO.of (hts (.arrayOver (.object RX1)) (by decide +kernel))
  have hO9 : va_AO RX9 s := va_AO.of (hts (.arrayOver (.object RX9)) (by decide +kernel))
  obtain ⟨c0, a0⟩ := ab_arr (hts (.arrayClass .int) (by decide +kernel)) (fun ⟨_, h⟩ => by cases h)
  obtain ⟨c1, a1⟩ := ab_arr (hts (.arrayClass .long) (by decide +kernel)) (fun ⟨_, h⟩ => by cases h)
  obtain ⟨c2, a2⟩ := ab_arr (hts (.arrayClass .boolean) (by decide +kernel)) (fun ⟨_, h⟩ => by cases h)
  obtain ⟨c3, a3⟩ := ab_arrO hO1
  obtain ⟨c4, a4⟩ := ab_arrO hO9
  obtain ⟨c5, cm5, k5, a5, b5, b6, b7⟩ := ab_arrA (hts (.arrayOver (.array .int)) (by decide +kernel))
  obtain rfl : c0 = cm5 := (Option.some.inj (b5.symm.trans a0.2)).symm
  obtain ⟨adK, adV, hSt, hev⟩ := vk_Sof (args := #[Value.ref b]) (s := s) (N := 2) (tm := ab_tm) (len := ab_lens) (byt := [ab_b0, ab_b1]) (A := fun q : Nat => s.heap.size ≤ q)
    (fun i hi => by rcases (show i = 0 ∨ i = 1 by omega) with rfl | rfl <;> decide +kernel)
    (fun i hi => by rcases (show i = 0 ∨ i = 1 by omega) with rfl | rfl <;> exact hs _ (by decide +kernel))
    (fun i hi => by rcases (show i = 0 ∨ i = 1 by omega) with rfl | rfl <;> exact hs _ (by decide +kernel))
    (fun i hi => by rcases (show i = 0 ∨ i = 1 by omega) with rfl | rfl <;> exact hs _ (by decide +kernel))
    (fun i hi => by rcases (show i = 0 ∨ i = 1 by omega) with rfl | rfl <;> exact hs _ (by decide +kernel))
    (fun i hi j hj => by
      rcases (show i = 0 ∨ i = 1 by omega) with rfl | rfl
      · exact hs _ (ab_el0 j hj)
      · exact hs _ (ab_el1 j hj))
    (fun i j hi hj hij => by
      have hne := hs (.not (.eq (.string "ClothesHorses$Tape" 78) (.string "ClothesHorses$Tape" 88))) (by decide +kernel)
      rcases (show (i = 0 ∧ j = 1) ∨ (i = 1 ∧ j = 0) by omega) with ⟨rfl, rfl⟩ | ⟨rfl, rfl⟩
      · exact Or.inl hne
      · exact Or.inr hne) hA
  have hzc := va_Zof (A := fun q : Nat => s.heap.size ≤ q) (hts (.laysStatic "java/lang/String" "COMPACT_STRINGS" "Z") (by decide +kernel)) (hts (.initialized "java/lang/String") (by decide +kernel)) (va_eqt (hs (.eq (.static "java/lang/String" "COMPACT_STRINGS" "Z") (.int 1)) (by decide +kernel))) hA
  have hzf := va_Zqof (A := fun q : Nat => s.heap.size ≤ q) (hts (.laysStatic "jdk/internal/util/Preconditions" "SIOOBE_FORMATTER" "Ljava/util/function/BiFunction;") (by decide +kernel)) (hts (.initialized "jdk/internal/util/Preconditions") (by decide +kernel)) (hs (.isRef (.static "jdk/internal/util/Preconditions" "SIOOBE_FORMATTER" "Ljava/util/function/BiFunction;")) (by decide +kernel)) hA
  have hfv : ∃ fv : Value, va_Z "jdk/internal/util/Preconditions" "SIOOBE_FORMATTER" "Ljava/util/function/BiFunction;" fv (fun q : Nat => s.heap.size ≤ q) s s.heap ∧ (fv = .null ∨ ∃ a, fv = .ref a) := by
    rcases hzf with h | ⟨t, h⟩
    · exact ⟨_, h, Or.inl rfl⟩
    · exact ⟨_, h, Or.inr ⟨t, rfl⟩⟩
  obtain ⟨fv, hz1, hz2⟩ := hfv
  refine ⟨(fun ci => (q ci).1, fun ci => (q ci).2, fun k => [c0, c1, c2, c3, c4, c5].getD k c0, s.heap.size, fun a => [b, adK 0, adV 0, adK 1, adV 1].getD a 0, fv), rfl, rfl, ?_⟩
  refine ⟨⟨fun ci r hr => ?_, fun k r hk => ?_⟩, hX, hbl, ⟨fun i hi => ?_, fun i j hi hj e => ?_⟩, ?_, ?_, hzc, hz1, fun q hq e => ?_, ?_, hO1, ⟨hO9, k5, b6, b7⟩, Nat.le_refl _, hz2⟩
  · have hl : ci < 13 := (List.getElem?_eq_some_iff.mp hr).1
    rw [ab_vw ci hl] at hr
    cases hr
    exact hq ci hl
  · have hl : k < 6 := (List.getElem?_eq_some_iff.mp hk).1
    rcases (show k = 0 ∨ k = 1 ∨ k = 2 ∨ k = 3 ∨ k = 4 ∨ k = 5 by omega) with rfl | rfl | rfl | rfl | rfl | rfl <;> cases hk
    · exact a0
    · exact a1
    · exact a2
    · exact a3
    · exact a4
    · exact a5
  · rcases (show i = 0 ∨ i = 1 by omega) with rfl | rfl
    · exact hSt.1 0 hi
    · exact hSt.1 1 hi
  · rcases (show i = 0 ∨ i = 1 by omega) with rfl | rfl <;> rcases (show j = 0 ∨ j = 1 by omega) with rfl | rfl
    · rfl
    · exact hSt.2 0 1 (by decide) (by decide) e
    · exact hSt.2 1 0 (by decide) (by decide) e
    · rfl
  · exact vk_R.of (hts (.stringRef RX8 78 ab_tx0) (by decide +kernel)) (hev 0 (by decide))
  · exact vk_R.of (hts (.stringRef RX8 88 ab_tx1) (by decide +kernel)) (hev 1 (by decide))
  · have h1 := of_decide_eq_true (List.all_eq_true.mp ab_mp_ok _ hq)
    have e2 : ab_ml q = .methodLinkNest (ab_nm q.1) q.2.1 (ab_y q.2.2.1) "ClothesHorses" := by
      unfold ab_ml
      rw [e]
      rfl
    have h2 := hts _ (List.mem_of_getElem? h1)
    rw [e2] at h2 ⊢
    exact va_Nw.of rfl h2
  · exact va_Nw.of rfl (hts (.castable "[I" "java/lang/Cloneable") (by decide +kernel))
/-- the law, from its entry, if the abstract machine's law is Ok -/
theorem ab_law {p : Program} {e : Env} {s : State} {m : MethodId} {below : List Frame} {meth : Method} {c : Code} (l : Launch) {b L : Nat} {xs : Nat → Int32} (C0 : lw_At p s m meth c b L xs) (hok : ab_Ok 1001 n_L_law [.ref 0] (ab_h0 L xs) (fun r _ => r = some (.int 1))) :
    W p l e room_1 s m #[Value.ref b] below meth c s.heap [] 0 0 (lw_Z below #[Value.ref b] s) (entryFrame m ([Value.ref b] : List Value).toArray 4) := by
  obtain ⟨g, hgb, hgr, hE⟩ := ab_start C0
  obtain ⟨hx, hb, hr, hml, hown, hts, hX, hbl, hlocks, hgv⟩ := C0
  have F : ab_F p s m #[Value.ref b] c g L xs code 4 30 := ⟨hx, hb, hml, hown, fun w hw => hts w (List.mem_filter.mp hw).1, hE⟩
  obtain ⟨-, -, -, -, -, -, -, -, -, -, -, -, hbs, hfv⟩ := id hE
  have hf : (gl_f g).category = 1 := by rcases hfv with e1 | ⟨a, e1⟩ <;> rw [e1] <;> rfl
  have eb : gl_cv g (.ref 0) = .ref b := by
    show Value.ref (gl_ad g 0) = _
    rw [ab_ad_lo g (by decide), hgr]
  have hR : ab_rel g L xs (ab_h0 L xs) s.heap := by
    unfold ab_rel
    have e0 : ab_ws g (ab_h0 L xs) = [] := rfl
    rw [e0]
    refine ⟨fun k q h => by simp at h, ?_, ?_⟩
    · rw [hgb]
      rfl
    · refine ⟨Nat.le_refl _, fun a _ => ⟨rfl, rfl, rfl, rfl⟩, fun a ha => ?_⟩
      have ha : 5 ≤ a := ha
      show [19, 20, 21, 20, 21].getD a 22 = 22
      rw [List.getD_eq_getElem?_getD, List.getElem?_eq_none (by show 5 ≤ a; exact ha)]
      rfl
  rw [lg_entry_eq]
  have hl := lv_entry [Value.ref b] (n := 4) (Nat.le_of_ble_eq_true rfl)
  have hl2 : lv_has ((lg_sl ([Value.ref b] : List Value) ++ List.replicate (4 - (lg_sl ([Value.ref b] : List Value)).length) Slot.unset).toArray) 4 ((lv_args 0 [.ref 0]).map (gl_lv g)) := by
    rw [← ab_largs hf]
    show lv_has _ 4 (lv_args 0 [gl_cv g (.ref 0)])
    rw [eb]
    exact hl
  refine ab_entry (R := room_1) (d := 1000) (ab_main l 1000) F (ini := false) (fun h => by cases h) (Nat.le_of_ble_eq_true rfl) (Nat.le_of_ble_eq_true rfl) (i := n_L_law) (mm := mr_L_law) rfl (Nat.le_of_ble_eq_true rfl) (Nat.le_of_ble_eq_true rfl) (Nat.le_of_ble_eq_true rfl) ck_L_law rfl rfl hok ?_ _ s.heap [] hl2 hR ⟨Nat.le_refl _, fun _ _ _ => rfl, fun q hq => absurd hq List.not_mem_nil⟩
  intro pc i0 r lv h1 nc ns hr1 hd hq hnc hns ls H locs hlv hR1 hS1
  subst hq
  refine va_forget (fun q hq => by have := hS1.2.2 q hq; rw [← hgb]; exact this) ?_
  refine W.widen (k := 650306) (n := 7151329) (Nat.le_trans hnc (Nat.le_of_ble_eq_true rfl)) (Nat.le_trans hns (Nat.le_of_ble_eq_true rfl)) ?_
  rcases hr1 with ⟨rfl, v, hv, -⟩ | ⟨rfl, hv, v, hv2⟩ | ⟨rfl, hv, ha | ⟨a, ha⟩⟩ | ⟨rfl, hv, ha⟩
  · exact lw_ret hx hb hr hlocks hd
  · cases hv2
  · cases ha
  · cases ha
  · cases ha
