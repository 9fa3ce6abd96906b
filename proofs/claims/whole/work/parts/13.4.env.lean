/-! ===== what holds of the machine's tables and of the cells that nobody writes (mine) ===== -/
def ab_tx0 : String := "paces dries sheds horse piece peg sock start wind hour sun hinges load cell who stuff weight wet at to on if then else end or and not tenth winds "
def ab_tx1 : String := "<>=#+-*/();"
def ab_TB : List Cond := lw_tbl.filter goodWord
theorem ab_tb {w : Cond} (h : w ∈ lw_tbl) (hg : goodWord w = true) : w ∈ ab_TB := List.mem_filter.mpr ⟨h, hg⟩
theorem ab_tbi {w : Cond} {i : Nat} (h : lw_tbl[i]? = some w) (hg : goodWord w = true) : w ∈ ab_TB := ab_tb (List.mem_of_getElem? h) hg
def ab_adK (g : Gl) (i : Nat) : Nat := gl_r g (2 * i + 1)
def ab_adV (g : Gl) (i : Nat) : Nat := gl_r g (2 * i + 2)
def ab_lens : List Nat := [ab_b0.length, ab_b1.length]
/-- the class of int[][] is that of rows of int[] -/
def ab_C2 (g : Gl) (U : State) : Prop := ∃ kA : Class, U.vm.classes[gl_cy g 5]? = some kA ∧ kA.kind = .array (gl_cy g 0) (.array .int)
theorem ab_C2.moved {g : Gl} {u U : State} (hA : u.vm.Alike U.vm) (h : ab_C2 g u) : ab_C2 g U := by
  obtain ⟨kA, h1, h2⟩ := h
  obtain ⟨k', hk', he⟩ := hA.2.2 _ _ h1
  exact ⟨k', hk', by rw [he]; exact h2⟩
def ab_E (g : Gl) (L : Nat) (xs : Nat → Int32) (U : State) (H : Heap) : Prop :=
  va_K (gl_D g) vwCl (ab_tys g) U ∧ va_X (gl_r g 0) L xs U H ∧ gl_r g 0 < gl_b g ∧ vk_S 2 ab_lens [ab_b0, ab_b1] (ab_adK g) (ab_adV g) (gl_A g) U H ∧
  vk_R RX8 78 ab_tx0 (gl_r g 1) U ∧ vk_R RX8 88 ab_tx1 (gl_r g 3) U ∧ va_Z "java/lang/String" "COMPACT_STRINGS" "Z" (.int 1) (gl_A g) U H ∧ va_Z "jdk/internal/util/Preconditions" "SIOOBE_FORMATTER" "Ljava/util/function/BiFunction;" (gl_f g) (gl_A g) U H ∧
  (∀ q ∈ ab_mp, q.2.2.2.1 = 1 → va_Nw (ab_ml q) U) ∧ va_Nw (.castable "[I" "java/lang/Cloneable") U ∧ va_AO RX1 U ∧ (va_AO RX9 U ∧ ab_C2 g U) ∧ gl_b g ≤ H.size ∧ (gl_f g = .null ∨ ∃ a, gl_f g = .ref a)
theorem ab_E.warm {g : Gl} {L : Nat} {xs : Nat → Int32} {s U : State} {H : Heap} (h : ab_E g L xs s s.heap) (hH : ∀ a : Nat, a < s.heap.size → ¬ gl_A g a → H[a]? = s.heap[a]?) (hz : s.heap.size ≤ H.size) (hW : s.WarmedH U.vm) : ab_E g L xs U H := by
  obtain ⟨h1, h2, h3, h4, h5, h6, h7, h8, h9, h10, h11, h12, h13, h14⟩ := h
  have hA := hW.alike
  refine ⟨va_K.moved hA h1, (va_X.moved hA h2).kept (hH _ (Nat.lt_of_lt_of_le h3 h13) (Nat.not_le.mpr h3)), h3, (vk_S.moved hA h4).kept hH, h5.warm hW, h6.warm hW, (va_Z.moved hA h7).kept hH, (va_Z.moved hA h8).kept hH, fun q hq e => ?_, va_Nw.warmC hW h10, va_AO.moved hA h11, ⟨va_AO.moved hA h12.1, ab_C2.moved hA h12.2⟩, Nat.le_trans h13 hz, h14⟩
  have h := h9 q hq e
  have e2 : ab_ml q = .methodLinkNest (ab_nm q.1) q.2.1 (ab_y q.2.2.1) "ClothesHorses" := by
    unfold ab_ml
    rw [e]
    rfl
  rw [e2] at h ⊢
  exact va_Nw.warmM hW h
theorem ab_E.same {g : Gl} {L : Nat} {xs : Nat → Int32} {u U : State} {H : Heap} (hv : U.vm = u.vm) (h : ab_E g L xs u H) : ab_E g L xs U H := by
  obtain ⟨h1, h2, h3, h4, h5, h6, h7, h8, h9, h10, h11, h12, h13, h14⟩ := h
  have hA : u.vm.Alike U.vm := by rw [hv]; exact Vm.Alike.refl _
  refine ⟨va_K.moved hA h1, va_X.moved hA h2, h3, vk_S.moved hA h4, h5.same hv, h6.same hv, va_Z.moved hA h7, va_Z.moved hA h8, fun q hq e => ?_, va_Nw.same rfl hv.symm h10, va_AO.moved hA h11, ⟨va_AO.moved hA h12.1, ab_C2.moved hA h12.2⟩, h13, h14⟩
  have h := h9 q hq e
  have e2 : ab_ml q = .methodLinkNest (ab_nm q.1) q.2.1 (ab_y q.2.2.1) "ClothesHorses" := by
    unfold ab_ml
    rw [e]
    rfl
  rw [e2] at h ⊢
  exact va_Nw.same rfl hv.symm h
/-! classes and fields -/
theorem ab_vw : ∀ ci, ci < 13 → vwCl[ci]? = some (ab_C ci, ab_T ci, (ab_fts.getD ci []).length)
  | 0, _ => rfl | 1, _ => rfl | 2, _ => rfl | 3, _ => rfl | 4, _ => rfl | 5, _ => rfl | 6, _ => rfl | 7, _ => rfl | 8, _ => rfl | 9, _ => rfl | 10, _ => rfl | 11, _ => rfl | 12, _ => rfl
  | n + 13, h => absurd h (by omega)
theorem ab_uwT (ci : Nat) (h : ci < 13) : ∀ w ∈ u_ws (ab_C ci) (ab_T ci) (ab_fts.getD ci []).length, w ∈ ab_TB := by
  intro w hw
  refine ab_tb (ab_uw ci h w hw) ?_
  obtain ⟨k, -, rfl⟩ := List.mem_map.mp hw
  unfold u_lay
  split <;> rfl
def ab_ty (ci k : Nat) : FieldType := (parseFieldDescriptor (ab_T ci k).2.2.1).getD .int
def ab_ftb (ci k : Nat) : Bool := match parseFieldDescriptor (ab_T ci k).2.2.1 with
  | some .int => Nat.beq ((ab_fts.getD ci []).getD k 9) 0
  | some .long => Nat.beq ((ab_fts.getD ci []).getD k 9) 1
  | some .boolean => Nat.beq ((ab_fts.getD ci []).getD k 9) 3
  | some (.object _) => Nat.beq ((ab_fts.getD ci []).getD k 9) 2
  | some (.array _) => Nat.beq ((ab_fts.getD ci []).getD k 9) 2
  | _ => false
theorem ab_ft_ok : ∀ ci, ci < 13 → ∀ k, k < (ab_fts.getD ci []).length → ab_ftb ci k = true := by decide +kernel
theorem ab_ty_ok (ci : Nat) (h : ci < 13) : ∀ k, k < (ab_fts.getD ci []).length → parseFieldDescriptor (ab_T ci k).2.2.1 = some (ab_ty ci k) := by
  intro k hk
  have := ab_ft_ok ci h k hk
  unfold ab_ftb at this
  unfold ab_ty
  cases he : parseFieldDescriptor (ab_T ci k).2.2.1 with
  | none => rw [he] at this; cases this
  | some ty => rfl
theorem ab_nm_ok (ci : Nat) (h : ci < 13) : ∀ a, a < (ab_fts.getD ci []).length → ∀ b, b < (ab_fts.getD ci []).length → a ≠ b → (ab_T ci a).2.1 ≠ (ab_T ci b).2.1 := by
  rcases (show ci = 0 ∨ ci = 1 ∨ ci = 2 ∨ ci = 3 ∨ ci = 4 ∨ ci = 5 ∨ ci = 6 ∨ ci = 7 ∨ ci = 8 ∨ ci = 9 ∨ ci = 10 ∨ ci = 11 ∨ ci = 12 by omega) with rfl | rfl | rfl | rfl | rfl | rfl | rfl | rfl | rfl | rfl | rfl | rfl | rfl
  · exact nmX0
  · exact nmX1
  · exact nmX2
  · exact nmX3
  · exact nmX4
  · exact nmX5
  · exact nmX6
  · exact nmX7
  · exact nmX8
  · exact nmX9
  · exact nmX10
  · exact nmX11
  · exact nmX12
/-! the cells by their kinds -/
section ABC
variable {g : Gl} {h : Hp} {a : Nat}
theorem ab_ceO {ci : Nat} (hc : ci < 13) (hk : ab_K h a = ci) : ab_ce g h a = .inr (ci, ab_fl g h a (ab_fts.getD ci [])) := by
  unfold ab_ce
  rw [hk]
  rcases (show ci = 0 ∨ ci = 1 ∨ ci = 2 ∨ ci = 3 ∨ ci = 4 ∨ ci = 5 ∨ ci = 6 ∨ ci = 7 ∨ ci = 8 ∨ ci = 9 ∨ ci = 10 ∨ ci = 11 ∨ ci = 12 by omega) with rfl | rfl | rfl | rfl | rfl | rfl | rfl | rfl | rfl | rfl | rfl | rfl | rfl <;> rfl
theorem ab_ce13 (hk : ab_K h a = 13) : ab_ce g h a = .inl (gl_cy g 0, ab_L h a, .inl (ab_I h a)) := by unfold ab_ce; rw [hk]; rfl
theorem ab_ce14 (hk : ab_K h a = 14) : ab_ce g h a = .inl (gl_cy g 1, ab_L h a, .inr (.inl (ab_J h a))) := by unfold ab_ce; rw [hk]; rfl
theorem ab_ce15 (hk : ab_K h a = 15) : ab_ce g h a = .inl (gl_cy g 2, ab_L h a, .inl (ab_I h a)) := by unfold ab_ce; rw [hk]; rfl
theorem ab_ce16 (hk : ab_K h a = 16) : ab_ce g h a = .inl (gl_cy g 3, ab_L h a, .inr (.inr (.inr (.inr (fun k => (ab_R h a k).map (gl_ad g)))))) := by unfold ab_ce; rw [hk]; rfl
theorem ab_ce17 (hk : ab_K h a = 17) : ab_ce g h a = .inl (gl_cy g 4, ab_L h a, .inr (.inr (.inr (.inr (fun k => (ab_R h a k).map (gl_ad g)))))) := by unfold ab_ce; rw [hk]; rfl
theorem ab_ce18 (hk : ab_K h a = 18) : ab_ce g h a = .inl (gl_cy g 5, ab_L h a, .inr (.inr (.inr (.inr (fun k => (ab_R h a k).map (gl_ad g)))))) := by unfold ab_ce; rw [hk]; rfl
theorem ab_fl_at (ts : List Nat) {k : Nat} (hk : k < ts.length) : (ab_fl g h a ts)[k]? = some (ab_fv g h a k (ts.getD k 0)) := by
  unfold ab_fl
  rw [List.getElem?_map, List.getElem?_range hk]
  rfl
theorem ab_fl_len (ts : List Nat) : (ab_fl g h a ts).length = ts.length := by
  unfold ab_fl
  rw [List.length_map, List.length_range]
/-- two heaps with the same cell b -/
theorem ab_ce_eq {h' : Hp} {b : Nat} (h1 : ab_K h' b = ab_K h b) (h2 : ab_L h' b = ab_L h b) (h3 : ab_I h' b = ab_I h b) (h4 : ab_J h' b = ab_J h b) (h5 : ab_R h' b = ab_R h b) : ab_ce g h' b = ab_ce g h b := by
  unfold ab_ce ab_fl ab_fv
  rw [h1, h2, h3, h4, h5]
theorem ab_getD {ts : List Nat} {k : Nat} (hk : k < ts.length) : ts.getD k 0 = ts.getD k 9 := by
  rw [List.getD_eq_getElem?_getD, List.getD_eq_getElem?_getD, List.getElem?_eq_getElem hk]
  rfl
theorem ab_fl_set (h' : Hp) (ts : List Nat) {k : Nat} (hk : k < ts.length) {v : Value} (hv : ab_fv g h' a k (ts.getD k 0) = v) (ho : ∀ j, j ≠ k → ∀ t, ab_fv g h' a j t = ab_fv g h a j t) : (ab_fl g h a ts).set k v = ab_fl g h' a ts := by
  apply List.ext_getElem?
  intro j
  by_cases hj : j = k
  · subst hj
    rw [List.getElem?_set_self (by rw [ab_fl_len]; exact hk), ab_fl_at ts hk, hv]
  · rw [List.getElem?_set_ne (Ne.symm hj)]
    by_cases hl : j < ts.length
    · rw [ab_fl_at ts hl, ab_fl_at ts hl, ho j hj]
    · rw [List.getElem?_eq_none (by rw [ab_fl_len]; omega), List.getElem?_eq_none (by rw [ab_fl_len]; omega)]
end ABC
/-! writes keep the first five cells and the kinds -/
theorem ab_wfI {L : Nat} {xs : Nat → Int32} {h : Hp} (hw : ab_wf L xs h) {a : Nat} (h5 : 5 ≤ a) (k : Nat) (v : Int32) : ab_wf L xs (ab_sI h a k v) := by
  refine ⟨hw.1, fun b hb => ?_, hw.2.2⟩
  obtain ⟨e1, e2, e3, e4⟩ := hw.2.1 b hb
  exact ⟨e1, e2, (va_up_ne _ _ (by omega)).trans e3, e4⟩
theorem ab_wfA {L : Nat} {xs : Nat → Int32} {h : Hp} (hw : ab_wf L xs h) {a : Nat} (h5 : 5 ≤ a) (f : Nat → Int32) : ab_wf L xs (ab_sA h a f) := by
  refine ⟨hw.1, fun b hb => ?_, hw.2.2⟩
  obtain ⟨e1, e2, e3, e4⟩ := hw.2.1 b hb
  exact ⟨e1, e2, (va_up_ne _ _ (by omega)).trans e3, e4⟩
theorem ab_wfJ {L : Nat} {xs : Nat → Int32} {h : Hp} (hw : ab_wf L xs h) {a : Nat} (k : Nat) (v : Int64) : ab_wf L xs (ab_sJ h a k v) := hw
theorem ab_wfR {L : Nat} {xs : Nat → Int32} {h : Hp} (hw : ab_wf L xs h) {a : Nat} (h5 : 5 ≤ a) (k : Nat) (v : Option Nat) : ab_wf L xs (ab_sR h a k v) := by
  refine ⟨hw.1, fun b hb => ?_, hw.2.2⟩
  obtain ⟨e1, e2, e3, e4⟩ := hw.2.1 b hb
  exact ⟨e1, e2, e3, (va_up_ne _ _ (by omega)).trans e4⟩
theorem ab_wfN {L : Nat} {xs : Nat → Int32} {h : Hp} (hw : ab_wf L xs h) (k n : Nat) (f : Nat → Int32) : ab_wf L xs (ab_nw h k n f) := by
  refine ⟨Nat.le_succ_of_le hw.1, fun b hb => ?_, fun b hb => ?_⟩
  · obtain ⟨e1, e2, e3, e4⟩ := hw.2.1 b hb
    have hne : b ≠ h.2.2.2.2.2 := by have := hw.1; show b ≠ ab_N h; omega
    exact ⟨(va_up_ne _ _ hne).trans e1, (va_up_ne _ _ hne).trans e2, (va_up_ne _ _ hne).trans e3, (va_up_ne _ _ hne).trans e4⟩
  · have hb' : ab_N h + 1 ≤ b := hb
    exact (va_up_ne _ _ (show b ≠ ab_N h by omega)).trans (hw.2.2 b (by omega))
