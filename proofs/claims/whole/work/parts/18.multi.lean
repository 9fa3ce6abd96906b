/-! ===== soundness: new int[n][k] (mine) ===== -/
/-- the outer row when i rows hang in it; a row -/
def mn_o (cA : ClassId) (n z i : Nat) : Cell := arrV cA n (fun j => if j < i then .ref (z + 1 + j) else .null)
def mn_r (cB : ClassId) (k : Nat) : Cell := arrV cB k (fun _ => .int 0)
/-- the machine when i rows are made -/
def mn_s (T : State) (cA cB : ClassId) (n k : Nat) : Nat → State
  | 0 => T.pushCell (mn_o cA n T.heap.size 0)
  | i + 1 => ((mn_s T cA cB n k i).pushCell (mn_r cB k)).setCell T.heap.size (mn_o cA n T.heap.size (i + 1))
theorem mn_up (cA : ClassId) (n z i : Nat) : (mn_o cA n z i).setSlot i (.ref (z + 1 + i)) = mn_o cA n z (i + 1) := by
  unfold mn_o
  rw [arrV_store]
  refine congrArg (arrV cA n) (funext fun j => ?_)
  unfold updV
  by_cases e : j = i
  · subst e
    rw [if_pos rfl, if_pos (Nat.lt_succ_self _)]
  · rw [if_neg e]
    show (if j < i then Value.ref (z + 1 + j) else Value.null) = if j < i + 1 then Value.ref (z + 1 + j) else Value.null
    by_cases l : j < i
    · rw [if_pos l, if_pos (by omega)]
    · rw [if_neg l, if_neg (by omega)]
theorem mn_f (T : State) (cA cB : ClassId) (n k : Nat) : ∀ i, (mn_s T cA cB n k i).heap.size = T.heap.size + 1 + i ∧ (mn_s T cA cB n k i).vm = T.vm ∧ (mn_s T cA cB n k i).slotsUsed = T.slotsUsed + n + i * k ∧ (mn_s T cA cB n k i).heap[T.heap.size]? = some (mn_o cA n T.heap.size i) ∧ (∀ q : Nat, q < T.heap.size → (mn_s T cA cB n k i).heap[q]? = T.heap[q]?) ∧ ∀ j, j < i → (mn_s T cA cB n k i).heap[T.heap.size + 1 + j]? = some (mn_r cB k) := by
  intro i
  induction i with
  | zero =>
    refine ⟨State.heap_size_pushCell _ _, rfl, ?_, State.heap_pushCell_size _ _, fun q hq => State.heap_pushCell_of_lt _ _ hq, fun j hj => absurd hj (Nat.not_lt_zero _)⟩
    show T.slotsUsed + (mn_o cA n T.heap.size 0).slots.size = _
    rw [show (mn_o cA n T.heap.size 0).slots.size = n from arrV_size _ _ _]
    omega
  | succ i ih =>
    obtain ⟨f1, f2, f3, f4, f5, f6⟩ := ih
    have lt : ∀ q : Nat, q < T.heap.size + 1 + i → ((mn_s T cA cB n k i).pushCell (mn_r cB k)).heap[q]? = (mn_s T cA cB n k i).heap[q]? := fun q hq => State.heap_pushCell_of_lt _ _ (by rw [f1]; exact hq)
    have ot : ∀ q : Nat, T.heap.size ≠ q → (mn_s T cA cB n k (i + 1)).heap[q]? = ((mn_s T cA cB n k i).pushCell (mn_r cB k)).heap[q]? := fun q hq => State.heap_setCell_other hq
    refine ⟨?_, f2, ?_, State.heap_setCell_self ((lt _ (by omega)).trans f4), fun q hq => (ot q (by omega)).trans ((lt q (by omega)).trans (f5 q hq)), fun j hj => ?_⟩
    · show (((mn_s T cA cB n k i).heap.push (mn_r cB k)).setIfInBounds T.heap.size _).size = _
      rw [Array.size_setIfInBounds, Array.size_push, f1]
      omega
    · show (mn_s T cA cB n k i).slotsUsed + (mn_r cB k).slots.size = _
      rw [show (mn_r cB k).slots.size = k from arrV_size _ _ _, f3, Nat.succ_mul]
      omega
    · rw [ot _ (by omega)]
      rcases Nat.lt_or_ge j i with y | y
      · rw [lt _ (by omega)]
        exact f6 j y
      · have e : T.heap.size + 1 + j = (mn_s T cA cB n k i).heap.size := by omega
        rw [e]
        exact State.heap_pushCell_size _ _
theorem mn_t (T : State) (f : JFrame) (cA cB : ClassId) (n k : Nat) : ∀ i, mn_s (T.setTop f) cA cB n k i = (mn_s T cA cB n k i).setTop f
  | 0 => rfl
  | i + 1 => by
    show ((mn_s (T.setTop f) cA cB n k i).pushCell (mn_r cB k)).setCell T.heap.size (mn_o cA n T.heap.size (i + 1)) = _
    rw [mn_t T f cA cB n k i]
    rfl
section MNW
variable {E : CtlPost} {e : Env} {d : Bool} {acts : List Action} {U : State} {cA cB c0 : ClassId} {kA kB : Class} {n k : Int32}
theorem mn_wp (hA : U.vm.classes[cA]? = some kA) (hkA : kA.kind = .array cB (.array .int)) (hB : U.vm.classes[cB]? = some kB) (hkB : kB.kind = .array c0 .int) (hn : ¬ n < 0) (hk : ¬ k < 0)
    (h1 : ¬ n.toNatClampNeg > e.platform.arrayLengthLimit) (h2 : ¬ n.toNatClampNeg * componentBytes (.array .int) > e.platform.maxHeapBytes) (h3 : 0 < n.toNatClampNeg → ¬ k.toNatClampNeg > e.platform.arrayLengthLimit) (h4 : 0 < n.toNatClampNeg → ¬ k.toNatClampNeg * componentBytes .int > e.platform.maxHeapBytes)
    (hc : U.heap.size + (1 + n.toNatClampNeg) ≤ e.platform.maxCells) (hs : U.slotsUsed + (n.toNatClampNeg + n.toNatClampNeg * k.toNatClampNeg) ≤ e.platform.maxSlots) {Q : Addr → Pre} (hq : ∀ d' acts', Q U.heap.size d' acts' (mn_s U cA cB n.toNatClampNeg k.toNatClampNeg n.toNatClampNeg)) : wp (multianewarray.make cA [n, k]) Q E e d acts U := by
  have hf : ([k].find? (· < 0)) = none := by simp [hk]
  generalize hN : n.toNatClampNeg = N at *
  generalize hK : k.toNatClampNeg = K at *
  rw [multianewarray.make]
  simp only [wp_bind', W.ite, hn, if_false, wp_pure', W.theClass, hA, hkA, Option.some.injEq, exists_eq_left', hN]
  refine W.newArray_of hA hkA h1 h2 (by omega) (by omega) rfl (fun acts1 => ?_)
  simp only [hf]
  rw [ite_self, wp_bind', Std.Legacy.Range.forIn_eq_forIn_range']
  have hz : ([:N] : Std.Legacy.Range).size = N := by simp [Std.Legacy.Range.size]
  rw [hz]
  refine wp_forIn_inv (fun rest s' => ∃ i, i + rest.length = N ∧ rest = List.range' i rest.length ∧ s' = mn_s U cA cB N K i) _ _ ⟨0, by simp, by simp, ?_⟩ ?_ ?_
  · show U.pushCell _ = U.pushCell _
    rw [arrV_new]
    exact congrArg (fun f => U.pushCell (arrV cA N f)) (funext fun j => (if_neg (Nat.not_lt_zero j)).symm)
  · rintro x rest s' d' acts' Q' ⟨i, hi, hl, rfl⟩ nxt
    have hi : i + (rest.length + 1) = N := hi
    have hl : x :: rest = i :: List.range' (i + 1) rest.length := hl
    obtain ⟨rfl, hl⟩ := List.cons.inj hl
    obtain ⟨f1, f2, f3, f4, f5, f6⟩ := mn_f U cA cB N K x
    have hm : x * K + K ≤ N * K := by
      have := Nat.mul_le_mul_right K (show x + 1 ≤ N by omega)
      rwa [Nat.succ_mul] at this
    simp only [wp_bind']
    rw [multianewarray.make]
    simp only [wp_bind', W.ite, hk, if_false, wp_pure', W.theClass, f2, hB, hkB, Option.some.injEq, exists_eq_left', hK]
    refine W.newArray_of (by rw [f2]; exact hB) hkB (h3 (by omega)) (h4 (by omega)) (by omega) (by omega) rfl (fun acts2 => ?_)
    simp only [wp_bind', W.writeLoc, wp_pure']
    refine ⟨mn_o cA N U.heap.size x, ?_, (fun h => by cases h), ?_, ?_, nxt _ _ _ ⟨x + 1, by omega, hl, ?_⟩⟩
    · rw [State.heap_pushCell_of_lt _ _ (show U.heap.size < (mn_s U cA cB N K x).heap.size by omega)]
      exact f4
    · rw [show (mn_o cA N U.heap.size x).slots.size = N from arrV_size _ _ _]
      omega
    · show State.fitsSlot _ cA .none x _ = true
      simp [State.fitsSlot, State.slotType?, f2, hA, hkA]
      rfl
    · rw [f1, mn_up]
      show (State.pushCell _ _).setCell _ _ = (State.pushCell _ _).setCell _ _
      rw [arrV_new]
      rfl
  · rintro s' d' acts' ⟨i, hi, -, rfl⟩
    have hi : i + 0 = N := hi
    obtain rfl : i = N := hi
    simp only [wp_pure']
    exact hq _ _
end MNW
section ABM
variable {p : Program} {l : Launch} {e : Env} {R : Room} {s : State} {m : MethodId} {args : Array Value} {below : List Frame} {meth : Method} {c : Code} {Qm : State → Prop}
variable {g : Gl} {L : Nat} {xs : Nat → Int32} {ml : Nat} {cc : ByteArray} {pc : Nat} {lv : Lv} {st : List Value} {h : Hp} {nc ns : Nat} {o : Nat}
theorem mn_X {T : State} {locs : List Loc} (X : Stand p l e R s m args below meth c T locs nc ns) (cA cB : ClassId) (n k : Nat) : ∀ i, Stand p l e R s m args below meth c (mn_s T cA cB n k i) (locs ++ (List.range i).map (fun j => ⟨T.heap.size, j⟩)) (nc + 1 + i) (ns + n + i * k) := by
  intro i
  induction i with
  | zero =>
    have h := X.pushed (mn_o cA n T.heap.size 0)
    rw [show (mn_o cA n T.heap.size 0).slots.size = n from arrV_size _ _ _] at h
    rw [Nat.zero_mul, List.range_zero, List.map_nil, List.append_nil]
    exact h
  | succ i ih =>
    obtain ⟨f1, -, -, f4, -, -⟩ := mn_f T cA cB n k i
    have hcell : ((mn_s T cA cB n k i).pushCell (mn_r cB k)).heap[T.heap.size]? = some (mn_o cA n T.heap.size i) := by
      rw [State.heap_pushCell_of_lt _ _ (show T.heap.size < (mn_s T cA cB n k i).heap.size by omega)]
      exact f4
    have h := (ih.pushed (mn_r cB k)).stored hcell i (.ref (T.heap.size + 1 + i))
    rw [mn_up, show (mn_r cB k).slots.size = k from arrV_size _ _ _] at h
    rw [List.range_succ, List.map_append, ← List.append_assoc, show ns + n + (i + 1) * k = ns + n + i * k + k by rw [Nat.succ_mul]; omega]
    exact h
theorem mn_lo (h : Hp) (n k : Nat) {a : Nat} (ha : a < ab_N h) : ab_K (ab_mn h n k) a = ab_K h a ∧ ab_L (ab_mn h n k) a = ab_L h a ∧ ab_I (ab_mn h n k) a = ab_I h a ∧ ab_J (ab_mn h n k) a = ab_J h a ∧ ab_R (ab_mn h n k) a = ab_R h a :=
  ⟨(if_neg (Nat.ne_of_lt ha)).trans (if_neg (fun z => Nat.lt_asymm ha z.1)), (if_neg (Nat.ne_of_lt ha)).trans (if_neg (fun z => Nat.lt_asymm ha z.1)), if_neg (fun z => Nat.not_le_of_lt ha z.1), if_neg (fun z => Nat.not_le_of_lt ha z.1), (if_neg (Nat.ne_of_lt ha)).trans (if_neg (fun z => Nat.lt_asymm ha z.1))⟩
theorem mn_hi (h : Hp) (n k : Nat) {a : Nat} (h1 : ab_N h < a) (h2 : a ≤ ab_N h + n) : ab_K (ab_mn h n k) a = 13 ∧ ab_L (ab_mn h n k) a = k ∧ ab_I (ab_mn h n k) a = fun _ => 0 :=
  ⟨(if_neg (Nat.ne_of_gt h1)).trans (if_pos ⟨h1, h2⟩), (if_neg (Nat.ne_of_gt h1)).trans (if_pos ⟨h1, h2⟩), if_pos ⟨Nat.le_of_lt h1, h2⟩⟩
theorem mn_rel {H H1 : Heap} {n k : Nat} (hR : ab_rel g L xs h H) (z : H1.size = H.size + 1 + n) (e0 : H1[H.size]? = some (mn_o (gl_cy g 5) n H.size n)) (e1 : ∀ q : Nat, q < H.size → H1[q]? = H[q]?) (e2 : ∀ j, j < n → H1[H.size + 1 + j]? = some (mn_r (gl_cy g 0) k)) : ab_rel g L xs (ab_mn h n k) H1 := by
  have h5 := hR.2.2.1
  have hz := hR.2.1
  have eN : ab_N (ab_mn h n k) = ab_N h + 1 + n := rfl
  have P1 : va_P (gl_D g) vwCl (ab_ws g h) H1 := hR.1.kept (fun k q hq => e1 q.1 (hR.1 k q hq).lt)
  refine ⟨fun j q hq => ?_, by rw [z, eN, hz]; omega, ?_⟩
  · have hj : j < ab_N h + 1 + n - 5 := by
      have := (List.getElem?_eq_some_iff.mp hq).1
      rw [ab_len, eN] at this
      exact this
    have e := ab_at g (ab_mn h n k) (a := j + 5) (by omega) (by rw [eN]; omega)
    rw [Nat.add_sub_cancel] at e
    obtain rfl : (gl_ad g (j + 5), ab_ce g (ab_mn h n k) (j + 5)) = q := Option.some.inj (e.symm.trans hq)
    have ad : gl_ad g (j + 5) = gl_b g + j := by rw [ab_ad5 g (by omega), Nat.add_sub_cancel]
    rcases Nat.lt_trichotomy (j + 5) (ab_N h) with y | y | y
    · obtain ⟨q1, q2, q3, q4, q5⟩ := mn_lo h n k y
      rw [ab_ce_eq q1 q2 q3 q4 q5]
      have e := ab_at g h (a := j + 5) (by omega) y
      exact P1 _ _ e
    · have k1 : ab_K (ab_mn h n k) (j + 5) = 18 := if_pos y
      have k2 : ab_L (ab_mn h n k) (j + 5) = n := if_pos y
      have k3 : ab_R (ab_mn h n k) (j + 5) = fun i => if i < n then some (ab_N h + 1 + i) else none := if_pos y
      rw [ab_ce18 k1, k2, k3, ad, show gl_b g + j = H.size by omega]
      show H1[H.size]? = some (vp_cell _ _)
      rw [e0]
      show some (arrV (gl_cy g 5) n (fun i => if i < n then Value.ref (H.size + 1 + i) else .null)) = some (arrV (gl_cy g 5) n (fun i => va_rf (Option.map (gl_ad g) (if i < n then some (ab_N h + 1 + i) else none))))
      refine congrArg (fun f => some (arrV (gl_cy g 5) n f)) (funext fun i => ?_)
      by_cases hi : i < n
      · rw [if_pos hi, if_pos hi]
        show _ = Value.ref (gl_ad g (ab_N h + 1 + i))
        rw [ab_ad5 g (by omega), hz, show gl_b g + (ab_N h - 5) + 1 + i = gl_b g + (ab_N h + 1 + i - 5) by omega]
      · rw [if_neg hi, if_neg hi]
        rfl
    · obtain ⟨k1, k2, k3⟩ := mn_hi h n k y (by omega)
      rw [ab_ce13 k1, k2, k3, ad, show gl_b g + j = H.size + 1 + (j + 5 - ab_N h - 1) by omega]
      show H1[H.size + 1 + (j + 5 - ab_N h - 1)]? = some (vp_cell _ _)
      rw [e2 _ (by omega)]
      rfl
  · refine ⟨by rw [eN]; omega, fun a ha => ?_, fun a ha => ?_⟩
    · obtain ⟨q1, q2, q3, q4, q5⟩ := mn_lo h n k (show a < ab_N h by omega)
      rw [q1, q2, q3, q5]
      exact hR.2.2.2.1 a ha
    · have ha : ab_N h + 1 + n ≤ a := ha
      exact ((if_neg (fun z => by have z : a = ab_N h := z; omega)).trans (if_neg (fun z => by have z : ab_N h < a ∧ a ≤ ab_N h + n := z; omega))).trans (hR.2.2.2.2 a (by omega))
theorem ab_mna (F : ab_F p s m args c g L xs cc ml o) {n0 x : Nat} {n k : Int32} (hh : ab_hit ab_np o n0 x = true) (hd : decode cc pc = .ok (.multianewarray n0 2, 4)) (hn : ¬ n < 0) (hk : ¬ k < 0) (hc1 : nc + (1 + n.toNatClampNeg) ≤ R.cells) (hs1 : ns + (n.toNatClampNeg + n.toNatClampNeg * k.toNatClampNeg) ≤ R.slots) (hb1 : n.toNatClampNeg + n.toNatClampNeg * k.toNatClampNeg ≤ 7151329)
    (kk : ab_W p l e R s m args below meth c Qm g L xs ml (pc + 4) lv (.ref (ab_N h) :: st) (ab_mn h n.toNatClampNeg k.toNatClampNeg) (nc + (1 + n.toNatClampNeg)) (ns + (n.toNatClampNeg + n.toNatClampNeg * k.toNatClampNeg))) : ab_W p l e R s m args below meth c Qm g L xs ml pc lv (.int k :: .int n :: st) h nc ns := by
  obtain ⟨hx, hb, hml, hown, hts, hE⟩ := F
  obtain ⟨q4, hq⟩ := ab_hit_of hh
  have hl := of_decide_eq_true (List.all_eq_true.mp ab_np_ok _ hq)
  have hcl : (Cond.classLink (ab_nm o) n0 "[[I").before args s = true := hts _ (ab_tbi hl rfl)
  intro ls H locs hlv hR hS
  obtain ⟨hEK, -, -, -, -, -, -, -, -, -, -, hE12, -, -⟩ := hE
  have h5n : s.vm.findClass "[[I" = some (gl_cy g 5) := (hEK.2 5 _ rfl).2
  obtain ⟨kA, hkA, hkindA⟩ := hE12.2
  obtain ⟨-, kB, hkB, c0, hkindB⟩ := (hEK.2 0 _ rfl).1 0 (fun _ => .null)
  have hkB : s.vm.classes[gl_cy g 0]? = some kB := hkB
  intro T hT X
  have hpl : e.platform.magicAccessors = ({} : Platform).magicAccessors := by rw [X.admits.platform]
  obtain ⟨cc0, hf0, hcL⟩ := Cond.classLink_spec hown hcl e.platform hpl
  obtain rfl : gl_cy g 5 = cc0 := Option.some.inj (h5n.symm.trans hf0)
  obtain ⟨hg1, hw1, -⟩ := State.classEntry (e := e) X.warmed hcL
  generalize T.vm.noted m.cls n0 (.cls (gl_cy g 5)) = vm1 at hg1 hw1
  obtain ⟨kA1, hkA1, heA⟩ := hw1.alike.2.2 _ _ hkA
  obtain ⟨kB1, hkB1, heB⟩ := hw1.alike.2.2 _ _ hkB
  have X1 := X.noted hw1
  have hkN : 0 < n.toNatClampNeg → k.toNatClampNeg ≤ n.toNatClampNeg * k.toNatClampNeg := fun hp => Nat.le_mul_of_pos_left _ hp
  obtain ⟨r1, r2⟩ := X.roomAbove hc1 hs1
  have XF := mn_X X1 (gl_cy g 5) (gl_cy g 0) n.toNatClampNeg k.toNatClampNeg n.toNatClampNeg
  obtain ⟨f1, -, -, f4, f5, f6⟩ := mn_f (T.setVm vm1) (gl_cy g 5) (gl_cy g 0) n.toNatClampNeg k.toNatClampNeg n.toNatClampNeg
  have zH : (T.setVm vm1).heap.size = H.size := by rw [← hT]; rfl
  have oH : ∀ q : Nat, (T.setVm vm1).heap[q]? = H[q]? := fun q => by rw [← hT]; rfl
  rw [zH] at f1 f4 f5 f6
  have hbH : gl_b g ≤ H.size := by rw [hR.2.1]; exact Nat.le_add_right _ _
  have k' := kk ls _ _ hlv (mn_rel hR f1 f4 (fun q hq => (f5 q hq).trans (oH q)) f6) (⟨by rw [f1]; exact Nat.le_trans hS.1 (by omega), fun q g1 g2 => by
      rw [f5 q (Nat.lt_of_lt_of_le g1 hS.1), oH]
      exact hS.2.1 q g1 g2, fun q hq => by
      rcases List.mem_append.mp hq with h | h
      · exact hS.2.2 q h
      · obtain ⟨z, -, hz⟩ := List.mem_map.mp h
        rw [← hz]
        exact hbH⟩ : va_S (gl_A g) s.heap _ (locs ++ (List.range n.toNatClampNeg).map (fun j => (⟨H.size, j⟩ : Loc))))
  rw [List.map_cons, ab_adN hR] at k'
  rw [zH] at XF
  obtain ⟨t, a1, b1⟩ := k' _ rfl (by rw [← Nat.add_assoc, ← Nat.add_assoc]; exact XF)
  refine ⟨t, ?_, b1⟩
  jvm_step X.here [hx, hb, hd]
  simp only [multianewarray.sem, wp_bind']
  refine (W.resolveClassAt_links (State.method?_setTop (F0 m pc ls (List.map (gl_cv g) (.int k :: .int n :: st))) X.here.top) hg1).mpr ?_
  rw [wp_bind', W.popN, if_neg (by decide)]
  refine ⟨_, State.topJava?_setTop' (s := T.setVm vm1) (F0 m pc ls (List.map (gl_cv g) (.int k :: .int n :: st))) X.here.top, [.int n, .int k], st.map (gl_cv g), rfl, rfl, ?_⟩
  simp only [List.mapM_cons, List.mapM_nil, wp_bind', wp_pure']
  refine mn_wp (kA := kA1) (kB := kB1) (cB := gl_cy g 0) (c0 := c0) hkA1 (by rw [heA]; exact hkindA) hkB1 (by rw [heB]; exact hkindB) hn hk ?_ ?_ ?_ ?_ (by show T.heap.size + _ ≤ _; exact r1) (by show T.slotsUsed + _ ≤ _; exact r2) (fun d' acts' => ?_)
  · rw [Launch.admits_arrayLengthLimit X.admits]
    omega
  · rw [Launch.admits_maxHeapBytes X.admits]
    show ¬ _ * 4 > _
    omega
  · intro hp
    have := hkN hp
    rw [Launch.admits_arrayLengthLimit X.admits]
    omega
  · intro hp
    have := hkN hp
    rw [Launch.admits_maxHeapBytes X.admits]
    show ¬ _ * 4 > _
    omega
  have eS : ∀ G : JFrame, ((T.setTop (F0 m pc ls (List.map (gl_cv g) (.int k :: .int n :: st)))).setVm vm1).setTop G = (T.setVm vm1).setTop G := fun G => by
    show ((T.setVm vm1).setTop (F0 m pc ls (List.map (gl_cv g) (.int k :: .int n :: st)))).setTop G = _
    rw [State.setTop_setTop]
  rw [eS, mn_t]
  rw [wp_bind', W.mark, W.pushRef]
  refine ⟨_, State.topJava?_setTop' _ XF.here.top, fun acts2 => ?_⟩
  rw [State.setTop_setTop]
  have a2 := a1
  rw [← hT] at a2
  simp [jvm, XF.here.top]
  exact a2
end ABM
