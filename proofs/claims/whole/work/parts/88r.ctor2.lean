/-! ===== contracts: the constructors of the class (mine) ===== -/
theorem ckP_K {o c : Nat} {w : Nat → Nat → Option Nat} {l : List (Nat × Nat × Nat)} (e : ckP o c w l = true) : tK o = c := by
  unfold ckP at e
  simp only [Bool.and_eq_true] at e
  exact Nat.eq_of_beq_eq_true e.1.1.1
/-- an object is made -/
def MK (h a : Hp) (c : Nat) : Prop := ab_N a = ab_N h + 1 ∧ ab_K a (ab_N h) = c ∧ ab_L a (ab_N h) = 0 ∧ ab_I a (ab_N h) = (fun _ => 0) ∧ ∀ x, x < ab_N h → ab_K a x = ab_K h x ∧ ab_L a x = ab_L h x ∧ ab_I a x = ab_I h x ∧ ab_R a x = ab_R h x
theorem MK_nw (h : Hp) (c : Nat) : MK h (ab_nw h c 0 (fun _ => 0)) c := ⟨rfl, up_s _ _ _, up_s _ _ _, up_s _ _ _, fun x hx => ⟨up_n _ _ (Nat.ne_of_lt hx), up_n _ _ (Nat.ne_of_lt hx), up_n _ _ (Nat.ne_of_lt hx), up_n _ _ (Nat.ne_of_lt hx)⟩⟩
/-- the references of a cell, by the tables -/
def ckR (a : Nat) (l : List (Nat × Nat)) : Bool := (List.range 32).all (fun k => match tR a k with
  | none => true
  | some b => l.any (fun q => Nat.beq q.1 k && Nat.beq q.2 b))
theorem shO {h : Hp} {a : Nat} {l : List (Nat × Nat)} (e1 : ab_K h a = tK a) (e2 : ab_L h a = tL a) (e3 : ∀ q ∈ l, ab_R h a q.1 = some q.2) (ck : ckR a l = true) : shA h a := by
  refine ⟨e1, e2, fun k b e => ?_⟩
  have hk : k < 32 := by
    rcases Nat.lt_or_ge k 32 with z | z
    · exact z
    · rw [tR_hi _ _ z] at e; cases e
  have q := List.all_eq_true.mp ck k (List.mem_range.mpr hk)
  rw [e] at q
  obtain ⟨p, hp, q⟩ := List.any_eq_true.mp q
  obtain ⟨q1, q2⟩ := Bool.and_eq_true_iff.mp q
  rw [← Nat.eq_of_beq_eq_true q1, ← Nat.eq_of_beq_eq_true q2]
  exact e3 p hp
/-- what an object's constructor has made so far, objects and rows -/
def OP (h : Hp) (o : Nat) (rl : List (Nat × Nat)) (hi : Hp) : Prop := o < ab_N hi ∧ (∀ x, x < o → ab_K hi x = ab_K h x ∧ ab_L hi x = ab_L h x ∧ ab_I hi x = ab_I h x ∧ ab_R hi x = ab_R h x) ∧ (ab_K hi o = ab_K h o ∧ ab_L hi o = ab_L h o) ∧ (∀ q ∈ rl, ab_R hi o q.1 = some q.2) ∧ ∀ a, o < a → a < ab_N hi → shA hi a
section OPS
variable {h hi : Hp} {o : Nat} {rl : List (Nat × Nat)}
theorem OP_0 (hN : ab_N h = o + 1) : OP h o [] h := ⟨by omega, fun _ _ => ⟨rfl, rfl, rfl, rfl⟩, ⟨rfl, rfl⟩, fun q hq => (by cases hq), fun a h1 h2 => by omega⟩
def tkC (m kd len : Nat) : Bool := Nat.beq (tK m) kd && Nat.beq (tL m) len && ckR m []
theorem OP_n {k kd len m : Nat} (P : OP h o rl hi) (hm : ab_N hi = m) (ck : tkC m kd len = true) (hk : ∀ q ∈ rl, q.1 ≠ k) : OP h o ((k, m) :: rl) (ct_n hi o k kd len) ∧ ab_N (ct_n hi o k kd len) = m + 1 ∧ (∀ x, x < m → ab_I (ct_n hi o k kd len) x = ab_I hi x) ∧ (∀ x, x < m → x ≠ o → ab_R (ct_n hi o k kd len) x = ab_R hi x) := by
  obtain ⟨p1, p2, p3, p4, p5⟩ := P
  unfold tkC at ck
  simp only [Bool.and_eq_true] at ck
  obtain ⟨⟨c1, c2⟩, c3⟩ := ck
  have ne : ∀ x, x < ab_N hi → ab_K (ct_n hi o k kd len) x = ab_K hi x ∧ ab_L (ct_n hi o k kd len) x = ab_L hi x ∧ ab_I (ct_n hi o k kd len) x = ab_I hi x := fun x hx => ⟨up_n _ _ (Nat.ne_of_lt hx), up_n _ _ (Nat.ne_of_lt hx), up_n _ _ (Nat.ne_of_lt hx)⟩
  have nr : ∀ x, x ≠ o → x < ab_N hi → ab_R (ct_n hi o k kd len) x = ab_R hi x := fun x h1 h2 => funext fun j => by rw [cn_R, if_neg (fun z => h1 z.1), if_neg (Nat.ne_of_lt h2)]
  refine ⟨⟨by show o < ab_N hi + 1; omega, fun x hx => ?_, ?_, fun q hq => ?_, fun a h1 h2 => ?_⟩, by show ab_N hi + 1 = _; rw [hm], fun x hx => (ne x (by omega)).2.2, fun x hx h1 => nr x h1 (by omega)⟩
  · obtain ⟨a1, a2, a3⟩ := ne x (by omega)
    obtain ⟨b1, b2, b3, b4⟩ := p2 x hx
    exact ⟨a1.trans b1, a2.trans b2, a3.trans b3, (nr x (by omega) (by omega)).trans b4⟩
  · obtain ⟨a1, a2, _⟩ := ne o p1
    exact ⟨a1.trans p3.1, a2.trans p3.2⟩
  · rcases List.mem_cons.mp hq with rfl | hq
    · show ab_R (ct_n hi o k kd len) o k = some m
      rw [cn_R, if_pos ⟨rfl, rfl⟩, hm]
    · rw [cn_R, if_neg (fun z => hk q hq z.2), if_neg (by omega)]
      exact p4 q hq
  · have h2 : a < ab_N hi + 1 := h2
    rcases Nat.lt_or_ge a (ab_N hi) with y | y
    · obtain ⟨a1, a2, _⟩ := ne a y
      exact shA_c (p5 a h1 y) a1 a2 (nr a (by omega) y)
    · obtain rfl : a = ab_N hi := by omega
      refine shO (l := []) (Eq.trans (up_s _ _ _) ?_) (Eq.trans (up_s _ _ _) ?_) (fun q hq => (by cases hq)) (by rw [hm]; exact c3)
      · rw [hm]
        exact (Nat.eq_of_beq_eq_true c1).symm
      · rw [hm]
        exact (Nat.eq_of_beq_eq_true c2).symm
theorem OP_o {a b : Hp} {k c m m' : Nat} (P : OP h o rl hi) (hm : ab_N hi = m) (M : MK hi a c) (B : NB a b m m') (hmm : m < m') (hk : ∀ q ∈ rl, q.1 ≠ k) : OP h o ((k, m) :: rl) (ab_sR b o k (some m)) ∧ ab_N (ab_sR b o k (some m)) = m' ∧ (∀ x, x < m → ab_I (ab_sR b o k (some m)) x = ab_I hi x) ∧ (∀ x, x < m → x ≠ o → ab_R (ab_sR b o k (some m)) x = ab_R hi x) ∧ ab_K b o = ab_K h o := by
  obtain ⟨p1, p2, p3, p4, p5⟩ := P
  have ne : ∀ x, x < m → ab_K b x = ab_K hi x ∧ ab_L b x = ab_L hi x ∧ ab_I b x = ab_I hi x ∧ ab_R b x = ab_R hi x := fun x hx => by
    obtain ⟨a1, a2, a3, a4⟩ := B.2.1 x hx
    obtain ⟨b1, b2, b3, b4⟩ := M.2.2.2.2 x (by omega)
    exact ⟨a1.trans b1, a2.trans b2, a3.trans b3, a4.trans b4⟩
  have nr : ∀ x, x ≠ o → ab_R (ab_sR b o k (some m)) x = ab_R b x := fun x h1 => funext fun j => by rw [rR_if, if_neg (fun z => h1 z.1)]
  refine ⟨⟨by show o < ab_N b; rw [B.1]; omega, fun x hx => ?_, ?_, fun q hq => ?_, fun a h1 h2 => ?_⟩, B.1, fun x hx => (ne x hx).2.2.1, fun x hx h1 => (nr x h1).trans (ne x hx).2.2.2, (ne o (by omega)).1.trans p3.1⟩
  · obtain ⟨a1, a2, a3, a4⟩ := ne x (by omega)
    obtain ⟨b1, b2, b3, b4⟩ := p2 x hx
    exact ⟨a1.trans b1, a2.trans b2, a3.trans b3, (nr x (by omega)).trans (a4.trans b4)⟩
  · obtain ⟨a1, a2, _⟩ := ne o (by omega)
    exact ⟨a1.trans p3.1, a2.trans p3.2⟩
  · rcases List.mem_cons.mp hq with rfl | hq
    · show ab_R (ab_sR b o k (some m)) o k = some m
      rw [rR_if, if_pos ⟨rfl, rfl⟩]
    · rw [rR_if, if_neg (fun z => hk q hq z.2), (ne o (by omega)).2.2.2]
      exact p4 q hq
  · have h2 : a < ab_N b := h2
    rw [B.1] at h2
    rcases Nat.lt_or_ge a m with y | y
    · obtain ⟨a1, a2, _, a4⟩ := ne a y
      exact shA_c (p5 a h1 (by omega)) a1 a2 ((nr a (by omega)).trans a4)
    · exact shA_c (B.2.2 a y h2) rfl rfl (nr a (by omega))
/-- a reference of the object itself is copied -/
theorem OP_r {k b : Nat} (P : OP h o rl hi) (hk : ∀ q ∈ rl, q.1 ≠ k) : OP h o ((k, b) :: rl) (ab_sR hi o k (some b)) := by
  obtain ⟨p1, p2, p3, p4, p5⟩ := P
  have nr : ∀ x, x ≠ o → ab_R (ab_sR hi o k (some b)) x = ab_R hi x := fun x h1 => funext fun j => by rw [rR_if, if_neg (fun z => h1 z.1)]
  refine ⟨p1, fun x hx => ⟨(p2 x hx).1, (p2 x hx).2.1, (p2 x hx).2.2.1, (nr x (by omega)).trans (p2 x hx).2.2.2⟩, p3, fun q hq => ?_, fun a h1 h2 => shA_c (p5 a h1 h2) rfl rfl (nr a (by omega))⟩
  rcases List.mem_cons.mp hq with rfl | hq
  · show ab_R (ab_sR hi o k (some b)) o k = some b
    rw [rR_if, if_pos ⟨rfl, rfl⟩]
  · rw [rR_if, if_neg (fun z => hk q hq z.2)]
    exact p4 q hq
theorem OP_I {k : Nat} {x : Int32} (P : OP h o rl hi) : OP h o rl (ab_sI hi o k x) := ⟨P.1, fun y hy => ⟨(P.2.1 y hy).1, (P.2.1 y hy).2.1, Eq.trans (up_n _ _ (by omega)) (P.2.1 y hy).2.2.1, (P.2.1 y hy).2.2.2⟩, P.2.2.1, P.2.2.2.1, P.2.2.2.2⟩
theorem OP_NB {c m : Nat} (P : OP h o rl hi) (hm : ab_N hi = m) (hK : ab_K h o = c) (hL : ab_L h o = 0) (e1 : tK o = c) (e2 : tL o = 0) (ck : ckR o rl = true) : NB h hi o m := ⟨hm, P.2.1, fun a h1 h2 => by
  rcases Nat.eq_or_lt_of_le h1 with y | y
  · subst y
    exact shO (P.2.2.1.1.trans (hK.trans e1.symm)) (P.2.2.1.2.trans (hL.trans e2.symm)) P.2.2.2.1 ck
  · exact P.2.2.2.2 a y (by omega)⟩
end OPS
/-- the tables say so of thirty greens behind a row -/
def ck7 (o : Nat) : Bool := Nat.beq (tK o) 7 && Nat.beq (tL o) 0 && Nat.beq (tK (o + 1)) 16 && Nat.beq (tL (o + 1)) 30 && ckR o [(0, o + 1)] && (List.range 32).all (fun k => match tR (o + 1) k with
  | none => true
  | some b => Nat.blt k 30 && Nat.beq b (o + 2 + 8 * k)) && (List.range 30).all (fun i => ckP (o + 2 + 8 * i) 1 (fun _ _ => none) [(0, 13, 5), (1, 13, 5), (2, 13, 10), (3, 13, 10), (9, 13, 30), (10, 13, 30), (11, 13, 30)])
section CT7
variable {d : Nat} {h : Hp} {Q : Option Value → Hp → Prop} {o : Nat}
theorem ok_init7 (hd : 3 ≤ d) (hK : ab_K h o = 7) (hL : ab_L h o = 0) (hI : ab_I h o = fun _ => 0) (hN : ab_N h = o + 1) (ck : ck7 o = true) (hq : ∀ h', NB h h' o (o + 242) → SR h' o s0 → Q none h') : ab_Ok d n_X7_init [.ref o] h Q := by
  have P0 : PR h o (fun _ _ => none) [] (fun _ => 0) h := PR_0 hN hI
  unfold ck7 at ck
  simp only [Bool.and_eq_true] at ck
  obtain ⟨⟨⟨⟨⟨⟨c1, c2⟩, c3⟩, c4⟩, c5⟩, c6⟩, c7⟩ := ck
  refine ab_go mr_X7_init rfl (by omega) (fun call W hc hW => ?_); (conv => whnf)
  have lp : ∀ r i h' nc ns, i + r = 30 → nc = 1 + 8 * i → ns = 30 + 132 * i → ab_N h' = o + 2 + 8 * i → (∀ x, x < o → ab_K h' x = ab_K h x ∧ ab_L h' x = ab_L h x ∧ ab_I h' x = ab_I h x ∧ ab_R h' x = ab_R h x) → (ab_K h' o = 7 ∧ ab_L h' o = 0 ∧ (∀ k, ab_I h' o k = 0) ∧ ab_R h' o 0 = some (o + 1)) → (ab_K h' (o + 1) = 16 ∧ ab_L h' (o + 1) = 30 ∧ ∀ j, j < i → ab_R h' (o + 1) j = some (o + 2 + 8 * j)) → (∀ a, o + 2 ≤ a → a < o + 2 + 8 * i → shA h' a) → W 15 [.ref o, .int (nI i)] h' nc ns := by
    intro r
    induction r with
    | zero =>
      intro i h' nc ns e en es hn hf ho hr hs
      obtain rfl : i = 30 := by omega
      refine hW _ _ _ _ _ ?_
      (conv => whnf)
      refine bT (nI_le (Nat.le_refl _) (by omega)) ?_
      (conv => whnf)
      refine rtI (by show nc ≤ 241; omega) (by show ns ≤ 3990; omega) ?_
      refine hq h' ⟨by omega, hf, fun a h1 h2 => ?_⟩ ⟨ho.2.2.1 2, 0, by decide, ho.2.2.1 1, fun j hj => absurd hj (by show ¬ j < 0; omega)⟩
      rcases (show a = o ∨ a = o + 1 ∨ o + 2 ≤ a by omega) with y | y | y
      · subst y
        exact shO (l := [(0, a + 1)]) (ho.1.trans (Nat.eq_of_beq_eq_true c1).symm) (ho.2.1.trans (Nat.eq_of_beq_eq_true c2).symm) (fun q hq => by
          obtain rfl := List.mem_singleton.mp hq
          exact ho.2.2.2) c5
      · subst y
        refine ⟨hr.1.trans (Nat.eq_of_beq_eq_true c3).symm, hr.2.1.trans (Nat.eq_of_beq_eq_true c4).symm, fun k b ek => ?_⟩
        have hk : k < 32 := by
          rcases Nat.lt_or_ge k 32 with z | z
          · exact z
          · rw [tR_hi _ _ z] at ek; cases ek
        have q := List.all_eq_true.mp c6 k (List.mem_range.mpr hk)
        rw [ek] at q
        obtain ⟨q1, q2⟩ := Bool.and_eq_true_iff.mp q
        rw [hr.2.2 k (Nat.le_of_ble_eq_true q1), Nat.eq_of_beq_eq_true q2]
      · exact hs a y (by omega)
    | succ r ih =>
      intro i h' nc ns e en es hn hf ho hr hs
      have ckg := List.all_eq_true.mp c7 i (List.mem_range.mpr (by omega))
      refine hW _ _ _ _ _ ?_
      (conv => whnf)
      refine bF (nI_ge (by omega) (by omega)) ?_
      (conv => whnf)
      refine ⟨ho.1, o + 1, ho.2.2.2, ?_⟩
      (conv => whnf)
      refine ⟨by show nc + 1 ≤ 241; omega, by show ns + 12 ≤ 3990; omega, ?_⟩
      obtain ⟨ha, ea⟩ : ∃ q, q = ab_nw h' 1 0 (fun _ => 0) := ⟨_, rfl⟩
      have M : MK h' ha 1 := by rw [ea]; exact MK_nw _ _
      rw [← ea]
      clear ea
      rw [hn]
      (conv => whnf)
      obtain ⟨m1, m2, m3, m4, m5⟩ := M
      rw [hn] at m1 m2 m3 m4 m5
      refine ⟨by show nc + 1 + 7 ≤ 241; omega, by show ns + 12 + 120 ≤ 3990; omega, ?_⟩
      refine hc _ _ _ _ (ok_init1 (o := o + 2 + 8 * i) (by omega) m2 m3 m4 m1 ckg (fun hb B _ => ?_))
      (conv => whnf)
      have fr : ∀ x, x < o + 2 + 8 * i → ab_K hb x = ab_K h' x ∧ ab_L hb x = ab_L h' x ∧ ab_I hb x = ab_I h' x ∧ ab_R hb x = ab_R h' x := fun x hx => by
        obtain ⟨a1, a2, a3, a4⟩ := B.2.1 x hx
        obtain ⟨b1, b2, b3, b4⟩ := m5 x hx
        exact ⟨a1.trans b1, a2.trans b2, a3.trans b3, a4.trans b4⟩
      obtain ⟨k1, k2, k3, k4⟩ := fr o (by omega)
      obtain ⟨j1, j2, j3, j4⟩ := fr (o + 1) (by omega)
      refine ⟨j1.trans hr.1, vin _ (j2.trans hr.2.1) (by omega) (by decide), (B.2.2 _ (Nat.le_refl _) (by omega)).1.trans (ckP_K ckg), ?_⟩
      rw [nI_clamp (by omega)]
      (conv => whnf)
      refine W_h rfl (by (try simp (disch := omega) only [nI_add, Nat.add_zero]) <;> rfl) (ih (i + 1) _ _ _ (by omega) (by omega) (by omega) (by show ab_N hb = _; rw [B.1]; omega) (fun x hx => ?_) ⟨k1.trans ho.1, k2.trans ho.2.1, fun k => (congrFun k3 k).trans (ho.2.2.1 k), ?_⟩ ⟨j1.trans hr.1, j2.trans hr.2.1, fun j hj => ?_⟩ (fun a h1 h2 => ?_))
      · obtain ⟨a1, a2, a3, a4⟩ := fr x (by omega)
        obtain ⟨b1, b2, b3, b4⟩ := hf x hx
        exact ⟨a1.trans b1, a2.trans b2, a3.trans b3, (funext fun j => by rw [rR_if, if_neg (by omega)]).trans (a4.trans b4)⟩
      · rw [rR_if, if_neg (by omega), k4]
        exact ho.2.2.2
      · rw [rR_if]
        by_cases ej : j = i
        · rw [if_pos ⟨rfl, ej⟩, ej]
        · rw [if_neg (fun z => ej z.2), j4]
          exact hr.2.2 j (by omega)
      · have nr : ab_R (ab_sR hb (o + 1) i (some (o + 2 + 8 * i))) a = ab_R hb a := funext fun j => by rw [rR_if, if_neg (by omega)]
        rcases Nat.lt_or_ge a (o + 2 + 8 * i) with y | y
        · obtain ⟨a1, a2, a3, a4⟩ := fr a y
          exact shA_c (hs a h1 y) a1 a2 (nr.trans a4)
        · exact shA_c (B.2.2 a y (by omega)) rfl rfl nr
  refine ⟨by decide, by decide, (by first | decide | (rw [nI_clamp (by omega)]; decide)), ?_⟩
  rw [nI_clamp (by omega)]
  (conv => whnf)
  refine ⟨PR_K P0 hK hN, ?_⟩
  obtain ⟨h1, e1⟩ : ∃ q, q = ct_n h o 0 16 30 := ⟨_, rfl⟩
  have P1 := PR_n (k := 0) (kd := 16) (len := 30) P0 hN (fun _ => rfl) (by decide)
  rw [← e1] at P1
  rw [show ab_sR (ab_nw h 16 30 (fun _ => 0)) o 0 (some (ab_N h)) = h1 from e1.symm]
  clear e1
  (conv => whnf)
  obtain ⟨p1, p2, p3, p4, p5⟩ := P1
  obtain ⟨q1, q2, q3, q4⟩ := p5 0 _ rfl
  have hN1 : ab_N h + 0 = o + 1 := by omega
  rw [hN1] at q1 q2 q3 q4
  exact lp 30 0 h1 _ _ (by omega) rfl rfl (by rw [p1, hN]; rfl) p2 ⟨p3.1.trans hK, p3.2.1.trans hL, fun k => congrFun p3.2.2 k, q4 (by decide)⟩ ⟨q1, q2, fun j hj => absurd hj (by omega)⟩ (fun a h1 h2 => by omega)
end CT7
section CT6
variable {d : Nat} {h : Hp} {Q : Option Value → Hp → Prop}
theorem ok_init0 (hd : 3 ≤ d) (hK : ab_K h 6 = 0) (hL : ab_L h 6 = 0) (n0 : ab_N h = 7) (hq : ∀ h', NB h h' 6 16 → TR h' 7 s0 → (∀ k, ab_R h' 13 k = none) → Q none h') : ab_Ok d n_X0_init [.ref 6] h Q := by
  have O0 : OP h 6 [] h := OP_0 n0
  refine ab_go mr_X0_init rfl (by omega) (fun call W hc hW => ?_); (conv => whnf)
  refine ⟨by decide, by decide, ?_⟩
  obtain ⟨a1, ea⟩ : ∃ q, q = ab_nw h 10 0 (fun _ => 0) := ⟨_, rfl⟩
  have M1 : MK h a1 10 := by rw [ea]; exact MK_nw _ _
  rw [← ea]
  clear ea
  rw [n0]
  (conv => whnf)
  obtain ⟨x1, x2, x3, x4, _⟩ := id M1
  rw [n0] at x1 x2 x3 x4
  refine ⟨by decide, by decide, ?_⟩
  refine hc _ _ _ _ (ok_init10 (by omega) x2 x3 x4 x1 (by decide +kernel) (fun b1 B1 T1 S1 => ?_))
  clear x1 x2 x3 x4
  obtain ⟨h1, eh⟩ : ∃ q, q = ab_sR b1 6 0 (some 7) := ⟨_, rfl⟩
  obtain ⟨O1, n1, J1, R1, KK⟩ := OP_o (k := 0) O0 n0 M1 B1 (by decide) (by decide)
  rw [← eh] at O1 n1 J1 R1
  have E1 : ab_I h1 = ab_I b1 := by rw [eh]; rfl
  have F1 : ∀ x, x ≠ 6 → ab_R h1 x = ab_R b1 x := fun x hx => by rw [eh]; exact funext fun j => by rw [rR_if, if_neg (fun z => hx z.1)]
  (conv => whnf)
  refine ⟨KK.trans hK, ?_⟩
  rw [← eh]
  clear eh KK M1
  (conv => whnf)
  refine ⟨by decide, by decide, (by first | decide | (rw [nI_clamp (by omega)]; decide)), ?_⟩
  rw [nI_clamp (by omega)]
  (conv => whnf)
  refine ⟨Eq.trans (up_n _ _ (show 6 ≠ ab_N h1 by omega)) (O1.2.2.1.1.trans hK), ?_⟩
  obtain ⟨h2, eh⟩ : ∃ q, q = ct_n h1 6 1 13 18 := ⟨_, rfl⟩
  obtain ⟨O2, n2, J2, R2⟩ := OP_n (k := 1) (kd := 13) (len := 18) O1 n1 (by decide +kernel) (by decide)
  rw [← eh] at O2 n2 J2 R2
  rw [show ab_sR (ab_nw h1 13 18 (fun _ => 0)) 6 1 (some (ab_N h1)) = h2 from eh.symm]
  clear eh
  (conv => whnf)
  refine ⟨by decide, by decide, (by first | decide | (rw [nI_clamp (by omega)]; decide)), ?_⟩
  rw [nI_clamp (by omega)]
  (conv => whnf)
  refine ⟨Eq.trans (up_n _ _ (show 6 ≠ ab_N h2 by omega)) (O2.2.2.1.1.trans hK), ?_⟩
  obtain ⟨h3, eh⟩ : ∃ q, q = ct_n h2 6 2 13 64 := ⟨_, rfl⟩
  obtain ⟨O3, n3, J3, R3⟩ := OP_n (k := 2) (kd := 13) (len := 64) O2 n2 (by decide +kernel) (by decide)
  rw [← eh] at O3 n3 J3 R3
  rw [show ab_sR (ab_nw h2 13 64 (fun _ => 0)) 6 2 (some (ab_N h2)) = h3 from eh.symm]
  clear eh
  (conv => whnf)
  refine hq _ (OP_NB O3 n3 hK hL (by decide +kernel) (by decide +kernel) (by decide +kernel)) (TR_c T1 (fun a k h1 h2 => ?_) (fun _ _ => rfl) (fun _ _ _ _ => rfl)) (fun k => ?_)
  · rw [J3 a (by omega), J2 a (by omega), E1]
  · rw [R3 13 (by decide) (by decide), R2 13 (by decide) (by decide), F1 13 (by decide)]
    exact S1 k
theorem ok_init6 (hd : 3 ≤ d) (hK : ab_K h 549 = 6) (hL : ab_L h 549 = 0) (hI : ab_I h 549 = fun _ => 0) (n0 : ab_N h = 550) (hq : ∀ h', NB h h' 549 560 → ab_I h' 549 9 = -1 → ab_I h' 549 10 = -1 → ab_I h' 550 2 = nI 0 → Q none h') : ab_Ok d n_X6_init [.ref 549] h Q := by
  have O0 : OP h 549 [] h := OP_0 n0
  refine ab_go mr_X6_init rfl (by omega) (fun call W hc hW => ?_); (conv => whnf)
  refine ⟨by decide, by decide, ?_⟩
  obtain ⟨a1, ea⟩ : ∃ q, q = ab_nw h 8 0 (fun _ => 0) := ⟨_, rfl⟩
  have M1 : MK h a1 8 := by rw [ea]; exact MK_nw _ _
  rw [← ea]
  clear ea
  rw [n0]
  (conv => whnf)
  obtain ⟨x1, x2, x3, x4, _⟩ := id M1
  rw [n0] at x1 x2 x3 x4
  refine ⟨by decide, by decide, ?_⟩
  refine hc _ _ _ _ (ok_init8 (by omega) x2 x3 x4 x1 (by decide +kernel) (fun b1 B1 Z1 => ?_))
  clear x1 x2 x3 x4
  obtain ⟨h1, eh⟩ : ∃ q, q = ab_sR b1 549 0 (some 550) := ⟨_, rfl⟩
  obtain ⟨O1, n1, J1, R1, KK⟩ := OP_o (k := 0) O0 n0 M1 B1 (by decide) (by decide)
  rw [← eh] at O1 n1 J1 R1
  have E1 : ab_I h1 = ab_I b1 := by rw [eh]; rfl
  have F1 : ∀ x, x ≠ 549 → ab_R h1 x = ab_R b1 x := fun x hx => by rw [eh]; exact funext fun j => by rw [rR_if, if_neg (fun z => hx z.1)]
  (conv => whnf)
  refine ⟨KK.trans hK, ?_⟩
  rw [← eh]
  clear eh KK M1
  (conv => whnf)
  refine ⟨by decide, by decide, (by first | decide | (rw [nI_clamp (by omega)]; decide)), ?_⟩
  rw [nI_clamp (by omega)]
  (conv => whnf)
  refine ⟨Eq.trans (up_n _ _ (show 549 ≠ ab_N h1 by omega)) (O1.2.2.1.1.trans hK), ?_⟩
  obtain ⟨h2, eh⟩ : ∃ q, q = ct_n h1 549 1 13 24 := ⟨_, rfl⟩
  obtain ⟨O2, n2, J2, R2⟩ := OP_n (k := 1) (kd := 13) (len := 24) O1 n1 (by decide +kernel) (by decide)
  rw [← eh] at O2 n2 J2 R2
  rw [show ab_sR (ab_nw h1 13 24 (fun _ => 0)) 549 1 (some (ab_N h1)) = h2 from eh.symm]
  clear eh
  (conv => whnf)
  refine ⟨by decide, by decide, (by first | decide | (rw [nI_clamp (by omega)]; decide)), ?_⟩
  rw [nI_clamp (by omega)]
  (conv => whnf)
  refine ⟨Eq.trans (up_n _ _ (show 549 ≠ ab_N h2 by omega)) (O2.2.2.1.1.trans hK), ?_⟩
  obtain ⟨h3, eh⟩ : ∃ q, q = ct_n h2 549 2 13 72 := ⟨_, rfl⟩
  obtain ⟨O3, n3, J3, R3⟩ := OP_n (k := 2) (kd := 13) (len := 72) O2 n2 (by decide +kernel) (by decide)
  rw [← eh] at O3 n3 J3 R3
  rw [show ab_sR (ab_nw h2 13 72 (fun _ => 0)) 549 2 (some (ab_N h2)) = h3 from eh.symm]
  clear eh
  (conv => whnf)
  refine ⟨by decide, by decide, (by first | decide | (rw [nI_clamp (by omega)]; decide)), ?_⟩
  rw [nI_clamp (by omega)]
  (conv => whnf)
  refine ⟨Eq.trans (up_n _ _ (show 549 ≠ ab_N h3 by omega)) (O3.2.2.1.1.trans hK), ?_⟩
  obtain ⟨h4, eh⟩ : ∃ q, q = ct_n h3 549 4 13 600 := ⟨_, rfl⟩
  obtain ⟨O4, n4, J4, R4⟩ := OP_n (k := 4) (kd := 13) (len := 600) O3 n3 (by decide +kernel) (by decide)
  rw [← eh] at O4 n4 J4 R4
  rw [show ab_sR (ab_nw h3 13 600 (fun _ => 0)) 549 4 (some (ab_N h3)) = h4 from eh.symm]
  clear eh
  (conv => whnf)
  refine ⟨by decide, by decide, (by first | decide | (rw [nI_clamp (by omega)]; decide)), ?_⟩
  rw [nI_clamp (by omega)]
  (conv => whnf)
  refine ⟨Eq.trans (up_n _ _ (show 549 ≠ ab_N h4 by omega)) (O4.2.2.1.1.trans hK), ?_⟩
  obtain ⟨h5, eh⟩ : ∃ q, q = ct_n h4 549 6 13 3 := ⟨_, rfl⟩
  obtain ⟨O5, n5, J5, R5⟩ := OP_n (k := 6) (kd := 13) (len := 3) O4 n4 (by decide +kernel) (by decide)
  rw [← eh] at O5 n5 J5 R5
  rw [show ab_sR (ab_nw h4 13 3 (fun _ => 0)) 549 6 (some (ab_N h4)) = h5 from eh.symm]
  clear eh
  (conv => whnf)
  refine ⟨by decide, by decide, (by first | decide | (rw [nI_clamp (by omega)]; decide)), ?_⟩
  rw [nI_clamp (by omega)]
  (conv => whnf)
  refine ⟨Eq.trans (up_n _ _ (show 549 ≠ ab_N h5 by omega)) (O5.2.2.1.1.trans hK), ?_⟩
  obtain ⟨h6, eh⟩ : ∃ q, q = ct_n h5 549 7 13 3 := ⟨_, rfl⟩
  obtain ⟨O6, n6, J6, R6⟩ := OP_n (k := 7) (kd := 13) (len := 3) O5 n5 (by decide +kernel) (by decide)
  rw [← eh] at O6 n6 J6 R6
  rw [show ab_sR (ab_nw h5 13 3 (fun _ => 0)) 549 7 (some (ab_N h5)) = h6 from eh.symm]
  clear eh
  (conv => whnf)
  refine ⟨O6.2.2.1.1.trans hK, ?_⟩
  obtain ⟨h7, eh⟩ : ∃ q, q = ab_sI h6 549 9 (-1) := ⟨_, rfl⟩
  have O7 := OP_I (k := 9) (x := (-1)) O6
  have n7 : ab_N (ab_sI h6 549 9 (-1)) = _ := n6
  have J7 : ∀ x, x ≠ 549 → ab_I (ab_sI h6 549 9 (-1)) x = ab_I h6 x := fun x hx => up_n _ _ hx
  have V7 : ab_I (ab_sI h6 549 9 (-1)) 549 9 = (-1) ∧ ∀ j, j ≠ 9 → ab_I (ab_sI h6 549 9 (-1)) 549 j = ab_I h6 549 j := ⟨rI_s _ _ _ _, fun j hj => rI_k _ _ _ hj⟩
  rw [← eh] at O7 n7 J7 V7
  rw [← eh]
  clear eh
  (conv => whnf)
  refine ⟨O7.2.2.1.1.trans hK, ?_⟩
  obtain ⟨h8, eh⟩ : ∃ q, q = ab_sI h7 549 10 (-1) := ⟨_, rfl⟩
  have O8 := OP_I (k := 10) (x := (-1)) O7
  have n8 : ab_N (ab_sI h7 549 10 (-1)) = _ := n7
  have J8 : ∀ x, x ≠ 549 → ab_I (ab_sI h7 549 10 (-1)) x = ab_I h7 x := fun x hx => up_n _ _ hx
  have V8 : ab_I (ab_sI h7 549 10 (-1)) 549 10 = (-1) ∧ ∀ j, j ≠ 10 → ab_I (ab_sI h7 549 10 (-1)) 549 j = ab_I h7 549 j := ⟨rI_s _ _ _ _, fun j hj => rI_k _ _ _ hj⟩
  rw [← eh] at O8 n8 J8 V8
  rw [← eh]
  clear eh
  (conv => whnf)
  refine hq _ (OP_NB O8 n8 hK hL (by decide +kernel) (by decide +kernel) (by decide +kernel)) ((V8.2 9 (by decide)).trans V7.1) V8.1 ?_
  rw [J8 550 (by decide), J7 550 (by decide), J6 550 (by decide), J5 550 (by decide), J4 550 (by decide), J3 550 (by decide), J2 550 (by decide), E1]
  exact Z1 2
end CT6
section CT11
variable {d : Nat} {h : Hp} {Q : Option Value → Hp → Prop}
set_option maxHeartbeats 4000000 in
theorem ok_init11 (hd : 4 ≤ d) (hK : ab_K h 5 = 11) (hL : ab_L h 5 = 0) (n0 : ab_N h = 6) (hq : ∀ h', NB h h' 5 580 → CR h' 7 16 29 37 s0 → CR h' 279 286 299 307 s0 → (∀ k, ab_R h' 13 k = none) → (∀ k, ab_R h' 285 k = none) → ab_I h' 550 2 = nI 0 → ab_I h' 549 9 = -1 → ab_I h' 549 10 = -1 → Q none h') : ab_Ok d n_X11_init [.ref 5] h Q := by
  have O0 : OP h 5 [] h := OP_0 n0
  refine ab_go mr_X11_init rfl (by omega) (fun call W hc hW => ?_); (conv => whnf)
  refine ⟨by decide, by decide, ?_⟩
  obtain ⟨a1, ea⟩ : ∃ q, q = ab_nw h 0 0 (fun _ => 0) := ⟨_, rfl⟩
  have M1 : MK h a1 0 := by rw [ea]; exact MK_nw _ _
  rw [← ea]
  clear ea
  rw [n0]
  (conv => whnf)
  obtain ⟨x1, x2, x3, x4, _⟩ := id M1
  rw [n0] at x1 x2 x3 x4
  refine ⟨by decide, by decide, ?_⟩
  refine hc _ _ _ _ (ok_init0 (by omega) x2 x3 x1 (fun b1 B1 T1 S1 => ?_))
  clear x1 x2 x3 x4
  obtain ⟨h1, eh⟩ : ∃ q, q = ab_sR b1 5 0 (some 6) := ⟨_, rfl⟩
  obtain ⟨O1, n1, J1, R1, KK⟩ := OP_o (k := 0) O0 n0 M1 B1 (by decide) (by decide)
  rw [← eh] at O1 n1 J1 R1
  have E1 : ab_I h1 = ab_I b1 := by rw [eh]; rfl
  have F1 : ∀ x, x ≠ 5 → ab_R h1 x = ab_R b1 x := fun x hx => by rw [eh]; exact funext fun j => by rw [rR_if, if_neg (fun z => hx z.1)]
  (conv => whnf)
  refine ⟨KK.trans hK, ?_⟩
  rw [← eh]
  clear eh KK M1
  (conv => whnf)
  refine ⟨by decide, by decide, ?_⟩
  obtain ⟨a2, ea⟩ : ∃ q, q = ab_nw h1 2 0 (fun _ => 0) := ⟨_, rfl⟩
  have M2 : MK h1 a2 2 := by rw [ea]; exact MK_nw _ _
  rw [← ea]
  clear ea
  rw [n1]
  (conv => whnf)
  obtain ⟨x1, x2, x3, x4, _⟩ := id M2
  rw [n1] at x1 x2 x3 x4
  refine ⟨by decide, by decide, ?_⟩
  refine hc _ _ _ _ (ok_init2 (by omega) x2 x3 x4 x1 (by decide +kernel) (fun b2 B2 T2 => ?_))
  clear x1 x2 x3 x4
  obtain ⟨h2, eh⟩ : ∃ q, q = ab_sR b2 5 2 (some 16) := ⟨_, rfl⟩
  obtain ⟨O2, n2, J2, R2, KK⟩ := OP_o (k := 2) O1 n1 M2 B2 (by decide) (by decide)
  rw [← eh] at O2 n2 J2 R2
  have E2 : ab_I h2 = ab_I b2 := by rw [eh]; rfl
  have F2 : ∀ x, x ≠ 5 → ab_R h2 x = ab_R b2 x := fun x hx => by rw [eh]; exact funext fun j => by rw [rR_if, if_neg (fun z => hx z.1)]
  (conv => whnf)
  refine ⟨KK.trans hK, ?_⟩
  rw [← eh]
  clear eh KK M2
  (conv => whnf)
  refine ⟨by decide, by decide, ?_⟩
  obtain ⟨a3, ea⟩ : ∃ q, q = ab_nw h2 1 0 (fun _ => 0) := ⟨_, rfl⟩
  have M3 : MK h2 a3 1 := by rw [ea]; exact MK_nw _ _
  rw [← ea]
  clear ea
  rw [n2]
  (conv => whnf)
  obtain ⟨x1, x2, x3, x4, _⟩ := id M3
  rw [n2] at x1 x2 x3 x4
  refine ⟨by decide, by decide, ?_⟩
  refine hc _ _ _ _ (ok_init1 (by omega) x2 x3 x4 x1 (by decide +kernel) (fun b3 B3 T3 => ?_))
  clear x1 x2 x3 x4
  obtain ⟨h3, eh⟩ : ∃ q, q = ab_sR b3 5 3 (some 29) := ⟨_, rfl⟩
  obtain ⟨O3, n3, J3, R3, KK⟩ := OP_o (k := 3) O2 n2 M3 B3 (by decide) (by decide)
  rw [← eh] at O3 n3 J3 R3
  have E3 : ab_I h3 = ab_I b3 := by rw [eh]; rfl
  have F3 : ∀ x, x ≠ 5 → ab_R h3 x = ab_R b3 x := fun x hx => by rw [eh]; exact funext fun j => by rw [rR_if, if_neg (fun z => hx z.1)]
  (conv => whnf)
  refine ⟨KK.trans hK, ?_⟩
  rw [← eh]
  clear eh KK M3
  (conv => whnf)
  refine ⟨by decide, by decide, ?_⟩
  obtain ⟨a4, ea⟩ : ∃ q, q = ab_nw h3 7 0 (fun _ => 0) := ⟨_, rfl⟩
  have M4 : MK h3 a4 7 := by rw [ea]; exact MK_nw _ _
  rw [← ea]
  clear ea
  rw [n3]
  (conv => whnf)
  obtain ⟨x1, x2, x3, x4, _⟩ := id M4
  rw [n3] at x1 x2 x3 x4
  refine ⟨by decide, by decide, ?_⟩
  refine hc _ _ _ _ (ok_init7 (by omega) x2 x3 x4 x1 (by decide +kernel) (fun b4 B4 T4 => ?_))
  clear x1 x2 x3 x4
  obtain ⟨h4, eh⟩ : ∃ q, q = ab_sR b4 5 4 (some 37) := ⟨_, rfl⟩
  obtain ⟨O4, n4, J4, R4, KK⟩ := OP_o (k := 4) O3 n3 M4 B4 (by decide) (by decide)
  rw [← eh] at O4 n4 J4 R4
  have E4 : ab_I h4 = ab_I b4 := by rw [eh]; rfl
  have F4 : ∀ x, x ≠ 5 → ab_R h4 x = ab_R b4 x := fun x hx => by rw [eh]; exact funext fun j => by rw [rR_if, if_neg (fun z => hx z.1)]
  (conv => whnf)
  refine ⟨KK.trans hK, ?_⟩
  rw [← eh]
  clear eh KK M4
  (conv => whnf)
  refine ⟨by decide, by decide, ?_⟩
  obtain ⟨a5, ea⟩ : ∃ q, q = ab_nw h4 10 0 (fun _ => 0) := ⟨_, rfl⟩
  have M5 : MK h4 a5 10 := by rw [ea]; exact MK_nw _ _
  rw [← ea]
  clear ea
  rw [n4]
  (conv => whnf)
  obtain ⟨x1, x2, x3, x4, _⟩ := id M5
  rw [n4] at x1 x2 x3 x4
  refine ⟨by decide, by decide, ?_⟩
  refine hc _ _ _ _ (ok_init10 (by omega) x2 x3 x4 x1 (by decide +kernel) (fun b5 B5 T5 S5 => ?_))
  clear x1 x2 x3 x4
  obtain ⟨h5, eh⟩ : ∃ q, q = ab_sR b5 5 5 (some 279) := ⟨_, rfl⟩
  obtain ⟨O5, n5, J5, R5, KK⟩ := OP_o (k := 5) O4 n4 M5 B5 (by decide) (by decide)
  rw [← eh] at O5 n5 J5 R5
  have E5 : ab_I h5 = ab_I b5 := by rw [eh]; rfl
  have F5 : ∀ x, x ≠ 5 → ab_R h5 x = ab_R b5 x := fun x hx => by rw [eh]; exact funext fun j => by rw [rR_if, if_neg (fun z => hx z.1)]
  (conv => whnf)
  refine ⟨KK.trans hK, ?_⟩
  rw [← eh]
  clear eh KK M5
  (conv => whnf)
  refine ⟨by decide, by decide, ?_⟩
  obtain ⟨a6, ea⟩ : ∃ q, q = ab_nw h5 2 0 (fun _ => 0) := ⟨_, rfl⟩
  have M6 : MK h5 a6 2 := by rw [ea]; exact MK_nw _ _
  rw [← ea]
  clear ea
  rw [n5]
  (conv => whnf)
  obtain ⟨x1, x2, x3, x4, _⟩ := id M6
  rw [n5] at x1 x2 x3 x4
  refine ⟨by decide, by decide, ?_⟩
  refine hc _ _ _ _ (ok_init2 (by omega) x2 x3 x4 x1 (by decide +kernel) (fun b6 B6 T6 => ?_))
  clear x1 x2 x3 x4
  obtain ⟨h6, eh⟩ : ∃ q, q = ab_sR b6 5 6 (some 286) := ⟨_, rfl⟩
  obtain ⟨O6, n6, J6, R6, KK⟩ := OP_o (k := 6) O5 n5 M6 B6 (by decide) (by decide)
  rw [← eh] at O6 n6 J6 R6
  have E6 : ab_I h6 = ab_I b6 := by rw [eh]; rfl
  have F6 : ∀ x, x ≠ 5 → ab_R h6 x = ab_R b6 x := fun x hx => by rw [eh]; exact funext fun j => by rw [rR_if, if_neg (fun z => hx z.1)]
  (conv => whnf)
  refine ⟨KK.trans hK, ?_⟩
  rw [← eh]
  clear eh KK M6
  (conv => whnf)
  refine ⟨by decide, by decide, ?_⟩
  obtain ⟨a7, ea⟩ : ∃ q, q = ab_nw h6 1 0 (fun _ => 0) := ⟨_, rfl⟩
  have M7 : MK h6 a7 1 := by rw [ea]; exact MK_nw _ _
  rw [← ea]
  clear ea
  rw [n6]
  (conv => whnf)
  obtain ⟨x1, x2, x3, x4, _⟩ := id M7
  rw [n6] at x1 x2 x3 x4
  refine ⟨by decide, by decide, ?_⟩
  refine hc _ _ _ _ (ok_init1 (by omega) x2 x3 x4 x1 (by decide +kernel) (fun b7 B7 T7 => ?_))
  clear x1 x2 x3 x4
  obtain ⟨h7, eh⟩ : ∃ q, q = ab_sR b7 5 7 (some 299) := ⟨_, rfl⟩
  obtain ⟨O7, n7, J7, R7, KK⟩ := OP_o (k := 7) O6 n6 M7 B7 (by decide) (by decide)
  rw [← eh] at O7 n7 J7 R7
  have E7 : ab_I h7 = ab_I b7 := by rw [eh]; rfl
  have F7 : ∀ x, x ≠ 5 → ab_R h7 x = ab_R b7 x := fun x hx => by rw [eh]; exact funext fun j => by rw [rR_if, if_neg (fun z => hx z.1)]
  (conv => whnf)
  refine ⟨KK.trans hK, ?_⟩
  rw [← eh]
  clear eh KK M7
  (conv => whnf)
  refine ⟨by decide, by decide, ?_⟩
  obtain ⟨a8, ea⟩ : ∃ q, q = ab_nw h7 7 0 (fun _ => 0) := ⟨_, rfl⟩
  have M8 : MK h7 a8 7 := by rw [ea]; exact MK_nw _ _
  rw [← ea]
  clear ea
  rw [n7]
  (conv => whnf)
  obtain ⟨x1, x2, x3, x4, _⟩ := id M8
  rw [n7] at x1 x2 x3 x4
  refine ⟨by decide, by decide, ?_⟩
  refine hc _ _ _ _ (ok_init7 (by omega) x2 x3 x4 x1 (by decide +kernel) (fun b8 B8 T8 => ?_))
  clear x1 x2 x3 x4
  obtain ⟨h8, eh⟩ : ∃ q, q = ab_sR b8 5 8 (some 307) := ⟨_, rfl⟩
  obtain ⟨O8, n8, J8, R8, KK⟩ := OP_o (k := 8) O7 n7 M8 B8 (by decide) (by decide)
  rw [← eh] at O8 n8 J8 R8
  have E8 : ab_I h8 = ab_I b8 := by rw [eh]; rfl
  have F8 : ∀ x, x ≠ 5 → ab_R h8 x = ab_R b8 x := fun x hx => by rw [eh]; exact funext fun j => by rw [rR_if, if_neg (fun z => hx z.1)]
  (conv => whnf)
  refine ⟨KK.trans hK, ?_⟩
  rw [← eh]
  clear eh KK M8
  (conv => whnf)
  refine ⟨by decide, by decide, ?_⟩
  obtain ⟨a9, ea⟩ : ∃ q, q = ab_nw h8 6 0 (fun _ => 0) := ⟨_, rfl⟩
  have M9 : MK h8 a9 6 := by rw [ea]; exact MK_nw _ _
  rw [← ea]
  clear ea
  rw [n8]
  (conv => whnf)
  obtain ⟨x1, x2, x3, x4, _⟩ := id M9
  rw [n8] at x1 x2 x3 x4
  refine ⟨by decide, by decide, ?_⟩
  refine hc _ _ _ _ (ok_init6 (by omega) x2 x3 x4 x1 (fun b9 B9 y1 y2 y3 => ?_))
  clear x1 x2 x3 x4
  obtain ⟨h9, eh⟩ : ∃ q, q = ab_sR b9 5 9 (some 549) := ⟨_, rfl⟩
  obtain ⟨O9, n9, J9, R9, KK⟩ := OP_o (k := 9) O8 n8 M9 B9 (by decide) (by decide)
  rw [← eh] at O9 n9 J9 R9
  have E9 : ab_I h9 = ab_I b9 := by rw [eh]; rfl
  have F9 : ∀ x, x ≠ 5 → ab_R h9 x = ab_R b9 x := fun x hx => by rw [eh]; exact funext fun j => by rw [rR_if, if_neg (fun z => hx z.1)]
  (conv => whnf)
  refine ⟨KK.trans hK, ?_⟩
  rw [← eh]
  clear eh KK M9
  (conv => whnf)
  refine ⟨by decide, by decide, ?_⟩
  obtain ⟨a10, ea⟩ : ∃ q, q = ab_nw h9 1 0 (fun _ => 0) := ⟨_, rfl⟩
  have M10 : MK h9 a10 1 := by rw [ea]; exact MK_nw _ _
  rw [← ea]
  clear ea
  rw [n9]
  (conv => whnf)
  obtain ⟨x1, x2, x3, x4, _⟩ := id M10
  rw [n9] at x1 x2 x3 x4
  refine ⟨by decide, by decide, ?_⟩
  refine hc _ _ _ _ (ok_init1 (by omega) x2 x3 x4 x1 (by decide +kernel) (fun b10 B10 T10 => ?_))
  clear x1 x2 x3 x4
  obtain ⟨h10, eh⟩ : ∃ q, q = ab_sR b10 5 11 (some 560) := ⟨_, rfl⟩
  obtain ⟨O10, n10, J10, R10, KK⟩ := OP_o (k := 11) O9 n9 M10 B10 (by decide) (by decide)
  rw [← eh] at O10 n10 J10 R10
  have E10 : ab_I h10 = ab_I b10 := by rw [eh]; rfl
  have F10 : ∀ x, x ≠ 5 → ab_R h10 x = ab_R b10 x := fun x hx => by rw [eh]; exact funext fun j => by rw [rR_if, if_neg (fun z => hx z.1)]
  (conv => whnf)
  refine ⟨KK.trans hK, ?_⟩
  rw [← eh]
  clear eh KK M10
  (conv => whnf)
  refine ⟨by decide, by decide, ?_⟩
  obtain ⟨a11, ea⟩ : ∃ q, q = ab_nw h10 4 0 (fun _ => 0) := ⟨_, rfl⟩
  have M11 : MK h10 a11 4 := by rw [ea]; exact MK_nw _ _
  rw [← ea]
  clear ea
  rw [n10]
  (conv => whnf)
  obtain ⟨x1, x2, x3, x4, _⟩ := id M11
  rw [n10] at x1 x2 x3 x4
  refine ⟨by decide, by decide, ?_⟩
  refine hc _ _ _ _ (ok_init4 (by omega) x2 x3 x4 x1 (by decide +kernel) (fun b11 B11 => ?_))
  clear x1 x2 x3 x4
  obtain ⟨h11, eh⟩ : ∃ q, q = ab_sR b11 5 12 (some 568) := ⟨_, rfl⟩
  obtain ⟨O11, n11, J11, R11, KK⟩ := OP_o (k := 12) O10 n10 M11 B11 (by decide) (by decide)
  rw [← eh] at O11 n11 J11 R11
  have E11 : ab_I h11 = ab_I b11 := by rw [eh]; rfl
  have F11 : ∀ x, x ≠ 5 → ab_R h11 x = ab_R b11 x := fun x hx => by rw [eh]; exact funext fun j => by rw [rR_if, if_neg (fun z => hx z.1)]
  (conv => whnf)
  refine ⟨KK.trans hK, ?_⟩
  rw [← eh]
  clear eh KK M11
  (conv => whnf)
  refine ⟨by decide, by decide, ?_⟩
  obtain ⟨a12, ea⟩ : ∃ q, q = ab_nw h11 5 0 (fun _ => 0) := ⟨_, rfl⟩
  have M12 : MK h11 a12 5 := by rw [ea]; exact MK_nw _ _
  rw [← ea]
  clear ea
  rw [n11]
  (conv => whnf)
  obtain ⟨x1, x2, x3, x4, _⟩ := id M12
  rw [n11] at x1 x2 x3 x4
  refine ⟨by decide, by decide, ?_⟩
  refine hc _ _ _ _ (ok_init5 (by omega) x2 x3 x4 x1 (by decide +kernel) (fun b12 B12 => ?_))
  clear x1 x2 x3 x4
  obtain ⟨h12, eh⟩ : ∃ q, q = ab_sR b12 5 13 (some 573) := ⟨_, rfl⟩
  obtain ⟨O12, n12, J12, R12, KK⟩ := OP_o (k := 13) O11 n11 M12 B12 (by decide) (by decide)
  rw [← eh] at O12 n12 J12 R12
  have E12 : ab_I h12 = ab_I b12 := by rw [eh]; rfl
  have F12 : ∀ x, x ≠ 5 → ab_R h12 x = ab_R b12 x := fun x hx => by rw [eh]; exact funext fun j => by rw [rR_if, if_neg (fun z => hx z.1)]
  (conv => whnf)
  refine ⟨KK.trans hK, ?_⟩
  rw [← eh]
  clear eh KK M12
  (conv => whnf)
  refine ⟨by decide, by decide, ?_⟩
  obtain ⟨a13, ea⟩ : ∃ q, q = ab_nw h12 3 0 (fun _ => 0) := ⟨_, rfl⟩
  have M13 : MK h12 a13 3 := by rw [ea]; exact MK_nw _ _
  rw [← ea]
  clear ea
  rw [n12]
  (conv => whnf)
  obtain ⟨x1, x2, x3, x4, _⟩ := id M13
  rw [n12] at x1 x2 x3 x4
  refine ⟨by decide, by decide, ?_⟩
  refine hc _ _ _ _ (ok_init3 (by omega) x2 x3 x4 x1 (by decide +kernel) (fun b13 B13 => ?_))
  clear x1 x2 x3 x4
  obtain ⟨h13, eh⟩ : ∃ q, q = ab_sR b13 5 14 (some 576) := ⟨_, rfl⟩
  obtain ⟨O13, n13, J13, R13, KK⟩ := OP_o (k := 14) O12 n12 M13 B13 (by decide) (by decide)
  rw [← eh] at O13 n13 J13 R13
  have E13 : ab_I h13 = ab_I b13 := by rw [eh]; rfl
  have F13 : ∀ x, x ≠ 5 → ab_R h13 x = ab_R b13 x := fun x hx => by rw [eh]; exact funext fun j => by rw [rR_if, if_neg (fun z => hx z.1)]
  (conv => whnf)
  refine ⟨KK.trans hK, ?_⟩
  rw [← eh]
  clear eh KK M13
  (conv => whnf)
  have r6 : ab_R h13 5 0 = some 6 := O13.2.2.2.1 (0, 6) (by decide)
  have sh6 := O13.2.2.2.2 6 (by decide) (by omega)
  refine ⟨O13.2.2.1.1.trans hK, 6, r6, ?_⟩
  (conv => whnf)
  refine ⟨sh6.1.trans (by decide +kernel), 7, sh6.2.2 0 7 (by decide +kernel), ?_⟩
  (conv => whnf)
  refine ⟨O13.2.2.1.1.trans hK, ?_⟩
  obtain ⟨h14, eh⟩ : ∃ q, q = ab_sR h13 5 1 (some 7) := ⟨_, rfl⟩
  have O14 := OP_r (k := 1) (b := 7) O13 (by decide)
  have n14 : ab_N (ab_sR h13 5 1 (some 7)) = 580 := n13
  have E14 : ab_I (ab_sR h13 5 1 (some 7)) = ab_I h13 := rfl
  have F14 : ∀ x, x ≠ 5 → ab_R (ab_sR h13 5 1 (some 7)) x = ab_R h13 x := fun x hx => funext fun j => by rw [rR_if, if_neg (fun z => hx z.1)]
  rw [← eh] at O14 n14 E14 F14
  rw [← eh]
  clear eh
  have r9 : ab_R h14 5 9 = some 549 := O14.2.2.2.1 (9, 549) (by decide)
  have sh9 := O14.2.2.2.2 549 (by decide) (by omega)
  (conv => whnf)
  refine ⟨O14.2.2.1.1.trans hK, 549, r9, ?_⟩
  (conv => whnf)
  refine ⟨sh9.1.trans (by decide +kernel), 550, sh9.2.2 0 550 (by decide +kernel), ?_⟩
  (conv => whnf)
  refine ⟨O14.2.2.1.1.trans hK, ?_⟩
  obtain ⟨h15, eh⟩ : ∃ q, q = ab_sR h14 5 10 (some 550) := ⟨_, rfl⟩
  have O15 := OP_r (k := 10) (b := 550) O14 (by decide)
  have n15 : ab_N (ab_sR h14 5 10 (some 550)) = 580 := n14
  have E15 : ab_I (ab_sR h14 5 10 (some 550)) = ab_I h14 := rfl
  have F15 : ∀ x, x ≠ 5 → ab_R (ab_sR h14 5 10 (some 550)) x = ab_R h14 x := fun x hx => funext fun j => by rw [rR_if, if_neg (fun z => hx z.1)]
  rw [← eh] at O15 n15 E15 F15
  rw [← eh]
  clear eh
  (conv => whnf)
  have g13 : ∀ x, ab_I h15 x = ab_I h13 x := fun x => by rw [E15, E14]
  have f13 : ∀ x, x ≠ 5 → ab_R h15 x = ab_R h13 x := fun x hx => (F15 x hx).trans (F14 x hx)
  have g12 : ∀ x, x < 576 → ab_I h15 x = ab_I h12 x := fun x hx => (g13 x).trans (J13 x (by omega))
  have f12 : ∀ x, x < 576 → x ≠ 5 → ab_R h15 x = ab_R h12 x := fun x hx h5 => (f13 x h5).trans (R13 x (by omega) h5)
  have g11 : ∀ x, x < 573 → ab_I h15 x = ab_I h11 x := fun x hx => (g12 x (by omega)).trans (J12 x (by omega))
  have f11 : ∀ x, x < 573 → x ≠ 5 → ab_R h15 x = ab_R h11 x := fun x hx h5 => (f12 x (by omega) h5).trans (R12 x (by omega) h5)
  have g10 : ∀ x, x < 568 → ab_I h15 x = ab_I h10 x := fun x hx => (g11 x (by omega)).trans (J11 x (by omega))
  have f10 : ∀ x, x < 568 → x ≠ 5 → ab_R h15 x = ab_R h10 x := fun x hx h5 => (f11 x (by omega) h5).trans (R11 x (by omega) h5)
  have g9 : ∀ x, x < 560 → ab_I h15 x = ab_I h9 x := fun x hx => (g10 x (by omega)).trans (J10 x (by omega))
  have f9 : ∀ x, x < 560 → x ≠ 5 → ab_R h15 x = ab_R h9 x := fun x hx h5 => (f10 x (by omega) h5).trans (R10 x (by omega) h5)
  have g8 : ∀ x, x < 549 → ab_I h15 x = ab_I h8 x := fun x hx => (g9 x (by omega)).trans (J9 x (by omega))
  have f8 : ∀ x, x < 549 → x ≠ 5 → ab_R h15 x = ab_R h8 x := fun x hx h5 => (f9 x (by omega) h5).trans (R9 x (by omega) h5)
  have g7 : ∀ x, x < 307 → ab_I h15 x = ab_I h7 x := fun x hx => (g8 x (by omega)).trans (J8 x (by omega))
  have f7 : ∀ x, x < 307 → x ≠ 5 → ab_R h15 x = ab_R h7 x := fun x hx h5 => (f8 x (by omega) h5).trans (R8 x (by omega) h5)
  have g6 : ∀ x, x < 299 → ab_I h15 x = ab_I h6 x := fun x hx => (g7 x (by omega)).trans (J7 x (by omega))
  have f6 : ∀ x, x < 299 → x ≠ 5 → ab_R h15 x = ab_R h6 x := fun x hx h5 => (f7 x (by omega) h5).trans (R7 x (by omega) h5)
  have g5 : ∀ x, x < 286 → ab_I h15 x = ab_I h5 x := fun x hx => (g6 x (by omega)).trans (J6 x (by omega))
  have f5 : ∀ x, x < 286 → x ≠ 5 → ab_R h15 x = ab_R h5 x := fun x hx h5 => (f6 x (by omega) h5).trans (R6 x (by omega) h5)
  have g4 : ∀ x, x < 279 → ab_I h15 x = ab_I h4 x := fun x hx => (g5 x (by omega)).trans (J5 x (by omega))
  have f4 : ∀ x, x < 279 → x ≠ 5 → ab_R h15 x = ab_R h4 x := fun x hx h5 => (f5 x (by omega) h5).trans (R5 x (by omega) h5)
  have g3 : ∀ x, x < 37 → ab_I h15 x = ab_I h3 x := fun x hx => (g4 x (by omega)).trans (J4 x (by omega))
  have f3 : ∀ x, x < 37 → x ≠ 5 → ab_R h15 x = ab_R h3 x := fun x hx h5 => (f4 x (by omega) h5).trans (R4 x (by omega) h5)
  have g2 : ∀ x, x < 29 → ab_I h15 x = ab_I h2 x := fun x hx => (g3 x (by omega)).trans (J3 x (by omega))
  have f2 : ∀ x, x < 29 → x ≠ 5 → ab_R h15 x = ab_R h2 x := fun x hx h5 => (f3 x (by omega) h5).trans (R3 x (by omega) h5)
  have g1 : ∀ x, x < 16 → ab_I h15 x = ab_I h1 x := fun x hx => (g2 x (by omega)).trans (J2 x (by omega))
  have f1 : ∀ x, x < 16 → x ≠ 5 → ab_R h15 x = ab_R h1 x := fun x hx h5 => (f2 x (by omega) h5).trans (R2 x (by omega) h5)
  refine hq h15 (OP_NB O15 n15 hK hL (by decide +kernel) (by decide +kernel) (by decide +kernel)) ⟨TR_c T1 (fun a k h1 h2 => ?_) (fun _ _ => rfl) (fun _ _ _ _ => rfl), HR_c T2 (fun a k h1 h2 => ?_) rfl rfl (fun _ _ _ _ => rfl), GR_c T3 (fun a k ha => ?_) rfl (fun _ _ _ _ => rfl), SR_c T4 (fun a k h1 h2 => ?_) rfl (fun _ _ _ => rfl)⟩ ⟨TR_c T5 (fun a k h1 h2 => ?_) (fun _ _ => rfl) (fun _ _ _ _ => rfl), HR_c T6 (fun a k h1 h2 => ?_) rfl rfl (fun _ _ _ _ => rfl), GR_c T7 (fun a k ha => ?_) rfl (fun _ _ _ _ => rfl), SR_c T8 (fun a k h1 h2 => ?_) rfl (fun _ _ _ => rfl)⟩ (fun k => ?_) (fun k => ?_) ?_ ?_ ?_
  · rw [g1 a (by omega), E1]
  · rw [g2 a (by omega), E2]
  · rw [g3 _ (by omega), E3]
  · rw [g4 a (by omega), E4]
  · rw [g5 a (by omega), E5]
  · rw [g6 a (by omega), E6]
  · rw [g7 _ (by omega), E7]
  · rw [g8 a (by omega), E8]
  · rw [f1 13 (by decide) (by decide), F1 13 (by decide)]
    exact S1 k
  · rw [f5 285 (by decide) (by decide), F5 285 (by decide)]
    exact S5 k
  · rw [g9 550 (by decide), E9]
    exact y3
  · rw [g9 549 (by decide), E9]
    exact y1
  · rw [g9 549 (by decide), E9]
    exact y2
end CT11
