/-! ===== contracts: the reference's reader, what the token at hand is (mine) ===== -/
theorem nI_L {c : Nat} (hc : c ≤ 255) : (nI c).toInt64 = lN c := by
  apply Int64.toInt_inj.mp
  rw [Int32.toInt_toInt64, nI_toInt (by omega), lN_t (by omega)]
/-- the token's number, where it has one of its own -/
theorem RT_c {h : Hp} {t v : Nat} (T : RT h t v) : (ab_I h 580 9 = nI 1 ↔ t = 130) ∧ (ab_I h 580 9 = nI 4 ↔ t = 128) ∧ (ab_I h 580 9 = nI 5 ↔ t = 129) ∧ (ab_I h 580 9 = nI 0 ↔ t = 131) ∧ ∀ c, c ∈ sgs → (ab_I h 580 9 = nI c ↔ t = c) := by
  have sg63 : ∀ c, c ∈ sgs → 34 < c ∧ c < 63 ∧ c ≠ 58 := by decide
  have key : ∀ x, x < 200 → ab_I h 580 9 = nI x → ∀ y, y < 200 → (ab_I h 580 9 = nI y ↔ x = y) := fun x hx e y hy => by rw [e, nI_eq (by omega) (by omega)]
  rcases T with ⟨t1, e⟩ | ⟨t1, e, _⟩ | ⟨t1, e, _⟩ | ⟨t1, e⟩ | ⟨t1, e⟩ | ⟨t1, e⟩ | ⟨t1, e⟩
  · have k := key 0 (by omega) e
    exact ⟨by rw [k 1 (by omega)]; omega, by rw [k 4 (by omega)]; omega, by rw [k 5 (by omega)]; omega, by rw [k 0 (by omega)]; omega, fun c hc => by have := sg63 c hc; rw [k c (by omega)]; omega⟩
  · have k := key 1 (by omega) e
    exact ⟨by rw [k 1 (by omega)]; omega, by rw [k 4 (by omega)]; omega, by rw [k 5 (by omega)]; omega, by rw [k 0 (by omega)]; omega, fun c hc => by have := sg63 c hc; rw [k c (by omega)]; omega⟩
  · have k := key 2 (by omega) e
    exact ⟨by rw [k 1 (by omega)]; omega, by rw [k 4 (by omega)]; omega, by rw [k 5 (by omega)]; omega, by rw [k 0 (by omega)]; omega, fun c hc => by have := sg63 c hc; rw [k c (by omega)]; omega⟩
  · have k := key 4 (by omega) e
    exact ⟨by rw [k 1 (by omega)]; omega, by rw [k 4 (by omega)]; omega, by rw [k 5 (by omega)]; omega, by rw [k 0 (by omega)]; omega, fun c hc => by have := sg63 c hc; rw [k c (by omega)]; omega⟩
  · have k := key 5 (by omega) e
    exact ⟨by rw [k 1 (by omega)]; omega, by rw [k 4 (by omega)]; omega, by rw [k 5 (by omega)]; omega, by rw [k 0 (by omega)]; omega, fun c hc => by have := sg63 c hc; rw [k c (by omega)]; omega⟩
  · have s := sg63 t t1
    have k := key t (by omega) e
    exact ⟨by rw [k 1 (by omega)]; omega, by rw [k 4 (by omega)]; omega, by rw [k 5 (by omega)]; omega, by rw [k 0 (by omega)]; omega, fun c hc => by have := sg63 c hc; rw [k c (by omega)]⟩
  · have k : ∃ x, x < 200 ∧ (x = 3 ∨ x = 58 ∨ x = 2) ∧ ab_I h 580 9 = nI x := by
      rcases e with e | e | e
      · exact ⟨3, by omega, by omega, e⟩
      · exact ⟨58, by omega, by omega, e⟩
      · exact ⟨2, by omega, by omega, e.1⟩
    obtain ⟨x, hx, hx2, e⟩ := k
    have k := key x hx e
    exact ⟨by rw [k 1 (by omega)]; omega, by rw [k 4 (by omega)]; omega, by rw [k 5 (by omega)]; omega, by rw [k 0 (by omega)]; omega, fun c hc => by have := sg63 c hc; rw [k c (by omega)]; omega⟩
theorem RT_w {h : Hp} {t v : Nat} (T : RT h t v) : (ab_I h 580 9 ≠ nI 2 → ¬ t < 30) ∧ (ab_I h 580 9 = nI 2 → ∀ j, j < 30 → (ab_J h 580 11 = lN (wcs.getD j 0) ↔ t = j)) := by
  have sg63 : ∀ c, c ∈ sgs → 34 < c ∧ c < 63 ∧ c ≠ 58 := by decide
  have wb : ∀ i, i < 30 → wcs.getD i 0 ≤ 1152921504606846976 := by decide +kernel
  have key : ∀ x, x < 200 → x ≠ 2 → ab_I h 580 9 = nI x → ¬ ab_I h 580 9 = nI 2 := fun x hx h2 e => by rw [e, nI_eq (by omega) (by omega)]; exact h2
  rcases T with ⟨t1, e⟩ | ⟨t1, e, _⟩ | ⟨t1, e, ew⟩ | ⟨t1, e⟩ | ⟨t1, e⟩ | ⟨t1, e⟩ | ⟨t1, e⟩
  · exact ⟨fun _ => by omega, fun z => absurd z (key 0 (by omega) (by omega) e)⟩
  · exact ⟨fun _ => by omega, fun z => absurd z (key 1 (by omega) (by omega) e)⟩
  · refine ⟨fun z => absurd e z, fun _ j hj => ?_⟩
    rw [ew]
    constructor
    · intro z
      have e := (lN_e (by have := wb t t1; omega) (by have := wb j hj; omega)).mp z
      rw [← wcs_inj t t1, ← wcs_inj j hj, e]
    · intro z; rw [z]
  · exact ⟨fun _ => by omega, fun z => absurd z (key 4 (by omega) (by omega) e)⟩
  · exact ⟨fun _ => by omega, fun z => absurd z (key 5 (by omega) (by omega) e)⟩
  · have s := sg63 t t1
    exact ⟨fun _ => by omega, fun z => absurd z (key t (by omega) (by omega) e)⟩
  · refine ⟨fun _ => by omega, fun z j hj => ?_⟩
    rcases e with e | e | ⟨_, w, e1, e2, e3⟩
    · exact absurd z (key 3 (by omega) (by omega) e)
    · exact absurd z (key 58 (by omega) (by omega) e)
    · rw [e1]
      constructor
      · intro y
        have e := (lN_e (by omega) (by have := wb j hj; omega)).mp y
        have := (tokW_y hj).mpr e
        omega
      · intro y; omega
section MW
variable {d : Nat} {h : Hp} {Q : Option Value → Hp → Prop} {n B w0 lw : Nat} {b : Nat → Nat} {wr : List (Nat × Nat)} {p : List Nat} {o i w : Nat}
theorem om_w2 (hd : 1 ≤ d) {x y : Nat} (hx : x ≤ 255) (hy : y ≤ 255) (hq : Q (some (.long (lN (x * 256 + y)))) h) : ab_Ok d n_X12_w2 [.int (nI x), .int (nI y)] h Q := by
  refine ab_go mr_X12_w2 rfl (by omega) (fun call W hc hW => ?_); (conv => whnf)
  rw [nI_L hx, lshl8 (by omega), lor8 hy]
  exact hq
theorem om_w3 (hd : 2 ≤ d) {x y z : Nat} (hx : x ≤ 255) (hy : y ≤ 255) (hz : z ≤ 255) (hq : Q (some (.long (lN ((x * 256 + y) * 256 + z)))) h) : ab_Ok d n_X12_w3 [.int (nI x), .int (nI y), .int (nI z)] h Q := by
  refine ab_go mr_X12_w3 rfl (by omega) (fun call W hc hW => ?_); (conv => whnf)
  refine hc _ _ _ _ (om_w2 (by omega) hx hy ?_)
  (conv => whnf)
  rw [lshl8 (by omega), lor8 hz]
  exact hq
theorem om_w4 (hd : 3 ≤ d) {x y z u : Nat} (hx : x ≤ 255) (hy : y ≤ 255) (hz : z ≤ 255) (hu : u ≤ 255) (hq : Q (some (.long (lN (((x * 256 + y) * 256 + z) * 256 + u)))) h) : ab_Ok d n_X12_w4 [.int (nI x), .int (nI y), .int (nI z), .int (nI u)] h Q := by
  refine ab_go mr_X12_w4 rfl (by omega) (fun call W hc hW => ?_); (conv => whnf)
  refine hc _ _ _ _ (om_w3 (by omega) hx hy hz ?_)
  (conv => whnf)
  rw [lshl8 (by omega), lor8 hu]
  exact hq
theorem om_w5 (hd : 4 ≤ d) {x y z u v : Nat} (hx : x ≤ 255) (hy : y ≤ 255) (hz : z ≤ 255) (hu : u ≤ 255) (hv : v ≤ 255) (hq : Q (some (.long (lN ((((x * 256 + y) * 256 + z) * 256 + u) * 256 + v)))) h) : ab_Ok d n_X12_w5 [.int (nI x), .int (nI y), .int (nI z), .int (nI u), .int (nI v)] h Q := by
  refine ab_go mr_X12_w5 rfl (by omega) (fun call W hc hW => ?_); (conv => whnf)
  refine hc _ _ _ _ (om_w4 (by omega) hx hy hz hu ?_)
  (conv => whnf)
  rw [lshl8 (by omega), lor8 hv]
  exact hq
theorem om_w6 (hd : 5 ≤ d) {x y z u v s : Nat} (hx : x ≤ 255) (hy : y ≤ 255) (hz : z ≤ 255) (hu : u ≤ 255) (hv : v ≤ 255) (hs : s ≤ 255) (hq : Q (some (.long (lN (((((x * 256 + y) * 256 + z) * 256 + u) * 256 + v) * 256 + s)))) h) : ab_Ok d n_X12_w6 [.int (nI x), .int (nI y), .int (nI z), .int (nI u), .int (nI v), .int (nI s)] h Q := by
  refine ab_go mr_X12_w6 rfl (by omega) (fun call W hc hW => ?_); (conv => whnf)
  refine hc _ _ _ _ (om_w5 (by omega) hx hy hz hu hv ?_)
  (conv => whnf)
  rw [lshl8 (by omega), lor8 hs]
  exact hq
theorem om_nameOf (hd : 7 ≤ d) (S : Sh h) {t v : Nat} (T : RT h t v) (hq : Q (some (.int (if 8 ≤ t ∧ t ≤ 17 then nI (nmM t) else -1))) h) : ab_Ok d n_X12_nameOf [.ref 580] h Q := by
  obtain ⟨t1, t2⟩ := RT_w T
  have S' := S
  refine ab_go mr_X12_nameOf rfl (by omega) (fun call W hc hW => ?_); (conv => whnf)
  refine ⟨S'.1 580 (by decide), ?_⟩
  (conv => whnf)
  by_cases f : ab_I h 580 9 = nI 2
  · refine bT f ?_
    have t2 := t2 f
    (conv => whnf)
    refine ⟨S'.1 580 (by decide), ?_⟩
    (conv => whnf)
    refine hc _ _ _ _ (om_w4 (by omega) (by decide) (by decide) (by decide) (by decide) ?_)
    (conv => whnf)
    have u9 := t2 9 (by decide)
    rw [show wcs.getD 9 0 = 1752135026 from rfl] at u9
    refine ⟨fun g9 => ?_, fun g9 => ?_⟩
    rotate_left
    · rw [lc_eq] at g9
      have e := u9.mp g9
      subst e
      (conv => whnf)
      exact hq
    have n9 : t ≠ 9 := fun e => g9 (by rw [lc_eq]; exact u9.mpr e)
    (conv => whnf)
    refine ⟨S'.1 580 (by decide), ?_⟩
    (conv => whnf)
    refine hc _ _ _ _ (om_w3 (by omega) (by decide) (by decide) (by decide) ?_)
    (conv => whnf)
    have u10 := t2 10 (by decide)
    rw [show wcs.getD 10 0 = 7566702 from rfl] at u10
    refine ⟨fun g10 => ?_, fun g10 => ?_⟩
    rotate_left
    · rw [lc_eq] at g10
      have e := u10.mp g10
      subst e
      (conv => whnf)
      exact hq
    have n10 : t ≠ 10 := fun e => g10 (by rw [lc_eq]; exact u10.mpr e)
    (conv => whnf)
    refine ⟨S'.1 580 (by decide), ?_⟩
    (conv => whnf)
    refine hc _ _ _ _ (om_w4 (by omega) (by decide) (by decide) (by decide) (by decide) ?_)
    (conv => whnf)
    have u8 := t2 8 (by decide)
    rw [show wcs.getD 8 0 = 2003398244 from rfl] at u8
    refine ⟨fun g8 => ?_, fun g8 => ?_⟩
    rotate_left
    · rw [lc_eq] at g8
      have e := u8.mp g8
      subst e
      (conv => whnf)
      exact hq
    have n8 : t ≠ 8 := fun e => g8 (by rw [lc_eq]; exact u8.mpr e)
    (conv => whnf)
    refine ⟨S'.1 580 (by decide), ?_⟩
    (conv => whnf)
    refine hc _ _ _ _ (om_w6 (by omega) (by decide) (by decide) (by decide) (by decide) (by decide) (by decide) ?_)
    (conv => whnf)
    have u11 := t2 11 (by decide)
    rw [show wcs.getD 11 0 = 114802033124723 from rfl] at u11
    refine ⟨fun g11 => ?_, fun g11 => ?_⟩
    rotate_left
    · rw [lc_eq] at g11
      have e := u11.mp g11
      subst e
      (conv => whnf)
      exact hq
    have n11 : t ≠ 11 := fun e => g11 (by rw [lc_eq]; exact u11.mpr e)
    (conv => whnf)
    refine ⟨S'.1 580 (by decide), ?_⟩
    (conv => whnf)
    refine hc _ _ _ _ (om_w4 (by omega) (by decide) (by decide) (by decide) (by decide) ?_)
    (conv => whnf)
    have u12 := t2 12 (by decide)
    rw [show wcs.getD 12 0 = 1819238756 from rfl] at u12
    refine ⟨fun g12 => ?_, fun g12 => ?_⟩
    rotate_left
    · rw [lc_eq] at g12
      have e := u12.mp g12
      subst e
      (conv => whnf)
      exact hq
    have n12 : t ≠ 12 := fun e => g12 (by rw [lc_eq]; exact u12.mpr e)
    (conv => whnf)
    refine ⟨S'.1 580 (by decide), ?_⟩
    (conv => whnf)
    refine hc _ _ _ _ (om_w4 (by omega) (by decide) (by decide) (by decide) (by decide) ?_)
    (conv => whnf)
    have u13 := t2 13 (by decide)
    rw [show wcs.getD 13 0 = 1667591276 from rfl] at u13
    refine ⟨fun g13 => ?_, fun g13 => ?_⟩
    rotate_left
    · rw [lc_eq] at g13
      have e := u13.mp g13
      subst e
      (conv => whnf)
      exact hq
    have n13 : t ≠ 13 := fun e => g13 (by rw [lc_eq]; exact u13.mpr e)
    (conv => whnf)
    refine ⟨S'.1 580 (by decide), ?_⟩
    (conv => whnf)
    refine hc _ _ _ _ (om_w3 (by omega) (by decide) (by decide) (by decide) ?_)
    (conv => whnf)
    have u14 := t2 14 (by decide)
    rw [show wcs.getD 14 0 = 7825519 from rfl] at u14
    refine ⟨fun g14 => ?_, fun g14 => ?_⟩
    rotate_left
    · rw [lc_eq] at g14
      have e := u14.mp g14
      subst e
      (conv => whnf)
      exact hq
    have n14 : t ≠ 14 := fun e => g14 (by rw [lc_eq]; exact u14.mpr e)
    (conv => whnf)
    refine ⟨S'.1 580 (by decide), ?_⟩
    (conv => whnf)
    refine hc _ _ _ _ (om_w5 (by omega) (by decide) (by decide) (by decide) (by decide) (by decide) ?_)
    (conv => whnf)
    have u15 := t2 15 (by decide)
    rw [show wcs.getD 15 0 = 495875090022 from rfl] at u15
    refine ⟨fun g15 => ?_, fun g15 => ?_⟩
    rotate_left
    · rw [lc_eq] at g15
      have e := u15.mp g15
      subst e
      (conv => whnf)
      exact hq
    have n15 : t ≠ 15 := fun e => g15 (by rw [lc_eq]; exact u15.mpr e)
    (conv => whnf)
    refine ⟨S'.1 580 (by decide), ?_⟩
    (conv => whnf)
    refine hc _ _ _ _ (om_w6 (by omega) (by decide) (by decide) (by decide) (by decide) (by decide) (by decide) ?_)
    (conv => whnf)
    have u16 := t2 16 (by decide)
    rw [show wcs.getD 16 0 = 131277443786868 from rfl] at u16
    refine ⟨fun g16 => ?_, fun g16 => ?_⟩
    rotate_left
    · rw [lc_eq] at g16
      have e := u16.mp g16
      subst e
      (conv => whnf)
      exact hq
    have n16 : t ≠ 16 := fun e => g16 (by rw [lc_eq]; exact u16.mpr e)
    (conv => whnf)
    refine ⟨S'.1 580 (by decide), ?_⟩
    (conv => whnf)
    refine hc _ _ _ _ (om_w3 (by omega) (by decide) (by decide) (by decide) ?_)
    (conv => whnf)
    have u17 := t2 17 (by decide)
    rw [show wcs.getD 17 0 = 7824756 from rfl] at u17
    refine ⟨fun g17 => ?_, fun g17 => ?_⟩
    rotate_left
    · rw [lc_eq] at g17
      have e := u17.mp g17
      subst e
      (conv => whnf)
      exact hq
    have n17 : t ≠ 17 := fun e => g17 (by rw [lc_eq]; exact u17.mpr e)
    (conv => whnf)
    rw [if_neg (by omega)] at hq
    exact hq
  · refine bF f ?_
    have t1 := t1 f
    (conv => whnf)
    rw [if_neg (by omega)] at hq
    exact hq
theorem om_compareOf (hd : 1 ≤ d) (S : Sh h) {t v : Nat} (T : RT h t v) (ht : t ≤ 132) (hq : Q (some (.int (if isC t then nI (opM t) else -1))) h) : ab_Ok d n_X12_compareOf [.ref 580] h Q := by
  obtain ⟨_, k4, k5, _, ks⟩ := RT_c T
  have k60 := ks 60 (by decide)
  have k62 := ks 62 (by decide)
  have k61 := ks 61 (by decide)
  have k35 := ks 35 (by decide)
  have S' := S
  refine ab_go mr_X12_compareOf rfl (by omega) (fun call W hc hW => ?_); (conv => whnf)
  refine ⟨S'.1 580 (by decide), ?_⟩
  (conv => whnf)
  refine ⟨fun f60 => ?_, fun f60 => ?_⟩
  rotate_left
  · have e := k60.mp f60
    subst e
    (conv => whnf)
    exact hq
  have n60 : t ≠ 60 := fun e => f60 (k60.mpr e)
  (conv => whnf)
  refine ⟨S'.1 580 (by decide), ?_⟩
  (conv => whnf)
  refine ⟨fun f128 => ?_, fun f128 => ?_⟩
  rotate_left
  · have e := k4.mp f128
    subst e
    (conv => whnf)
    exact hq
  have n128 : t ≠ 128 := fun e => f128 (k4.mpr e)
  (conv => whnf)
  refine ⟨S'.1 580 (by decide), ?_⟩
  (conv => whnf)
  refine ⟨fun f62 => ?_, fun f62 => ?_⟩
  rotate_left
  · have e := k62.mp f62
    subst e
    (conv => whnf)
    exact hq
  have n62 : t ≠ 62 := fun e => f62 (k62.mpr e)
  (conv => whnf)
  refine ⟨S'.1 580 (by decide), ?_⟩
  (conv => whnf)
  refine ⟨fun f129 => ?_, fun f129 => ?_⟩
  rotate_left
  · have e := k5.mp f129
    subst e
    (conv => whnf)
    exact hq
  have n129 : t ≠ 129 := fun e => f129 (k5.mpr e)
  (conv => whnf)
  refine ⟨S'.1 580 (by decide), ?_⟩
  (conv => whnf)
  refine ⟨fun f61 => ?_, fun f61 => ?_⟩
  rotate_left
  · have e := k61.mp f61
    subst e
    (conv => whnf)
    exact hq
  have n61 : t ≠ 61 := fun e => f61 (k61.mpr e)
  (conv => whnf)
  refine ⟨S'.1 580 (by decide), ?_⟩
  (conv => whnf)
  refine ⟨fun f35 => ?_, fun f35 => ?_⟩
  rotate_left
  · have e := k35.mp f35
    subst e
    (conv => whnf)
    exact hq
  have n35 : t ≠ 35 := fun e => f35 (k35.mpr e)
  (conv => whnf)
  rw [if_neg (by unfold isC; omega)] at hq
  exact hq
/-- what can stand between two, here -/
def btw (t : Nat) (p : List Nat) : Int32 := if t = 43 then nI 6 else if t = 45 then nI 7 else if t = 42 then nI 8 else if t = 47 then nI 9 else if opN p ≠ 41 then -1 else if cmB p = false then (if isC t then nI (opM t) else -1) else if t = 26 then nI 21 else if t = 25 then nI 22 else -1
theorem om_betweenOf (hd : 6 ≤ d) (S : Sh h) (M : MRd h b n B w0 lw wr p o i w) (hp : p.length ≤ 160) (hq : Q (some (.int (btw (stT b n i) p))) h) : ab_Ok d n_X12_betweenOf [.ref 580] h Q := by
  have T := M.1.2.2.2
  have c16 := M.2.2.2.2.1
  have P := M.2.2.2.2.2.2.2.1
  obtain ⟨_, a2⟩ := opA_N p P
  obtain ⟨_, _, _, _, ks⟩ := RT_c T
  have tb' := stT_b b n i
  obtain ⟨t, et⟩ : ∃ t, t = stT b n i := ⟨_, rfl⟩
  rw [← et] at hq T ks tb'
  have S' := S
  unfold btw at hq
  refine ab_go mr_X12_betweenOf rfl (by omega) (fun call W hc hW => ?_); (conv => whnf)
  refine ⟨S'.1 580 (by decide), ?_⟩
  (conv => whnf)
  refine ⟨fun f43 => ?_, fun f43 => ?_⟩
  rotate_left
  · have e := (ks 43 (by decide)).mp f43
    rw [e] at hq
    (conv => whnf)
    exact hq
  have n43 : t ≠ 43 := fun e => f43 ((ks 43 (by decide)).mpr e)
  rw [if_neg n43] at hq
  (conv => whnf)
  refine ⟨S'.1 580 (by decide), ?_⟩
  (conv => whnf)
  refine ⟨fun f45 => ?_, fun f45 => ?_⟩
  rotate_left
  · have e := (ks 45 (by decide)).mp f45
    rw [e] at hq
    (conv => whnf)
    exact hq
  have n45 : t ≠ 45 := fun e => f45 ((ks 45 (by decide)).mpr e)
  rw [if_neg n45] at hq
  (conv => whnf)
  refine ⟨S'.1 580 (by decide), ?_⟩
  (conv => whnf)
  refine ⟨fun f42 => ?_, fun f42 => ?_⟩
  rotate_left
  · have e := (ks 42 (by decide)).mp f42
    rw [e] at hq
    (conv => whnf)
    exact hq
  have n42 : t ≠ 42 := fun e => f42 ((ks 42 (by decide)).mpr e)
  rw [if_neg n42] at hq
  (conv => whnf)
  refine ⟨S'.1 580 (by decide), ?_⟩
  (conv => whnf)
  refine ⟨fun f47 => ?_, fun f47 => ?_⟩
  rotate_left
  · have e := (ks 47 (by decide)).mp f47
    rw [e] at hq
    (conv => whnf)
    exact hq
  have n47 : t ≠ 47 := fun e => f47 ((ks 47 (by decide)).mpr e)
  rw [if_neg n47] at hq
  (conv => whnf)
  refine ⟨S'.1 580 (by decide), ?_⟩
  refine hc _ _ _ _ (om_openNow (by omega) S c16 P hp ?_)
  (conv => whnf)
  by_cases z : opN p = 41
  · rw [if_neg (fun y => y z)] at hq
    rw [if_neg (by omega), z]
    refine bT rfl ?_
    (conv => whnf)
    refine ⟨S'.1 580 (by decide), ?_⟩
    refine hc _ _ _ _ (om_isCompared (by omega) S c16 P hp (fun c => ?_) (fun c => ?_)) <;> (conv => whnf)
    · rw [if_neg (by rw [c]; decide)] at hq
      refine bN (by decide) ?_
      (conv => whnf)
      refine hc _ _ _ _ (om_w3 (by omega) (by decide) (by decide) (by decide) ?_)
      (conv => whnf)
      refine ⟨S'.1 580 (by decide), ?_⟩
      refine hc _ _ _ _ (om_isWord (by omega) S T (i := 26) (by decide) rfl (fun e => ?_) (fun e => ?_)) <;> (conv => whnf)
      · rw [if_pos e] at hq
        refine bF (by decide) ?_
        (conv => whnf)
        exact hq
      · rw [if_neg e] at hq
        refine bT (by decide) ?_
        (conv => whnf)
        refine hc _ _ _ _ (om_w2 (by omega) (by decide) (by decide) ?_)
        (conv => whnf)
        refine ⟨S'.1 580 (by decide), ?_⟩
        refine hc _ _ _ _ (om_isWord (by omega) S T (i := 25) (by decide) rfl (fun e => ?_) (fun e => ?_)) <;> (conv => whnf)
        · rw [if_pos e] at hq
          refine bF (by decide) ?_
          (conv => whnf)
          exact hq
        · rw [if_neg e] at hq
          refine bT (by decide) ?_
          (conv => whnf)
          exact hq
    · rw [if_pos c] at hq
      refine bP (by decide) ?_
      (conv => whnf)
      refine ⟨S'.1 580 (by decide), ?_⟩
      refine hc _ _ _ _ (om_compareOf (by omega) S T tb' ?_)
      (conv => whnf)
      exact hq
  · rw [if_pos z] at hq
    refine bF ?_ ?_
    · by_cases z2 : opN p = 0
      · rw [if_pos z2]; decide
      · rw [if_neg z2, nI_eq (by have := a2 z2; omega) (by omega)]; exact z
    · (conv => whnf)
      exact hq
/-- what comes of what is open -/
def prt (t : Nat) (p : List Nat) : Int32 := if opN p = 40 then (if t = 41 then nI 0 else -1) else if opN p = 41 then (if t = 22 ∧ cmB p = true then nI 42 else -1) else if opN p = 42 then (if t = 23 then nI 43 else -1) else if opN p = 43 then (if t = 24 then nI 0 else -1) else -1
theorem om_partOf (hd : 6 ≤ d) (S : Sh h) (M : MRd h b n B w0 lw wr p o i w) (hp : p.length ≤ 160) (hq : Q (some (.int (prt (stT b n i) p))) h) : ab_Ok d n_X12_partOf [.ref 580, .int (if opN p = 0 then -1 else nI (opN p))] h Q := by
  have T := M.1.2.2.2
  have c16 := M.2.2.2.2.1
  have P := M.2.2.2.2.2.2.2.1
  obtain ⟨_, a2⟩ := opA_N p P
  obtain ⟨_, _, _, _, ks⟩ := RT_c T
  have tb' := stT_b b n i
  obtain ⟨t, et⟩ : ∃ t, t = stT b n i := ⟨_, rfl⟩
  rw [← et] at hq T ks tb'
  have S' := S
  unfold prt at hq
  obtain ⟨u, eu⟩ : ∃ u, u = (if opN p = 0 then (-1 : Int32) else nI (opN p)) := ⟨_, rfl⟩
  have ue : ∀ c, 40 ≤ c → c < 50 → (u = nI c ↔ opN p = c) := by
    intro c h1 h2
    rw [eu]
    by_cases z : opN p = 0
    · rw [if_pos z]
      exact ⟨fun y => absurd y.symm (nI_m1 (by omega)), fun y => by omega⟩
    · rw [if_neg z, nI_eq (by have := a2 z; omega) (by omega)]
  rw [← eu]
  clear eu
  refine ab_go mr_X12_partOf rfl (by omega) (fun call W hc hW => ?_); (conv => whnf)
  refine ⟨fun g40 => ?_, fun g40 => ?_⟩
  · have g40 := (ue 40 (by omega) (by omega)).mp g40
    rw [if_pos g40] at hq
    (conv => whnf)
    refine ⟨S'.1 580 (by decide), ?_⟩
    (conv => whnf)
    refine ⟨fun f => ?_, fun f => ?_⟩ <;> rw [ks 41 (by decide)] at f <;> (conv => whnf)
    · rw [if_neg f] at hq; exact hq
    · rw [if_pos f] at hq; exact hq
  have g40 := fun z => g40 ((ue 40 (by omega) (by omega)).mpr z)
  rw [if_neg g40] at hq
  (conv => whnf)
  refine ⟨fun g41 => ?_, fun g41 => ?_⟩
  · have g41 := (ue 41 (by omega) (by omega)).mp g41
    rw [if_pos g41] at hq
    (conv => whnf)
    refine hc _ _ _ _ (om_w4 (by omega) (by decide) (by decide) (by decide) (by decide) ?_)
    (conv => whnf)
    refine ⟨S'.1 580 (by decide), ?_⟩
    refine hc _ _ _ _ (om_isWord (by omega) S T (i := 22) (by decide) rfl (fun e => ?_) (fun e => ?_)) <;> (conv => whnf)
    · refine bF (by decide) ?_
      (conv => whnf)
      refine ⟨S'.1 580 (by decide), ?_⟩
      refine hc _ _ _ _ (om_isCompared (by omega) S c16 P hp (fun c => ?_) (fun c => ?_)) <;> (conv => whnf)
      · rw [if_pos ⟨e, c⟩] at hq
        refine bF (by decide) ?_
        (conv => whnf)
        exact hq
      · rw [if_neg (fun y => by rw [y.2] at c; exact Bool.noConfusion c)] at hq
        refine bT (by decide) ?_
        (conv => whnf)
        exact hq
    · rw [if_neg (fun y => e y.1)] at hq
      refine bT (by decide) ?_
      (conv => whnf)
      exact hq
  have g41 := fun z => g41 ((ue 41 (by omega) (by omega)).mpr z)
  rw [if_neg g41] at hq
  (conv => whnf)
  refine ⟨fun g42 => ?_, fun g42 => ?_⟩
  · have g42 := (ue 42 (by omega) (by omega)).mp g42
    rw [if_pos g42] at hq
    (conv => whnf)
    refine hc _ _ _ _ (om_w4 (by omega) (by decide) (by decide) (by decide) (by decide) ?_)
    (conv => whnf)
    refine ⟨S'.1 580 (by decide), ?_⟩
    refine hc _ _ _ _ (om_isWord (by omega) S T (i := 23) (by decide) rfl (fun e => ?_) (fun e => ?_)) <;> (conv => whnf)
    · rw [if_pos e] at hq
      refine bF (by decide) ?_
      (conv => whnf)
      exact hq
    · rw [if_neg e] at hq
      refine bT (by decide) ?_
      (conv => whnf)
      exact hq
  have g42 := fun z => g42 ((ue 42 (by omega) (by omega)).mpr z)
  rw [if_neg g42] at hq
  (conv => whnf)
  refine ⟨fun g43 => ?_, fun g43 => ?_⟩
  · have g43 := (ue 43 (by omega) (by omega)).mp g43
    rw [if_pos g43] at hq
    (conv => whnf)
    refine hc _ _ _ _ (om_w3 (by omega) (by decide) (by decide) (by decide) ?_)
    (conv => whnf)
    refine ⟨S'.1 580 (by decide), ?_⟩
    refine hc _ _ _ _ (om_isWord (by omega) S T (i := 24) (by decide) rfl (fun e => ?_) (fun e => ?_)) <;> (conv => whnf)
    · rw [if_pos e] at hq
      refine bF (by decide) ?_
      (conv => whnf)
      exact hq
    · rw [if_neg e] at hq
      refine bT (by decide) ?_
      (conv => whnf)
      exact hq
  have g43 := fun z => g43 ((ue 43 (by omega) (by omega)).mpr z)
  rw [if_neg g43] at hq
  (conv => whnf)
  exact hq
end MW
