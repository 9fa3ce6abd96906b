/-! ===== contracts: the class reads a text (mine) ===== -/
def fRt (a k : Nat) : Prop := a = 549 ∨ (a = 550 ∧ k ≠ 2) ∨ (552 ≤ a ∧ a ≤ 559)
/-- ints of some old cells may change, new cells may come -/
def FrA (P : Nat → Nat → Prop) (h h' : Hp) : Prop := ab_N h ≤ ab_N h' ∧ ∀ x, x < ab_N h → ab_K h' x = ab_K h x ∧ ab_L h' x = ab_L h x ∧ ab_R h' x = ab_R h x ∧ ∀ k, ¬ P x k → ab_I h' x k = ab_I h x k
theorem FrA_Fr {P : Nat → Nat → Prop} {h h' : Hp} (F : Fr P h h') : FrA P h h' := ⟨by rw [F.2.2.2.1]; exact Nat.le_refl _, fun x _ => ⟨by rw [F.1], by rw [F.2.1], by rw [F.2.2.1], F.2.2.2.2 x⟩⟩
theorem FrA_AL {P : Nat → Nat → Prop} {h h' : Hp} {k l : Nat} {f : Nat → Int32} (A : AL h h' k l f) : FrA P h h' := ⟨by rw [A.1]; omega, fun x hx => by obtain ⟨a1, a2, a3, a4⟩ := A.2.2.2.2 x (by omega); exact ⟨a1, a2, a4, fun k _ => by rw [a3]⟩⟩
theorem FrA_tr {P : Nat → Nat → Prop} {h h1 h2 : Hp} (A : FrA P h h1) (B : FrA P h1 h2) : FrA P h h2 := by
  refine ⟨Nat.le_trans A.1 B.1, fun x hx => ?_⟩
  obtain ⟨a1, a2, a3, a4⟩ := A.2 x hx
  obtain ⟨b1, b2, b3, b4⟩ := B.2 x (Nat.lt_of_lt_of_le hx A.1)
  exact ⟨b1.trans a1, b2.trans a2, b3.trans a3, fun k hk => (b4 k hk).trans (a4 k hk)⟩
theorem tR_out (a k : Nat) (h : 594 ≤ a) : tR a k = none := by
  have f : ∀ m, m ≤ 593 → Nat.ble a m = false := fun m hm => by
    rcases e : Nat.ble a m with _ | _
    · rfl
    · have := Nat.le_of_ble_eq_true e
      omega
  unfold tR
  simp (disch := decide) only [f]
theorem Sh_AL {h h' : Hp} {k l : Nat} {f : Nat → Int32} (A : AL h h' k l f) (hN : 594 ≤ ab_N h) (S : Sh h) : Sh h' := by
  refine ⟨fun a ha => ?_, fun a ha => ?_, fun a k b e => ?_⟩
  · rw [(A.2.2.2.2 a (by omega)).1]; exact S.1 a ha
  · rw [(A.2.2.2.2 a (by omega)).2.1]; exact S.2.1 a ha
  · have : a < 594 := by
      rcases Nat.lt_or_ge a 594 with z | z
      · exact z
      · rw [tR_out a k z] at e; cases e
    rw [(A.2.2.2.2 a (by omega)).2.2.2]; exact S.2.2 a k b e
section TPE
theorem ok_init9 {d : Nat} {h : Hp} {Q : Option Value → Hp → Prop} (hd : 1 ≤ d) {t a1 a2 a3 a4 a5 : Nat} (hk : ab_K h t = 9) (hq : Q none (ab_sR (ab_sR (ab_sR (ab_sR (ab_sR h t 0 (some a1)) t 1 (some a2)) t 2 (some a3)) t 3 (some a4)) t 4 (some a5))) : ab_Ok d n_X9_init [.ref t, .ref a1, .ref a2, .ref a3, .ref a4, .ref a5] h Q := by
  refine ab_go mr_X9_init rfl (by omega) (fun call W hc hW => ?_); (conv => whnf)
  refine ⟨hk, ?_⟩
  (conv => whnf)
  refine ⟨hk, ?_⟩
  (conv => whnf)
  refine ⟨hk, ?_⟩
  (conv => whnf)
  refine ⟨hk, ?_⟩
  (conv => whnf)
  refine ⟨hk, ?_⟩
  (conv => whnf)
  exact hq
variable {d : Nat} {h : Hp} {Q : Option Value → Hp → Prop} {n : Nat} {b : Nat → Nat}
theorem oc_readTape (hd : 110 ≤ d) (S : Sh h) (Z : SS h) (hn : n ≤ 300) (P : TP h 550 2 551 n b) (hN : 594 ≤ ab_N h) (hy : (txF b n).1 = 0 → ∀ h1, CI h1 b n (txF b n).2.2.1 (txF b n).2.2.2.1 (txF b n).2.2.2.2.2 (txF b n).2.1 → (txF b n).2.2.1.length ≤ 24 → (txF b n).2.2.2.2.2 ≤ 600 → Fr fRt h h1 → ab_I h1 549 9 = nI 0 → ab_I h1 549 10 = -1 → ∀ h', TO h' (ab_N h) (txF b n).2.2.1.length (txF b n).2.2.2.2.2 → (∀ j, j < (txF b n).2.2.1.length → ab_I h' (ab_N h + 1) j = ab_I h1 555 j) → (∀ j, j < 3 * (txF b n).2.2.1.length → ab_I h' (ab_N h + 2) j = ab_I h1 556 j) → (∀ j, j < (txF b n).2.2.2.2.2 → ab_I h' (ab_N h + 3) j = ab_I h1 557 j) → (∀ j, j < 3 → ab_I h' (ab_N h + 4) j = ab_I h1 558 j) → (∀ j, j < 3 → ab_I h' (ab_N h + 5) j = ab_I h1 559 j) → ab_N h' = ab_N h + 6 → FrA fRt h h' → ab_I h' 549 9 = nI 0 → ab_I h' 549 10 = -1 → Q (some (.ref (ab_N h))) h') (hno : (txF b n).1 ≠ 0 → ∀ h', ab_I h' 549 9 = nI (txF b n).1 → ab_I h' 549 10 = nI (stP b n (txF b n).2.1) → Fr fRt h h' → Q (some .null) h') : ab_Ok d n_X6_readTape [.ref 549] h Q := by
  have ln := stL_n b n
  refine ab_go mr_X6_readTape rfl (by omega) (fun call W hc hW => ?_); (conv => whnf)
  have bad : ∀ k h1, k < 100 → Q (some .null) h1 → W 55 [.ref 549, .int (nI 0), .int (nI k)] h1 0 0 := by
    clear hy hno
    intro k h1 hk q0
    refine hW _ _ _ _ _ ?_
    (conv => whnf)
    refine ⟨fun f => ?_, fun f => ?_⟩ <;> (conv => whnf)
    · refine bP (by decide) ?_
      (conv => whnf)
      exact q0
    · refine bT (by decide) ?_
      (conv => whnf)
      refine bP (by decide) ?_
      (conv => whnf)
      exact q0
  have lp : ∀ q cls lws w a i h', Sh h' → CI h' b n cls lws a i → i ≤ stL b n → a ≤ 2 * i → cls.length ≤ 24 → 25 ≤ q + cls.length → Fr fRt h h' → ab_I h' 549 9 = nI 0 → ab_I h' 549 10 = -1 → txL (stT b n) (stV b n) q cls lws w a i = txF b n → W 55 [.ref 549, .int (nI 1), .int (nI cls.length)] h' 0 0 := by
    intro q
    induction q with
    | zero => intro cls lws w a i h' _ _ _ _ z1 z2; omega
    | succ q ih =>
      intro cls lws w a i h' S' I hi ha hcl hq F' f9 f10 e
      have C := I.1
      have tb' := stT_b b n i
      have CB := cq_b (T := stT b n) (V := stV b n) (L := stL b n) (fun i => stT_e b n) (by omega) cls.length lws a i hi
      have e : (if stT b n i = 131 then (0, i, cls, lws, w, a) else if (cl1 (stT b n) (stV b n) cls.length lws a i).1 ≠ 0 then ((cl1 (stT b n) (stV b n) cls.length lws a i).1, (cl1 (stT b n) (stV b n) cls.length lws a i).2.1, cls, lws, w, a) else txL (stT b n) (stV b n) q (cls ++ [(cl1 (stT b n) (stV b n) cls.length lws a i).2.2.1]) (lwU lws (stT b n i) w (cl1 (stT b n) (stV b n) cls.length lws a i).2.2.2.1 a (cl1 (stT b n) (stV b n) cls.length lws a i).2.2.2.2) (w + (cl1 (stT b n) (stV b n) cls.length lws a i).2.2.2.1.length) (a + (cl1 (stT b n) (stV b n) cls.length lws a i).2.2.2.2.length) (cl1 (stT b n) (stV b n) cls.length lws a i).2.1) = txF b n := e
      refine hW _ _ _ _ _ ?_
      (conv => whnf)
      refine bF (by rw [nI_ltI (by omega) (by omega)]; omega) ?_
      (conv => whnf)
      refine bF (by decide) ?_
      (conv => whnf)
      refine ⟨S'.1 549 (by decide), 550, S'.2.2 _ _ _ rfl, ?_⟩
      (conv => whnf)
      refine ⟨S'.1 550 (by decide), ?_⟩
      refine hc _ _ _ _ (oc_token (by omega) S' hn C ?_)
      (conv => whnf)
      refine ⟨fun z => ?_, fun z => ?_⟩ <;> rw [nI_eq (by omega) (by omega)] at z <;> (conv => whnf)
      · rw [if_pos z] at e
        rw [← e] at hy
        have HY := hy rfl h' I hcl (by show a ≤ 600; omega) F' f9 f10
        clear hy hno ih bad
        refine bN (by decide) ?_
        (conv => whnf)
        have N0 : ab_N h' = ab_N h := F'.2.2.2.1
        have N6 : 594 ≤ ab_N h' := by omega
        have k555 : ab_L h' 555 = 24 := (S'.2.1 555 (by decide)).trans (by decide +kernel)
        have k556 : ab_L h' 556 = 72 := (S'.2.1 556 (by decide)).trans (by decide +kernel)
        have k557 : ab_L h' 557 = 600 := (S'.2.1 557 (by decide)).trans (by decide +kernel)
        have k558 : ab_L h' 558 = 3 := (S'.2.1 558 (by decide)).trans (by decide +kernel)
        have k559 : ab_L h' 559 = 3 := (S'.2.1 559 (by decide)).trans (by decide +kernel)
        have c3 := I.2.2.1
        have c5 := I.2.1
        refine ⟨by decide, by decide, ?_⟩
        obtain ⟨hA, eA⟩ : ∃ hA, hA = ab_nw h' 9 0 (fun _ => 0) := ⟨_, rfl⟩
        have A1 : AL h' hA 9 0 (fun _ => 0) := by rw [eA]; exact AL_nw h' 9 0 _
        rw [← eA]
        clear eA
        have SA := Sh_AL A1 N6 S'
        have gA := A1.2.2.2.2
        (conv => whnf)
        refine ⟨SA.1 549 (by decide), 555, SA.2.2 _ _ _ rfl, ?_⟩
        (conv => whnf)
        refine ⟨SA.1 549 (by decide), ?_⟩
        (conv => whnf)
        rw [show ab_I hA 549 3 = nI cls.length by rw [(gA 549 (by omega)).2.2.1]; exact c3]
        refine ⟨by decide, by decide, ?_⟩
        refine hc _ _ _ _ (ok_copyOf (by omega) (SA.1 555 (by decide)) ((gA 555 (by omega)).2.1.trans k555) (by omega) (by omega) (by rw [A1.1]; omega) (fun hB A2 => ?_))
        have NA : ab_N hA = ab_N h' + 1 := A1.1
        have NB : ab_N hB = ab_N h' + 2 := by have := A2.1; omega
        have SB := Sh_AL A2 (by omega) SA
        have gB := A2.2.2.2.2
        have xA : ∀ x, x < ab_N h' → ab_L hA x = ab_L h' x ∧ ab_I hA x = ab_I h' x := fun x hx => ⟨(gA x (by omega)).2.1, (gA x (by omega)).2.2.1⟩
        have xB : ∀ x, x < ab_N h' → ab_L hB x = ab_L h' x ∧ ab_I hB x = ab_I h' x := fun x hx => ⟨(gB x (by omega)).2.1.trans (xA x hx).1, (gB x (by omega)).2.2.1.trans (xA x hx).2⟩
        rw [NA]
        (conv => whnf)
        refine ⟨SB.1 549 (by decide), 556, SB.2.2 _ _ _ rfl, ?_⟩
        (conv => whnf)
        refine ⟨SB.1 549 (by decide), ?_⟩
        (conv => whnf)
        rw [show ab_I hB 549 3 = nI cls.length by rw [(xB 549 (by omega)).2]; exact c3, pk_mul, Nat.mul_comm cls.length 3]
        refine ⟨by decide, by decide, ?_⟩
        refine hc _ _ _ _ (ok_copyOf (by omega) (SB.1 556 (by decide)) ((xB 556 (by omega)).1.trans k556) (by omega) (by omega) (by omega) (fun hC A3 => ?_))
        have NC : ab_N hC = ab_N h' + 3 := by have := A3.1; omega
        have SC := Sh_AL A3 (by omega) SB
        have gC := A3.2.2.2.2
        have xC : ∀ x, x < ab_N h' → ab_L hC x = ab_L h' x ∧ ab_I hC x = ab_I h' x := fun x hx => ⟨(gC x (by omega)).2.1.trans (xB x hx).1, (gC x (by omega)).2.2.1.trans (xB x hx).2⟩
        rw [NB]
        (conv => whnf)
        refine ⟨SC.1 549 (by decide), 557, SC.2.2 _ _ _ rfl, ?_⟩
        (conv => whnf)
        refine ⟨SC.1 549 (by decide), ?_⟩
        (conv => whnf)
        rw [show ab_I hC 549 5 = nI a by rw [(xC 549 (by omega)).2]; exact c5]
        refine ⟨by decide, by decide, ?_⟩
        refine hc _ _ _ _ (ok_copyOf (by omega) (SC.1 557 (by decide)) ((xC 557 (by omega)).1.trans k557) (by omega) (by omega) (by omega) (fun hD A4 => ?_))
        have ND : ab_N hD = ab_N h' + 4 := by have := A4.1; omega
        have SD := Sh_AL A4 (by omega) SC
        have gD := A4.2.2.2.2
        have xD : ∀ x, x < ab_N h' → ab_L hD x = ab_L h' x ∧ ab_I hD x = ab_I h' x := fun x hx => ⟨(gD x (by omega)).2.1.trans (xC x hx).1, (gD x (by omega)).2.2.1.trans (xC x hx).2⟩
        rw [NC]
        (conv => whnf)
        refine ⟨SD.1 549 (by decide), 558, SD.2.2 _ _ _ rfl, ?_⟩
        (conv => whnf)
        refine ⟨SD.1 558 (by decide), by decide, by rw [(xD 558 (by omega)).1, k558]; decide, ?_⟩
        obtain ⟨hE, eE⟩ : ∃ hE, hE = ab_nw hD 13 (ab_L hD 558) (ab_I hD 558) := ⟨_, rfl⟩
        have A5 : AL hD hE 13 (ab_L hD 558) (ab_I hD 558) := by rw [eE]; exact AL_nw hD 13 _ _
        rw [← eE]
        clear eE
        rw [(xD 558 (by omega)).1, k558] at A5
        have NE : ab_N hE = ab_N h' + 5 := by have := A5.1; omega
        have SE := Sh_AL A5 (by omega) SD
        have gE := A5.2.2.2.2
        have xE : ∀ x, x < ab_N h' → ab_L hE x = ab_L h' x ∧ ab_I hE x = ab_I h' x := fun x hx => ⟨(gE x (by omega)).2.1.trans (xD x hx).1, (gE x (by omega)).2.2.1.trans (xD x hx).2⟩
        (conv => whnf)
        refine ⟨A5.2.1, ?_⟩
        (conv => whnf)
        refine ⟨SE.1 549 (by decide), 559, SE.2.2 _ _ _ rfl, ?_⟩
        (conv => whnf)
        refine ⟨SE.1 559 (by decide), by decide, by rw [(xE 559 (by omega)).1, k559, (xD 558 (by omega)).1, k558]; decide, ?_⟩
        obtain ⟨hF, eF⟩ : ∃ hF, hF = ab_nw hE 13 (ab_L hE 559) (ab_I hE 559) := ⟨_, rfl⟩
        have A6 : AL hE hF 13 (ab_L hE 559) (ab_I hE 559) := by rw [eF]; exact AL_nw hE 13 _ _
        rw [← eF]
        clear eF
        rw [(xE 559 (by omega)).1, k559] at A6
        have NF : ab_N hF = ab_N h' + 6 := by have := A6.1; omega
        have gF := A6.2.2.2.2
        (conv => whnf)
        refine ⟨A6.2.1, ?_⟩
        (conv => whnf)
        rw [(xE 559 (by omega)).1, k559, (xD 558 (by omega)).1, k558, ND, NE]
        (conv => whnf)
        have kF : ab_K hF (ab_N h') = 9 := by rw [(gF _ (by omega)).1, (gE _ (by omega)).1, (gD _ (by omega)).1, (gC _ (by omega)).1, (gB _ (by omega)).1]; exact A1.2.1
        refine hc _ _ _ _ (ok_init9 (by omega) kF ?_)
        (conv => whnf)
        obtain ⟨hG, eG⟩ : ∃ hG, hG = ab_sR (ab_sR (ab_sR (ab_sR (ab_sR hF (ab_N h') 0 (some (ab_N h' + 1))) (ab_N h') 1 (some (ab_N h' + 2))) (ab_N h') 2 (some (ab_N h' + 3))) (ab_N h') 3 (some (ab_N h' + 4))) (ab_N h') 4 (some (ab_N h' + 5)) := ⟨_, rfl⟩
        have rG : ∀ x k, x ≠ ab_N h' → ab_R hG x k = ab_R hF x k := fun x k hx => by rw [eG]; simp only [rR_if, hx, false_and, if_false]
        have rG' : ab_R hG (ab_N h') 0 = some (ab_N h' + 1) ∧ ab_R hG (ab_N h') 1 = some (ab_N h' + 2) ∧ ab_R hG (ab_N h') 2 = some (ab_N h' + 3) ∧ ab_R hG (ab_N h') 3 = some (ab_N h' + 4) ∧ ab_R hG (ab_N h') 4 = some (ab_N h' + 5) := by rw [eG]; exact ⟨by simp [rR_if], by simp [rR_if], by simp [rR_if], by simp [rR_if], by simp [rR_if]⟩
        have kG : ab_K hG = ab_K hF ∧ ab_L hG = ab_L hF ∧ ab_I hG = ab_I hF ∧ ab_N hG = ab_N hF := by rw [eG]; exact ⟨rfl, rfl, rfl, rfl⟩
        rw [← eG]
        clear eG
        have FF : FrA fRt h' hF := FrA_tr (FrA_AL A1) (FrA_tr (FrA_AL A2) (FrA_tr (FrA_AL A3) (FrA_tr (FrA_AL A4) (FrA_tr (FrA_AL A5) (FrA_AL A6)))))
        have FG : FrA fRt h' hG := ⟨by omega, fun x hx => ⟨by rw [kG.1]; exact (FF.2 x hx).1, by rw [kG.2.1]; exact (FF.2 x hx).2.1, (funext fun k => rG x k (by omega)).trans (FF.2 x hx).2.2.1, fun k hk => by rw [kG.2.2.1]; exact (FF.2 x hx).2.2.2 k hk⟩⟩
        rw [← N0] at HY
        have q1 : ab_K hG (ab_N h' + 1) = 13 ∧ ab_L hG (ab_N h' + 1) = cls.length ∧ ∀ j, j < cls.length → ab_I hG (ab_N h' + 1) j = ab_I h' 555 j := by
          rw [kG.1, kG.2.1, kG.2.2.1, (gF _ (by omega)).1, (gE _ (by omega)).1, (gD _ (by omega)).1, (gC _ (by omega)).1, (gF _ (by omega)).2.1, (gE _ (by omega)).2.1, (gD _ (by omega)).2.1, (gC _ (by omega)).2.1, (gF _ (by omega)).2.2.1, (gE _ (by omega)).2.2.1, (gD _ (by omega)).2.2.1, (gC _ (by omega)).2.2.1, ← NA]
          exact ⟨A2.2.1, A2.2.2.1, fun j hj => (A2.2.2.2.1 j hj).trans (by rw [(xA 555 (by omega)).2])⟩
        have q2 : ab_K hG (ab_N h' + 2) = 13 ∧ ab_L hG (ab_N h' + 2) = 3 * cls.length ∧ ∀ j, j < 3 * cls.length → ab_I hG (ab_N h' + 2) j = ab_I h' 556 j := by
          rw [kG.1, kG.2.1, kG.2.2.1, (gF _ (by omega)).1, (gE _ (by omega)).1, (gD _ (by omega)).1, (gF _ (by omega)).2.1, (gE _ (by omega)).2.1, (gD _ (by omega)).2.1, (gF _ (by omega)).2.2.1, (gE _ (by omega)).2.2.1, (gD _ (by omega)).2.2.1, ← NB]
          exact ⟨A3.2.1, A3.2.2.1, fun j hj => (A3.2.2.2.1 j hj).trans (by rw [(xB 556 (by omega)).2])⟩
        have q3 : ab_K hG (ab_N h' + 3) = 13 ∧ ab_L hG (ab_N h' + 3) = a ∧ ∀ j, j < a → ab_I hG (ab_N h' + 3) j = ab_I h' 557 j := by
          rw [kG.1, kG.2.1, kG.2.2.1, (gF _ (by omega)).1, (gE _ (by omega)).1, (gF _ (by omega)).2.1, (gE _ (by omega)).2.1, (gF _ (by omega)).2.2.1, (gE _ (by omega)).2.2.1, ← NC]
          exact ⟨A4.2.1, A4.2.2.1, fun j hj => (A4.2.2.2.1 j hj).trans (by rw [(xC 557 (by omega)).2])⟩
        have q4 : ab_K hG (ab_N h' + 4) = 13 ∧ ab_L hG (ab_N h' + 4) = 3 ∧ ∀ j, j < 3 → ab_I hG (ab_N h' + 4) j = ab_I h' 558 j := by
          rw [kG.1, kG.2.1, kG.2.2.1, (gF _ (by omega)).1, (gF _ (by omega)).2.1, (gF _ (by omega)).2.2.1, ← ND]
          exact ⟨A5.2.1, A5.2.2.1, fun j hj => (A5.2.2.2.1 j hj).trans (by rw [(xD 558 (by omega)).2])⟩
        have q5 : ab_K hG (ab_N h' + 5) = 13 ∧ ab_L hG (ab_N h' + 5) = 3 ∧ ∀ j, j < 3 → ab_I hG (ab_N h' + 5) j = ab_I h' 559 j := by
          rw [kG.1, kG.2.1, kG.2.2.1, ← NE]
          exact ⟨A6.2.1, A6.2.2.1, fun j hj => (A6.2.2.2.1 j hj).trans (by rw [(xE 559 (by omega)).2])⟩
        have i9 : ∀ k, ab_I hG 549 k = ab_I h' 549 k := fun k => by rw [kG.2.2.1, (gF 549 (by omega)).2.2.1, (xE 549 (by omega)).2]
        exact HY hG ⟨N6, by rw [kG.1]; exact kF, rG', ⟨q1.1, q2.1, q3.1, q4.1, q5.1⟩, ⟨q1.2.1, q2.2.1, q3.2.1, q4.2.1, q5.2.1⟩, hcl, by show a ≤ 600; omega⟩ q1.2.2 q2.2.2 q3.2.2 q4.2.2 q5.2.2 (by rw [kG.2.2.2, NF]) (FrA_tr (FrA_Fr F') FG) ((i9 9).trans f9) ((i9 10).trans f10)
      · rw [if_neg z] at e
        refine ⟨S'.1 549 (by decide), ?_⟩
        refine hc _ _ _ _ (oc_readClause (by omega) S' hn I hi ha hcl z w rfl (fun z2 h2 I2 F2 => ?_) (fun z2 h2 L2 => ?_))
        · rw [if_neg (fun y => y z2)] at e
          obtain ⟨b1, b2, b3, b4⟩ := CB.1 z2
          have c24 := (cl_24 z2).1
          have l1 : (cls ++ [(cl1 (stT b n) (stV b n) cls.length lws a i).2.2.1]).length = cls.length + 1 := by rw [List.length_append]; rfl
          have nxt := ih _ _ _ _ _ h2 (Fr_Sh F2 S') I2 b2 (by omega) (by rw [l1]; omega) (by rw [l1]; omega) (Fr_tr F' (Fr_mo F2 (fun a k z => by unfold fCo at z; unfold fRt; omega))) ((F2.2.2.2.2 549 9 (fun z => by unfold fCo at z; omega)).trans f9) ((F2.2.2.2.2 549 10 (fun z => by unfold fCo at z; omega)).trans f10) e
          rw [l1] at nxt
          (conv => whnf)
          rw [nI_add cls.length 1]
          exact nxt
        · rw [if_pos z2] at e
          rw [← e] at hno
          have q0 := hno z2 h2 L2.1 L2.2.1 (Fr_tr F' (Fr_mo L2.2.2 (fun a k z => by unfold fCl at z; unfold fRt; omega)))
          (conv => whnf)
          rw [nI_add cls.length 1]
          exact bad (cls.length + 1) h2 (by omega) q0
  clear hy hno bad
  refine ⟨S.1 549 (by decide), ?_⟩
  (conv => whnf)
  refine ⟨S.1 549 (by decide), ?_⟩
  (conv => whnf)
  refine ⟨S.1 549 (by decide), ?_⟩
  (conv => whnf)
  refine ⟨S.1 549 (by decide), ?_⟩
  (conv => whnf)
  obtain ⟨h1, e1⟩ : ∃ h1, h1 = ab_sI (ab_sI (ab_sI (ab_sI h 549 9 (nI 0)) 549 10 (-1)) 549 3 (nI 0)) 549 5 (nI 0) := ⟨_, rfl⟩
  have F1 : Fr fRt h h1 := by rw [e1]; exact Fr_tr (Fr_sI (Or.inl rfl)) (Fr_tr (Fr_sI (Or.inl rfl)) (Fr_tr (Fr_sI (Or.inl rfl)) (Fr_sI (Or.inl rfl))))
  have S1 := Fr_Sh F1 S
  have x9 : ab_I h1 549 9 = nI 0 := by rw [e1, rI_k _ _ _ (by decide), rI_k _ _ _ (by decide), rI_k _ _ _ (by decide), rI_s]
  have x10 : ab_I h1 549 10 = -1 := by rw [e1, rI_k _ _ _ (by decide), rI_k _ _ _ (by decide), rI_s]
  have x3 : ab_I h1 549 3 = nI 0 := by rw [e1, rI_k _ _ _ (by decide), rI_s]
  have x5 : ab_I h1 549 5 = nI 0 := by rw [e1, rI_s]
  rw [← e1]
  clear e1
  refine ⟨S1.1 549 (by decide), 556, S1.2.2 _ _ _ rfl, ?_⟩
  (conv => whnf)
  refine hc _ _ _ _ (ok_fill (by omega) (n := 72) (nI 0) (S1.1 556 (by decide)) ((S1.2.1 556 (by decide)).trans (by decide +kernel)) (by decide) ?_)
  (conv => whnf)
  refine ⟨S1.1 549 (by decide), 558, S1.2.2 _ _ _ rfl, ?_⟩
  (conv => whnf)
  refine hc _ _ _ _ (ok_fill (by omega) (n := 3) (-1) (S1.1 558 (by decide)) ((S1.2.1 558 (by decide)).trans (by decide +kernel)) (by decide) ?_)
  (conv => whnf)
  refine ⟨S1.1 549 (by decide), 559, S1.2.2 _ _ _ rfl, ?_⟩
  (conv => whnf)
  refine hc _ _ _ _ (ok_fill (by omega) (n := 3) (nI 0) (S1.1 559 (by decide)) ((S1.2.1 559 (by decide)).trans (by decide +kernel)) (by decide) ?_)
  (conv => whnf)
  obtain ⟨h2, e2⟩ : ∃ h2, h2 = ab_sA (ab_sA (ab_sA h1 556 (fa_fill (fun _ => nI 0) (ab_I h1 556) 72)) 558 (fa_fill (fun _ => -1) (ab_I (ab_sA h1 556 (fa_fill (fun _ => nI 0) (ab_I h1 556) 72)) 558) 3)) 559 (fa_fill (fun _ => nI 0) (ab_I (ab_sA (ab_sA h1 556 (fa_fill (fun _ => nI 0) (ab_I h1 556) 72)) 558 (fa_fill (fun _ => -1) (ab_I (ab_sA h1 556 (fa_fill (fun _ => nI 0) (ab_I h1 556) 72)) 558) 3)) 559) 3) := ⟨_, rfl⟩
  have F2 : Fr (fun a k => a = 556 ∨ a = 558 ∨ a = 559) h1 h2 := by rw [e2]; exact Fr_tr (Fr_sA (fun k => Or.inl (Or.inl rfl))) (Fr_tr (Fr_sA (fun k => Or.inl (Or.inr (Or.inl rfl)))) (Fr_sA (fun k => Or.inl (Or.inr (Or.inr rfl)))))
  have S2 := Fr_Sh F2 S1
  have x58 : ∀ k, k < 3 → ab_I h2 558 k = -1 := fun k hk => by rw [e2, rA_a _ _ (by decide), rA_s]; exact fa_fill_in hk
  have G2 : Fr fRt h h2 := Fr_tr F1 (Fr_mo F2 (fun a k z => by unfold fRt; omega))
  rw [← e2]
  clear e2
  refine ⟨S2.1 549 (by decide), 550, S2.2.2 _ _ _ rfl, ?_⟩
  (conv => whnf)
  refine ⟨S2.1 550 (by decide), ?_⟩
  refine hc _ _ _ _ (oc_cut (by omega) S2 (SS_fr G2 (fun a k z => by unfold fRt at z; omega) Z) (TP_fr G2 (fun z => by unfold fRt at z; omega) (fun k z => by unfold fRt at z; omega) P) hn (fun h3 C3 F3 => ?_))
  have g3 : ∀ a k, ¬ fC a k → ab_I h3 a k = ab_I h2 a k := F3.2.2.2.2
  have t3 : ∀ k, ab_I h3 549 k = ab_I h1 549 k := fun k => (g3 _ _ (fun z => by unfold fC at z; omega)).trans (F2.2.2.2.2 _ _ (fun z => by omega))
  (conv => whnf)
  exact lp 30 [] (fun _ => none) 0 0 0 h3 (Fr_Sh F3 S2) ⟨C3, (t3 5).trans x5, (t3 3).trans x3, fun j hj => absurd hj (Nat.not_lt_zero _), fun k hk => ⟨fun _ => (g3 _ _ (fun z => by unfold fC at z; omega)).trans (x58 k hk), fun w r a0 c e => by cases e⟩⟩ (Nat.zero_le _) (Nat.le_refl _) (Nat.zero_le _) (by show 25 ≤ 30 + 0; omega) (Fr_tr G2 (Fr_mo F3 (fun a k z => by unfold fC at z; unfold fRt; omega))) ((t3 9).trans x9) ((t3 10).trans x10) rfl
end TPE
