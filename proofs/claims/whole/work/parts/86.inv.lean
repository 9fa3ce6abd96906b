/-! ===== what holds between two calls of the law (mine) ===== -/
def BS (h : Hp) (L : Nat) (X : Nat → Int32) : Prop := Sh h ∧ SS h ∧ 594 ≤ ab_N h ∧ ab_L h 0 = L ∧ ab_I h 0 = X
def RK (h : Hp) (q : Nat) : Prop := ∀ k c, k < 4 → ab_R h q k = some c → ab_K h c = 9 ∧ c < ab_N h
def TXI (h : Hp) (q : Nat) (s : Sv) (tx : Nat → Tx) : Prop := ∀ t, t < s 18 2 → ∃ c, ab_R h q t = some c ∧ c + 5 < ab_N h ∧ TC h c (tx t)
/-- the class's side -/
def CS (h : Hp) (s si : Sv) (tx : Nat → Tx) (n : Nat) (b : Nat → Nat) (f p : Int32) : Prop := CR h 7 16 29 37 s ∧ CR h 279 286 299 307 si ∧ (TXI h 13 s tx ∧ TXI h 285 si tx) ∧ (RK h 13 ∧ RK h 285) ∧ TP h 550 2 551 n b ∧ ab_I h 549 9 = f ∧ ab_I h 549 10 = p
/-- the reference's side -/
def RSM (h : Hp) (s si : Sv) (tx : Nat → Tx) (n : Nat) (b : Nat → Nat) (f p : Int32) : Prop := MS h 581 s ∧ MS h 582 si ∧ TXM h s tx ∧ TP h 580 4 584 n b ∧ ab_I h 580 5 = f ∧ ab_I h 580 6 = p ∧ ab_I h 580 23 = nI 1
def INV (h : Hp) (L : Nat) (X : Nat → Int32) : Prop := ∃ s si tx n b f p, BS h L X ∧ CS h s si tx n b f p ∧ RSM h s si tx n b f p ∧ WF s ∧ WF si ∧ si 18 2 ≤ s 18 2 ∧ n ≤ 300
section IVE
variable {h h' h1 h2 : Hp} {L : Nat} {X : Nat → Int32} {s s' si si' : Sv} {tx : Nat → Tx} {n : Nat} {b : Nat → Nat} {f p : Int32} {P : Nat → Nat → Prop}
theorem nJ {a b : Nat} {x : Int32} (ha : a < 2 ^ 31) (hb : b < 2 ^ 31) (e1 : x = nI a) (e2 : x = nI b) : a = b := (nI_eq ha hb).1 (e1.symm.trans e2)
theorem nJ1 {a b : Nat} {x : Int32} (ha : a < 2 ^ 31) (hb : b < 2 ^ 31) (e1 : x = nI a - 1) (e2 : x = nI b - 1) : a = b := by
  have e := e1.symm.trans e2
  have e : nI a - 1 + 1 = nI b - 1 + 1 := by rw [e]
  rw [Int32.sub_add_cancel, Int32.sub_add_cancel] at e
  exact (nI_eq ha hb).1 e
theorem TXI_C (T : TXI h 13 s tx) : TXC h s tx := fun t ht => by
  obtain ⟨c, c1, _, c3⟩ := T t ht
  exact ⟨c, c1, c3⟩
theorem BS_fr (F : Fr P h h') (hP : ∀ a k, P a k → 5 ≤ a) (B : BS h L X) : BS h' L X := ⟨Fr_Sh F B.1, SS_fr F hP B.2.1, by rw [F.2.2.2.1]; exact B.2.2.1, by rw [F.2.1]; exact B.2.2.2.1, (funext fun k => F.2.2.2.2 0 k (fun z => by have := hP _ _ z; omega)).trans B.2.2.2.2⟩
theorem TXI_fr {q : Nat} (F : Fr P h h') (hP : ∀ a k, P a k → a < 594) (T : TXI h q s tx) (e : s' 18 2 = s 18 2) : TXI h' q s' tx := fun t ht => by
  obtain ⟨c, c1, c2, c3⟩ := T t (by omega)
  exact ⟨c, by rw [F.2.2.1]; exact c1, by rw [F.2.2.2.1]; exact c2, TC_fr F hP c3⟩
theorem RK_fr {q : Nat} (F : Fr P h h') (T : RK h q) : RK h' q := fun k c hk e => by
  rw [F.2.2.1] at e
  rw [F.1, F.2.2.2.1]
  exact T k c hk e
theorem CS_fr (F : Fr P h h') (hP : ∀ a k, P a k → 580 ≤ a ∧ a < 594) (C : CS h s si tx n b f p) : CS h' s si tx n b f p := by
  obtain ⟨c1, c2, c3, c4, c5, c6, c7⟩ := C
  have g : ∀ a k, a < 580 → ab_I h' a k = ab_I h a k := fun a k ha => F.2.2.2.2 a k (fun z => by have := hP _ _ z; omega)
  exact ⟨CR_I c1 (fun a k ha => g a k (by omega)), CR_I c2 (fun a k ha => g a k (by omega)), ⟨TXI_fr F (fun a k z => (hP a k z).2) c3.1 rfl, TXI_fr F (fun a k z => (hP a k z).2) c3.2 rfl⟩, ⟨RK_fr F c4.1, RK_fr F c4.2⟩, ⟨(g _ _ (by decide)).trans c5.1, fun k hk => ⟨(g _ _ (by decide)).trans (c5.2 k hk).1, (c5.2 k hk).2⟩⟩, (g _ _ (by decide)).trans c6, (g _ _ (by decide)).trans c7⟩
theorem CS_A (F : Fr cA h h') (R : CR h' 7 16 29 37 s') (e : s' 18 2 = s 18 2) (C : CS h s si tx n b f p) : CS h' s' si tx n b f p := by
  obtain ⟨_, c2, c3, c4, c5, c6, c7⟩ := C
  have g : ∀ a k, 279 ≤ a → a < 560 → ab_I h' a k = ab_I h a k := fun a k h1 h2 => F.2.2.2.2 a k (fun z => by unfold cA at z; omega)
  exact ⟨R, CR_I c2 (fun a k ha => g a k (by omega) (by omega)), ⟨TXI_fr F cA5 c3.1 e, TXI_fr F cA5 c3.2 rfl⟩, ⟨RK_fr F c4.1, RK_fr F c4.2⟩, ⟨(g _ _ (by decide) (by decide)).trans c5.1, fun k hk => ⟨(g _ _ (by decide) (by decide)).trans (c5.2 k hk).1, (c5.2 k hk).2⟩⟩, (g _ _ (by decide) (by decide)).trans c6, (g _ _ (by decide) (by decide)).trans c7⟩
theorem RSM_I (g : ∀ a k, 580 ≤ a → a < 594 → ab_I h' a k = ab_I h a k) (TM' : TXM h s tx → TXM h' s tx) (R : RSM h s si tx n b f p) : RSM h' s si tx n b f p := by
  obtain ⟨c1, c2, c3, c4, c5, c6, c7⟩ := R
  exact ⟨MS_c c1 (fun k _ => g _ k (by decide) (by decide)), MS_c c2 (fun k _ => g _ k (by decide) (by decide)), TM' c3, ⟨(g _ _ (by decide) (by decide)).trans c4.1, fun k hk => ⟨(g _ _ (by decide) (by decide)).trans (c4.2 k hk).1, (c4.2 k hk).2⟩⟩, (g _ _ (by decide) (by decide)).trans c5, (g _ _ (by decide) (by decide)).trans c6, (g _ _ (by decide) (by decide)).trans c7⟩
theorem RSM_fr (F : Fr P h h') (hP : ∀ a k, P a k → a < 580) (R : RSM h s si tx n b f p) : RSM h' s si tx n b f p := RSM_I (fun a k h1 h2 => F.2.2.2.2 a k (fun z => by have := hP _ _ z; omega)) (fun T => TXM_fr F (fun k z => by have := hP _ _ z; omega) T rfl) R
/-- what the reference's calls may change, texts and tape aside -/
def mA (a k : Nat) : Prop := (a = 580 ∧ k ≠ 4 ∧ k ≠ 5 ∧ k ≠ 6) ∨ a = 581 ∨ (585 ≤ a ∧ a < 594)
theorem RSM_G (F : Fr P h h') (hP : ∀ a k, P a k → mA a k) (M' : MS h' 581 s') (h23 : ab_I h' 580 23 = nI 1) (e : s' 18 2 = s 18 2) (R : RSM h s si tx n b f p) : RSM h' s' si tx n b f p := by
  obtain ⟨_, c2, c3, c4, c5, c6, _⟩ := R
  have g : ∀ a k, ¬ mA a k → ab_I h' a k = ab_I h a k := fun a k ha => F.2.2.2.2 a k (fun z => ha (hP a k z))
  exact ⟨M', MS_c c2 (fun k _ => g _ k (fun z => by unfold mA at z; omega)), TXM_fr F (fun k z => by have := hP _ _ z; unfold mA at this; omega) c3 e, ⟨(g _ _ (fun z => by unfold mA at z; omega)).trans c4.1, fun k hk => ⟨(g _ _ (fun z => by unfold mA at z; omega)).trans (c4.2 k hk).1, (c4.2 k hk).2⟩⟩, (g _ _ (fun z => by unfold mA at z; omega)).trans c5, (g _ _ (fun z => by unfold mA at z; omega)).trans c6, h23⟩
theorem mid (B : BS h L X) (C : CS h s si tx n b f p) (R : RSM h s si tx n b f p) (F : Fr cA h h1) (C1 : CR h1 7 16 29 37 s') (e : s' 18 2 = s 18 2) : BS h1 L X ∧ CS h1 s' si tx n b f p ∧ RSM h1 s si tx n b f p := ⟨BS_fr F (fun a k z => by unfold cA at z; omega) B, CS_A F C1 e C, RSM_fr F (fun a k z => by unfold cA at z; omega) R⟩
theorem fin (B : BS h L X) (C : CS h s' si tx n b f p) (R : RSM h s si tx n b f p) (F : Fr P h h1) (hP : ∀ a k, P a k → mA a k) (M' : MS h1 581 s') (h23 : ab_I h1 580 23 = nI 1) (e : s' 18 2 = s 18 2) (W : WF s') (Wi : WF si) (hsi : si 18 2 ≤ s 18 2) (hn : n ≤ 300) : INV h1 L X := ⟨s', si, tx, n, b, f, p, BS_fr F (fun a k z => by have := hP _ _ z; unfold mA at this; omega) B, CS_fr F (fun a k z => by have := hP _ _ z; unfold mA at this; omega) C, RSM_G F hP M' h23 e R, W, Wi, by omega, hn⟩
theorem mG_A (a k : Nat) (z : mG a k) : mA a k := by unfold mG at z; unfold mA; omega
theorem mQ_A (a k : Nat) (z : mQ a k) : mA a k := by unfold mQ mG at z; unfold mA; omega
theorem mG_23 (F : Fr mG h h') (R : RSM h s si tx n b f p) : ab_I h' 580 23 = nI 1 := (F.2.2.2.2 _ _ (fun z => by unfold mG at z; omega)).trans R.2.2.2.2.2.2
theorem finG (B : BS h L X) (C : CS h s' si tx n b f p) (R : RSM h s si tx n b f p) (F : Fr mG h h1) (M' : MS h1 581 s') (e : s' 18 2 = s 18 2) (W : WF s') (Wi : WF si) (hsi : si 18 2 ≤ s 18 2) (hn : n ≤ 300) : INV h1 L X := fin B C R F mG_A M' (mG_23 F R) e W Wi hsi hn
/-- frames that leave the reference's rows alone -/
theorem finN (B : BS h L X) (C : CS h s si tx n b f p) (R : RSM h s si tx n b f p) (F : Fr P h h1) (hP : ∀ a k, P a k → (a = 580 ∧ k = 30) ∨ (585 ≤ a ∧ a < 594)) (W : WF s) (Wi : WF si) (hsi : si 18 2 ≤ s 18 2) (hn : n ≤ 300) : INV h1 L X := fin B C R F (fun a k z => by have := hP _ _ z; unfold mA; omega) (MS_c R.1 (fun k _ => F.2.2.2.2 _ _ (fun z => by have := hP _ _ z; omega))) ((F.2.2.2.2 _ _ (fun z => by have := hP _ _ z; omega)).trans R.2.2.2.2.2.2) rfl W Wi hsi hn
/-- what a call of the class hands on: the reference's call answers the same, and all holds again -/
def Kt (d n12 : Nat) (args : List Value) (L : Nat) (X : Nat → Int32) (v : Value) (h1 : Hp) : Prop := BS h1 L X ∧ ∀ Q2 : Option Value → Hp → Prop, (∀ h2, INV h2 L X → Q2 (some v) h2) → ab_Ok d n12 args h1 Q2
end IVE
