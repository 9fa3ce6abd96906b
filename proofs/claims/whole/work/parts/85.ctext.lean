/-! ===== contracts: the class's text (mine) ===== -/
theorem TC_of {h1 h' : Hp} {b : Nat → Nat} {n N a i : Nat} {cls : List CK} {lws : LW} {vf : Nat → Vf} (I : CI h1 b n cls lws a i) (P : PDI cls lws) (V : vfOk lws vf) (O : TO h' N cls.length a) (k1 : ∀ j, j < cls.length → ab_I h' (N + 1) j = ab_I h1 555 j) (k2 : ∀ j, j < 3 * cls.length → ab_I h' (N + 2) j = ab_I h1 556 j) (k3 : ∀ j, j < a → ab_I h' (N + 3) j = ab_I h1 557 j) (k4 : ∀ j, j < 3 → ab_I h' (N + 4) j = ab_I h1 558 j) (k5 : ∀ j, j < 3 → ab_I h' (N + 5) j = ab_I h1 559 j) : TC h' N (txOf cls lws vf) := by
  refine ⟨a, O, fun j hj => ?_, fun k hk => ?_⟩
  · have hj : j < cls.length := hj
    obtain ⟨c1, c2, c3⟩ := I.2.2.2.1 j hj
    obtain ⟨a1, a2, a3⟩ := P.1 j hj
    refine ⟨(k1 j hj).trans c1, a1, fun u hu => ?_⟩
    have hu : u < ar (cls.getD j (0, [])).1 := hu
    have e : (txOf cls lws vf).2.1 j (u + 1) = (cls.getD j (0, [])).2.getD u 0 := by
      show (if u + 1 = 0 then (cls.getD j (0, [])).1 else (cls.getD j (0, [])).2.getD (u + 1 - 1) 0) = (cls.getD j (0, [])).2.getD u 0
      rw [if_neg (by omega), Nat.add_sub_cancel]
    rw [e]
    exact ⟨(k2 (3 * j + u) (by omega)).trans (c3 u (by omega)), a3 u (by omega)⟩
  · show CLw h' N a k (if (lws k).isSome = true then some (vf k) else none)
    cases e : lws k with
    | none =>
      show CLw h' N a k none
      exact (k4 k hk).trans ((I.2.2.2.2 k hk).1 e)
    | some q =>
      obtain ⟨w0, r, a0, c⟩ := q
      obtain ⟨i1, i2, i3, i4⟩ := (I.2.2.2.2 k hk).2 w0 r a0 c e
      obtain ⟨m, E, hm⟩ := V k hk w0 r a0 c e
      show CLw h' N a k (some (vf k))
      exact ⟨a0, r, c, m, E, hm, (k4 k hk).trans i1, (k5 k hk).trans i2, i4, fun j hj => (k3 (a0 + j) (by omega)).trans (i3 j hj)⟩
theorem Sh_FrA {P : Nat → Nat → Prop} {h h' : Hp} (F : FrA P h h') (hN : 594 ≤ ab_N h) (S : Sh h) : Sh h' := by
  refine ⟨fun a ha => ?_, fun a ha => ?_, fun a k b e => ?_⟩
  · rw [(F.2 a (by omega)).1]; exact S.1 a ha
  · rw [(F.2 a (by omega)).2.1]; exact S.2.1 a ha
  · have : a < 594 := by
      rcases Nat.lt_or_ge a 594 with z | z
      · exact z
      · rw [tR_out a k z] at e; cases e
    rw [(F.2 a (by omega)).2.2.1]; exact S.2.2 a k b e
/-- ints of some old cells may change, references of two, new cells may come -/
def FrC (P : Nat → Nat → Prop) (h h' : Hp) : Prop := ab_N h ≤ ab_N h' ∧ ∀ x, x < ab_N h → ab_K h' x = ab_K h x ∧ ab_L h' x = ab_L h x ∧ (x ≠ 13 → x ≠ 285 → ab_R h' x = ab_R h x) ∧ ∀ k, ¬ P x k → ab_I h' x k = ab_I h x k
/-- the cells that the class's text may change -/
def fTa (a k : Nat) : Prop := a = 549 ∨ a = 550 ∨ (552 ≤ a ∧ a ≤ 559) ∨ (a = 7 ∧ k = 7)
section CTX
variable {d : Nat} {h : Hp} {Q : Option Value → Hp → Prop} {n : Nat} {b : Nat → Nat} {s : Sv}
theorem oc_text (hd : 111 ≤ d) (S : Sh h) (Z : SS h) (hn : n ≤ 300) (C : CR h 7 16 29 37 s) (ht : s 18 2 ≤ 4) (P : TP h 550 2 551 n b) (hN : 594 ≤ ab_N h) (vf : Nat → Vf) (hv : (txF b n).1 = 0 → vfOk (txF b n).2.2.2.1 vf) (h4 : s 18 2 = 4 → Q (some (.int (-1))) h) (hy : s 18 2 < 4 → (txF b n).1 = 0 → ∀ h', CR h' 7 16 29 37 (st2 s 18 2 (s 18 2 + 1)) → TC h' (ab_N h) (txOf (txF b n).2.2.1 (txF b n).2.2.2.1 vf) → ab_R h' 13 (s 18 2) = some (ab_N h) → (∀ k, k ≠ s 18 2 → ab_R h' 13 k = ab_R h 13 k) → ab_R h' 285 = ab_R h 285 → ab_I h' 549 9 = nI 0 → ab_I h' 549 10 = -1 → ab_I h' 550 2 = nI 0 → ab_N h' = ab_N h + 6 → FrC fTa h h' → Q (some (.int (nI (s 18 2)))) h') (hno : s 18 2 < 4 → (txF b n).1 ≠ 0 → ∀ h', CR h' 7 16 29 37 s → ab_I h' 549 9 = nI (txF b n).1 → ab_I h' 549 10 = nI (stP b n (txF b n).2.1) → ab_I h' 550 2 = nI 0 → Fr fTa h h' → Q (some (.int (-1))) h') : ab_Ok d n_X11_text [.ref 5] h Q := by
  have n2 := C.1.1.2.2.1
  refine ab_go mr_X11_text rfl (by omega) (fun call W hc hW => ?_); (conv => whnf)
  refine ⟨S.1 5 (by decide), 7, S.2.2 _ _ _ rfl, ?_⟩
  (conv => whnf)
  refine ⟨S.1 7 (by decide), ?_⟩
  (conv => whnf)
  rw [n2]
  refine ⟨fun f => ?_, fun f => ?_⟩ <;> rw [nI_ltI (by omega) (by omega)] at f <;> (conv => whnf)
  · refine ⟨S.1 5 (by decide), 549, S.2.2 _ _ _ rfl, ?_⟩
    (conv => whnf)
    refine ⟨S.1 549 (by decide), ?_⟩
    refine ⟨by decide, by decide, ?_⟩
    refine hc _ _ _ _ (oc_readTape (by omega) S Z hn P hN (fun z h1 I1 l24 a6 F1 f9 f10 h2 O2 k1 k2 k3 k4 k5 N2 F2 g9 g10 => ?_) (fun z h1 f9 f10 F1 => ?_))
    · have S2 := Sh_FrA F2 hN S
      have PP := txL_P (stT b n) (stV b n) 30 [] (fun _ => none) 0 0 0 PDI_0 z
      have T2 := TC_of I1 PP (hv z) O2 k1 k2 k3 k4 k5
      have x2 : ab_I h2 7 7 = nI (s 18 2) := ((F2.2 7 (by omega)).2.2.2 7 (fun w => by unfold fRt at w; omega)).trans n2
      (conv => whnf)
      refine ⟨S2.1 5 (by decide), 550, S2.2.2 _ _ _ rfl, ?_⟩
      (conv => whnf)
      refine ⟨S2.1 550 (by decide), ?_⟩
      obtain ⟨h3, e3⟩ : ∃ h3, h3 = ab_sI h2 550 2 (nI 0) := ⟨_, rfl⟩
      have K3 : ab_K h3 = ab_K h2 ∧ ab_L h3 = ab_L h2 ∧ ab_R h3 = ab_R h2 ∧ ab_N h3 = ab_N h2 := by rw [e3]; exact ⟨rfl, rfl, rfl, rfl⟩
      have I3 : ∀ a k, ¬ (a = 550 ∧ k = 2) → ab_I h3 a k = ab_I h2 a k := fun a k z => by
        rw [e3]
        by_cases ea : a = 550
        · subst ea
          exact rI_k _ _ _ (by omega)
        · exact rI_a _ _ _ _ ea
      have L3 : ab_I h3 550 2 = nI 0 := by rw [e3]; exact rI_s _ _ _ _
      rw [← e3]
      clear e3
      have S3 : Sh h3 := ⟨fun a ha => by rw [K3.1]; exact S2.1 a ha, fun a ha => by rw [K3.2.1]; exact S2.2.1 a ha, fun a k b e => by rw [K3.2.2.1]; exact S2.2.2 a k b e⟩
      have x3 : ab_I h3 7 7 = nI (s 18 2) := (I3 _ _ (by omega)).trans x2
      (conv => whnf)
      refine ⟨S3.1 5 (by decide), 7, S3.2.2 _ _ _ rfl, ?_⟩
      (conv => whnf)
      refine ⟨S3.1 7 (by decide), ?_⟩
      (conv => whnf)
      rw [x3]
      refine ⟨S3.1 5 (by decide), 7, S3.2.2 _ _ _ rfl, ?_⟩
      (conv => whnf)
      refine ⟨S3.1 7 (by decide), 13, S3.2.2 _ _ _ rfl, ?_⟩
      (conv => whnf)
      have l13 : ab_L h3 13 = 4 := (S3.2.1 13 (by decide)).trans (by decide +kernel)
      have kN : ab_K h3 (ab_N h) = 9 := by rw [K3.1]; exact O2.2.1
      refine ⟨S3.1 13 (by decide), vin _ l13 f (by decide), kN, ?_⟩
      rw [nI_clamp (by omega)]
      obtain ⟨h4, e4⟩ : ∃ h4, h4 = ab_sR h3 13 (s 18 2) (some (ab_N h)) := ⟨_, rfl⟩
      have K4 : ab_K h4 = ab_K h3 ∧ ab_L h4 = ab_L h3 ∧ ab_I h4 = ab_I h3 ∧ ab_N h4 = ab_N h3 := by rw [e4]; exact ⟨rfl, rfl, rfl, rfl⟩
      have R4 : ∀ a k, ab_R h4 a k = if a = 13 ∧ k = s 18 2 then some (ab_N h) else ab_R h3 a k := fun a k => by rw [e4, rR_if]
      rw [← e4]
      clear e4
      (conv => whnf)
      refine ⟨by rw [K4.1]; exact S3.1 5 (by decide), 7, by rw [R4, if_neg (by omega)]; exact S3.2.2 _ _ _ rfl, ?_⟩
      (conv => whnf)
      refine ⟨by rw [K4.1]; exact S3.1 7 (by decide), ?_⟩
      (conv => whnf)
      rw [show ab_I h4 7 7 = nI (s 18 2) by rw [K4.2.2.1]; exact x3, nI_add]
      refine ⟨by rw [K4.1]; exact S3.1 7 (by decide), ?_⟩
      (conv => whnf)
      have gI : ∀ a k, a < ab_N h → ¬ fRt a k → ¬ (a = 550 ∧ k = 2) → ab_I h4 a k = ab_I h a k := fun a k ha z1 z2 => by
        rw [K4.2.2.1, I3 _ _ z2]
        exact (F2.2 a ha).2.2.2 k z1
      have C4 : CR h4 7 16 29 37 s := CR_I C (fun a k z => gI a k (by omega) (fun w => by unfold fRt at w; omega) (by omega))
      have q7 : ∀ a k, a ≠ 7 → ab_I (ab_sI h4 7 7 (nI (s 18 2 + 1))) a k = ab_I h4 a k := fun a k ha => rI_a _ _ _ _ ha
      have T4 : TC (ab_sI h4 7 7 (nI (s 18 2 + 1))) (ab_N h) (txOf (txF b n).2.2.1 (txF b n).2.2.2.1 vf) := by
        have kk : ∀ i j, ab_I (ab_sI h4 7 7 (nI (s 18 2 + 1))) (ab_N h + i) j = ab_I h2 (ab_N h + i) j := fun i j => by rw [q7 _ _ (by omega), K4.2.2.1, I3 _ _ (by omega)]
        refine TC_of I1 PP (hv z) ?_ (fun j hj => (kk 1 j).trans (k1 j hj)) (fun j hj => (kk 2 j).trans (k2 j hj)) (fun j hj => (kk 3 j).trans (k3 j hj)) (fun j hj => (kk 4 j).trans (k4 j hj)) (fun j hj => (kk 5 j).trans (k5 j hj))
        unfold TO at O2 ⊢
        show _ ∧ ab_K h4 _ = 9 ∧ (ab_R h4 _ 0 = _ ∧ ab_R h4 _ 1 = _ ∧ ab_R h4 _ 2 = _ ∧ ab_R h4 _ 3 = _ ∧ ab_R h4 _ 4 = _) ∧ (ab_K h4 _ = 13 ∧ ab_K h4 _ = 13 ∧ ab_K h4 _ = 13 ∧ ab_K h4 _ = 13 ∧ ab_K h4 _ = 13) ∧ (ab_L h4 _ = _ ∧ ab_L h4 _ = _ ∧ ab_L h4 _ = _ ∧ ab_L h4 _ = _ ∧ ab_L h4 _ = _) ∧ _
        rw [K4.1, K4.2.1, K3.1, K3.2.1, R4, R4, R4, R4, R4, if_neg (by omega), if_neg (by omega), if_neg (by omega), if_neg (by omega), if_neg (by omega), K3.2.2.1]
        exact O2
      have j9 : ∀ k, ab_I (ab_sI h4 7 7 (nI (s 18 2 + 1))) 549 k = ab_I h2 549 k := fun k => by rw [q7 _ _ (by omega), K4.2.2.1, I3 _ _ (by omega)]
      refine hy f z _ (CR_told C4 (tu_n2 C4.1 _) (Fr_sI (by omega)) (fun a k h1 h2 => by rw [s2_o _ (by omega)]) (by rw [s2_o _ (by omega)])) T4 ?_ (fun k hk => ?_) ?_ ((j9 9).trans g9) ((j9 10).trans g10) ?_ ?_ ⟨?_, fun x hx => ⟨?_, ?_, fun h1 h2 => ?_, fun k hk => ?_⟩⟩
      · show ab_R h4 13 (s 18 2) = _
        rw [R4, if_pos ⟨rfl, rfl⟩]
      · show ab_R h4 13 k = _
        rw [R4, if_neg (by omega), K3.2.2.1, (F2.2 13 (by omega)).2.2.1]
      · show ab_R h4 285 = _
        refine funext fun k => ?_
        rw [R4, if_neg (by omega), K3.2.2.1, (F2.2 285 (by omega)).2.2.1]
      · rw [q7 _ _ (by omega), K4.2.2.1]
        exact L3
      · show ab_N h4 = _
        rw [K4.2.2.2, K3.2.2.2]
        exact N2
      · show _ ≤ ab_N h4
        rw [K4.2.2.2, K3.2.2.2, N2]
        omega
      · show ab_K h4 x = _
        rw [K4.1, K3.1]
        exact (F2.2 x hx).1
      · show ab_L h4 x = _
        rw [K4.2.1, K3.2.1]
        exact (F2.2 x hx).2.1
      · show ab_R h4 x = _
        refine funext fun k => ?_
        rw [R4, if_neg (by omega), K3.2.2.1, (F2.2 x hx).2.2.1]
      · by_cases e7 : x = 7
        · subst e7
          rw [rI_k _ _ _ (fun z => hk (by unfold fTa; omega))]
          exact gI _ _ hx (fun w => by unfold fRt at w; omega) (by omega)
        · rw [q7 _ _ e7]
          exact gI _ _ hx (fun w => hk (by unfold fRt at w; unfold fTa; omega)) (fun w => hk (by unfold fTa; omega))
    · have S1 := Fr_Sh F1 S
      (conv => whnf)
      refine ⟨S1.1 5 (by decide), 550, S1.2.2 _ _ _ rfl, ?_⟩
      (conv => whnf)
      refine ⟨S1.1 550 (by decide), ?_⟩
      (conv => whnf)
      refine hno f z _ (CR_I C (fun a k w => ?_)) ((rI_a _ _ _ _ (by decide)).trans f9) ((rI_a _ _ _ _ (by decide)).trans f10) (rI_s _ _ _ _) (Fr_tr (Fr_mo F1 (fun a k w => ?_)) (Fr_sI (by unfold fTa; omega)))
      · rw [rI_a _ _ _ _ (by omega)]
        exact F1.2.2.2.2 a k (fun w' => by unfold fRt at w'; omega)
      · unfold fRt at w
        unfold fTa
        omega
  · exact h4 (by omega)
end CTX
