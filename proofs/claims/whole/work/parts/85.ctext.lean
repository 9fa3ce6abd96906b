/-! ===== contracts: the class's text (mine) ===== -/
theorem TC_of {h1 h' : Hp} {b : Nat → Nat} {n N a i : Nat} {cls : List CK} {lws : LW} {vf : Nat → Vf} (I : CI h1 b n cls lws a i) (P : PDI cls lws) (V : vfOk lws vf) (O : TO h' N cls.length a) (k1 : ∀ j, j < cls.length → ab_I h' (N + 1) j = ab_I h1 555 j) (k2 : ∀ j, j < 3 * cls.length → ab_I h' (N + 2) j = ab_I h1 556 j) (k3 : ∀ j, j < a → ab_I h' (N + 3) j = ab_I h1 557 j) (k4 : ∀ j, j < 3 → ab_I h' (N + 4) j = ab_I h1 558 j) (k5 : ∀ j, j < 3 → ab_I h' (N + 5) j = ab_I h1 559 j) : TC h' N (txOf cls lws vf) := by
  refine ⟨a, O, fun j hj => ?_, fun k hk => ?_⟩
  · have hj : j < cls.length := hj
    obtain ⟨c1, c2, c3⟩ := I.2.2.2.1 j hj
    obtain ⟨a1, a2, a3⟩ := P.1 j hj
    refine ⟨(k1 j hj).trans c1, a1, fun u hu => ?_⟩
    have hu : u < ar (cls.getD j (0, [])).1 := hu
    have e : (txOf cls lws vf).2.1 j (u + 1) = (cls.getD j (0, [])).2.getD u 0 := by
      show (if u + 1 = 0 then (cls.getD j (0, [])).1 else (cls.getD j (0, [])).2.getD (u + 1 - 1) 0) = (cls.getD j (0, [])).2.getD u 0
      rw [if_neg (by omega), Nat.add_sub_cancel]
    rw [e]
    exact ⟨(k2 (3 * j + u) (by omega)).trans (c3 u (by omega)), a3 u (by omega)⟩
  · show CLw h' N a k (if (lws k).isSome = true then some (vf k) else none)
    cases e : lws k with
    | none =>
      show CLw h' N a k none
      exact (k4 k hk).trans ((I.2.2.2.2 k hk).1 e)
    | some q =>
      obtain ⟨w0, r, a0, c⟩ := q
      obtain ⟨i1, i2, i3, i4⟩ := (I.2.2.2.2 k hk).2 w0 r a0 c e
      obtain ⟨m, E, hm⟩ := V k hk w0 r a0 c e
      show CLw h' N a k (some (vf k))
      exact ⟨a0, r, c, m, E, hm, (k4 k hk).trans i1, (k5 k hk).trans i2, i4, fun j hj => (k3 (a0 + j) (by omega)).trans (i3 j hj)⟩
theorem Sh_FrA {P : Nat → Nat → Prop} {h h' : Hp} (F : FrA P h h') (hN : 594 ≤ ab_N h) (S : Sh h) : Sh h' := by
  refine ⟨fun a ha => ?_, fun a ha => ?_, fun a k b e => ?_⟩
  · rw [(F.2 a (by omega)).1]; exact S.1 a ha
  · rw [(F.2 a (by omega)).2.1]; exact S.2.1 a ha
  · have : a < 594 := by
      rcases Nat.lt_or_ge a 594 with z | z
      · exact z
      · rw [tR_out a k z] at e; cases e
    rw [(F.2 a (by omega)).2.2.1]; exact S.2.2 a k b e
/-- ints of some old cells may change, references of two, new cells may come -/
def FrC (P : Nat → Nat → Prop) (h h' : Hp) : Prop := ab_N h ≤ ab_N h' ∧ ∀ x, x < ab_N h → ab_K h' x = ab_K h x ∧ ab_L h' x = ab_L h x ∧ (x ≠ 13 → x ≠ 285 → ab_R h' x = ab_R h x) ∧ ∀ k, ¬ P x k → ab_I h' x k = ab_I h x k
/-- the cells that the class's text may change -/
def fTa (a k : Nat) : Prop := a = 549 ∨ a = 550 ∨ (552 ≤ a ∧ a ≤ 559) ∨ (a = 7 ∧ k = 7)
section CTX
variable {d : Nat} {h : Hp} {Q : Option Value → Hp → Prop} {n : Nat} {b : Nat → Nat} {s : Sv}
theorem oc_text (hd : 111 ≤ d) (S : Sh h) (Z : SS h) (hn : n ≤ 300) (C : CR h 7 16 29 37 s) (ht : s 18 2 ≤ 4) (P : TP h 550 2 551 n b) (hN : 594 ≤ ab_N h) (vf : Nat → Vf) (hv : (txF b n).1 = 0 → vfOk (txF b n).2.2.2.1 vf) (h4 : s 18 2 = 4 → Q (some (.int (-1))) h) (hy : s 18 2 < 4 → (txF b n).1 = 0 → ∀ h', CR h' 7 16 29 37 (st2 s 18 2 (s 18 2 + 1)) → TC h' (ab_N h) (txOf (txF b n).2.2.1 (txF b n).2.2.2.1 vf) → ab_R h' 13 (s 18 2) = some (ab_N h) → (∀ k, k ≠ s 18 2 → ab_R h' 13 k = ab_R h 13 k) → ab_R h' 285 = ab_R h 285 → ab_I h' 549 9 = nI 0 → ab_I h' 549 10 = -1 → ab_I h' 550 2 = nI 0 → ab_N h' = ab_N h + 6 → FrC fTa h h' → Q (some (.int (nI (s 18 2)))) h') (hno : s 18 2 < 4 → (txF b n).1 ≠ 0 → ∀ h', CR h' 7 16 29 37 s → ab_I h' 549 9 = nI (txF b n).1 → ab_I h' 549 10 = nI (stP b n (txF b n).2.1) → ab_I h' 550 2 = nI 0 → Fr fTa h h' → Q (some (.int (-1))) h') : ab_Ok d n_X11_text [.ref 5] h Q := by
  have n2 := C.1.1.2.2.1
  refine ab_go mr_X11_text rfl (by omega) (fun call W hc hW => ?_); (conv => whnf)
  refine ⟨S.1 5 (by decide), 7, S.2.2 _ _ _ rfl, ?_⟩
  (conv => whnf)
  refine ⟨S.1 7 (by decide), ?_⟩
  (conv => whnf)
  rw [n2]
  refine ⟨fun f => ?_, fun f => ?_⟩ <;> rw [nI_ltI (by omega) (by omega)] at f <;> (conv => whnf)
  · refine ⟨S.1 5 (by decide), 549, S.2.2 _ _ _ rfl, ?_⟩
    (conv => whnf)
    refine ⟨S.1 549 (by decide), ?_⟩
    refine ⟨by decide, by decide, ?_⟩
    refine hc _ _ _ _ (oc_readTape (by omega) S Z hn P hN (fun z h1 I1 l24 a6 F1 f9 f10 h2 O2 k1 k2 k3 k4 k5 N2 F2 g9 g10 => ?_) (fun z h1 f9 f10 F1 => ?_))
    · have S2 := Sh_FrA F2 hN S
      have PP := txL_P (stT b n) (stV b n) 30 [] (fun _ => none) 0 0 0 PDI_0 z
      have T2 := TC_of I1 PP (hv z) O2 k1 k2 k3 k4 k5
      have x2 : ab_I h2 7 7 = nI (s 18 2) := ((F2.2 7 (by omega)).2.2.2 7 (fun w => by unfold fRt at w; omega)).trans n2
      (conv => whnf)
      refine ⟨S2.1 5 (by decide), 550, S2.2.2 _ _ _ rfl, ?_⟩
      (conv => whnf)
      refine ⟨S2.1 550 (by decide), ?_⟩
      (conv => whnf)
      exact foo
    · sorry
  · exact h4 (by omega)
end CTX
