/-! ===== new cells: what is made, and what stays (mine) ===== -/
/-- one cell more, of a kind, of a length, with these ints -/
def AL (h h' : Hp) (k l : Nat) (f : Nat → Int32) : Prop := ab_N h' = ab_N h + 1 ∧ ab_K h' (ab_N h) = k ∧ ab_L h' (ab_N h) = l ∧ (∀ j, j < l → ab_I h' (ab_N h) j = f j) ∧ (∀ x, x ≠ ab_N h → ab_K h' x = ab_K h x ∧ ab_L h' x = ab_L h x ∧ ab_I h' x = ab_I h x ∧ ab_R h' x = ab_R h x)
theorem AL_nw (h : Hp) (k l : Nat) (f : Nat → Int32) : AL h (ab_nw h k l f) k l f := by
  refine ⟨rfl, ?_, ?_, fun j _ => ?_, fun x hx => ⟨?_, ?_, ?_, ?_⟩⟩
  · exact up_s _ _ _
  · exact up_s _ _ _
  · show va_up (ab_I h) (ab_N h) f (ab_N h) j = f j
    rw [up_s]
  · exact up_n _ _ hx
  · exact up_n _ _ hx
  · exact up_n _ _ hx
  · exact up_n _ _ hx
theorem rtI {Mc Ms nc ns : Nat} {P : Prop} (h1 : nc ≤ Mc) (h2 : ns ≤ Ms) (p : P) : ab_rt Mc Ms nc ns P := by
  unfold ab_rt
  rw [show Nat.ble nc Mc = true from Nat.ble_eq.mpr h1, show Nat.ble ns Ms = true from Nat.ble_eq.mpr h2]
  exact p
section AC
variable {d : Nat} {h : Hp} {Q : Option Value → Hp → Prop}
theorem ok_copyOf (hd : 2 ≤ d) {a m l : Nat} (hk : ab_K h a = 13) (hl : ab_L h a = l) (hm : m ≤ l) (h6 : l ≤ 600) (ha : a < ab_N h) (hq : ∀ h', AL h h' 13 m (ab_I h a) → Q (some (.ref (ab_N h))) h') : ab_Ok d n_J7_copyOf_59c91 [.ref a, .int (nI m)] h Q := by
  refine ab_go mr_J7_copyOf_59c91 rfl (by omega) (fun call W hc hW => ?_); (conv => whnf)
  refine ⟨hk, ?_⟩
  (conv => whnf)
  rw [hl, ofN]
  refine ⟨fun f => ?_, fun f => ?_⟩ <;> rw [nI_eq (by omega) (by omega)] at f <;> (conv => whnf)
  · refine ⟨by rw [z0, nI_ltI (by omega) (by omega)]; omega, by decide, by rw [nI_clamp (by omega)]; show 0 + m ≤ 600; omega, ?_⟩
    rw [nI_clamp (by omega)]
    obtain ⟨_, n2, n3, n4, n5⟩ := AL_nw h 13 m (fun _ => 0)
    obtain ⟨m1, m2, m3, m4⟩ := n5 a (by omega)
    have e0 : nI l - nI l = nI 0 := by rw [pk_sub (Nat.le_refl l), Nat.sub_self]
    obtain ⟨h1, e1⟩ : ∃ h1, h1 = ab_nw h 13 m (fun _ => 0) := ⟨_, rfl⟩
    have N1 : ab_N h1 = ab_N h + 1 := by rw [e1]; rfl
    rw [← e1] at n2 n3 n4 n5 m1 m2 m3 m4
    rw [← e1]
    (conv => whnf)
    refine ⟨m1.trans hk, ?_⟩
    (conv => whnf)
    rw [m2, hl, ofN]
    refine rtI (by show 0 + 1 ≤ 1; omega) (by show 0 + m ≤ 600; omega) ?_
    refine hc _ _ _ _ (ok_min (by omega) _ _ ?_)
    rw [nI_min (by omega) (by omega), Nat.min_eq_right hm]
    (conv => whnf)
    refine ⟨m1.trans hk, n2, by decide, by decide, by rw [z0, nI_ltI (by omega) (by omega)]; omega, by rw [nI_clamp (by omega), nI_clamp (by omega), m2, hl]; omega, by rw [nI_clamp (by omega), nI_clamp (by omega), n3]; omega, ?_⟩
    (conv => whnf)
    rw [nI_clamp (by omega), nI_clamp (by omega)]
    refine rtI (by show 0 + 1 ≤ 1; omega) (by show 0 + m ≤ 600; omega) (hq _ ⟨N1, n2, n3, fun j hj => ?_, fun x hx => ?_⟩)
    · rw [rA_s, m3]
      show (if 0 ≤ j ∧ j < 0 + m then ab_I h a (0 + (j - 0)) else ab_I h1 (ab_N h) j) = ab_I h a j
      rw [if_pos ⟨by omega, by omega⟩, show 0 + (j - 0) = j by omega]
    · obtain ⟨k1, k2, k3, k4⟩ := n5 x hx
      exact ⟨k1, k2, (rA_a _ _ hx).trans k3, k4⟩
  · subst f
    refine ⟨hk, by decide, by rw [hl]; show 0 + m ≤ 600; omega, ?_⟩
    rw [hl]
    obtain ⟨n1, n2, n3, n4, n5⟩ := AL_nw h 13 m (ab_I h a)
    (conv => whnf)
    refine ⟨n2, ?_⟩
    (conv => whnf)
    exact rtI (by show 0 + 1 ≤ 1; omega) (by show 0 + m ≤ 600; omega) (hq _ ⟨n1, n2, n3, n4, n5⟩)
end AC
