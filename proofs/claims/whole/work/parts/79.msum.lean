/-! ===== contracts: the reference's reader, a sum (mine) ===== -/
section SM
variable {d : Nat} {h : Hp} {Q : Option Value → Hp → Prop} {n B w0 lw : Nat} {b : Nat → Nat}
theorem om_summed (hd : 11 ≤ d) (S : Sh h) (hn : n ≤ 300) (hB : B ≤ 2115) (hlw : lw ≤ 2) {i : Nat} (hi : i ≤ stL b n) (hw0 : w0 ≤ i) (T : MT h b n i) (c12 : ab_I h 580 12 = nI B) (c13 : ab_I h 580 13 = nI w0) (c14 : ab_I h 580 14 = nI lw) (q a : Nat) (hf : 10 * (stL b n - i) + 2 < q) (hy : (ps (stT b n) (stV b n) lw q 3 0 a i).1 = 0 → ∀ h', MT h' b n (ps (stT b n) (stV b n) lw q 3 0 a i).2.1 → ab_I h' 580 12 = nI B → ab_I h' 580 13 = nI (w0 + (ps (stT b n) (stV b n) lw q 3 0 a i).2.2.1.length) → ab_I h' 580 14 = nI lw → MSeg h' B w0 (ps (stT b n) (stV b n) lw q 3 0 a i).2.2.1 → Fr (fMr B w0) h h' → Q (some (.int (nI 0))) h') (hno : (ps (stT b n) (stV b n) lw q 3 0 a i).1 ≠ 0 → ∀ h', MT h' b n (ps (stT b n) (stV b n) lw q 3 0 a i).2.1 → Fr (fMr B w0) h h' → Q (some (.int (nI (ps (stT b n) (stV b n) lw q 3 0 a i).1))) h') : ab_Ok d n_X12_summed [.ref 580] h Q := by
  have ln := stL_n b n
  refine ab_go mr_X12_summed rfl (by omega) (fun call W hc hW => ?_); (conv => whnf)
  have ST : MStp b n B w0 lw (fun h' => W 15 [.ref 580] h' 0 0) (fun f _ h' => Q (some (.int (nI f))) h') h := by
    clear hy hno
    refine ⟨?_, ?_, ?_, ?_, ?_⟩
    · intro h1 wr p o i1 S1 F1 M1 hp hw ho hs n2 n5 ok n3 op n1
      have c18 : ab_I h1 580 18 = nI 0 := M1.2.2.2.2.2.2.1
      refine hW _ _ _ _ _ ?_
      (conv => whnf)
      refine ⟨S1.1 580 (by decide), ?_⟩
      (conv => whnf)
      rw [c18]
      refine bT (by decide) ?_
      (conv => whnf)
      refine ⟨S1.1 580 (by decide), ?_⟩
      refine hc _ _ _ _ (om_beginOne (by omega) S1 hn hB hlw M1 hp hw ho hs (fun t v => ?_) (fun t v => ?_) (fun x v hx h2 M2 F2 => ?_) (fun x hx o8 => ?_) (fun x hx o8 h2 M2 F2 => ?_) (fun t1 t2 t3 => ?_)) <;> (conv => whnf)
      · have := n2 t v
        refine bF (by decide) ?_
        (conv => whnf)
        exact this
      · have := n5 t v
        refine bF (by decide) ?_
        (conv => whnf)
        exact this
      · have := ok x v hx h2 M2 (Fr_tr F1 F2)
        refine bT (by decide) ?_
        (conv => whnf)
        exact this
      · have := n3 x hx o8
        refine bF (by decide) ?_
        (conv => whnf)
        exact this
      · have := op x hx o8 h2 M2 (Fr_tr F1 F2)
        refine bT (by decide) ?_
        (conv => whnf)
        exact this
      · have := n1 t1 t2 t3
        refine bF (by decide) ?_
        (conv => whnf)
        exact this
    · intro h1 wr p o i1 op S1 F1 M1 hp hw ho hop hb hs ok
      have c18 : ab_I h1 580 18 = nI 1 := M1.2.2.2.2.2.2.1
      refine hW _ _ _ _ _ ?_
      (conv => whnf)
      refine ⟨S1.1 580 (by decide), ?_⟩
      (conv => whnf)
      rw [c18]
      refine bF (by decide) ?_
      (conv => whnf)
      refine ⟨S1.1 580 (by decide), ?_⟩
      refine hc _ _ _ _ (om_behindA (by omega) S1 hn hB M1 hp hw ho hop hb hs (fun h2 M2 F2 => ?_))
      have := ok h2 M2 (Fr_tr F1 F2)
      (conv => whnf)
      refine bF (by decide) ?_
      (conv => whnf)
      exact this
    · intro h1 wr p o i1 S1 F1 M1 hp hb hr hopn fq
      have c18 : ab_I h1 580 18 = nI 1 := M1.2.2.2.2.2.2.1
      have c16 := M1.2.2.2.2.1
      have P := M1.2.2.2.2.2.2.2.1
      have oz := (opA_N p P).2 hopn
      refine hW _ _ _ _ _ ?_
      (conv => whnf)
      refine ⟨S1.1 580 (by decide), ?_⟩
      (conv => whnf)
      rw [c18]
      refine bF (by decide) ?_
      (conv => whnf)
      refine ⟨S1.1 580 (by decide), ?_⟩
      refine hc _ _ _ _ (om_behindB (by omega) S1 M1 hp hb hr ?_)
      (conv => whnf)
      refine bT (by decide) ?_
      (conv => whnf)
      refine ⟨S1.1 580 (by decide), ?_⟩
      refine hc _ _ _ _ (om_openNow (by omega) S1 c16 P (by omega) ?_)
      rw [if_neg hopn]
      (conv => whnf)
      refine bF (by rw [z0, nI_ltI (by omega) (by omega)]; omega) ?_
      (conv => whnf)
      exact fq
    · intro h1 wr p o i1 x z p0 S1 F1 M1 hp hw ho hb hx hr hz hP hs ok
      have c18 : ab_I h1 580 18 = nI 1 := M1.2.2.2.2.2.2.1
      refine hW _ _ _ _ _ ?_
      (conv => whnf)
      refine ⟨S1.1 580 (by decide), ?_⟩
      (conv => whnf)
      rw [c18]
      refine bF (by decide) ?_
      (conv => whnf)
      refine ⟨S1.1 580 (by decide), ?_⟩
      refine hc _ _ _ _ (om_behindC (by omega) S1 hn hB M1 hp hw ho hb hx hr hz hP hs (fun h2 M2 F2 => ?_))
      have := ok h2 M2 (Fr_tr F1 F2)
      (conv => whnf)
      refine bF (by decide) ?_
      (conv => whnf)
      exact this
    · intro h1 wr p o i1 z p0 S1 F1 M1 hp hw ho hb hr hz hz40 hz50 hP hs ok
      have c18 : ab_I h1 580 18 = nI 1 := M1.2.2.2.2.2.2.1
      refine hW _ _ _ _ _ ?_
      (conv => whnf)
      refine ⟨S1.1 580 (by decide), ?_⟩
      (conv => whnf)
      rw [c18]
      refine bF (by decide) ?_
      (conv => whnf)
      refine ⟨S1.1 580 (by decide), ?_⟩
      refine hc _ _ _ _ (om_behindD (by omega) S1 hn hB M1 hp hw ho hb hr hz hz40 hz50 hP hs (fun h2 M2 F2 => ?_))
      have := ok h2 M2 (Fr_tr F1 F2)
      (conv => whnf)
      refine bF (by decide) ?_
      (conv => whnf)
      exact this
  have R3 := (sim_all hn hB ST q).2.2.1
  have E := fun z => (ps_end (T := stT b n) (V := stV b n) (lw := lw) q 3 0 a i z).1 (by omega)
  have A := ps_b (T := stT b n) (V := stV b n) (lw := lw) (L := stL b n) (fun i => stT_e b n) q 3 0 a i hi hf
  obtain ⟨y, ey⟩ : ∃ y, ps (stT b n) (stV b n) lw q 3 0 a i = y := ⟨_, rfl⟩
  rw [ey] at hy hno E A
  clear ST
  refine ⟨S.1 580 (by decide), ?_⟩
  (conv => whnf)
  refine ⟨S.1 580 (by decide), ?_⟩
  (conv => whnf)
  refine ⟨S.1 580 (by decide), Or.inl rfl, ?_⟩
  (conv => whnf)
  obtain ⟨h1, e1⟩ : ∃ h1, h1 = ab_sI (ab_sI (ab_sI h 580 16 (nI 0)) 580 17 (nI 0)) 580 18 (nI 0) := ⟨_, rfl⟩
  have F1 : Fr (fun x k => x = 580 ∧ (k = 16 ∨ k = 17 ∨ k = 18)) h h1 := by rw [e1]; exact Fr_tr (Fr_sI ⟨rfl, by omega⟩) (Fr_tr (Fr_sI ⟨rfl, by omega⟩) (Fr_sI ⟨rfl, by omega⟩))
  have G1 : Fr (fMr B w0) h h1 := Fr_mo F1 (fun x k z => show fMr B w0 x k from by unfold fMr; omega)
  have S1 := Fr_Sh F1 S
  have M1 : MRd h1 b n B w0 lw [] [] 0 i 0 := by
    refine ⟨MT_fr F1 (fun k hk z => by omega) (fun k z => by omega) (by rw [e1]; rfl) T, (F1.2.2.2.2 580 12 (fun z => by omega)).trans c12, (F1.2.2.2.2 580 13 (fun z => by omega)).trans c13, (F1.2.2.2.2 580 14 (fun z => by omega)).trans c14, ?_, ?_, ?_, trivial, fun j hj => absurd hj (Nat.not_lt_zero _)⟩
    · rw [e1, rI_k _ _ _ (by decide), rI_k _ _ _ (by decide), rI_s]; rfl
    · rw [e1, rI_k _ _ _ (by decide), rI_s]
    · rw [e1, rI_s]
  rw [← e1]
  clear e1
  have R := R3 0 a i h1 [] [] S1 G1 M1 (by show w0 + 0 + 0 ≤ i; omega) hi (Nat.zero_le _) (by omega) hf ⟨trivial, fun _ _ w => absurd w.1 (by show ¬ (0 : Nat) = 41; omega), fun w => by omega⟩
  rw [ey] at R
  refine R ?_ hno
  intro z h2 wr2 x S2 F2 M2 e2 xx lx ox _
  obtain ⟨g1, g2, g3, g4⟩ := A.1.1 z
  have E := E z
  have xx : xR 5 x := xx
  have lx : x.length ≤ 2 + nts x := lx
  have n0 := nts_5 x xx
  rw [n0, Nat.add_zero, List.append_nil] at M2
  have oN : opN x = 0 := by
    have := opN_x (l := 5) (p := []) (by omega) x xx
    rw [List.append_nil] at this
    exact this
  have bt := btw_no (p := x) E (by rw [oN]; decide)
  have pr : prt (stT b n y.2.1) x = -1 := by
    unfold prt
    rw [oN, if_neg (by decide), if_neg (by decide), if_neg (by decide), if_neg (by decide)]
  obtain ⟨s1, s2, s3⟩ := stl_x (p := []) (l := 1) trivial x (xR_mo xx (by omega))
  rw [List.append_nil] at s1 s2 s3
  rw [n0] at s3
  have lw2 : wr2.length + x.length = y.2.2.1.length := by
    have := congrArg List.length e2
    rw [List.length_append, mpl_len] at this
    rw [this, List.nil_append]
  have c18 : ab_I h2 580 18 = nI 1 := M2.2.2.2.2.2.2.1
  have c16 := M2.2.2.2.2.1
  have P := M2.2.2.2.2.2.2.2.1
  refine hW _ _ _ _ _ ?_
  (conv => whnf)
  refine ⟨S2.1 580 (by decide), ?_⟩
  (conv => whnf)
  rw [c18]
  refine bF (by decide) ?_
  (conv => whnf)
  refine ⟨S2.1 580 (by decide), ?_⟩
  refine hc _ _ _ _ (om_behindB (by omega) S2 M2 (by omega) bt pr ?_)
  (conv => whnf)
  refine bT (by decide) ?_
  (conv => whnf)
  refine ⟨S2.1 580 (by decide), ?_⟩
  refine hc _ _ _ _ (om_openNow (by omega) S2 c16 P (by omega) ?_)
  rw [if_pos oN]
  (conv => whnf)
  refine bT (by decide) ?_
  (conv => whnf)
  refine ⟨S2.1 580 (by decide), ?_⟩
  refine hc _ _ _ _ (om_settle (by omega) S2 hB M2 (by omega) (by omega) (by omega) (by omega) (by rw [s3]; omega) (fun h3 M3 F3 => ?_))
  rw [s1, e2, List.nil_append] at M3
  (conv => whnf)
  exact hy z h3 M3.1 M3.2.1 M3.2.2.1 M3.2.2.2.1 M3.2.2.2.2.2.2.2.2 (Fr_tr F2 F3)
end SM
