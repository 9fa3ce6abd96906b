theorem ab_allch {α : Type} (p : α → Bool) (l : List α) (n : Nat) (hn : 0 < n) (h : ∀ j, j * n < l.length → ((l.drop (j * n)).take n).all p = true) : l.all p = true := by
  refine List.all_eq_true.mpr fun x hx => ?_
  obtain ⟨k, hk⟩ := List.getElem?_of_mem hx
  have hkl := (List.getElem?_eq_some_iff.mp hk).1
  have hdm := Nat.div_add_mod k n
  have hm := Nat.mod_lt k hn
  have hc : (k / n) * n = n * (k / n) := Nat.mul_comm _ _
  have h1 := h (k / n) (by omega)
  refine List.all_eq_true.mp h1 x (List.mem_of_getElem? (i := k % n) ?_)
  rw [List.getElem?_take_of_lt hm, List.getElem?_drop, show k / n * n + k % n = k by omega]
  exact hk
theorem ab_law_len : cd_L_law.length = 1027 := by decide +kernel
theorem ab_law_all : cd_L_law.all (fun e => ab_okb code 4 e && ab_lkb 30 false e) = true := by
  refine ab_allch _ _ 60 (by decide) fun j hj => ?_
  rw [ab_law_len] at hj
  have hj2 : j < 18 := by omega
  match j, hj2 with
  | 0, _ => exact cl_0
  | 1, _ => exact cl_1
  | 2, _ => exact cl_2
  | 3, _ => exact cl_3
  | 4, _ => exact cl_4
  | 5, _ => exact cl_5
  | 6, _ => exact cl_6
  | 7, _ => exact cl_7
  | 8, _ => exact cl_8
  | 9, _ => exact cl_9
  | 10, _ => exact cl_10
  | 11, _ => exact cl_11
  | 12, _ => exact cl_12
  | 13, _ => exact cl_13
  | 14, _ => exact cl_14
  | 15, _ => exact cl_15
  | 16, _ => exact cl_16
  | 17, _ => exact cl_17
  | n + 18, h => exact absurd h (by omega)
theorem ab_law_chn : ab_chn cd_L_law = true := by decide +kernel
theorem ck_L_law : ab_ckb 30 false mr_L_law = true := by
  show (decide ("ClothesHorsesLaw" = ab_nm 30) && (!false || decide (_ = "<init>")) && cd_L_law.all (fun e => ab_okb code 4 e && ab_lkb 30 false e) && ab_chn cd_L_law && _) = true
  rw [ab_law_all, ab_law_chn]
  rfl
theorem ab_ckX : ∀ m ∈ ab_MTX, ∃ o ini, ab_ckb o ini m = true := List.forall_mem_append.mpr ⟨ab_ck0, List.forall_mem_append.mpr ⟨ab_ck1, List.forall_mem_append.mpr ⟨ab_ck2, List.forall_mem_append.mpr ⟨ab_ck3, List.forall_mem_append.mpr ⟨ab_ck4, List.forall_mem_append.mpr ⟨ab_ck5, List.forall_mem_append.mpr ⟨ab_ck6, List.forall_mem_append.mpr ⟨ab_ck7, ab_ck8⟩⟩⟩⟩⟩⟩⟩⟩
theorem ab_ck (i : Nat) {m : MR} (hm : ab_MT[i]? = some m) : ∃ o ini, ab_ckb o ini m = true := by
  have h := List.mem_of_getElem? hm
  unfold ab_MT at h
  rcases List.mem_append.mp h with h | h
  · exact ab_ckX m h
  · rw [List.mem_singleton.mp h]
    exact ⟨_, _, ck_L_law⟩
