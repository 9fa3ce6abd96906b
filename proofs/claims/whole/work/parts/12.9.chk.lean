theorem ck_L_law : ab_ckb 30 false mr_L_law = true := by decide +kernel
theorem ab_ckX : ∀ m ∈ ab_MTX, ∃ o ini, ab_ckb o ini m = true := List.forall_mem_append.mpr ⟨ab_ck0, List.forall_mem_append.mpr ⟨ab_ck1, List.forall_mem_append.mpr ⟨ab_ck2, List.forall_mem_append.mpr ⟨ab_ck3, List.forall_mem_append.mpr ⟨ab_ck4, List.forall_mem_append.mpr ⟨ab_ck5, List.forall_mem_append.mpr ⟨ab_ck6, List.forall_mem_append.mpr ⟨ab_ck7, ab_ck8⟩⟩⟩⟩⟩⟩⟩⟩
theorem ab_ck (i : Nat) {m : MR} (hm : ab_MT[i]? = some m) : ∃ o ini, ab_ckb o ini m = true := by
  have h := List.mem_of_getElem? hm
  unfold ab_MT at h
  rcases List.mem_append.mp h with h | h
  · exact ab_ckX m h
  · rw [List.mem_singleton.mp h]
    exact ⟨_, _, ck_L_law⟩
