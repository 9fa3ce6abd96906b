theorem ck_J0_indexOf_0f7a4 : ab_ckb 20 false mr_J0_indexOf_0f7a4 = true := by decide +kernel
theorem ck_J0_indexOf_7cf53 : ab_ckb 20 false mr_J0_indexOf_7cf53 = true := by decide +kernel
theorem ck_J0_coder_7d493 : ab_ckb 20 false mr_J0_coder_7d493 = true := by decide +kernel
theorem ck_J0_isLatin1_aae02 : ab_ckb 20 false mr_J0_isLatin1_aae02 = true := by decide +kernel
theorem ck_J0_checkIndex_df160 : ab_ckb 20 false mr_J0_checkIndex_df160 = true := by decide +kernel
theorem ck_J1_charAt_3b067 : ab_ckb 21 false mr_J1_charAt_3b067 = true := by decide +kernel
theorem ck_J1_canEncode_9a6ad : ab_ckb 21 false mr_J1_canEncode_9a6ad = true := by decide +kernel
theorem ck_J1_indexOf_4cfef : ab_ckb 21 false mr_J1_indexOf_4cfef = true := by decide +kernel
theorem ck_J1_indexOfChar_4cfef : ab_ckb 21 false mr_J1_indexOfChar_4cfef = true := by decide +kernel
theorem ck_J7_fill_53178 : ab_ckb 24 false mr_J7_fill_53178 = true := by decide +kernel
theorem ck_J7_copyOf_59c91 : ab_ckb 24 false mr_J7_copyOf_59c91 = true := by decide +kernel
theorem ck_J3_checkIndex_8e157 : ab_ckb 22 false mr_J3_checkIndex_8e157 = true := by decide +kernel
theorem ab_ck8 : ∀ m ∈ ab_MT8, ∃ o ini, ab_ckb o ini m = true := List.forall_mem_cons.mpr ⟨⟨_, _, ck_J0_indexOf_0f7a4⟩, List.forall_mem_cons.mpr ⟨⟨_, _, ck_J0_indexOf_7cf53⟩, List.forall_mem_cons.mpr ⟨⟨_, _, ck_J0_coder_7d493⟩, List.forall_mem_cons.mpr ⟨⟨_, _, ck_J0_isLatin1_aae02⟩, List.forall_mem_cons.mpr ⟨⟨_, _, ck_J0_checkIndex_df160⟩, List.forall_mem_cons.mpr ⟨⟨_, _, ck_J1_charAt_3b067⟩, List.forall_mem_cons.mpr ⟨⟨_, _, ck_J1_canEncode_9a6ad⟩, List.forall_mem_cons.mpr ⟨⟨_, _, ck_J1_indexOf_4cfef⟩, List.forall_mem_cons.mpr ⟨⟨_, _, ck_J1_indexOfChar_4cfef⟩, List.forall_mem_cons.mpr ⟨⟨_, _, ck_J7_fill_53178⟩, List.forall_mem_cons.mpr ⟨⟨_, _, ck_J7_copyOf_59c91⟩, List.forall_mem_cons.mpr ⟨⟨_, _, ck_J3_checkIndex_8e157⟩, fun _ h => absurd h List.not_mem_nil⟩⟩⟩⟩⟩⟩⟩⟩⟩⟩⟩⟩
