theorem cl_16 : ((cd_L_law.drop 960).take 60).all (fun e => ab_okb code 4 e && ab_lkb 30 false e) = true := by decide +kernel
theorem cl_17 : ((cd_L_law.drop 1020).take 60).all (fun e => ab_okb code 4 e && ab_lkb 30 false e) = true := by decide +kernel
