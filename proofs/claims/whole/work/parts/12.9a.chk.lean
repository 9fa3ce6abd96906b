theorem cl_0 : ((cd_L_law.drop 0).take 60).all (fun e => ab_okb code 4 e && ab_lkb 30 false e) = true := by decide +kernel
theorem cl_1 : ((cd_L_law.drop 60).take 60).all (fun e => ab_okb code 4 e && ab_lkb 30 false e) = true := by decide +kernel
theorem cl_2 : ((cd_L_law.drop 120).take 60).all (fun e => ab_okb code 4 e && ab_lkb 30 false e) = true := by decide +kernel
theorem cl_3 : ((cd_L_law.drop 180).take 60).all (fun e => ab_okb code 4 e && ab_lkb 30 false e) = true := by decide +kernel
