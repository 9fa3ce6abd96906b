theorem cl_12 : ((cd_L_law.drop 720).take 60).all (fun e => ab_okb code 4 e && ab_lkb 30 false e) = true := by decide +kernel
theorem cl_13 : ((cd_L_law.drop 780).take 60).all (fun e => ab_okb code 4 e && ab_lkb 30 false e) = true := by decide +kernel
theorem cl_14 : ((cd_L_law.drop 840).take 60).all (fun e => ab_okb code 4 e && ab_lkb 30 false e) = true := by decide +kernel
theorem cl_15 : ((cd_L_law.drop 900).take 60).all (fun e => ab_okb code 4 e && ab_lkb 30 false e) = true := by decide +kernel
