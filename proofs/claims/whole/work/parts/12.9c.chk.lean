theorem cl_8 : ((cd_L_law.drop 480).take 60).all (fun e => ab_okb code 4 e && ab_lkb 30 false e) = true := by decide +kernel
theorem cl_9 : ((cd_L_law.drop 540).take 60).all (fun e => ab_okb code 4 e && ab_lkb 30 false e) = true := by decide +kernel
theorem cl_10 : ((cd_L_law.drop 600).take 60).all (fun e => ab_okb code 4 e && ab_lkb 30 false e) = true := by decide +kernel
theorem cl_11 : ((cd_L_law.drop 660).take 60).all (fun e => ab_okb code 4 e && ab_lkb 30 false e) = true := by decide +kernel
