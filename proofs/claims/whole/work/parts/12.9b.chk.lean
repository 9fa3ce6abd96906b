theorem cl_4 : ((cd_L_law.drop 240).take 60).all (fun e => ab_okb code 4 e && ab_lkb 30 false e) = true := by decide +kernel
theorem cl_5 : ((cd_L_law.drop 300).take 60).all (fun e => ab_okb code 4 e && ab_lkb 30 false e) = true := by decide +kernel
theorem cl_6 : ((cd_L_law.drop 360).take 60).all (fun e => ab_okb code 4 e && ab_lkb 30 false e) = true := by decide +kernel
theorem cl_7 : ((cd_L_law.drop 420).take 60).all (fun e => ab_okb code 4 e && ab_lkb 30 false e) = true := by decide +kernel
