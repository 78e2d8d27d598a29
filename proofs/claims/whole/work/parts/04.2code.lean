theorem gm_ck0 : (((gm_PT.drop 0).take 45).all gm_cM) = true := by decide +kernel
theorem gm_ck1 : (((gm_PT.drop 45).take 40).all gm_cM) = true := by decide +kernel
