theorem gm_ck2 : (((gm_PT.drop 85).take 28).all gm_cM) = true := by decide +kernel
theorem gm_ck3 : (((gm_PT.drop 113).take 27).all gm_cM) = true := by decide +kernel
