theorem gm_ck4 : (((gm_PT.drop 140).take 30).all gm_cM) = true := by decide +kernel
theorem gm_ck5 : (((gm_PT.drop 170).take 29).all gm_cM) = true := by decide +kernel
