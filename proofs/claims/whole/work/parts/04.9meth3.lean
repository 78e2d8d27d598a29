theorem gm_cp2 : ((((gm_PT.zip gm_PP).drop 80).take 40).all fun x => gm_pOk x.1 x.2) = true := by decide +kernel
theorem gm_cp3 : ((((gm_PT.zip gm_PP).drop 120).take 40).all fun x => gm_pOk x.1 x.2) = true := by decide +kernel
