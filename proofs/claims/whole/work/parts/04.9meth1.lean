theorem gm_cp0 : ((((gm_PT.zip gm_PP).drop 0).take 40).all fun x => gm_pOk x.1 x.2) = true := by decide +kernel
theorem gm_cp1 : ((((gm_PT.zip gm_PP).drop 40).take 40).all fun x => gm_pOk x.1 x.2) = true := by decide +kernel
