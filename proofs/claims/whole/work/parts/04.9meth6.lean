theorem gm_cp6 : ((((gm_PT.zip gm_PP).drop 190).take 4).all fun x => gm_pOk x.1 x.2) = true := by decide +kernel
