theorem gm_cp4 : ((((gm_PT.zip gm_PP).drop 160).take 15).all fun x => gm_pOk x.1 x.2) = true := by decide +kernel
