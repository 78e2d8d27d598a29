theorem gm_lw5 : ((cd_199.drop 250).take 50).all (fun r => gm_c1 code r) = true := by decide +kernel
theorem gm_lw6 : ((cd_199.drop 300).take 50).all (fun r => gm_c1 code r) = true := by decide +kernel
theorem gm_lw7 : ((cd_199.drop 350).take 50).all (fun r => gm_c1 code r) = true := by decide +kernel
theorem gm_lw8 : ((cd_199.drop 400).take 50).all (fun r => gm_c1 code r) = true := by decide +kernel
theorem gm_lw9 : ((cd_199.drop 450).take 50).all (fun r => gm_c1 code r) = true := by decide +kernel
