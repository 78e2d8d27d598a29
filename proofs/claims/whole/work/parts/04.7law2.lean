theorem gm_lw10 : ((cd_199.drop 500).take 50).all (fun r => gm_c1 code r) = true := by decide +kernel
theorem gm_lw11 : ((cd_199.drop 550).take 50).all (fun r => gm_c1 code r) = true := by decide +kernel
theorem gm_lw12 : ((cd_199.drop 600).take 50).all (fun r => gm_c1 code r) = true := by decide +kernel
theorem gm_lw13 : ((cd_199.drop 650).take 49).all (fun r => gm_c1 code r) = true := by decide +kernel
