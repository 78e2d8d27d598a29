theorem gm_lw0 : ((cd_199.drop 0).take 50).all (fun r => gm_c1 code r) = true := by decide +kernel
theorem gm_lw1 : ((cd_199.drop 50).take 50).all (fun r => gm_c1 code r) = true := by decide +kernel
theorem gm_lw2 : ((cd_199.drop 100).take 50).all (fun r => gm_c1 code r) = true := by decide +kernel
theorem gm_lw3 : ((cd_199.drop 150).take 50).all (fun r => gm_c1 code r) = true := by decide +kernel
theorem gm_lw4 : ((cd_199.drop 200).take 50).all (fun r => gm_c1 code r) = true := by decide +kernel
