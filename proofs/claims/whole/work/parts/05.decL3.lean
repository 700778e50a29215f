theorem dk_L_law_15 : tb_L_law_15.all (ck_d code) = true := by decide +kernel
theorem dk_L_law_16 : tb_L_law_16.all (ck_d code) = true := by decide +kernel
theorem dk_L_law_17 : tb_L_law_17.all (ck_d code) = true := by decide +kernel
theorem dk_L_law_18 : tb_L_law_18.all (ck_d code) = true := by decide +kernel
theorem dk_L_law_19 : tb_L_law_19.all (ck_d code) = true := by decide +kernel
