theorem dk_L_law_10 : tb_L_law_10.all (ck_d code) = true := by decide +kernel
theorem dk_L_law_11 : tb_L_law_11.all (ck_d code) = true := by decide +kernel
theorem dk_L_law_12 : tb_L_law_12.all (ck_d code) = true := by decide +kernel
theorem dk_L_law_13 : tb_L_law_13.all (ck_d code) = true := by decide +kernel
theorem dk_L_law_14 : tb_L_law_14.all (ck_d code) = true := by decide +kernel
