theorem dk_L_law_20 : tb_L_law_20.all (ck_d code) = true := by decide +kernel
theorem dk_L_law_21 : tb_L_law_21.all (ck_d code) = true := by decide +kernel
theorem dk_L_law_22 : tb_L_law_22.all (ck_d code) = true := by decide +kernel
theorem dk_L_law_23 : tb_L_law_23.all (ck_d code) = true := by decide +kernel
