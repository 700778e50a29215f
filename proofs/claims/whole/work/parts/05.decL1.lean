theorem dk_L_law_5 : tb_L_law_5.all (ck_d code) = true := by decide +kernel
theorem dk_L_law_6 : tb_L_law_6.all (ck_d code) = true := by decide +kernel
theorem dk_L_law_7 : tb_L_law_7.all (ck_d code) = true := by decide +kernel
theorem dk_L_law_8 : tb_L_law_8.all (ck_d code) = true := by decide +kernel
theorem dk_L_law_9 : tb_L_law_9.all (ck_d code) = true := by decide +kernel
