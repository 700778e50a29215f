theorem dk_L_law_0 : tb_L_law_0.all (ck_d code) = true := by decide +kernel
theorem dk_L_law_1 : tb_L_law_1.all (ck_d code) = true := by decide +kernel
theorem dk_L_law_2 : tb_L_law_2.all (ck_d code) = true := by decide +kernel
theorem dk_L_law_3 : tb_L_law_3.all (ck_d code) = true := by decide +kernel
theorem dk_L_law_4 : tb_L_law_4.all (ck_d code) = true := by decide +kernel
