def ml_5_2 : List (Nat × (Nat × Bool) × Nat × Option String) := [(167, (139, false), 1125, none), (171, (111, false), 1129, none), (175, (136, false), 1149, none), (178, (141, false), 1153, none), (181, (137, false), 1189, none), (185, (112, false), 1197, none), (188, (143, false), 1204, none), (191, (142, false), 1185, none)]
theorem lk_5_2 : ml_5_2.all (ck_l RX5) = true := by decide +kernel
def ml_5_3 : List (Nat × (Nat × Bool) × Nat × Option String) := [(194, (144, false), 1193, none), (198, (145, false), 1200, none), (201, (140, false), 1113, none), (205, (146, false), 1228, none), (208, (147, false), 1224, none), (211, (148, false), 1220, none), (214, (133, false), 1109, none), (217, (150, false), 1101, none)]
theorem lk_5_3 : ml_5_3.all (ck_l RX5) = true := by decide +kernel
def ml_5_4 : List (Nat × (Nat × Bool) × Nat × Option String) := [(220, (151, false), 1105, none), (223, (130, false), 1136, none), (229, (131, false), 1145, none), (236, (155, false), 1163, none), (243, (134, false), 1208, none), (248, (161, false), 1216, none), (251, (132, false), 1240, none), (260, (168, false), 1264, none)]
theorem lk_5_4 : ml_5_4.all (ck_l RX5) = true := by decide +kernel
def ml_5_5 : List (Nat × (Nat × Bool) × Nat × Option String) := [(263, (149, false), 1268, none), (266, (169, false), 1272, none), (269, (170, false), 1276, none), (274, (171, false), 1260, none), (278, (176, false), 1306, none), (298, (178, false), 1299, none), (301, (177, false), 1303, none), (305, (183, false), 1329, none)]
theorem lk_5_5 : ml_5_5.all (ck_l RX5) = true := by decide +kernel
def ml_5_6 : List (Nat × (Nat × Bool) × Nat × Option String) := [(308, (184, false), 1325, none), (312, (187, false), 1341, none), (316, (190, false), 1354, none), (319, (193, false), 1366, none), (324, (158, false), 1378, none)]
theorem lk_5_6 : ml_5_6.all (ck_l RX5) = true := by decide +kernel
def ml_6_0 : List (Nat × (Nat × Bool) × Nat × Option String) := []
theorem lk_6_0 : ml_6_0.all (ck_l RJ6) = true := by decide +kernel
def ml_7_0 : List (Nat × (Nat × Bool) × Nat × Option String) := [(13, (58, true), 393, none), (17, (115, true), 1029, none), (18, (59, true), 400, none), (21, (116, true), 1037, none), (22, (60, true), 404, none), (26, (128, true), 1041, none), (27, (61, true), 562, none), (30, (129, true), 1093, none)]
theorem lk_7_0 : ml_7_0.all (ck_l RL) = true := by decide +kernel
def ml_7_1 : List (Nat × (Nat × Bool) × Nat × Option String) := [(31, (62, true), 566, none), (34, (152, true), 1097, none), (35, (63, true), 606, none), (39, (153, true), 1132, none), (40, (64, true), 612, none), (43, (154, true), 1141, none), (44, (65, true), 621, none), (48, (156, true), 1157, none)]
theorem lk_7_1 : ml_7_1.all (ck_l RL) = true := by decide +kernel
