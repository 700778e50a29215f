def ml_5_2 : List (Nat × (Nat × Bool) × Nat × Option String) := [(167, (139, false), 1115, none), (171, (111, false), 1119, none), (175, (136, false), 1139, none), (178, (141, false), 1143, none), (181, (137, false), 1179, none), (185, (112, false), 1187, none), (188, (143, false), 1194, none), (191, (142, false), 1175, none)]
theorem lk_5_2 : ml_5_2.all (ck_l RX5) = true := by decide +kernel
def ml_5_3 : List (Nat × (Nat × Bool) × Nat × Option String) := [(194, (144, false), 1183, none), (198, (145, false), 1190, none), (201, (140, false), 1103, none), (205, (146, false), 1218, none), (208, (147, false), 1214, none), (211, (148, false), 1210, none), (214, (133, false), 1099, none), (217, (150, false), 1091, none)]
theorem lk_5_3 : ml_5_3.all (ck_l RX5) = true := by decide +kernel
def ml_5_4 : List (Nat × (Nat × Bool) × Nat × Option String) := [(220, (151, false), 1095, none), (223, (130, false), 1126, none), (229, (131, false), 1135, none), (236, (155, false), 1153, none), (243, (134, false), 1198, none), (248, (161, false), 1206, none), (251, (132, false), 1230, none), (260, (168, false), 1254, none)]
theorem lk_5_4 : ml_5_4.all (ck_l RX5) = true := by decide +kernel
def ml_5_5 : List (Nat × (Nat × Bool) × Nat × Option String) := [(263, (149, false), 1258, none), (266, (169, false), 1262, none), (269, (170, false), 1266, none), (274, (171, false), 1250, none), (278, (176, false), 1296, none), (298, (178, false), 1289, none), (301, (177, false), 1293, none), (305, (183, false), 1319, none)]
theorem lk_5_5 : ml_5_5.all (ck_l RX5) = true := by decide +kernel
def ml_5_6 : List (Nat × (Nat × Bool) × Nat × Option String) := [(308, (184, false), 1315, none), (312, (187, false), 1331, none), (316, (190, false), 1344, none), (319, (193, false), 1356, none), (324, (158, false), 1368, none)]
theorem lk_5_6 : ml_5_6.all (ck_l RX5) = true := by decide +kernel
def ml_6_0 : List (Nat × (Nat × Bool) × Nat × Option String) := []
theorem lk_6_0 : ml_6_0.all (ck_l RJ6) = true := by decide +kernel
def ml_7_0 : List (Nat × (Nat × Bool) × Nat × Option String) := [(13, (58, true), 391, none), (17, (115, true), 1019, none), (18, (59, true), 398, none), (21, (116, true), 1027, none), (22, (60, true), 402, none), (26, (128, true), 1031, none), (27, (61, true), 556, none), (30, (129, true), 1083, none)]
theorem lk_7_0 : ml_7_0.all (ck_l RL) = true := by decide +kernel
def ml_7_1 : List (Nat × (Nat × Bool) × Nat × Option String) := [(31, (62, true), 560, none), (34, (152, true), 1087, none), (35, (63, true), 600, none), (39, (153, true), 1122, none), (40, (64, true), 606, none), (43, (154, true), 1131, none), (44, (65, true), 615, none), (48, (156, true), 1147, none)]
theorem lk_7_1 : ml_7_1.all (ck_l RL) = true := by decide +kernel
