def ml_7_2 : List (Nat × (Nat × Bool) × Nat × Option String) := [(49, (66, true), 635, none), (52, (157, true), 1157, none), (53, (67, true), 639, none), (56, (158, true), 1162, none), (57, (68, true), 644, none), (60, (159, true), 1167, none), (61, (69, true), 648, none), (64, (160, true), 1171, none)]
theorem lk_7_2 : ml_7_2.all (ck_l RL) = true := by decide +kernel
def ml_7_3 : List (Nat × (Nat × Bool) × Nat × Option String) := [(65, (70, true), 664, none), (68, (162, true), 1202, none), (69, (71, true), 692, none), (72, (163, true), 1222, none), (73, (72, true), 696, none), (76, (164, true), 1226, none), (77, (73, true), 700, none), (80, (165, true), 1233, none)]
theorem lk_7_3 : ml_7_3.all (ck_l RL) = true := by decide +kernel
def ml_7_4 : List (Nat × (Nat × Bool) × Nat × Option String) := [(81, (74, true), 705, none), (84, (166, true), 1237, none), (85, (75, true), 710, none), (88, (167, true), 1241, none), (89, (76, true), 718, none), (93, (172, true), 1245, none), (94, (77, true), 728, none), (97, (173, true), 1270, none)]
theorem lk_7_4 : ml_7_4.all (ck_l RL) = true := by decide +kernel
def ml_7_5 : List (Nat × (Nat × Bool) × Nat × Option String) := [(98, (78, true), 732, none), (101, (174, true), 1274, none), (102, (79, true), 746, none), (105, (175, true), 1278, none), (106, (80, true), 754, none), (110, (179, true), 1282, none), (111, (81, true), 792, none), (115, (180, true), 1299, none)]
theorem lk_7_5 : ml_7_5.all (ck_l RL) = true := by decide +kernel
def ml_7_6 : List (Nat × (Nat × Bool) × Nat × Option String) := [(116, (82, true), 802, none), (119, (181, true), 1303, none), (120, (83, true), 810, none), (123, (182, true), 1307, none), (124, (84, true), 814, none), (127, (185, true), 1311, none), (128, (85, true), 830, none), (131, (186, true), 1323, none)]
theorem lk_7_6 : ml_7_6.all (ck_l RL) = true := by decide +kernel
def ml_7_7 : List (Nat × (Nat × Bool) × Nat × Option String) := [(132, (86, true), 834, none), (135, (188, true), 1327, none), (136, (87, true), 848, none), (139, (189, true), 1335, none), (140, (88, true), 853, none), (143, (191, true), 1340, none), (144, (89, true), 857, none), (147, (192, true), 1348, none)]
theorem lk_7_7 : ml_7_7.all (ck_l RL) = true := by decide +kernel
def ml_7_8 : List (Nat × (Nat × Bool) × Nat × Option String) := [(148, (90, true), 861, none), (151, (194, true), 1352, none), (152, (91, true), 865, none), (155, (195, true), 1359, none), (156, (92, true), 872, none), (159, (196, true), 1363, none), (160, (93, true), 887, none), (163, (197, true), 1369, none)]
theorem lk_7_8 : ml_7_8.all (ck_l RL) = true := by decide +kernel
def ml_7_9 : List (Nat × (Nat × Bool) × Nat × Option String) := [(164, (94, true), 891, none), (167, (198, true), 1373, none)]
theorem lk_7_9 : ml_7_9.all (ck_l RL) = true := by decide +kernel
