def ml_7_2 : List (Nat × (Nat × Bool) × Nat × Option String) := [(49, (66, true), 641, none), (52, (157, true), 1167, none), (53, (67, true), 645, none), (56, (158, true), 1172, none), (57, (68, true), 650, none), (60, (159, true), 1177, none), (61, (69, true), 654, none), (64, (160, true), 1181, none)]
theorem lk_7_2 : ml_7_2.all (ck_l RL) = true := by decide +kernel
def ml_7_3 : List (Nat × (Nat × Bool) × Nat × Option String) := [(65, (70, true), 670, none), (68, (162, true), 1212, none), (69, (71, true), 698, none), (72, (163, true), 1232, none), (73, (72, true), 702, none), (76, (164, true), 1236, none), (77, (73, true), 706, none), (80, (165, true), 1243, none)]
theorem lk_7_3 : ml_7_3.all (ck_l RL) = true := by decide +kernel
def ml_7_4 : List (Nat × (Nat × Bool) × Nat × Option String) := [(81, (74, true), 714, none), (84, (166, true), 1247, none), (85, (75, true), 719, none), (88, (167, true), 1251, none), (89, (76, true), 728, none), (93, (172, true), 1255, none), (94, (77, true), 738, none), (97, (173, true), 1280, none)]
theorem lk_7_4 : ml_7_4.all (ck_l RL) = true := by decide +kernel
def ml_7_5 : List (Nat × (Nat × Bool) × Nat × Option String) := [(98, (78, true), 742, none), (101, (174, true), 1284, none), (102, (79, true), 756, none), (105, (175, true), 1288, none), (106, (80, true), 764, none), (110, (179, true), 1292, none), (111, (81, true), 802, none), (115, (180, true), 1309, none)]
theorem lk_7_5 : ml_7_5.all (ck_l RL) = true := by decide +kernel
def ml_7_6 : List (Nat × (Nat × Bool) × Nat × Option String) := [(116, (82, true), 812, none), (119, (181, true), 1313, none), (120, (83, true), 820, none), (123, (182, true), 1317, none), (124, (84, true), 824, none), (127, (185, true), 1321, none), (128, (85, true), 840, none), (131, (186, true), 1333, none)]
theorem lk_7_6 : ml_7_6.all (ck_l RL) = true := by decide +kernel
def ml_7_7 : List (Nat × (Nat × Bool) × Nat × Option String) := [(132, (86, true), 844, none), (135, (188, true), 1337, none), (136, (87, true), 858, none), (139, (189, true), 1345, none), (140, (88, true), 863, none), (143, (191, true), 1350, none), (144, (89, true), 867, none), (147, (192, true), 1358, none)]
theorem lk_7_7 : ml_7_7.all (ck_l RL) = true := by decide +kernel
def ml_7_8 : List (Nat × (Nat × Bool) × Nat × Option String) := [(148, (90, true), 871, none), (151, (194, true), 1362, none), (152, (91, true), 875, none), (155, (195, true), 1369, none), (156, (92, true), 882, none), (159, (196, true), 1373, none), (160, (93, true), 897, none), (163, (197, true), 1379, none)]
theorem lk_7_8 : ml_7_8.all (ck_l RL) = true := by decide +kernel
def ml_7_9 : List (Nat × (Nat × Bool) × Nat × Option String) := [(164, (94, true), 901, none), (167, (198, true), 1383, none)]
theorem lk_7_9 : ml_7_9.all (ck_l RL) = true := by decide +kernel
