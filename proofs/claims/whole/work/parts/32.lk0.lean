def ml_0_0 : List (Nat × (Nat × Bool) × Nat × Option String) := [(69, (34, true), 558, some "BargeTalks"), (73, (5, false), 550, none), (77, (200, false), 546, none), (81, (7, false), 629, none), (84, (8, false), 633, none), (87, (33, true), 514, some "BargeTalks"), (103, (17, false), 678, none), (106, (19, false), 682, none)]
theorem lk_0_0 : ml_0_0.all (ck_l RX0) = true := by decide +kernel
def ml_0_1 : List (Nat × (Nat × Bool) × Nat × Option String) := [(109, (36, true), 683, some "BargeTalks"), (118, (18, false), 684, none), (122, (38, true), 688, some "BargeTalks"), (125, (6, false), 598, none), (128, (20, false), 602, none), (132, (201, false), 727, none), (144, (35, true), 574, some "BargeTalks")]
theorem lk_0_1 : ml_0_1.all (ck_l RX0) = true := by decide +kernel
def ml_1_0 : List (Nat × (Nat × Bool) × Nat × Option String) := [(36, (34, true), 773, some "BargeTalks"), (72, (19, true), 775, some "BargeTalks"), (75, (18, true), 776, some "BargeTalks"), (82, (36, true), 789, some "BargeTalks"), (86, (38, true), 790, some "BargeTalks"), (90, (28, false), 781, none), (94, (29, false), 785, none), (98, (30, false), 791, none)]
theorem lk_1_0 : ml_1_0.all (ck_l RX1) = true := by decide +kernel
def ml_1_1 : List (Nat × (Nat × Bool) × Nat × Option String) := [(105, (31, false), 810, none), (108, (26, false), 811, none)]
theorem lk_1_1 : ml_1_1.all (ck_l RX1) = true := by decide +kernel
def ml_2_0 : List (Nat × (Nat × Bool) × Nat × Option String) := [(33, (41, false), 518, none), (46, (36, false), 578, none), (50, (37, false), 692, none), (54, (39, false), 693, none), (58, (40, false), 694, none)]
theorem lk_2_0 : ml_2_0.all (ck_l RX2) = true := by decide +kernel
def ml_3_0 : List (Nat × (Nat × Bool) × Nat × Option String) := [(22, (1, true), 412, some "BargeTalks"), (45, (55, false), 416, none), (52, (44, false), 427, none), (55, (53, false), 534, none), (58, (45, false), 431, none), (62, (54, false), 423, none), (66, (47, false), 494, none), (69, (48, false), 502, none)]
theorem lk_3_0 : ml_3_0.all (ck_l RX3) = true := by decide +kernel
def ml_3_1 : List (Nat × (Nat × Bool) × Nat × Option String) := [(72, (50, false), 506, none), (75, (49, false), 522, none), (78, (52, false), 530, none), (83, (46, false), 436, none), (110, (51, false), 498, none), (124, (11, true), 526, some "BargeTalks"), (131, (12, true), 510, some "BargeTalks"), (143, (3, true), 538, some "BargeTalks")]
theorem lk_3_1 : ml_3_1.all (ck_l RX3) = true := by decide +kernel
def ml_3_2 : List (Nat × (Nat × Bool) × Nat × Option String) := [(149, (14, true), 542, some "BargeTalks"), (152, (56, false), 420, none)]
theorem lk_3_2 : ml_3_2.all (ck_l RX3) = true := by decide +kernel
