def ml_0_0 : List (Nat × (Nat × Bool) × Nat × Option String) := [(69, (34, true), 552, some "BargeTalks"), (73, (5, false), 544, none), (77, (7, false), 623, none), (81, (8, false), 627, none), (84, (33, true), 512, some "BargeTalks"), (100, (17, false), 672, none), (103, (19, false), 676, none), (106, (36, true), 677, some "BargeTalks")]
theorem lk_0_0 : ml_0_0.all (ck_l RX0) = true := by decide +kernel
def ml_0_1 : List (Nat × (Nat × Bool) × Nat × Option String) := [(115, (18, false), 678, none), (119, (38, true), 682, some "BargeTalks"), (122, (6, false), 592, none), (125, (20, false), 596, none), (138, (35, true), 568, some "BargeTalks")]
theorem lk_0_1 : ml_0_1.all (ck_l RX0) = true := by decide +kernel
def ml_1_0 : List (Nat × (Nat × Bool) × Nat × Option String) := [(36, (34, true), 763, some "BargeTalks"), (72, (19, true), 765, some "BargeTalks"), (75, (18, true), 766, some "BargeTalks"), (82, (36, true), 779, some "BargeTalks"), (86, (38, true), 780, some "BargeTalks"), (90, (28, false), 771, none), (94, (29, false), 775, none), (98, (30, false), 781, none)]
theorem lk_1_0 : ml_1_0.all (ck_l RX1) = true := by decide +kernel
def ml_1_1 : List (Nat × (Nat × Bool) × Nat × Option String) := [(105, (31, false), 800, none), (108, (26, false), 801, none)]
theorem lk_1_1 : ml_1_1.all (ck_l RX1) = true := by decide +kernel
def ml_2_0 : List (Nat × (Nat × Bool) × Nat × Option String) := [(33, (41, false), 516, none), (46, (36, false), 572, none), (50, (37, false), 686, none), (54, (39, false), 687, none), (58, (40, false), 688, none)]
theorem lk_2_0 : ml_2_0.all (ck_l RX2) = true := by decide +kernel
def ml_3_0 : List (Nat × (Nat × Bool) × Nat × Option String) := [(22, (1, true), 410, some "BargeTalks"), (45, (55, false), 414, none), (52, (44, false), 425, none), (55, (53, false), 532, none), (58, (45, false), 429, none), (62, (54, false), 421, none), (66, (47, false), 492, none), (69, (48, false), 500, none)]
theorem lk_3_0 : ml_3_0.all (ck_l RX3) = true := by decide +kernel
def ml_3_1 : List (Nat × (Nat × Bool) × Nat × Option String) := [(72, (50, false), 504, none), (75, (49, false), 520, none), (78, (52, false), 528, none), (83, (46, false), 434, none), (110, (51, false), 496, none), (124, (11, true), 524, some "BargeTalks"), (131, (12, true), 508, some "BargeTalks"), (143, (3, true), 536, some "BargeTalks")]
theorem lk_3_1 : ml_3_1.all (ck_l RX3) = true := by decide +kernel
def ml_3_2 : List (Nat × (Nat × Bool) × Nat × Option String) := [(149, (14, true), 540, some "BargeTalks"), (152, (56, false), 418, none)]
theorem lk_3_2 : ml_3_2.all (ck_l RX3) = true := by decide +kernel
