set_option maxRecDepth 100000 in
theorem mc_0 : lw_tbl[132]? = some (.code yX0_init cX0_init 2 (none)) := rfl
theorem mk_1 : ck_m 1 = true := by decide +kernel
set_option maxRecDepth 100000 in
theorem mc_1 : lw_tbl[415]? = some (.code yX0_empty cX0_empty 1 (none)) := rfl
theorem mk_2 : ck_m 2 = true := by decide +kernel
set_option maxRecDepth 100000 in
theorem mc_2 : lw_tbl[557]? = some (.code yX0_copy cX0_copy 3 (none)) := rfl
theorem mk_3 : ck_m 3 = true := by decide +kernel
set_option maxRecDepth 100000 in
theorem mc_3 : lw_tbl[541]? = some (.code yX0_hasBarge cX0_hasBarge 2 (some .boolean)) := rfl
theorem mk_4 : ck_m 4 = true := by decide +kernel
set_option maxRecDepth 100000 in
theorem mc_4 : lw_tbl[619]? = some (.code yX0_hasTalk cX0_hasTalk 2 (some .boolean)) := rfl
theorem mk_5 : ck_m 5 = true := by decide +kernel
set_option maxRecDepth 100000 in
theorem mc_5 : lw_tbl[553]? = some (.code yX0_wayRound cX0_wayRound 1 (some .int)) := rfl
theorem mk_6 : ck_m 6 = true := by decide +kernel
set_option maxRecDepth 100000 in
theorem mc_6 : lw_tbl[601]? = some (.code yX0_placeOf cX0_placeOf 2 (some .int)) := rfl
theorem mk_7 : ck_m 7 = true := by decide +kernel
set_option maxRecDepth 100000 in
theorem mc_7 : lw_tbl[632]? = some (.code yX0_least cX0_least 2 (some .int)) := rfl
theorem mk_8 : ck_m 8 = true := by decide +kernel
set_option maxRecDepth 100000 in
theorem mc_8 : lw_tbl[636]? = some (.code yX0_most cX0_most 2 (some .int)) := rfl
theorem mk_9 : ck_m 9 = true := by decide +kernel
set_option maxRecDepth 100000 in
theorem mc_9 : lw_tbl[628]? = some (.code yX0_mayBe cX0_mayBe 3 (some .boolean)) := rfl
theorem mk_10 : ck_m 10 = true := by decide +kernel
set_option maxRecDepth 100000 in
theorem mc_10 : lw_tbl[640]? = some (.code yX0_put cX0_put 6 (some .int)) := rfl
theorem mk_11 : ck_m 11 = true := by decide +kernel
set_option maxRecDepth 100000 in
theorem mc_11 : lw_tbl[529]? = some (.code yX0_addBarge cX0_addBarge 4 (none)) := rfl
theorem mk_12 : ck_m 12 = true := by decide +kernel
set_option maxRecDepth 100000 in
theorem mc_12 : lw_tbl[513]? = some (.code yX0_addTalk cX0_addTalk 4 (none)) := rfl
theorem mk_13 : ck_m 13 = true := by decide +kernel
set_option maxRecDepth 100000 in
theorem mc_13 : lw_tbl[819]? = some (.code yX0_addSeen cX0_addSeen 4 (none)) := rfl
theorem mk_14 : ck_m 14 = true := by decide +kernel
set_option maxRecDepth 100000 in
theorem mc_14 : lw_tbl[545]? = some (.code yX0_bringPhasesHome cX0_bringPhasesHome 2 (none)) := rfl
theorem mk_15 : ck_m 15 = true := by decide +kernel
set_option maxRecDepth 100000 in
theorem mc_15 : lw_tbl[593]? = some (.code yX0_clearCounts cX0_clearCounts 2 (none)) := rfl
theorem mk_16 : ck_m 16 = true := by decide +kernel
set_option maxRecDepth 100000 in
theorem mc_16 : lw_tbl[677]? = some (.code yX0_passHours cX0_passHours 3 (none)) := rfl
theorem mk_17 : ck_m 17 = true := by decide +kernel
set_option maxRecDepth 100000 in
theorem mc_17 : lw_tbl[681]? = some (.code yX0_passHour cX0_passHour 4 (none)) := rfl
theorem mk_18 : ck_m 18 = true := by decide +kernel
set_option maxRecDepth 100000 in
theorem mc_18 : lw_tbl[687]? = some (.code yX0_doMeet cX0_doMeet 3 (some .boolean)) := rfl
theorem mk_19 : ck_m 19 = true := by decide +kernel
set_option maxRecDepth 100000 in
theorem mc_19 : lw_tbl[597]? = some (.code yX0_move cX0_move 3 (none)) := rfl
theorem mk_20 : ck_m 20 = true := by decide +kernel
set_option maxRecDepth 100000 in
theorem mc_20 : lw_tbl[605]? = some (.code yX0_noteWhetherMet cX0_noteWhetherMet 6 (none)) := rfl
theorem mk_21 : ck_m 21 = true := by decide +kernel
set_option maxRecDepth 100000 in
theorem mc_21 : lw_tbl[726]? = some (.code yX0_allBackBehind cX0_allBackBehind 3 (some .boolean)) := rfl
theorem mk_22 : ck_m 22 = true := by decide +kernel
set_option maxRecDepth 100000 in
theorem mc_22 : lw_tbl[751]? = some (.code yX0_longestSilence cX0_longestSilence 3 (some .int)) := rfl
theorem mk_23 : ck_m 23 = true := by decide +kernel
set_option maxRecDepth 100000 in
theorem mc_23 : lw_tbl[573]? = some (.code yX0_sumOfTalks cX0_sumOfTalks 4 (some .int)) := rfl
theorem mk_24 : ck_m 24 = true := by decide +kernel
set_option maxRecDepth 100000 in
theorem mc_24 : lw_tbl[908]? = some (.code yX0_pacesOfAll cX0_pacesOfAll 3 (some .int)) := rfl
set_option maxRecDepth 100000 in
theorem mc_25 : lw_tbl[322]? = some (.code yX1_init cX1_init 2 (none)) := rfl
theorem mk_26 : ck_m 26 = true := by decide +kernel
set_option maxRecDepth 100000 in
theorem mc_26 : lw_tbl[794]? = some (.code yX1_allWays cX1_allWays 4 (some .long)) := rfl
theorem mk_27 : ck_m 27 = true := by decide +kernel
set_option maxRecDepth 100000 in
theorem mc_27 : lw_tbl[772]? = some (.code yX1_watch cX1_watch 7 (none)) := rfl
theorem mk_28 : ck_m 28 = true := by decide +kernel
set_option maxRecDepth 100000 in
theorem mc_28 : lw_tbl[784]? = some (.code yX1_tenthsApart cX1_tenthsApart 2 (some .int)) := rfl
theorem mk_29 : ck_m 29 = true := by decide +kernel
set_option maxRecDepth 100000 in
theorem mc_29 : lw_tbl[788]? = some (.code yX1_pass cX1_pass 7 (some .int)) := rfl
theorem mk_30 : ck_m 30 = true := by decide +kernel
set_option maxRecDepth 100000 in
theorem mc_30 : lw_tbl[780]? = some (.code yX1_waysWithoutEnd cX1_waysWithoutEnd 5 (some .long)) := rfl
theorem mk_31 : ck_m 31 = true := by decide +kernel
set_option maxRecDepth 100000 in
theorem mc_31 : lw_tbl[809]? = some (.code yX1_wordsInAllWays cX1_wordsInAllWays 7 (some .long)) := rfl
set_option maxRecDepth 100000 in
theorem mc_32 : lw_tbl[139]? = some (.code yX2_init cX2_init 1 (none)) := rfl
theorem mk_33 : ck_m 33 = true := by decide +kernel
set_option maxRecDepth 100000 in
theorem mc_33 : lw_tbl[517]? = some (.code yX2_begin cX2_begin 4 (none)) := rfl
theorem mk_34 : ck_m 34 = true := by decide +kernel
set_option maxRecDepth 100000 in
theorem mc_34 : lw_tbl[561]? = some (.code yX2_copy cX2_copy 2 (none)) := rfl
theorem mk_35 : ck_m 35 = true := by decide +kernel
set_option maxRecDepth 100000 in
theorem mc_35 : lw_tbl[577]? = some (.code yX2_tell cX2_tell 2 (some .int)) := rfl
theorem mk_36 : ck_m 36 = true := by decide +kernel
set_option maxRecDepth 100000 in
theorem mc_36 : lw_tbl[581]? = some (.code yX2_turn cX2_turn 1 (some .int)) := rfl
theorem mk_37 : ck_m 37 = true := by decide +kernel
set_option maxRecDepth 100000 in
theorem mc_37 : lw_tbl[662]? = some (.code yX2_wordsOf cX2_wordsOf 3 (some .int)) := rfl
theorem mk_38 : ck_m 38 = true := by decide +kernel
set_option maxRecDepth 100000 in
theorem mc_38 : lw_tbl[691]? = some (.code yX2_passHour cX2_passHour 6 (some .int)) := rfl
theorem mk_39 : ck_m 39 = true := by decide +kernel
set_option maxRecDepth 100000 in
theorem mc_39 : lw_tbl[666]? = some (.code yX2_goOn cX2_goOn 2 (none)) := rfl
theorem mk_40 : ck_m 40 = true := by decide +kernel
set_option maxRecDepth 100000 in
theorem mc_40 : lw_tbl[697]? = some (.code yX2_fallSilent cX2_fallSilent 2 (none)) := rfl
theorem mk_41 : ck_m 41 = true := by decide +kernel
