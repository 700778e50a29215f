set_option maxRecDepth 100000 in
theorem mc_41 : lw_tbl[521]? = some (.code yX2_leaveOff cX2_leaveOff 1 (none)) := rfl
set_option maxRecDepth 100000 in
theorem mc_42 : lw_tbl[274]? = some (.code yX3_init cX3_init 1 (none)) := rfl
theorem mk_43 : ck_m 43 = true := by decide +kernel
set_option maxRecDepth 100000 in
theorem mc_43 : lw_tbl[411]? = some (.code yX3_readAll cX3_readAll 2 (some .int)) := rfl
theorem mk_44 : ck_m 44 = true := by decide +kernel
set_option maxRecDepth 100000 in
theorem mc_44 : lw_tbl[430]? = some (.code yX3_readLine cX3_readLine 3 (some .boolean)) := rfl
theorem mk_45 : ck_m 45 = true := by decide +kernel
set_option maxRecDepth 100000 in
theorem mc_45 : lw_tbl[434]? = some (.code yX3_lineNamed cX3_lineNamed 1 (some .int)) := rfl
theorem mk_46 : ck_m 46 = true := by decide +kernel
set_option maxRecDepth 100000 in
theorem mc_46 : lw_tbl[439]? = some (.code yX3_isNamed cX3_isNamed 3 (some .boolean)) := rfl
theorem mk_47 : ck_m 47 = true := by decide +kernel
set_option maxRecDepth 100000 in
theorem mc_47 : lw_tbl[497]? = some (.code yX3_readCut cX3_readCut 1 (some .boolean)) := rfl
theorem mk_48 : ck_m 48 = true := by decide +kernel
set_option maxRecDepth 100000 in
theorem mc_48 : lw_tbl[505]? = some (.code yX3_readMemory cX3_readMemory 1 (some .boolean)) := rfl
theorem mk_49 : ck_m 49 = true := by decide +kernel
set_option maxRecDepth 100000 in
theorem mc_49 : lw_tbl[525]? = some (.code yX3_readBarge cX3_readBarge 3 (some .boolean)) := rfl
theorem mk_50 : ck_m 50 = true := by decide +kernel
set_option maxRecDepth 100000 in
theorem mc_50 : lw_tbl[509]? = some (.code yX3_readTalk cX3_readTalk 3 (some .boolean)) := rfl
theorem mk_51 : ck_m 51 = true := by decide +kernel
set_option maxRecDepth 100000 in
theorem mc_51 : lw_tbl[501]? = some (.code yX3_readNumber cX3_readNumber 4 (some .boolean)) := rfl
theorem mk_52 : ck_m 52 = true := by decide +kernel
set_option maxRecDepth 100000 in
theorem mc_52 : lw_tbl[533]? = some (.code yX3_readStop cX3_readStop 1 (some .boolean)) := rfl
theorem mk_53 : ck_m 53 = true := by decide +kernel
set_option maxRecDepth 100000 in
theorem mc_53 : lw_tbl[537]? = some (.code yX3_finish cX3_finish 3 (none)) := rfl
theorem mk_54 : ck_m 54 = true := by decide +kernel
set_option maxRecDepth 100000 in
theorem mc_54 : lw_tbl[426]? = some (.code yX3_fail cX3_fail 2 (some .boolean)) := rfl
theorem mk_55 : ck_m 55 = true := by decide +kernel
set_option maxRecDepth 100000 in
theorem mc_55 : lw_tbl[419]? = some (.code yX3_nextToken cX3_nextToken 3 (some .boolean)) := rfl
theorem mk_56 : ck_m 56 = true := by decide +kernel
set_option maxRecDepth 100000 in
theorem mc_56 : lw_tbl[422]? = some (.code yX3_tokenBegunBy cX3_tokenBegunBy 1 (some .int)) := rfl
set_option maxRecDepth 100000 in
theorem mc_57 : lw_tbl[124]? = some (.code yX4_init cX4_init 2 (none)) := rfl
theorem mk_58 : ck_m 58 = true := by decide +kernel
set_option maxRecDepth 100000 in
theorem mc_58 : lw_tbl[396]? = some (.code yX4_feed cX4_feed 2 (some .int)) := rfl
theorem mk_59 : ck_m 59 = true := by decide +kernel
set_option maxRecDepth 100000 in
theorem mc_59 : lw_tbl[403]? = some (.code yX4_end cX4_end 3 (some .int)) := rfl
theorem mk_60 : ck_m 60 = true := by decide +kernel
set_option maxRecDepth 100000 in
theorem mc_60 : lw_tbl[407]? = some (.code yX4_text cX4_text 3 (some .int)) := rfl
theorem mk_61 : ck_m 61 = true := by decide +kernel
set_option maxRecDepth 100000 in
theorem mc_61 : lw_tbl[565]? = some (.code yX4_fault cX4_fault 1 (some .int)) := rfl
theorem mk_62 : ck_m 62 = true := by decide +kernel
set_option maxRecDepth 100000 in
theorem mc_62 : lw_tbl[569]? = some (.code yX4_rule cX4_rule 2 (some .int)) := rfl
theorem mk_63 : ck_m 63 = true := by decide +kernel
set_option maxRecDepth 100000 in
theorem mc_63 : lw_tbl[609]? = some (.code yX4_barge cX4_barge 3 (some .int)) := rfl
theorem mk_64 : ck_m 64 = true := by decide +kernel
set_option maxRecDepth 100000 in
theorem mc_64 : lw_tbl[615]? = some (.code yX4_talk cX4_talk 3 (some .int)) := rfl
theorem mk_65 : ck_m 65 = true := by decide +kernel
set_option maxRecDepth 100000 in
theorem mc_65 : lw_tbl[624]? = some (.code yX4_alter cX4_alter 4 (some .int)) := rfl
theorem mk_66 : ck_m 66 = true := by decide +kernel
set_option maxRecDepth 100000 in
theorem mc_66 : lw_tbl[644]? = some (.code yX4_memory cX4_memory 3 (some .int)) := rfl
theorem mk_67 : ck_m 67 = true := by decide +kernel
set_option maxRecDepth 100000 in
theorem mc_67 : lw_tbl[648]? = some (.code yX4_start cX4_start 4 (some .int)) := rfl
theorem mk_68 : ck_m 68 = true := by decide +kernel
set_option maxRecDepth 100000 in
theorem mc_68 : lw_tbl[653]? = some (.code yX4_cut cX4_cut 3 (some .int)) := rfl
theorem mk_69 : ck_m 69 = true := by decide +kernel
set_option maxRecDepth 100000 in
theorem mc_69 : lw_tbl[657]? = some (.code yX4_say cX4_say 4 (some .int)) := rfl
theorem mk_70 : ck_m 70 = true := by decide +kernel
set_option maxRecDepth 100000 in
theorem mc_70 : lw_tbl[673]? = some (.code yX4_hours cX4_hours 2 (some .int)) := rfl
theorem mk_71 : ck_m 71 = true := by decide +kernel
set_option maxRecDepth 100000 in
theorem mc_71 : lw_tbl[701]? = some (.code yX4_runs cX4_runs 3 (some .int)) := rfl
theorem mk_72 : ck_m 72 = true := by decide +kernel
set_option maxRecDepth 100000 in
theorem mc_72 : lw_tbl[705]? = some (.code yX4_ahead cX4_ahead 4 (some .int)) := rfl
theorem mk_73 : ck_m 73 = true := by decide +kernel
set_option maxRecDepth 100000 in
theorem mc_73 : lw_tbl[709]? = some (.code yX4_at cX4_at 3 (some .int)) := rfl
theorem mk_74 : ck_m 74 = true := by decide +kernel
set_option maxRecDepth 100000 in
theorem mc_74 : lw_tbl[717]? = some (.code yX4_when cX4_when 4 (some .int)) := rfl
theorem mk_75 : ck_m 75 = true := by decide +kernel
set_option maxRecDepth 100000 in
theorem mc_75 : lw_tbl[722]? = some (.code yX4_again cX4_again 2 (some .int)) := rfl
theorem mk_76 : ck_m 76 = true := by decide +kernel
set_option maxRecDepth 100000 in
theorem mc_76 : lw_tbl[731]? = some (.code yX4_best cX4_best 5 (some .int)) := rfl
theorem mk_77 : ck_m 77 = true := by decide +kernel
set_option maxRecDepth 100000 in
theorem mc_77 : lw_tbl[741]? = some (.code yX4_kind cX4_kind 4 (some .int)) := rfl
theorem mk_78 : ck_m 78 = true := by decide +kernel
set_option maxRecDepth 100000 in
theorem mc_78 : lw_tbl[745]? = some (.code yX4_need cX4_need 4 (some .int)) := rfl
theorem mk_79 : ck_m 79 = true := by decide +kernel
set_option maxRecDepth 100000 in
theorem mc_79 : lw_tbl[759]? = some (.code yX4_swap cX4_swap 8 (some .int)) := rfl
theorem mk_80 : ck_m 80 = true := by decide +kernel
set_option maxRecDepth 100000 in
theorem mc_80 : lw_tbl[767]? = some (.code yX4_luck cX4_luck 5 (some .long)) := rfl
theorem mk_81 : ck_m 81 = true := by decide +kernel
set_option maxRecDepth 100000 in
theorem mc_81 : lw_tbl[805]? = some (.code yX4_mean cX4_mean 7 (some .long)) := rfl
theorem mk_82 : ck_m 82 = true := by decide +kernel
