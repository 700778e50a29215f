set_option maxRecDepth 100000 in
theorem mc_82 : lw_tbl[815]? = some (.code yX4_see cX4_see 4 (some .int)) := rfl
theorem mk_83 : ck_m 83 = true := by decide +kernel
set_option maxRecDepth 100000 in
theorem mc_83 : lw_tbl[823]? = some (.code yX4_forget cX4_forget 3 (some .int)) := rfl
theorem mk_84 : ck_m 84 = true := by decide +kernel
set_option maxRecDepth 100000 in
theorem mc_84 : lw_tbl[827]? = some (.code yX4_kinds cX4_kinds 2 (some .int)) := rfl
theorem mk_85 : ck_m 85 = true := by decide +kernel
set_option maxRecDepth 100000 in
theorem mc_85 : lw_tbl[843]? = some (.code yX4_paces cX4_paces 2 (some .int)) := rfl
theorem mk_86 : ck_m 86 = true := by decide +kernel
set_option maxRecDepth 100000 in
theorem mc_86 : lw_tbl[847]? = some (.code yX4_ask cX4_ask 9 (some .int)) := rfl
theorem mk_87 : ck_m 87 = true := by decide +kernel
set_option maxRecDepth 100000 in
theorem mc_87 : lw_tbl[861]? = some (.code yX4_drift cX4_drift 7 (some .int)) := rfl
theorem mk_88 : ck_m 88 = true := by decide +kernel
set_option maxRecDepth 100000 in
theorem mc_88 : lw_tbl[866]? = some (.code yX4_keep cX4_keep 3 (some .int)) := rfl
theorem mk_89 : ck_m 89 = true := by decide +kernel
set_option maxRecDepth 100000 in
theorem mc_89 : lw_tbl[870]? = some (.code yX4_back cX4_back 2 (some .int)) := rfl
theorem mk_90 : ck_m 90 = true := by decide +kernel
set_option maxRecDepth 100000 in
theorem mc_90 : lw_tbl[874]? = some (.code yX4_sheet cX4_sheet 5 (some .int)) := rfl
theorem mk_91 : ck_m 91 = true := by decide +kernel
set_option maxRecDepth 100000 in
theorem mc_91 : lw_tbl[878]? = some (.code yX4_lay cX4_lay 4 (some .int)) := rfl
theorem mk_92 : ck_m 92 = true := by decide +kernel
set_option maxRecDepth 100000 in
theorem mc_92 : lw_tbl[885]? = some (.code yX4_read cX4_read 11 (some .int)) := rfl
theorem mk_93 : ck_m 93 = true := by decide +kernel
set_option maxRecDepth 100000 in
theorem mc_93 : lw_tbl[900]? = some (.code yX4_torn cX4_torn 1 (some .int)) := rfl
theorem mk_94 : ck_m 94 = true := by decide +kernel
set_option maxRecDepth 100000 in
theorem mc_94 : lw_tbl[904]? = some (.code yX4_count cX4_count 2 (some .int)) := rfl
theorem mk_95 : ck_m 95 = true := by decide +kernel
set_option maxRecDepth 100000 in
theorem mc_95 : lw_tbl[399]? = some (.code yX4_within cX4_within 3 (some .boolean)) := rfl
theorem mk_96 : ck_m 96 = true := by decide +kernel
set_option maxRecDepth 100000 in
theorem mc_96 : lw_tbl[589]? = some (.code yX4_tryFromNow cX4_tryFromNow 1 (none)) := rfl
theorem mk_97 : ck_m 97 = true := by decide +kernel
set_option maxRecDepth 100000 in
theorem mc_97 : lw_tbl[585]? = some (.code yX4_lookAhead cX4_lookAhead 1 (some (.object "BargeTalks$Canal"))) := rfl
theorem mk_98 : ck_m 98 = true := by decide +kernel
set_option maxRecDepth 100000 in
theorem mc_98 : lw_tbl[735]? = some (.code yX4_mostEnded cX4_mostEnded 9 (some .int)) := rfl
theorem mk_99 : ck_m 99 = true := by decide +kernel
set_option maxRecDepth 100000 in
theorem mc_99 : lw_tbl[763]? = some (.code yX4_endingsIfSwapped cX4_endingsIfSwapped 4 (some .int)) := rfl
theorem mk_100 : ck_m 100 = true := by decide +kernel
set_option maxRecDepth 100000 in
theorem mc_100 : lw_tbl[798]? = some (.code yX4_partOfFraction cX4_partOfFraction 7 (some .long)) := rfl
theorem mk_101 : ck_m 101 = true := by decide +kernel
set_option maxRecDepth 100000 in
theorem mc_101 : lw_tbl[801]? = some (.code yX4_greatestDivisor cX4_greatestDivisor 11 (some .long)) := rfl
theorem mk_102 : ck_m 102 = true := by decide +kernel
set_option maxRecDepth 100000 in
theorem mc_102 : lw_tbl[831]? = some (.code yX4_valuesAsSeen cX4_valuesAsSeen 5 (some .int)) := rfl
theorem mk_103 : ck_m 103 = true := by decide +kernel
set_option maxRecDepth 100000 in
theorem mc_103 : lw_tbl[835]? = some (.code yX4_listen cX4_listen 4 (none)) := rfl
theorem mk_104 : ck_m 104 = true := by decide +kernel
set_option maxRecDepth 100000 in
theorem mc_104 : lw_tbl[839]? = some (.code yX4_isAsSeen cX4_isAsSeen 4 (some .boolean)) := rfl
theorem mk_105 : ck_m 105 = true := by decide +kernel
set_option maxRecDepth 100000 in
theorem mc_105 : lw_tbl[857]? = some (.code yX4_leftAtWorst cX4_leftAtWorst 6 (some .int)) := rfl
theorem mk_106 : ck_m 106 = true := by decide +kernel
set_option maxRecDepth 100000 in
theorem mc_106 : lw_tbl[881]? = some (.code yX4_lowestBits cX4_lowestBits 2 (some .int)) := rfl
theorem mk_107 : ck_m 107 = true := by decide +kernel
set_option maxRecDepth 100000 in
theorem mc_107 : lw_tbl[889]? = some (.code yX4_faultOfTaking cX4_faultOfTaking 4 (some .int)) := rfl
theorem mk_108 : ck_m 108 = true := by decide +kernel
set_option maxRecDepth 100000 in
theorem mc_108 : lw_tbl[895]? = some (.code yX4_startFrom cX4_startFrom 3 (some .int)) := rfl
set_option maxRecDepth 100000 in
theorem mc_109 : lw_tbl[913]? = some (.code yX5_init cX5_init 2 (none)) := rfl
theorem mk_110 : ck_m 110 = true := by decide +kernel
set_option maxRecDepth 100000 in
theorem mc_110 : lw_tbl[1036]? = some (.code yX5_in cX5_in 6 (some .boolean)) := rfl
theorem mk_111 : ck_m 111 = true := by decide +kernel
set_option maxRecDepth 100000 in
theorem mc_111 : lw_tbl[1131]? = some (.code yX5_flag cX5_flag 1 (some .int)) := rfl
theorem mk_112 : ck_m 112 = true := by decide +kernel
set_option maxRecDepth 100000 in
theorem mc_112 : lw_tbl[1199]? = some (.code yX5_upTo cX5_upTo 2 (some .int)) := rfl
theorem mk_113 : ck_m 113 = true := by decide +kernel
set_option maxRecDepth 100000 in
theorem mc_113 : lw_tbl[918]? = some (.code yX5_firstDraft cX5_firstDraft 2 (none)) := rfl
theorem mk_114 : ck_m 114 = true := by decide +kernel
set_option maxRecDepth 100000 in
theorem mc_114 : lw_tbl[922]? = some (.code yX5_keepDraft cX5_keepDraft 2 (none)) := rfl
theorem mk_115 : ck_m 115 = true := by decide +kernel
set_option maxRecDepth 100000 in
theorem mc_115 : lw_tbl[1032]? = some (.code yX5_feed cX5_feed 2 (some .int)) := rfl
theorem mk_116 : ck_m 116 = true := by decide +kernel
set_option maxRecDepth 100000 in
theorem mc_116 : lw_tbl[1040]? = some (.code yX5_end cX5_end 3 (some .int)) := rfl
theorem mk_117 : ck_m 117 = true := by decide +kernel
set_option maxRecDepth 100000 in
theorem mc_117 : lw_tbl[1060]? = some (.code yX5_requires cX5_requires 3 (none)) := rfl
theorem mk_118 : ck_m 118 = true := by decide +kernel
set_option maxRecDepth 100000 in
theorem mc_118 : lw_tbl[1052]? = some (.code yX5_byteAt cX5_byteAt 2 (some .int)) := rfl
theorem mk_119 : ck_m 119 = true := by decide +kernel
set_option maxRecDepth 100000 in
theorem mc_119 : lw_tbl[1072]? = some (.code yX5_is cX5_is 5 (some .boolean)) := rfl
theorem mk_120 : ck_m 120 = true := by decide +kernel
set_option maxRecDepth 100000 in
theorem mc_120 : lw_tbl[1076]? = some (.code yX5_endsIn cX5_endsIn 4 (some .boolean)) := rfl
theorem mk_121 : ck_m 121 = true := by decide +kernel
set_option maxRecDepth 100000 in
theorem mc_121 : lw_tbl[1068]? = some (.code yX5_lineNow cX5_lineNow 1 (some .int)) := rfl
theorem mk_122 : ck_m 122 = true := by decide +kernel
set_option maxRecDepth 100000 in
theorem mc_122 : lw_tbl[1048]? = some (.code yX5_reads cX5_reads 2 (none)) := rfl
