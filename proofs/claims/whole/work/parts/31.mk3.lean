theorem mk_123 : ck_m 123 = true := by decide +kernel
set_option maxRecDepth 100000 in
theorem mc_123 : lw_tbl[1084]? = some (.code yX5_readNumber cX5_readNumber 5 (some .int)) := rfl
theorem mk_124 : ck_m 124 = true := by decide +kernel
set_option maxRecDepth 100000 in
theorem mc_124 : lw_tbl[1088]? = some (.code yX5_readTalk cX5_readTalk 2 (none)) := rfl
theorem mk_125 : ck_m 125 = true := by decide +kernel
set_option maxRecDepth 100000 in
theorem mc_125 : lw_tbl[1092]? = some (.code yX5_readBarge cX5_readBarge 3 (none)) := rfl
theorem mk_126 : ck_m 126 = true := by decide +kernel
set_option maxRecDepth 100000 in
theorem mc_126 : lw_tbl[1080]? = some (.code yX5_readLineOf cX5_readLineOf 2 (none)) := rfl
theorem mk_127 : ck_m 127 = true := by decide +kernel
set_option maxRecDepth 100000 in
theorem mc_127 : lw_tbl[1064]? = some (.code yX5_readLine cX5_readLine 2 (none)) := rfl
theorem mk_128 : ck_m 128 = true := by decide +kernel
set_option maxRecDepth 100000 in
theorem mc_128 : lw_tbl[1044]? = some (.code yX5_text cX5_text 2 (some .int)) := rfl
theorem mk_129 : ck_m 129 = true := by decide +kernel
set_option maxRecDepth 100000 in
theorem mc_129 : lw_tbl[1096]? = some (.code yX5_fault cX5_fault 1 (some .int)) := rfl
theorem mk_130 : ck_m 130 = true := by decide +kernel
set_option maxRecDepth 100000 in
theorem mc_130 : lw_tbl[1139]? = some (.code yX5_isBarge cX5_isBarge 2 (some .boolean)) := rfl
theorem mk_131 : ck_m 131 = true := by decide +kernel
set_option maxRecDepth 100000 in
theorem mc_131 : lw_tbl[1148]? = some (.code yX5_isTalk cX5_isTalk 2 (some .boolean)) := rfl
theorem mk_132 : ck_m 132 = true := by decide +kernel
set_option maxRecDepth 100000 in
theorem mc_132 : lw_tbl[1242]? = some (.code yX5_isPart cX5_isPart 1 (some .boolean)) := rfl
theorem mk_133 : ck_m 133 = true := by decide +kernel
set_option maxRecDepth 100000 in
theorem mc_133 : lw_tbl[1112]? = some (.code yX5_starts cX5_starts 2 (none)) := rfl
theorem mk_134 : ck_m 134 = true := by decide +kernel
set_option maxRecDepth 100000 in
theorem mc_134 : lw_tbl[1211]? = some (.code yX5_settles cX5_settles 2 (none)) := rfl
theorem mk_135 : ck_m 135 = true := by decide +kernel
set_option maxRecDepth 100000 in
theorem mc_135 : lw_tbl[1124]? = some (.code yX5_of cX5_of 3 (some .int)) := rfl
theorem mk_136 : ck_m 136 = true := by decide +kernel
set_option maxRecDepth 100000 in
theorem mc_136 : lw_tbl[1152]? = some (.code yX5_ofTalk cX5_ofTalk 3 (some .int)) := rfl
theorem mk_137 : ck_m 137 = true := by decide +kernel
set_option maxRecDepth 100000 in
theorem mc_137 : lw_tbl[1192]? = some (.code yX5_talkBecomes cX5_talkBecomes 4 (none)) := rfl
theorem mk_138 : ck_m 138 = true := by decide +kernel
set_option maxRecDepth 100000 in
theorem mc_138 : lw_tbl[1120]? = some (.code yX5_placeOf cX5_placeOf 3 (some .int)) := rfl
theorem mk_139 : ck_m 139 = true := by decide +kernel
set_option maxRecDepth 100000 in
theorem mc_139 : lw_tbl[1128]? = some (.code yX5_doMeet cX5_doMeet 5 (some .boolean)) := rfl
theorem mk_140 : ck_m 140 = true := by decide +kernel
set_option maxRecDepth 100000 in
theorem mc_140 : lw_tbl[1116]? = some (.code yX5_bargesGo cX5_bargesGo 5 (none)) := rfl
theorem mk_141 : ck_m 141 = true := by decide +kernel
set_option maxRecDepth 100000 in
theorem mc_141 : lw_tbl[1156]? = some (.code yX5_speaker cX5_speaker 2 (some .int)) := rfl
theorem mk_142 : ck_m 142 = true := by decide +kernel
set_option maxRecDepth 100000 in
theorem mc_142 : lw_tbl[1188]? = some (.code yX5_words cX5_words 4 (some .int)) := rfl
theorem mk_143 : ck_m 143 = true := by decide +kernel
set_option maxRecDepth 100000 in
theorem mc_143 : lw_tbl[1207]? = some (.code yX5_begins cX5_begins 2 (none)) := rfl
theorem mk_144 : ck_m 144 = true := by decide +kernel
set_option maxRecDepth 100000 in
theorem mc_144 : lw_tbl[1196]? = some (.code yX5_says cX5_says 3 (none)) := rfl
theorem mk_145 : ck_m 145 = true := by decide +kernel
set_option maxRecDepth 100000 in
theorem mc_145 : lw_tbl[1203]? = some (.code yX5_mayEnd cX5_mayEnd 2 (none)) := rfl
theorem mk_146 : ck_m 146 = true := by decide +kernel
set_option maxRecDepth 100000 in
theorem mc_146 : lw_tbl[1231]? = some (.code yX5_talkGoes cX5_talkGoes 3 (none)) := rfl
theorem mk_147 : ck_m 147 = true := by decide +kernel
set_option maxRecDepth 100000 in
theorem mc_147 : lw_tbl[1227]? = some (.code yX5_hourGoes cX5_hourGoes 3 (none)) := rfl
theorem mk_148 : ck_m 148 = true := by decide +kernel
set_option maxRecDepth 100000 in
theorem mc_148 : lw_tbl[1223]? = some (.code yX5_hoursGo cX5_hoursGo 3 (none)) := rfl
theorem mk_149 : ck_m 149 = true := by decide +kernel
set_option maxRecDepth 100000 in
theorem mc_149 : lw_tbl[1271]? = some (.code yX5_endsIn0 cX5_endsIn0 2 (some .int)) := rfl
theorem mk_150 : ck_m 150 = true := by decide +kernel
set_option maxRecDepth 100000 in
theorem mc_150 : lw_tbl[1104]? = some (.code yX5_sumOfTalks cX5_sumOfTalks 4 (some .int)) := rfl
theorem mk_151 : ck_m 151 = true := by decide +kernel
set_option maxRecDepth 100000 in
theorem mc_151 : lw_tbl[1108]? = some (.code yX5_pairsNow cX5_pairsNow 1 (some .int)) := rfl
theorem mk_152 : ck_m 152 = true := by decide +kernel
set_option maxRecDepth 100000 in
theorem mc_152 : lw_tbl[1100]? = some (.code yX5_rule cX5_rule 2 (some .int)) := rfl
theorem mk_153 : ck_m 153 = true := by decide +kernel
set_option maxRecDepth 100000 in
theorem mc_153 : lw_tbl[1135]? = some (.code yX5_barge cX5_barge 3 (some .int)) := rfl
theorem mk_154 : ck_m 154 = true := by decide +kernel
set_option maxRecDepth 100000 in
theorem mc_154 : lw_tbl[1144]? = some (.code yX5_talk cX5_talk 3 (some .int)) := rfl
theorem mk_155 : ck_m 155 = true := by decide +kernel
set_option maxRecDepth 100000 in
theorem mc_155 : lw_tbl[1166]? = some (.code yX5_becomes cX5_becomes 4 (some .int)) := rfl
theorem mk_156 : ck_m 156 = true := by decide +kernel
set_option maxRecDepth 100000 in
theorem mc_156 : lw_tbl[1160]? = some (.code yX5_alter cX5_alter 5 (some .int)) := rfl
theorem mk_157 : ck_m 157 = true := by decide +kernel
set_option maxRecDepth 100000 in
theorem mc_157 : lw_tbl[1170]? = some (.code yX5_memory cX5_memory 2 (some .int)) := rfl
theorem mk_158 : ck_m 158 = true := by decide +kernel
set_option maxRecDepth 100000 in
theorem mc_158 : lw_tbl[1175]? = some (.code yX5_start cX5_start 6 (some .int)) := rfl
theorem mk_159 : ck_m 159 = true := by decide +kernel
set_option maxRecDepth 100000 in
theorem mc_159 : lw_tbl[1180]? = some (.code yX5_cut cX5_cut 2 (some .int)) := rfl
theorem mk_160 : ck_m 160 = true := by decide +kernel
set_option maxRecDepth 100000 in
theorem mc_160 : lw_tbl[1184]? = some (.code yX5_say cX5_say 3 (some .int)) := rfl
theorem mk_161 : ck_m 161 = true := by decide +kernel
set_option maxRecDepth 100000 in
theorem mc_161 : lw_tbl[1218]? = some (.code yX5_isFar cX5_isFar 1 (some .boolean)) := rfl
theorem mk_162 : ck_m 162 = true := by decide +kernel
set_option maxRecDepth 100000 in
theorem mc_162 : lw_tbl[1215]? = some (.code yX5_hours cX5_hours 2 (some .int)) := rfl
