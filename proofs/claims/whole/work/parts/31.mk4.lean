theorem mk_163 : ck_m 163 = true := by decide +kernel
set_option maxRecDepth 100000 in
theorem mc_163 : lw_tbl[1235]? = some (.code yX5_runs cX5_runs 3 (some .int)) := rfl
theorem mk_164 : ck_m 164 = true := by decide +kernel
set_option maxRecDepth 100000 in
theorem mc_164 : lw_tbl[1239]? = some (.code yX5_ahead cX5_ahead 4 (some .int)) := rfl
theorem mk_165 : ck_m 165 = true := by decide +kernel
set_option maxRecDepth 100000 in
theorem mc_165 : lw_tbl[1246]? = some (.code yX5_at cX5_at 3 (some .int)) := rfl
theorem mk_166 : ck_m 166 = true := by decide +kernel
set_option maxRecDepth 100000 in
theorem mc_166 : lw_tbl[1250]? = some (.code yX5_when cX5_when 4 (some .int)) := rfl
theorem mk_167 : ck_m 167 = true := by decide +kernel
set_option maxRecDepth 100000 in
theorem mc_167 : lw_tbl[1254]? = some (.code yX5_again cX5_again 4 (some .int)) := rfl
theorem mk_168 : ck_m 168 = true := by decide +kernel
set_option maxRecDepth 100000 in
theorem mc_168 : lw_tbl[1267]? = some (.code yX5_startsJudging cX5_startsJudging 2 (none)) := rfl
theorem mk_169 : ck_m 169 = true := by decide +kernel
set_option maxRecDepth 100000 in
theorem mc_169 : lw_tbl[1275]? = some (.code yX5_judges cX5_judges 3 (none)) := rfl
theorem mk_170 : ck_m 170 = true := by decide +kernel
set_option maxRecDepth 100000 in
theorem mc_170 : lw_tbl[1279]? = some (.code yX5_judged cX5_judged 2 (some .int)) := rfl
theorem mk_171 : ck_m 171 = true := by decide +kernel
set_option maxRecDepth 100000 in
theorem mc_171 : lw_tbl[1263]? = some (.code yX5_bestOf cX5_bestOf 8 (some .int)) := rfl
theorem mk_172 : ck_m 172 = true := by decide +kernel
set_option maxRecDepth 100000 in
theorem mc_172 : lw_tbl[1258]? = some (.code yX5_best cX5_best 5 (some .int)) := rfl
theorem mk_173 : ck_m 173 = true := by decide +kernel
set_option maxRecDepth 100000 in
theorem mc_173 : lw_tbl[1283]? = some (.code yX5_kind cX5_kind 4 (some .int)) := rfl
theorem mk_174 : ck_m 174 = true := by decide +kernel
set_option maxRecDepth 100000 in
theorem mc_174 : lw_tbl[1287]? = some (.code yX5_need cX5_need 3 (some .int)) := rfl
theorem mk_175 : ck_m 175 = true := by decide +kernel
set_option maxRecDepth 100000 in
theorem mc_175 : lw_tbl[1291]? = some (.code yX5_swap cX5_swap 5 (some .int)) := rfl
theorem mk_176 : ck_m 176 = true := by decide +kernel
set_option maxRecDepth 100000 in
theorem mc_176 : lw_tbl[1308]? = some (.code yX5_common cX5_common 10 (some .long)) := rfl
theorem mk_177 : ck_m 177 = true := by decide +kernel
set_option maxRecDepth 100000 in
theorem mc_177 : lw_tbl[1305]? = some (.code yX5_lowest cX5_lowest 7 (some .long)) := rfl
theorem mk_178 : ck_m 178 = true := by decide +kernel
set_option maxRecDepth 100000 in
theorem mc_178 : lw_tbl[1302]? = some (.code yX5_findOdds cX5_findOdds 9 (none)) := rfl
theorem mk_179 : ck_m 179 = true := by decide +kernel
set_option maxRecDepth 100000 in
theorem mc_179 : lw_tbl[1295]? = some (.code yX5_luck cX5_luck 5 (some .long)) := rfl
theorem mk_180 : ck_m 180 = true := by decide +kernel
set_option maxRecDepth 100000 in
theorem mc_180 : lw_tbl[1312]? = some (.code yX5_mean cX5_mean 4 (some .long)) := rfl
theorem mk_181 : ck_m 181 = true := by decide +kernel
set_option maxRecDepth 100000 in
theorem mc_181 : lw_tbl[1316]? = some (.code yX5_see cX5_see 5 (some .int)) := rfl
theorem mk_182 : ck_m 182 = true := by decide +kernel
set_option maxRecDepth 100000 in
theorem mc_182 : lw_tbl[1320]? = some (.code yX5_forget cX5_forget 2 (some .int)) := rfl
theorem mk_183 : ck_m 183 = true := by decide +kernel
set_option maxRecDepth 100000 in
theorem mc_183 : lw_tbl[1332]? = some (.code yX5_isSoWith cX5_isSoWith 7 (some .boolean)) := rfl
theorem mk_184 : ck_m 184 = true := by decide +kernel
set_option maxRecDepth 100000 in
theorem mc_184 : lw_tbl[1328]? = some (.code yX5_which cX5_which 7 (some .int)) := rfl
theorem mk_185 : ck_m 185 = true := by decide +kernel
set_option maxRecDepth 100000 in
theorem mc_185 : lw_tbl[1324]? = some (.code yX5_kinds cX5_kinds 2 (some .int)) := rfl
theorem mk_186 : ck_m 186 = true := by decide +kernel
set_option maxRecDepth 100000 in
theorem mc_186 : lw_tbl[1336]? = some (.code yX5_paces cX5_paces 2 (some .int)) := rfl
theorem mk_187 : ck_m 187 = true := by decide +kernel
set_option maxRecDepth 100000 in
theorem mc_187 : lw_tbl[1344]? = some (.code yX5_worstAt cX5_worstAt 7 (some .int)) := rfl
theorem mk_188 : ck_m 188 = true := by decide +kernel
set_option maxRecDepth 100000 in
theorem mc_188 : lw_tbl[1340]? = some (.code yX5_ask cX5_ask 6 (some .int)) := rfl
theorem mk_189 : ck_m 189 = true := by decide +kernel
set_option maxRecDepth 100000 in
theorem mc_189 : lw_tbl[1348]? = some (.code yX5_drift cX5_drift 7 (some .int)) := rfl
theorem mk_190 : ck_m 190 = true := by decide +kernel
set_option maxRecDepth 100000 in
theorem mc_190 : lw_tbl[1357]? = some (.code yX5_copies cX5_copies 4 (none)) := rfl
theorem mk_191 : ck_m 191 = true := by decide +kernel
set_option maxRecDepth 100000 in
theorem mc_191 : lw_tbl[1353]? = some (.code yX5_keep cX5_keep 3 (some .int)) := rfl
theorem mk_192 : ck_m 192 = true := by decide +kernel
set_option maxRecDepth 100000 in
theorem mc_192 : lw_tbl[1361]? = some (.code yX5_back cX5_back 2 (some .int)) := rfl
theorem mk_193 : ck_m 193 = true := by decide +kernel
set_option maxRecDepth 100000 in
theorem mc_193 : lw_tbl[1368]? = some (.code yX5_isSheet cX5_isSheet 2 (some .boolean)) := rfl
theorem mk_194 : ck_m 194 = true := by decide +kernel
set_option maxRecDepth 100000 in
theorem mc_194 : lw_tbl[1365]? = some (.code yX5_sheet cX5_sheet 5 (some .int)) := rfl
theorem mk_195 : ck_m 195 = true := by decide +kernel
set_option maxRecDepth 100000 in
theorem mc_195 : lw_tbl[1372]? = some (.code yX5_lay cX5_lay 4 (some .int)) := rfl
theorem mk_196 : ck_m 196 = true := by decide +kernel
set_option maxRecDepth 100000 in
theorem mc_196 : lw_tbl[1376]? = some (.code yX5_read cX5_read 11 (some .int)) := rfl
theorem mk_197 : ck_m 197 = true := by decide +kernel
set_option maxRecDepth 100000 in
theorem mc_197 : lw_tbl[1382]? = some (.code yX5_torn cX5_torn 1 (some .int)) := rfl
theorem mk_198 : ck_m 198 = true := by decide +kernel
set_option maxRecDepth 100000 in
theorem mc_198 : lw_tbl[1386]? = some (.code yX5_count cX5_count 4 (some .int)) := rfl
theorem mk_199 : ck_m 199 = true := by decide +kernel
set_option maxRecDepth 100000 in
theorem mc_199 : lw_tbl[850]? = some (.code yJ6_bitCount_0f7a4 cJ6_bitCount_0f7a4 1 (some .int)) := rfl
theorem mk_200 : ck_m 200 = true := by decide +kernel
set_option maxRecDepth 100000 in
theorem mc_200 : lw_tbl[549]? = some (.code yX0_onWayRound cX0_onWayRound 3 (some .int)) := rfl
theorem mk_201 : ck_m 201 = true := by decide +kernel
set_option maxRecDepth 100000 in
theorem mc_201 : lw_tbl[713]? = some (.code yX0_phaseBehind cX0_phaseBehind 3 (some .int)) := rfl
