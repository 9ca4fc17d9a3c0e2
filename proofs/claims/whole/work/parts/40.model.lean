set_option maxRecDepth 20000 in
theorem m_1126 : Cond.fieldLink R_Mo 197 R_Mo "thrown" "I" ∈ gG := gG_in (List.mem_append_right _ (List.mem_of_getElem? (i := 1126) (by decide +kernel))) rfl
set_option maxRecDepth 20000 in
theorem m_1116 : Cond.fieldLink R_Mo 107 R_Mo "tape" "LEquationTextModel$Numbers;" ∈ gG := gG_in (List.mem_append_right _ (List.mem_of_getElem? (i := 1116) (by decide +kernel))) rfl
set_option maxRecDepth 20000 in
theorem m_1244 : Cond.methodLink R_Mo 200 y_Nm_add ∈ gG := gG_in (List.mem_append_right _ (List.mem_of_getElem? (i := 1244) (by decide +kernel))) rfl
set_option maxRecDepth 20000 in
theorem mn_13 : Cond.fieldLinkNest R_Mo 204 R_Nm "size" "I" R_Mo ∈ gNest := List.mem_of_getElem? (i := 13) rfl
set_option maxRecDepth 20000 in
theorem m_1239 : Cond.constant R_Mo 207 65536 ∈ gG := gG_in (List.mem_append_right _ (List.mem_of_getElem? (i := 1239) (by decide +kernel))) rfl
set_option maxRecDepth 20000 in
theorem mc_Mo_feedFour : Cond.code y_Mo_feedFour prog_12_method_4_code 3 (Option.none : Option Jvm.ClassFile.FieldType) ∈ gG := gG_in (List.mem_append_right _ (List.mem_of_getElem? (i := 1243) rfl)) rfl
set_option maxRecDepth 20000 in
theorem m_1240 : Cond.methodLink R_Mo 208 y_Mo_feedFour ∈ gG := gG_in (List.mem_append_right _ (List.mem_of_getElem? (i := 1240) (by decide +kernel))) rfl
set_option maxRecDepth 20000 in
theorem m_1242 : Cond.instanceMethod y_Mo_feedFour ∈ gG := gG_in (List.mem_append_right _ (List.mem_of_getElem? (i := 1242) (by decide +kernel))) rfl
set_option maxRecDepth 20000 in
theorem ms_94 : Cond.selects R_Mo y_Mo_feedFour y_Mo_feedFour ∈ gG := gG_in (List.mem_append_left _ (List.mem_of_getElem? (i := 94) (by decide +kernel))) rfl
set_option maxRecDepth 20000 in
theorem m_9 : Cond.initialized R_Mo ∈ gG := gG_in (List.mem_append_right _ (List.mem_of_getElem? (i := 9) (by decide +kernel))) rfl
set_option maxRecDepth 20000 in
theorem mc_Nm_drop : Cond.code y_Nm_drop prog_13_method_5_code 2 (Option.none : Option Jvm.ClassFile.FieldType) ∈ gG := gG_in (List.mem_append_right _ (List.mem_of_getElem? (i := 1255) rfl)) rfl
set_option maxRecDepth 20000 in
theorem m_1252 : Cond.methodLink R_Mo 211 y_Nm_drop ∈ gG := gG_in (List.mem_append_right _ (List.mem_of_getElem? (i := 1252) (by decide +kernel))) rfl
set_option maxRecDepth 20000 in
theorem m_1253 : Cond.instanceMethod y_Nm_drop ∈ gG := gG_in (List.mem_append_right _ (List.mem_of_getElem? (i := 1253) (by decide +kernel))) rfl
set_option maxRecDepth 20000 in
theorem m_1254 : Cond.selects R_Nm y_Nm_drop y_Nm_drop ∈ gG := gG_in (List.mem_append_right _ (List.mem_of_getElem? (i := 1254) (by decide +kernel))) rfl
set_option maxRecDepth 20000 in
theorem m_1117 : Cond.fieldLink R_Mo 111 R_Mo "text" "LEquationTextModel$Numbers;" ∈ gG := gG_in (List.mem_append_right _ (List.mem_of_getElem? (i := 1117) (by decide +kernel))) rfl
set_option maxRecDepth 20000 in
theorem mc_Nm_at : Cond.code y_Nm_at prog_13_method_3_code 2 (Option.some Jvm.ClassFile.FieldType.int) ∈ gG := gG_in (List.mem_append_right _ (List.mem_of_getElem? (i := 1276) rfl)) rfl
set_option maxRecDepth 20000 in
theorem m_1273 : Cond.methodLink R_Mo 214 y_Nm_at ∈ gG := gG_in (List.mem_append_right _ (List.mem_of_getElem? (i := 1273) (by decide +kernel))) rfl
set_option maxRecDepth 20000 in
theorem m_1274 : Cond.instanceMethod y_Nm_at ∈ gG := gG_in (List.mem_append_right _ (List.mem_of_getElem? (i := 1274) (by decide +kernel))) rfl
set_option maxRecDepth 20000 in
theorem m_1275 : Cond.selects R_Nm y_Nm_at y_Nm_at ∈ gG := gG_in (List.mem_append_right _ (List.mem_of_getElem? (i := 1275) (by decide +kernel))) rfl
set_option maxRecDepth 20000 in
theorem mc_Mo_isBlank : Cond.code y_Mo_isBlank prog_12_method_10_code 1 (Option.some Jvm.ClassFile.FieldType.boolean) ∈ gG := gG_in (List.mem_append_right _ (List.mem_of_getElem? (i := 1279) rfl)) rfl
set_option maxRecDepth 20000 in
theorem m_1277 : Cond.methodLink R_Mo 218 y_Mo_isBlank ∈ gG := gG_in (List.mem_append_right _ (List.mem_of_getElem? (i := 1277) (by decide +kernel))) rfl
set_option maxRecDepth 20000 in
theorem m_1278 : Cond.static y_Mo_isBlank ∈ gG := gG_in (List.mem_append_right _ (List.mem_of_getElem? (i := 1278) (by decide +kernel))) rfl
set_option maxRecDepth 20000 in
theorem mc_Mo_isDigit : Cond.code y_Mo_isDigit prog_12_method_8_code 1 (Option.some Jvm.ClassFile.FieldType.boolean) ∈ gG := gG_in (List.mem_append_right _ (List.mem_of_getElem? (i := 1293) rfl)) rfl
set_option maxRecDepth 20000 in
theorem m_1291 : Cond.methodLink R_Mo 225 y_Mo_isDigit ∈ gG := gG_in (List.mem_append_right _ (List.mem_of_getElem? (i := 1291) (by decide +kernel))) rfl
set_option maxRecDepth 20000 in
theorem m_1292 : Cond.static y_Mo_isDigit ∈ gG := gG_in (List.mem_append_right _ (List.mem_of_getElem? (i := 1292) (by decide +kernel))) rfl
set_option maxRecDepth 20000 in
theorem mc_Mo_letter : Cond.code y_Mo_letter prog_12_method_7_code 2 (Option.some Jvm.ClassFile.FieldType.int) ∈ gG := gG_in (List.mem_append_right _ (List.mem_of_getElem? (i := 1287) rfl)) rfl
set_option maxRecDepth 20000 in
theorem m_1284 : Cond.methodLink R_Mo 222 y_Mo_letter ∈ gG := gG_in (List.mem_append_right _ (List.mem_of_getElem? (i := 1284) (by decide +kernel))) rfl
set_option maxRecDepth 20000 in
theorem m_1286 : Cond.instanceMethod y_Mo_letter ∈ gG := gG_in (List.mem_append_right _ (List.mem_of_getElem? (i := 1286) (by decide +kernel))) rfl
set_option maxRecDepth 20000 in
theorem ms_98 : Cond.selects R_Mo y_Mo_letter y_Mo_letter ∈ gG := gG_in (List.mem_append_left _ (List.mem_of_getElem? (i := 98) (by decide +kernel))) rfl
set_option maxRecDepth 20000 in
theorem mc_Mo_digitsEnd : Cond.code y_Mo_digitsEnd prog_12_method_12_code 3 (Option.some Jvm.ClassFile.FieldType.int) ∈ gG := gG_in (List.mem_append_right _ (List.mem_of_getElem? (i := 1307) rfl)) rfl
set_option maxRecDepth 20000 in
theorem m_1304 : Cond.methodLink R_Mo 228 y_Mo_digitsEnd ∈ gG := gG_in (List.mem_append_right _ (List.mem_of_getElem? (i := 1304) (by decide +kernel))) rfl
set_option maxRecDepth 20000 in
theorem m_1306 : Cond.instanceMethod y_Mo_digitsEnd ∈ gG := gG_in (List.mem_append_right _ (List.mem_of_getElem? (i := 1306) (by decide +kernel))) rfl
set_option maxRecDepth 20000 in
theorem ms_101 : Cond.selects R_Mo y_Mo_digitsEnd y_Mo_digitsEnd ∈ gG := gG_in (List.mem_append_left _ (List.mem_of_getElem? (i := 101) (by decide +kernel))) rfl
set_option maxRecDepth 20000 in
theorem m_1294 : Cond.methodLink R_Mo 231 y_JS_length ∈ gG := gG_in (List.mem_append_right _ (List.mem_of_getElem? (i := 1294) (by decide +kernel))) rfl
set_option maxRecDepth 20000 in
theorem m_1299 : Cond.methodLink R_Mo 235 y_JS_charAt ∈ gG := gG_in (List.mem_append_right _ (List.mem_of_getElem? (i := 1299) (by decide +kernel))) rfl
set_option maxRecDepth 20000 in
theorem m_1312 : Cond.constantLong R_Mo 239 10000000 ∈ gG := gG_in (List.mem_append_right _ (List.mem_of_getElem? (i := 1312) (by decide +kernel))) rfl
set_option maxRecDepth 20000 in
theorem m_1313 : Cond.constantLong R_Mo 241 10 ∈ gG := gG_in (List.mem_append_right _ (List.mem_of_getElem? (i := 1313) (by decide +kernel))) rfl
set_option maxRecDepth 20000 in
theorem m_1314 : Cond.constantLong R_Mo 243 48 ∈ gG := gG_in (List.mem_append_right _ (List.mem_of_getElem? (i := 1314) (by decide +kernel))) rfl
set_option maxRecDepth 20000 in
theorem m_1315 : Cond.constantLong R_Mo 245 308 ∈ gG := gG_in (List.mem_append_right _ (List.mem_of_getElem? (i := 1315) (by decide +kernel))) rfl
set_option maxRecDepth 20000 in
theorem m_1128 : Cond.fieldLink R_Mo 139 R_Mo "bound" "[I" ∈ gG := gG_in (List.mem_append_right _ (List.mem_of_getElem? (i := 1128) (by decide +kernel))) rfl
set_option maxRecDepth 20000 in
theorem m_1129 : Cond.fieldLink R_Mo 247 R_Mo "lastEnd" "I" ∈ gG := gG_in (List.mem_append_right _ (List.mem_of_getElem? (i := 1129) (by decide +kernel))) rfl
set_option maxRecDepth 20000 in
theorem mc_Mo_isFinite : Cond.code y_Mo_isFinite prog_12_method_15_code 17 (Option.some Jvm.ClassFile.FieldType.boolean) ∈ gG := gG_in (List.mem_append_right _ (List.mem_of_getElem? (i := 1311) rfl)) rfl
set_option maxRecDepth 20000 in
theorem m_1308 : Cond.methodLink R_Mo 260 y_Mo_isFinite ∈ gG := gG_in (List.mem_append_right _ (List.mem_of_getElem? (i := 1308) (by decide +kernel))) rfl
set_option maxRecDepth 20000 in
theorem m_1310 : Cond.instanceMethod y_Mo_isFinite ∈ gG := gG_in (List.mem_append_right _ (List.mem_of_getElem? (i := 1310) (by decide +kernel))) rfl
set_option maxRecDepth 20000 in
theorem ms_102 : Cond.selects R_Mo y_Mo_isFinite y_Mo_isFinite ∈ gG := gG_in (List.mem_append_left _ (List.mem_of_getElem? (i := 102) (by decide +kernel))) rfl
set_option maxRecDepth 20000 in
theorem mc_Mo_numeralEnd : Cond.code y_Mo_numeralEnd prog_12_method_13_code 4 (Option.some Jvm.ClassFile.FieldType.int) ∈ gG := gG_in (List.mem_append_right _ (List.mem_of_getElem? (i := 1303) rfl)) rfl
set_option maxRecDepth 20000 in
theorem m_1300 : Cond.methodLink R_Mo 257 y_Mo_numeralEnd ∈ gG := gG_in (List.mem_append_right _ (List.mem_of_getElem? (i := 1300) (by decide +kernel))) rfl
set_option maxRecDepth 20000 in
theorem m_1302 : Cond.instanceMethod y_Mo_numeralEnd ∈ gG := gG_in (List.mem_append_right _ (List.mem_of_getElem? (i := 1302) (by decide +kernel))) rfl
set_option maxRecDepth 20000 in
theorem ms_100 : Cond.selects R_Mo y_Mo_numeralEnd y_Mo_numeralEnd ∈ gG := gG_in (List.mem_append_left _ (List.mem_of_getElem? (i := 100) (by decide +kernel))) rfl
set_option maxRecDepth 20000 in
theorem mc_Mo_isLetter : Cond.code y_Mo_isLetter prog_12_method_9_code 1 (Option.some Jvm.ClassFile.FieldType.boolean) ∈ gG := gG_in (List.mem_append_right _ (List.mem_of_getElem? (i := 1290) rfl)) rfl
set_option maxRecDepth 20000 in
theorem m_1288 : Cond.methodLink R_Mo 250 y_Mo_isLetter ∈ gG := gG_in (List.mem_append_right _ (List.mem_of_getElem? (i := 1288) (by decide +kernel))) rfl
set_option maxRecDepth 20000 in
theorem m_1289 : Cond.static y_Mo_isLetter ∈ gG := gG_in (List.mem_append_right _ (List.mem_of_getElem? (i := 1289) (by decide +kernel))) rfl
set_option maxRecDepth 20000 in
theorem m_1113 : Cond.fieldLink R_Mo 37 R_Mo "words" "[Ljava/lang/String;" ∈ gG := gG_in (List.mem_append_right _ (List.mem_of_getElem? (i := 1113) (by decide +kernel))) rfl
set_option maxRecDepth 20000 in
theorem mc_Mo_stands : Cond.code y_Mo_stands prog_12_method_14_code 5 (Option.some Jvm.ClassFile.FieldType.boolean) ∈ gG := gG_in (List.mem_append_right _ (List.mem_of_getElem? (i := 1298) rfl)) rfl
set_option maxRecDepth 20000 in
theorem m_1295 : Cond.methodLink R_Mo 253 y_Mo_stands ∈ gG := gG_in (List.mem_append_right _ (List.mem_of_getElem? (i := 1295) (by decide +kernel))) rfl
set_option maxRecDepth 20000 in
theorem m_1297 : Cond.instanceMethod y_Mo_stands ∈ gG := gG_in (List.mem_append_right _ (List.mem_of_getElem? (i := 1297) (by decide +kernel))) rfl
set_option maxRecDepth 20000 in
theorem ms_99 : Cond.selects R_Mo y_Mo_stands y_Mo_stands ∈ gG := gG_in (List.mem_append_left _ (List.mem_of_getElem? (i := 99) (by decide +kernel))) rfl
set_option maxRecDepth 20000 in
theorem m_1114 : Cond.fieldLink R_Mo 97 R_Mo "signs" "[Ljava/lang/String;" ∈ gG := gG_in (List.mem_append_right _ (List.mem_of_getElem? (i := 1114) (by decide +kernel))) rfl
set_option maxRecDepth 20000 in
theorem m_1118 : Cond.fieldLink R_Mo 114 R_Mo "kinds" "LEquationTextModel$Numbers;" ∈ gG := gG_in (List.mem_append_right _ (List.mem_of_getElem? (i := 1118) (by decide +kernel))) rfl
set_option maxRecDepth 20000 in
theorem m_1119 : Cond.fieldLink R_Mo 117 R_Mo "places" "LEquationTextModel$Numbers;" ∈ gG := gG_in (List.mem_append_right _ (List.mem_of_getElem? (i := 1119) (by decide +kernel))) rfl
set_option maxRecDepth 20000 in
theorem m_1120 : Cond.fieldLink R_Mo 120 R_Mo "ends" "LEquationTextModel$Numbers;" ∈ gG := gG_in (List.mem_append_right _ (List.mem_of_getElem? (i := 1120) (by decide +kernel))) rfl
set_option maxRecDepth 20000 in
theorem mc_Mo_token : Cond.code y_Mo_token prog_12_method_16_code 5 (Option.some Jvm.ClassFile.FieldType.int) ∈ gG := gG_in (List.mem_append_right _ (List.mem_of_getElem? (i := 1283) rfl)) rfl
set_option maxRecDepth 20000 in
theorem m_1280 : Cond.methodLink R_Mo 267 y_Mo_token ∈ gG := gG_in (List.mem_append_right _ (List.mem_of_getElem? (i := 1280) (by decide +kernel))) rfl
set_option maxRecDepth 20000 in
theorem m_1282 : Cond.instanceMethod y_Mo_token ∈ gG := gG_in (List.mem_append_right _ (List.mem_of_getElem? (i := 1282) (by decide +kernel))) rfl
set_option maxRecDepth 20000 in
theorem ms_97 : Cond.selects R_Mo y_Mo_token y_Mo_token ∈ gG := gG_in (List.mem_append_left _ (List.mem_of_getElem? (i := 97) (by decide +kernel))) rfl
set_option maxRecDepth 20000 in
theorem mc_Mo_skip : Cond.code y_Mo_skip prog_12_method_11_code 3 (Option.some Jvm.ClassFile.FieldType.int) ∈ gG := gG_in (List.mem_append_right _ (List.mem_of_getElem? (i := 1272) rfl)) rfl
set_option maxRecDepth 20000 in
theorem m_1269 : Cond.methodLink R_Mo 264 y_Mo_skip ∈ gG := gG_in (List.mem_append_right _ (List.mem_of_getElem? (i := 1269) (by decide +kernel))) rfl
set_option maxRecDepth 20000 in
theorem m_1271 : Cond.instanceMethod y_Mo_skip ∈ gG := gG_in (List.mem_append_right _ (List.mem_of_getElem? (i := 1271) (by decide +kernel))) rfl
set_option maxRecDepth 20000 in
theorem ms_96 : Cond.selects R_Mo y_Mo_skip y_Mo_skip ∈ gG := gG_in (List.mem_append_left _ (List.mem_of_getElem? (i := 96) (by decide +kernel))) rfl
set_option maxRecDepth 20000 in
theorem m_1115 : Cond.fieldLink R_Mo 100 R_Mo "ranks" "[I" ∈ gG := gG_in (List.mem_append_right _ (List.mem_of_getElem? (i := 1115) (by decide +kernel))) rfl
set_option maxRecDepth 20000 in
theorem m_1130 : Cond.fieldLink R_Mo 270 R_Mo "at" "I" ∈ gG := gG_in (List.mem_append_right _ (List.mem_of_getElem? (i := 1130) (by decide +kernel))) rfl
set_option maxRecDepth 20000 in
theorem m_1131 : Cond.fieldLink R_Mo 272 R_Mo "bad" "I" ∈ gG := gG_in (List.mem_append_right _ (List.mem_of_getElem? (i := 1131) (by decide +kernel))) rfl
set_option maxRecDepth 20000 in
theorem mc_Mo_fail : Cond.code y_Mo_fail prog_12_method_20_code 1 (Option.some Jvm.ClassFile.FieldType.boolean) ∈ gG := gG_in (List.mem_append_right _ (List.mem_of_getElem? (i := 1339) rfl)) rfl
set_option maxRecDepth 20000 in
theorem m_1336 : Cond.methodLink R_Mo 278 y_Mo_fail ∈ gG := gG_in (List.mem_append_right _ (List.mem_of_getElem? (i := 1336) (by decide +kernel))) rfl
set_option maxRecDepth 20000 in
theorem m_1338 : Cond.instanceMethod y_Mo_fail ∈ gG := gG_in (List.mem_append_right _ (List.mem_of_getElem? (i := 1338) (by decide +kernel))) rfl
set_option maxRecDepth 20000 in
theorem ms_108 : Cond.selects R_Mo y_Mo_fail y_Mo_fail ∈ gG := gG_in (List.mem_append_left _ (List.mem_of_getElem? (i := 108) (by decide +kernel))) rfl
set_option maxRecDepth 20000 in
theorem mc_Mo_kind : Cond.code y_Mo_kind prog_12_method_19_code 1 (Option.some Jvm.ClassFile.FieldType.int) ∈ gG := gG_in (List.mem_append_right _ (List.mem_of_getElem? (i := 1323) rfl)) rfl
set_option maxRecDepth 20000 in
theorem m_1320 : Cond.methodLink R_Mo 275 y_Mo_kind ∈ gG := gG_in (List.mem_append_right _ (List.mem_of_getElem? (i := 1320) (by decide +kernel))) rfl
set_option maxRecDepth 20000 in
theorem m_1322 : Cond.instanceMethod y_Mo_kind ∈ gG := gG_in (List.mem_append_right _ (List.mem_of_getElem? (i := 1322) (by decide +kernel))) rfl
set_option maxRecDepth 20000 in
theorem ms_104 : Cond.selects R_Mo y_Mo_kind y_Mo_kind ∈ gG := gG_in (List.mem_append_left _ (List.mem_of_getElem? (i := 104) (by decide +kernel))) rfl
set_option maxRecDepth 20000 in
theorem m_1132 : Cond.fieldLink R_Mo 282 R_Mo "levels" "I" ∈ gG := gG_in (List.mem_append_right _ (List.mem_of_getElem? (i := 1132) (by decide +kernel))) rfl
set_option maxRecDepth 20000 in
theorem mc_Mo_take : Cond.code y_Mo_take prog_12_method_21_code 2 (Option.some Jvm.ClassFile.FieldType.boolean) ∈ gG := gG_in (List.mem_append_right _ (List.mem_of_getElem? (i := 1355) rfl)) rfl
set_option maxRecDepth 20000 in
theorem m_1352 : Cond.methodLink R_Mo 285 y_Mo_take ∈ gG := gG_in (List.mem_append_right _ (List.mem_of_getElem? (i := 1352) (by decide +kernel))) rfl
set_option maxRecDepth 20000 in
theorem m_1354 : Cond.instanceMethod y_Mo_take ∈ gG := gG_in (List.mem_append_right _ (List.mem_of_getElem? (i := 1354) (by decide +kernel))) rfl
set_option maxRecDepth 20000 in
theorem ms_112 : Cond.selects R_Mo y_Mo_take y_Mo_take ∈ gG := gG_in (List.mem_append_left _ (List.mem_of_getElem? (i := 112) (by decide +kernel))) rfl
set_option maxRecDepth 20000 in
theorem m_1133 : Cond.fieldLink R_Mo 142 R_Mo "open" "LEquationTextModel$Numbers;" ∈ gG := gG_in (List.mem_append_right _ (List.mem_of_getElem? (i := 1133) (by decide +kernel))) rfl
set_option maxRecDepth 20000 in
theorem mn_12 : Cond.fieldLinkNest R_Mo 288 R_Nm "all" "[I" R_Mo ∈ gNest := List.mem_of_getElem? (i := 12) rfl
set_option maxRecDepth 20000 in
theorem mc_Mo_enter : Cond.code y_Mo_enter prog_12_method_22_code 2 (Option.some Jvm.ClassFile.FieldType.boolean) ∈ gG := gG_in (List.mem_append_right _ (List.mem_of_getElem? (i := 1335) rfl)) rfl
set_option maxRecDepth 20000 in
theorem m_1332 : Cond.methodLink R_Mo 297 y_Mo_enter ∈ gG := gG_in (List.mem_append_right _ (List.mem_of_getElem? (i := 1332) (by decide +kernel))) rfl
set_option maxRecDepth 20000 in
theorem m_1334 : Cond.instanceMethod y_Mo_enter ∈ gG := gG_in (List.mem_append_right _ (List.mem_of_getElem? (i := 1334) (by decide +kernel))) rfl
set_option maxRecDepth 20000 in
theorem ms_107 : Cond.selects R_Mo y_Mo_enter y_Mo_enter ∈ gG := gG_in (List.mem_append_left _ (List.mem_of_getElem? (i := 107) (by decide +kernel))) rfl
set_option maxRecDepth 20000 in
theorem mc_Mo_setTop : Cond.code y_Mo_setTop prog_12_method_26_code 3 (Option.none : Option Jvm.ClassFile.FieldType) ∈ gG := gG_in (List.mem_append_right _ (List.mem_of_getElem? (i := 1375) rfl)) rfl
set_option maxRecDepth 20000 in
theorem m_1372 : Cond.methodLink R_Mo 304 y_Mo_setTop ∈ gG := gG_in (List.mem_append_right _ (List.mem_of_getElem? (i := 1372) (by decide +kernel))) rfl
set_option maxRecDepth 20000 in
theorem m_1374 : Cond.instanceMethod y_Mo_setTop ∈ gG := gG_in (List.mem_append_right _ (List.mem_of_getElem? (i := 1374) (by decide +kernel))) rfl
set_option maxRecDepth 20000 in
theorem ms_117 : Cond.selects R_Mo y_Mo_setTop y_Mo_setTop ∈ gG := gG_in (List.mem_append_left _ (List.mem_of_getElem? (i := 117) (by decide +kernel))) rfl
set_option maxRecDepth 20000 in
theorem mc_Mo_push : Cond.code y_Mo_push prog_12_method_24_code 3 (Option.none : Option Jvm.ClassFile.FieldType) ∈ gG := gG_in (List.mem_append_right _ (List.mem_of_getElem? (i := 1371) rfl)) rfl
set_option maxRecDepth 20000 in
theorem m_1368 : Cond.methodLink R_Mo 300 y_Mo_push ∈ gG := gG_in (List.mem_append_right _ (List.mem_of_getElem? (i := 1368) (by decide +kernel))) rfl
set_option maxRecDepth 20000 in
theorem m_1370 : Cond.instanceMethod y_Mo_push ∈ gG := gG_in (List.mem_append_right _ (List.mem_of_getElem? (i := 1370) (by decide +kernel))) rfl
set_option maxRecDepth 20000 in
theorem ms_116 : Cond.selects R_Mo y_Mo_push y_Mo_push ∈ gG := gG_in (List.mem_append_left _ (List.mem_of_getElem? (i := 116) (by decide +kernel))) rfl
set_option maxRecDepth 20000 in
theorem mc_Mo_top : Cond.code y_Mo_top prog_12_method_25_code 2 (Option.some Jvm.ClassFile.FieldType.int) ∈ gG := gG_in (List.mem_append_right _ (List.mem_of_getElem? (i := 1403) rfl)) rfl
set_option maxRecDepth 20000 in
theorem m_1400 : Cond.methodLink R_Mo 319 y_Mo_top ∈ gG := gG_in (List.mem_append_right _ (List.mem_of_getElem? (i := 1400) (by decide +kernel))) rfl
set_option maxRecDepth 20000 in
theorem m_1402 : Cond.instanceMethod y_Mo_top ∈ gG := gG_in (List.mem_append_right _ (List.mem_of_getElem? (i := 1402) (by decide +kernel))) rfl
set_option maxRecDepth 20000 in
theorem ms_124 : Cond.selects R_Mo y_Mo_top y_Mo_top ∈ gG := gG_in (List.mem_append_left _ (List.mem_of_getElem? (i := 124) (by decide +kernel))) rfl
set_option maxRecDepth 20000 in
theorem mc_Mo_isColonBefore : Cond.code y_Mo_isColonBefore prog_12_method_31_code 1 (Option.some Jvm.ClassFile.FieldType.boolean) ∈ gG := gG_in (List.mem_append_right _ (List.mem_of_getElem? (i := 1391) rfl)) rfl
set_option maxRecDepth 20000 in
theorem m_1388 : Cond.methodLink R_Mo 310 y_Mo_isColonBefore ∈ gG := gG_in (List.mem_append_right _ (List.mem_of_getElem? (i := 1388) (by decide +kernel))) rfl
set_option maxRecDepth 20000 in
theorem m_1390 : Cond.instanceMethod y_Mo_isColonBefore ∈ gG := gG_in (List.mem_append_right _ (List.mem_of_getElem? (i := 1390) (by decide +kernel))) rfl
set_option maxRecDepth 20000 in
theorem ms_121 : Cond.selects R_Mo y_Mo_isColonBefore y_Mo_isColonBefore ∈ gG := gG_in (List.mem_append_left _ (List.mem_of_getElem? (i := 121) (by decide +kernel))) rfl
set_option maxRecDepth 20000 in
theorem mc_Mo_isEmptyOpen : Cond.code y_Mo_isEmptyOpen prog_12_method_32_code 1 (Option.some Jvm.ClassFile.FieldType.boolean) ∈ gG := gG_in (List.mem_append_right _ (List.mem_of_getElem? (i := 1399) rfl)) rfl
set_option maxRecDepth 20000 in
theorem m_1396 : Cond.methodLink R_Mo 316 y_Mo_isEmptyOpen ∈ gG := gG_in (List.mem_append_right _ (List.mem_of_getElem? (i := 1396) (by decide +kernel))) rfl
set_option maxRecDepth 20000 in
theorem m_1398 : Cond.instanceMethod y_Mo_isEmptyOpen ∈ gG := gG_in (List.mem_append_right _ (List.mem_of_getElem? (i := 1398) (by decide +kernel))) rfl
set_option maxRecDepth 20000 in
theorem ms_123 : Cond.selects R_Mo y_Mo_isEmptyOpen y_Mo_isEmptyOpen ∈ gG := gG_in (List.mem_append_left _ (List.mem_of_getElem? (i := 123) (by decide +kernel))) rfl
set_option maxRecDepth 20000 in
theorem m_1134 : Cond.fieldLink R_Mo 145 R_Mo "blocks" "LEquationTextModel$Numbers;" ∈ gG := gG_in (List.mem_append_right _ (List.mem_of_getElem? (i := 1134) (by decide +kernel))) rfl
set_option maxRecDepth 20000 in
theorem mc_Nm_last : Cond.code y_Nm_last prog_13_method_4_code 1 (Option.some Jvm.ClassFile.FieldType.int) ∈ gG := gG_in (List.mem_append_right _ (List.mem_of_getElem? (i := 1415) rfl)) rfl
set_option maxRecDepth 20000 in
theorem m_1412 : Cond.methodLink R_Mo 329 y_Nm_last ∈ gG := gG_in (List.mem_append_right _ (List.mem_of_getElem? (i := 1412) (by decide +kernel))) rfl
set_option maxRecDepth 20000 in
theorem m_1413 : Cond.instanceMethod y_Nm_last ∈ gG := gG_in (List.mem_append_right _ (List.mem_of_getElem? (i := 1413) (by decide +kernel))) rfl
set_option maxRecDepth 20000 in
theorem m_1414 : Cond.selects R_Nm y_Nm_last y_Nm_last ∈ gG := gG_in (List.mem_append_right _ (List.mem_of_getElem? (i := 1414) (by decide +kernel))) rfl
set_option maxRecDepth 20000 in
theorem mc_Mo_sameName : Cond.code y_Mo_sameName prog_12_method_37_code 6 (Option.some Jvm.ClassFile.FieldType.boolean) ∈ gG := gG_in (List.mem_append_right _ (List.mem_of_getElem? (i := 1347) rfl)) rfl
set_option maxRecDepth 20000 in
theorem m_1344 : Cond.methodLink R_Mo 332 y_Mo_sameName ∈ gG := gG_in (List.mem_append_right _ (List.mem_of_getElem? (i := 1344) (by decide +kernel))) rfl
set_option maxRecDepth 20000 in
theorem m_1346 : Cond.instanceMethod y_Mo_sameName ∈ gG := gG_in (List.mem_append_right _ (List.mem_of_getElem? (i := 1346) (by decide +kernel))) rfl
set_option maxRecDepth 20000 in
theorem ms_110 : Cond.selects R_Mo y_Mo_sameName y_Mo_sameName ∈ gG := gG_in (List.mem_append_left _ (List.mem_of_getElem? (i := 110) (by decide +kernel))) rfl
set_option maxRecDepth 20000 in
theorem m_1135 : Cond.fieldLink R_Mo 148 R_Mo "functionNames" "LEquationTextModel$Numbers;" ∈ gG := gG_in (List.mem_append_right _ (List.mem_of_getElem? (i := 1135) (by decide +kernel))) rfl
set_option maxRecDepth 20000 in
theorem mc_Mo_leave : Cond.code y_Mo_leave prog_12_method_23_code 2 (Option.some Jvm.ClassFile.FieldType.boolean) ∈ gG := gG_in (List.mem_append_right _ (List.mem_of_getElem? (i := 1351) rfl)) rfl
set_option maxRecDepth 20000 in
theorem m_1348 : Cond.methodLink R_Mo 338 y_Mo_leave ∈ gG := gG_in (List.mem_append_right _ (List.mem_of_getElem? (i := 1348) (by decide +kernel))) rfl
set_option maxRecDepth 20000 in
theorem m_1350 : Cond.instanceMethod y_Mo_leave ∈ gG := gG_in (List.mem_append_right _ (List.mem_of_getElem? (i := 1350) (by decide +kernel))) rfl
set_option maxRecDepth 20000 in
theorem ms_111 : Cond.selects R_Mo y_Mo_leave y_Mo_leave ∈ gG := gG_in (List.mem_append_left _ (List.mem_of_getElem? (i := 111) (by decide +kernel))) rfl
set_option maxRecDepth 20000 in
theorem mc_Mo_readNames : Cond.code y_Mo_readNames prog_12_method_38_code 4 (Option.some Jvm.ClassFile.FieldType.boolean) ∈ gG := gG_in (List.mem_append_right _ (List.mem_of_getElem? (i := 1343) rfl)) rfl
set_option maxRecDepth 20000 in
theorem m_1340 : Cond.methodLink R_Mo 335 y_Mo_readNames ∈ gG := gG_in (List.mem_append_right _ (List.mem_of_getElem? (i := 1340) (by decide +kernel))) rfl
set_option maxRecDepth 20000 in
theorem m_1342 : Cond.instanceMethod y_Mo_readNames ∈ gG := gG_in (List.mem_append_right _ (List.mem_of_getElem? (i := 1342) (by decide +kernel))) rfl
set_option maxRecDepth 20000 in
theorem ms_109 : Cond.selects R_Mo y_Mo_readNames y_Mo_readNames ∈ gG := gG_in (List.mem_append_left _ (List.mem_of_getElem? (i := 109) (by decide +kernel))) rfl
set_option maxRecDepth 20000 in
theorem mc_Mo_isFunction : Cond.code y_Mo_isFunction prog_12_method_39_code 4 (Option.some Jvm.ClassFile.FieldType.boolean) ∈ gG := gG_in (List.mem_append_right _ (List.mem_of_getElem? (i := 1359) rfl)) rfl
set_option maxRecDepth 20000 in
theorem m_1356 : Cond.methodLink R_Mo 341 y_Mo_isFunction ∈ gG := gG_in (List.mem_append_right _ (List.mem_of_getElem? (i := 1356) (by decide +kernel))) rfl
set_option maxRecDepth 20000 in
theorem m_1358 : Cond.instanceMethod y_Mo_isFunction ∈ gG := gG_in (List.mem_append_right _ (List.mem_of_getElem? (i := 1358) (by decide +kernel))) rfl
set_option maxRecDepth 20000 in
theorem ms_113 : Cond.selects R_Mo y_Mo_isFunction y_Mo_isFunction ∈ gG := gG_in (List.mem_append_left _ (List.mem_of_getElem? (i := 113) (by decide +kernel))) rfl
set_option maxRecDepth 20000 in
theorem m_1136 : Cond.fieldLink R_Mo 359 R_Mo "least" "I" ∈ gG := gG_in (List.mem_append_right _ (List.mem_of_getElem? (i := 1136) (by decide +kernel))) rfl
set_option maxRecDepth 20000 in
theorem m_1137 : Cond.fieldLink R_Mo 151 R_Mo "nodeKind" "LEquationTextModel$Numbers;" ∈ gG := gG_in (List.mem_append_right _ (List.mem_of_getElem? (i := 1137) (by decide +kernel))) rfl
set_option maxRecDepth 20000 in
theorem m_1138 : Cond.fieldLink R_Mo 154 R_Mo "nodePlace" "LEquationTextModel$Numbers;" ∈ gG := gG_in (List.mem_append_right _ (List.mem_of_getElem? (i := 1138) (by decide +kernel))) rfl
set_option maxRecDepth 20000 in
theorem m_1139 : Cond.fieldLink R_Mo 157 R_Mo "nodeOther" "LEquationTextModel$Numbers;" ∈ gG := gG_in (List.mem_append_right _ (List.mem_of_getElem? (i := 1139) (by decide +kernel))) rfl
set_option maxRecDepth 20000 in
theorem m_1140 : Cond.fieldLink R_Mo 160 R_Mo "nodeToken" "LEquationTextModel$Numbers;" ∈ gG := gG_in (List.mem_append_right _ (List.mem_of_getElem? (i := 1140) (by decide +kernel))) rfl
set_option maxRecDepth 20000 in
theorem m_1141 : Cond.fieldLink R_Mo 163 R_Mo "nodeParts" "LEquationTextModel$Numbers;" ∈ gG := gG_in (List.mem_append_right _ (List.mem_of_getElem? (i := 1141) (by decide +kernel))) rfl
set_option maxRecDepth 20000 in
theorem m_1142 : Cond.fieldLink R_Mo 166 R_Mo "firstPart" "LEquationTextModel$Numbers;" ∈ gG := gG_in (List.mem_append_right _ (List.mem_of_getElem? (i := 1142) (by decide +kernel))) rfl
set_option maxRecDepth 20000 in
theorem m_1143 : Cond.fieldLink R_Mo 169 R_Mo "lastPart" "LEquationTextModel$Numbers;" ∈ gG := gG_in (List.mem_append_right _ (List.mem_of_getElem? (i := 1143) (by decide +kernel))) rfl
set_option maxRecDepth 20000 in
theorem m_1144 : Cond.fieldLink R_Mo 172 R_Mo "nextPart" "LEquationTextModel$Numbers;" ∈ gG := gG_in (List.mem_append_right _ (List.mem_of_getElem? (i := 1144) (by decide +kernel))) rfl
set_option maxRecDepth 20000 in
theorem m_1146 : Cond.fieldLink R_Mo 178 R_Mo "later" "LEquationTextModel$Numbers;" ∈ gG := gG_in (List.mem_append_right _ (List.mem_of_getElem? (i := 1146) (by decide +kernel))) rfl
set_option maxRecDepth 20000 in
theorem m_1145 : Cond.fieldLink R_Mo 175 R_Mo "tasks" "LEquationTextModel$Numbers;" ∈ gG := gG_in (List.mem_append_right _ (List.mem_of_getElem? (i := 1145) (by decide +kernel))) rfl
set_option maxRecDepth 20000 in
theorem m_1147 : Cond.fieldLink R_Mo 181 R_Mo "marks" "LEquationTextModel$Numbers;" ∈ gG := gG_in (List.mem_append_right _ (List.mem_of_getElem? (i := 1147) (by decide +kernel))) rfl
set_option maxRecDepth 20000 in
theorem m_1148 : Cond.fieldLink R_Mo 184 R_Mo "extra" "LEquationTextModel$Numbers;" ∈ gG := gG_in (List.mem_append_right _ (List.mem_of_getElem? (i := 1148) (by decide +kernel))) rfl
set_option maxRecDepth 20000 in
theorem mc_Mo_pushTasks : Cond.code y_Mo_pushTasks prog_12_method_53_code 3 (Option.none : Option Jvm.ClassFile.FieldType) ∈ gG := gG_in (List.mem_append_right _ (List.mem_of_getElem? (i := 1467) rfl)) rfl
set_option maxRecDepth 20000 in
theorem m_1464 : Cond.methodLink R_Mo 394 y_Mo_pushTasks ∈ gG := gG_in (List.mem_append_right _ (List.mem_of_getElem? (i := 1464) (by decide +kernel))) rfl
set_option maxRecDepth 20000 in
theorem m_1466 : Cond.instanceMethod y_Mo_pushTasks ∈ gG := gG_in (List.mem_append_right _ (List.mem_of_getElem? (i := 1466) (by decide +kernel))) rfl
set_option maxRecDepth 20000 in
theorem ms_138 : Cond.selects R_Mo y_Mo_pushTasks y_Mo_pushTasks ∈ gG := gG_in (List.mem_append_left _ (List.mem_of_getElem? (i := 138) (by decide +kernel))) rfl
set_option maxRecDepth 20000 in
theorem mc_Mo_task : Cond.code y_Mo_task prog_12_method_52_code 6 (Option.none : Option Jvm.ClassFile.FieldType) ∈ gG := gG_in (List.mem_append_right _ (List.mem_of_getElem? (i := 1463) rfl)) rfl
set_option maxRecDepth 20000 in
theorem m_1460 : Cond.methodLink R_Mo 390 y_Mo_task ∈ gG := gG_in (List.mem_append_right _ (List.mem_of_getElem? (i := 1460) (by decide +kernel))) rfl
set_option maxRecDepth 20000 in
theorem m_1462 : Cond.instanceMethod y_Mo_task ∈ gG := gG_in (List.mem_append_right _ (List.mem_of_getElem? (i := 1462) (by decide +kernel))) rfl
set_option maxRecDepth 20000 in
theorem ms_137 : Cond.selects R_Mo y_Mo_task y_Mo_task ∈ gG := gG_in (List.mem_append_left _ (List.mem_of_getElem? (i := 137) (by decide +kernel))) rfl
set_option maxRecDepth 20000 in
theorem mc_Mo_newNode : Cond.code y_Mo_newNode prog_12_method_50_code 7 (Option.some Jvm.ClassFile.FieldType.int) ∈ gG := gG_in (List.mem_append_right _ (List.mem_of_getElem? (i := 1459) rfl)) rfl
set_option maxRecDepth 20000 in
theorem m_1456 : Cond.methodLink R_Mo 386 y_Mo_newNode ∈ gG := gG_in (List.mem_append_right _ (List.mem_of_getElem? (i := 1456) (by decide +kernel))) rfl
set_option maxRecDepth 20000 in
theorem m_1458 : Cond.instanceMethod y_Mo_newNode ∈ gG := gG_in (List.mem_append_right _ (List.mem_of_getElem? (i := 1458) (by decide +kernel))) rfl
set_option maxRecDepth 20000 in
theorem ms_136 : Cond.selects R_Mo y_Mo_newNode y_Mo_newNode ∈ gG := gG_in (List.mem_append_left _ (List.mem_of_getElem? (i := 136) (by decide +kernel))) rfl
set_option maxRecDepth 20000 in
theorem mc_Nm_fill : Cond.code y_Nm_fill prog_13_method_7_code 4 (Option.none : Option Jvm.ClassFile.FieldType) ∈ gG := gG_in (List.mem_append_right _ (List.mem_of_getElem? (i := 1455) rfl)) rfl
set_option maxRecDepth 20000 in
theorem m_1452 : Cond.methodLink R_Mo 383 y_Nm_fill ∈ gG := gG_in (List.mem_append_right _ (List.mem_of_getElem? (i := 1452) (by decide +kernel))) rfl
set_option maxRecDepth 20000 in
theorem m_1453 : Cond.instanceMethod y_Nm_fill ∈ gG := gG_in (List.mem_append_right _ (List.mem_of_getElem? (i := 1453) (by decide +kernel))) rfl
set_option maxRecDepth 20000 in
theorem m_1454 : Cond.selects R_Nm y_Nm_fill y_Nm_fill ∈ gG := gG_in (List.mem_append_right _ (List.mem_of_getElem? (i := 1454) (by decide +kernel))) rfl
set_option maxRecDepth 20000 in
theorem mc_Mo_placeOf : Cond.code y_Mo_placeOf prog_12_method_51_code 2 (Option.some Jvm.ClassFile.FieldType.int) ∈ gG := gG_in (List.mem_append_right _ (List.mem_of_getElem? (i := 1498) rfl)) rfl
set_option maxRecDepth 20000 in
theorem m_1495 : Cond.methodLink R_Mo 411 y_Mo_placeOf ∈ gG := gG_in (List.mem_append_right _ (List.mem_of_getElem? (i := 1495) (by decide +kernel))) rfl
set_option maxRecDepth 20000 in
theorem m_1497 : Cond.instanceMethod y_Mo_placeOf ∈ gG := gG_in (List.mem_append_right _ (List.mem_of_getElem? (i := 1497) (by decide +kernel))) rfl
set_option maxRecDepth 20000 in
theorem ms_145 : Cond.selects R_Mo y_Mo_placeOf y_Mo_placeOf ∈ gG := gG_in (List.mem_append_left _ (List.mem_of_getElem? (i := 145) (by decide +kernel))) rfl
set_option maxRecDepth 20000 in
theorem mc_Mo_closing : Cond.code y_Mo_closing prog_12_method_46_code 5 (Option.some Jvm.ClassFile.FieldType.int) ∈ gG := gG_in (List.mem_append_right _ (List.mem_of_getElem? (i := 1447) rfl)) rfl
set_option maxRecDepth 20000 in
theorem m_1444 : Cond.methodLink R_Mo 350 y_Mo_closing ∈ gG := gG_in (List.mem_append_right _ (List.mem_of_getElem? (i := 1444) (by decide +kernel))) rfl
set_option maxRecDepth 20000 in
theorem m_1446 : Cond.instanceMethod y_Mo_closing ∈ gG := gG_in (List.mem_append_right _ (List.mem_of_getElem? (i := 1446) (by decide +kernel))) rfl
set_option maxRecDepth 20000 in
theorem ms_134 : Cond.selects R_Mo y_Mo_closing y_Mo_closing ∈ gG := gG_in (List.mem_append_left _ (List.mem_of_getElem? (i := 134) (by decide +kernel))) rfl
set_option maxRecDepth 20000 in
theorem mc_Mo_opensBlock : Cond.code y_Mo_opensBlock prog_12_method_57_code 1 (Option.some Jvm.ClassFile.FieldType.boolean) ∈ gG := gG_in (List.mem_append_right _ (List.mem_of_getElem? (i := 1478) rfl)) rfl
set_option maxRecDepth 20000 in
theorem m_1476 : Cond.methodLink R_Mo 420 y_Mo_opensBlock ∈ gG := gG_in (List.mem_append_right _ (List.mem_of_getElem? (i := 1476) (by decide +kernel))) rfl
set_option maxRecDepth 20000 in
theorem m_1477 : Cond.static y_Mo_opensBlock ∈ gG := gG_in (List.mem_append_right _ (List.mem_of_getElem? (i := 1477) (by decide +kernel))) rfl
set_option maxRecDepth 20000 in
theorem mc_Mo_leafNode : Cond.code y_Mo_leafNode prog_12_method_62_code 4 (Option.some Jvm.ClassFile.FieldType.int) ∈ gG := gG_in (List.mem_append_right _ (List.mem_of_getElem? (i := 1506) rfl)) rfl
set_option maxRecDepth 20000 in
theorem m_1503 : Cond.methodLink R_Mo 426 y_Mo_leafNode ∈ gG := gG_in (List.mem_append_right _ (List.mem_of_getElem? (i := 1503) (by decide +kernel))) rfl
set_option maxRecDepth 20000 in
theorem m_1505 : Cond.instanceMethod y_Mo_leafNode ∈ gG := gG_in (List.mem_append_right _ (List.mem_of_getElem? (i := 1505) (by decide +kernel))) rfl
set_option maxRecDepth 20000 in
theorem ms_147 : Cond.selects R_Mo y_Mo_leafNode y_Mo_leafNode ∈ gG := gG_in (List.mem_append_left _ (List.mem_of_getElem? (i := 147) (by decide +kernel))) rfl
set_option maxRecDepth 20000 in
theorem mc_Mo_expressions : Cond.code y_Mo_expressions prog_12_method_61_code 7 (Option.none : Option Jvm.ClassFile.FieldType) ∈ gG := gG_in (List.mem_append_right _ (List.mem_of_getElem? (i := 1518) rfl)) rfl
set_option maxRecDepth 20000 in
theorem m_1515 : Cond.methodLink R_Mo 439 y_Mo_expressions ∈ gG := gG_in (List.mem_append_right _ (List.mem_of_getElem? (i := 1515) (by decide +kernel))) rfl
set_option maxRecDepth 20000 in
theorem m_1517 : Cond.instanceMethod y_Mo_expressions ∈ gG := gG_in (List.mem_append_right _ (List.mem_of_getElem? (i := 1517) (by decide +kernel))) rfl
set_option maxRecDepth 20000 in
theorem ms_150 : Cond.selects R_Mo y_Mo_expressions y_Mo_expressions ∈ gG := gG_in (List.mem_append_left _ (List.mem_of_getElem? (i := 150) (by decide +kernel))) rfl
set_option maxRecDepth 20000 in
theorem mc_Mo_nameNodes : Cond.code y_Mo_nameNodes prog_12_method_63_code 6 (Option.none : Option Jvm.ClassFile.FieldType) ∈ gG := gG_in (List.mem_append_right _ (List.mem_of_getElem? (i := 1502) rfl)) rfl
set_option maxRecDepth 20000 in
theorem m_1499 : Cond.methodLink R_Mo 445 y_Mo_nameNodes ∈ gG := gG_in (List.mem_append_right _ (List.mem_of_getElem? (i := 1499) (by decide +kernel))) rfl
set_option maxRecDepth 20000 in
theorem m_1501 : Cond.instanceMethod y_Mo_nameNodes ∈ gG := gG_in (List.mem_append_right _ (List.mem_of_getElem? (i := 1501) (by decide +kernel))) rfl
set_option maxRecDepth 20000 in
theorem ms_146 : Cond.selects R_Mo y_Mo_nameNodes y_Mo_nameNodes ∈ gG := gG_in (List.mem_append_left _ (List.mem_of_getElem? (i := 146) (by decide +kernel))) rfl
set_option maxRecDepth 20000 in
theorem mc_Mo_branchEnd : Cond.code y_Mo_branchEnd prog_12_method_60_code 5 (Option.some Jvm.ClassFile.FieldType.int) ∈ gG := gG_in (List.mem_append_right _ (List.mem_of_getElem? (i := 1514) rfl)) rfl
set_option maxRecDepth 20000 in
theorem m_1511 : Cond.methodLink R_Mo 436 y_Mo_branchEnd ∈ gG := gG_in (List.mem_append_right _ (List.mem_of_getElem? (i := 1511) (by decide +kernel))) rfl
set_option maxRecDepth 20000 in
theorem m_1513 : Cond.instanceMethod y_Mo_branchEnd ∈ gG := gG_in (List.mem_append_right _ (List.mem_of_getElem? (i := 1513) (by decide +kernel))) rfl
set_option maxRecDepth 20000 in
theorem ms_149 : Cond.selects R_Mo y_Mo_branchEnd y_Mo_branchEnd ∈ gG := gG_in (List.mem_append_left _ (List.mem_of_getElem? (i := 149) (by decide +kernel))) rfl
set_option maxRecDepth 20000 in
theorem mc_Mo_nameOf : Cond.code y_Mo_nameOf prog_12_method_67_code 2 (Option.some Jvm.ClassFile.FieldType.int) ∈ gG := gG_in (List.mem_append_right _ (List.mem_of_getElem? (i := 1494) rfl)) rfl
set_option maxRecDepth 20000 in
theorem m_1491 : Cond.methodLink R_Mo 448 y_Mo_nameOf ∈ gG := gG_in (List.mem_append_right _ (List.mem_of_getElem? (i := 1491) (by decide +kernel))) rfl
set_option maxRecDepth 20000 in
theorem m_1493 : Cond.instanceMethod y_Mo_nameOf ∈ gG := gG_in (List.mem_append_right _ (List.mem_of_getElem? (i := 1493) (by decide +kernel))) rfl
set_option maxRecDepth 20000 in
theorem ms_144 : Cond.selects R_Mo y_Mo_nameOf y_Mo_nameOf ∈ gG := gG_in (List.mem_append_left _ (List.mem_of_getElem? (i := 144) (by decide +kernel))) rfl
set_option maxRecDepth 20000 in
theorem mc_Mo_endsOperand : Cond.code y_Mo_endsOperand prog_12_method_69_code 3 (Option.some Jvm.ClassFile.FieldType.boolean) ∈ gG := gG_in (List.mem_append_right _ (List.mem_of_getElem? (i := 1542) rfl)) rfl
set_option maxRecDepth 20000 in
theorem m_1539 : Cond.methodLink R_Mo 451 y_Mo_endsOperand ∈ gG := gG_in (List.mem_append_right _ (List.mem_of_getElem? (i := 1539) (by decide +kernel))) rfl
set_option maxRecDepth 20000 in
theorem m_1541 : Cond.instanceMethod y_Mo_endsOperand ∈ gG := gG_in (List.mem_append_right _ (List.mem_of_getElem? (i := 1541) (by decide +kernel))) rfl
set_option maxRecDepth 20000 in
theorem ms_156 : Cond.selects R_Mo y_Mo_endsOperand y_Mo_endsOperand ∈ gG := gG_in (List.mem_append_left _ (List.mem_of_getElem? (i := 156) (by decide +kernel))) rfl
set_option maxRecDepth 20000 in
theorem mc_Mo_rankOf : Cond.code y_Mo_rankOf prog_12_method_18_code 2 (Option.some Jvm.ClassFile.FieldType.int) ∈ gG := gG_in (List.mem_append_right _ (List.mem_of_getElem? (i := 1395) rfl)) rfl
set_option maxRecDepth 20000 in
theorem m_1392 : Cond.methodLink R_Mo 313 y_Mo_rankOf ∈ gG := gG_in (List.mem_append_right _ (List.mem_of_getElem? (i := 1392) (by decide +kernel))) rfl
set_option maxRecDepth 20000 in
theorem m_1394 : Cond.instanceMethod y_Mo_rankOf ∈ gG := gG_in (List.mem_append_right _ (List.mem_of_getElem? (i := 1394) (by decide +kernel))) rfl
set_option maxRecDepth 20000 in
theorem ms_122 : Cond.selects R_Mo y_Mo_rankOf y_Mo_rankOf ∈ gG := gG_in (List.mem_append_left _ (List.mem_of_getElem? (i := 122) (by decide +kernel))) rfl
set_option maxRecDepth 20000 in
theorem m_1149 : Cond.fieldLink R_Mo 457 R_Mo "found" "I" ∈ gG := gG_in (List.mem_append_right _ (List.mem_of_getElem? (i := 1149) (by decide +kernel))) rfl
set_option maxRecDepth 20000 in
theorem mc_Mo_lastOf : Cond.code y_Mo_lastOf prog_12_method_70_code 7 (Option.some Jvm.ClassFile.FieldType.int) ∈ gG := gG_in (List.mem_append_right _ (List.mem_of_getElem? (i := 1538) rfl)) rfl
set_option maxRecDepth 20000 in
theorem m_1535 : Cond.methodLink R_Mo 454 y_Mo_lastOf ∈ gG := gG_in (List.mem_append_right _ (List.mem_of_getElem? (i := 1535) (by decide +kernel))) rfl
set_option maxRecDepth 20000 in
theorem m_1537 : Cond.instanceMethod y_Mo_lastOf ∈ gG := gG_in (List.mem_append_right _ (List.mem_of_getElem? (i := 1537) (by decide +kernel))) rfl
set_option maxRecDepth 20000 in
theorem ms_155 : Cond.selects R_Mo y_Mo_lastOf y_Mo_lastOf ∈ gG := gG_in (List.mem_append_left _ (List.mem_of_getElem? (i := 155) (by decide +kernel))) rfl
set_option maxRecDepth 20000 in
theorem mc_Mo_rankBetween : Cond.code y_Mo_rankBetween prog_12_method_71_code 4 (Option.some Jvm.ClassFile.FieldType.int) ∈ gG := gG_in (List.mem_append_right _ (List.mem_of_getElem? (i := 1534) rfl)) rfl
set_option maxRecDepth 20000 in
theorem m_1531 : Cond.methodLink R_Mo 463 y_Mo_rankBetween ∈ gG := gG_in (List.mem_append_right _ (List.mem_of_getElem? (i := 1531) (by decide +kernel))) rfl
set_option maxRecDepth 20000 in
theorem m_1533 : Cond.instanceMethod y_Mo_rankBetween ∈ gG := gG_in (List.mem_append_right _ (List.mem_of_getElem? (i := 1533) (by decide +kernel))) rfl
set_option maxRecDepth 20000 in
theorem ms_154 : Cond.selects R_Mo y_Mo_rankBetween y_Mo_rankBetween ∈ gG := gG_in (List.mem_append_left _ (List.mem_of_getElem? (i := 154) (by decide +kernel))) rfl
set_option maxRecDepth 20000 in
theorem mc_Mo_around : Cond.code y_Mo_around prog_12_method_72_code 4 (Option.some Jvm.ClassFile.FieldType.int) ∈ gG := gG_in (List.mem_append_right _ (List.mem_of_getElem? (i := 1530) rfl)) rfl
set_option maxRecDepth 20000 in
theorem m_1527 : Cond.methodLink R_Mo 460 y_Mo_around ∈ gG := gG_in (List.mem_append_right _ (List.mem_of_getElem? (i := 1527) (by decide +kernel))) rfl
set_option maxRecDepth 20000 in
theorem m_1529 : Cond.instanceMethod y_Mo_around ∈ gG := gG_in (List.mem_append_right _ (List.mem_of_getElem? (i := 1529) (by decide +kernel))) rfl
set_option maxRecDepth 20000 in
theorem ms_153 : Cond.selects R_Mo y_Mo_around y_Mo_around ∈ gG := gG_in (List.mem_append_left _ (List.mem_of_getElem? (i := 153) (by decide +kernel))) rfl
set_option maxRecDepth 20000 in
theorem m_1122 : Cond.fieldLink R_Mo 123 R_Mo "treeText" "LEquationTextModel$Numbers;" ∈ gG := gG_in (List.mem_append_right _ (List.mem_of_getElem? (i := 1122) (by decide +kernel))) rfl
set_option maxRecDepth 20000 in
theorem m_1123 : Cond.fieldLink R_Mo 126 R_Mo "tokens" "LEquationTextModel$Numbers;" ∈ gG := gG_in (List.mem_append_right _ (List.mem_of_getElem? (i := 1123) (by decide +kernel))) rfl
set_option maxRecDepth 20000 in
theorem m_1124 : Cond.fieldLink R_Mo 129 R_Mo "starts" "LEquationTextModel$Numbers;" ∈ gG := gG_in (List.mem_append_right _ (List.mem_of_getElem? (i := 1124) (by decide +kernel))) rfl
set_option maxRecDepth 20000 in
theorem m_1125 : Cond.fieldLink R_Mo 132 R_Mo "stops" "LEquationTextModel$Numbers;" ∈ gG := gG_in (List.mem_append_right _ (List.mem_of_getElem? (i := 1125) (by decide +kernel))) rfl
set_option maxRecDepth 20000 in
theorem mc_Mo_swap : Cond.code y_Mo_swap prog_12_method_77_code 5 (Option.none : Option Jvm.ClassFile.FieldType) ∈ gG := gG_in (List.mem_append_right _ (List.mem_of_getElem? (i := 1566) rfl)) rfl
set_option maxRecDepth 20000 in
theorem m_1563 : Cond.methodLink R_Mo 472 y_Mo_swap ∈ gG := gG_in (List.mem_append_right _ (List.mem_of_getElem? (i := 1563) (by decide +kernel))) rfl
set_option maxRecDepth 20000 in
theorem m_1565 : Cond.instanceMethod y_Mo_swap ∈ gG := gG_in (List.mem_append_right _ (List.mem_of_getElem? (i := 1565) (by decide +kernel))) rfl
set_option maxRecDepth 20000 in
theorem ms_162 : Cond.selects R_Mo y_Mo_swap y_Mo_swap ∈ gG := gG_in (List.mem_append_left _ (List.mem_of_getElem? (i := 162) (by decide +kernel))) rfl
set_option maxRecDepth 20000 in
theorem m_1127 : Cond.fieldLink R_Mo 135 R_Mo "wrong" "I" ∈ gG := gG_in (List.mem_append_right _ (List.mem_of_getElem? (i := 1127) (by decide +kernel))) rfl
set_option maxRecDepth 20000 in
theorem m_1121 : Cond.fieldLink R_Mo 486 R_Mo "known" "Z" ∈ gG := gG_in (List.mem_append_right _ (List.mem_of_getElem? (i := 1121) (by decide +kernel))) rfl
set_option maxRecDepth 20000 in
theorem mc_Mo_isNode : Cond.code y_Mo_isNode prog_12_method_81_code 2 (Option.some Jvm.ClassFile.FieldType.boolean) ∈ gG := gG_in (List.mem_append_right _ (List.mem_of_getElem? (i := 1582) rfl)) rfl
set_option maxRecDepth 20000 in
theorem m_1579 : Cond.methodLink R_Mo 496 y_Mo_isNode ∈ gG := gG_in (List.mem_append_right _ (List.mem_of_getElem? (i := 1579) (by decide +kernel))) rfl
set_option maxRecDepth 20000 in
theorem m_1581 : Cond.instanceMethod y_Mo_isNode ∈ gG := gG_in (List.mem_append_right _ (List.mem_of_getElem? (i := 1581) (by decide +kernel))) rfl
set_option maxRecDepth 20000 in
theorem ms_163 : Cond.selects R_Mo y_Mo_isNode y_Mo_isNode ∈ gG := gG_in (List.mem_append_left _ (List.mem_of_getElem? (i := 163) (by decide +kernel))) rfl
set_option maxRecDepth 20000 in
theorem m_1151 : Cond.fieldLink R_Mo 190 R_Mo "trial" "LEquationTextModel$Numbers;" ∈ gG := gG_in (List.mem_append_right _ (List.mem_of_getElem? (i := 1151) (by decide +kernel))) rfl
set_option maxRecDepth 20000 in
theorem mc_Mo_say : Cond.code y_Mo_say prog_12_method_86_code 3 (Option.none : Option Jvm.ClassFile.FieldType) ∈ gG := gG_in (List.mem_append_right _ (List.mem_of_getElem? (i := 1603) rfl)) rfl
set_option maxRecDepth 20000 in
theorem m_1600 : Cond.methodLink R_Mo 501 y_Mo_say ∈ gG := gG_in (List.mem_append_right _ (List.mem_of_getElem? (i := 1600) (by decide +kernel))) rfl
set_option maxRecDepth 20000 in
theorem m_1602 : Cond.instanceMethod y_Mo_say ∈ gG := gG_in (List.mem_append_right _ (List.mem_of_getElem? (i := 1602) (by decide +kernel))) rfl
set_option maxRecDepth 20000 in
theorem ms_165 : Cond.selects R_Mo y_Mo_say y_Mo_say ∈ gG := gG_in (List.mem_append_left _ (List.mem_of_getElem? (i := 165) (by decide +kernel))) rfl
set_option maxRecDepth 20000 in
theorem mc_Mo_sayToken : Cond.code y_Mo_sayToken prog_12_method_87_code 3 (Option.none : Option Jvm.ClassFile.FieldType) ∈ gG := gG_in (List.mem_append_right _ (List.mem_of_getElem? (i := 1611) rfl)) rfl
set_option maxRecDepth 20000 in
theorem m_1608 : Cond.methodLink R_Mo 507 y_Mo_sayToken ∈ gG := gG_in (List.mem_append_right _ (List.mem_of_getElem? (i := 1608) (by decide +kernel))) rfl
set_option maxRecDepth 20000 in
theorem m_1610 : Cond.instanceMethod y_Mo_sayToken ∈ gG := gG_in (List.mem_append_right _ (List.mem_of_getElem? (i := 1610) (by decide +kernel))) rfl
set_option maxRecDepth 20000 in
theorem ms_167 : Cond.selects R_Mo y_Mo_sayToken y_Mo_sayToken ∈ gG := gG_in (List.mem_append_left _ (List.mem_of_getElem? (i := 167) (by decide +kernel))) rfl
set_option maxRecDepth 20000 in
theorem mc_Mo_stopOf : Cond.code y_Mo_stopOf prog_12_method_59_code 3 (Option.some Jvm.ClassFile.FieldType.int) ∈ gG := gG_in (List.mem_append_right _ (List.mem_of_getElem? (i := 1482) rfl)) rfl
set_option maxRecDepth 20000 in
theorem m_1479 : Cond.methodLink R_Mo 423 y_Mo_stopOf ∈ gG := gG_in (List.mem_append_right _ (List.mem_of_getElem? (i := 1479) (by decide +kernel))) rfl
set_option maxRecDepth 20000 in
theorem m_1481 : Cond.instanceMethod y_Mo_stopOf ∈ gG := gG_in (List.mem_append_right _ (List.mem_of_getElem? (i := 1481) (by decide +kernel))) rfl
set_option maxRecDepth 20000 in
theorem ms_141 : Cond.selects R_Mo y_Mo_stopOf y_Mo_stopOf ∈ gG := gG_in (List.mem_append_left _ (List.mem_of_getElem? (i := 141) (by decide +kernel))) rfl
set_option maxRecDepth 20000 in
theorem mc_Mo_sayTokens : Cond.code y_Mo_sayTokens prog_12_method_89_code 8 (Option.none : Option Jvm.ClassFile.FieldType) ∈ gG := gG_in (List.mem_append_right _ (List.mem_of_getElem? (i := 1617) rfl)) rfl
set_option maxRecDepth 20000 in
theorem m_1614 : Cond.methodLink R_Mo 512 y_Mo_sayTokens ∈ gG := gG_in (List.mem_append_right _ (List.mem_of_getElem? (i := 1614) (by decide +kernel))) rfl
set_option maxRecDepth 20000 in
theorem m_1616 : Cond.instanceMethod y_Mo_sayTokens ∈ gG := gG_in (List.mem_append_right _ (List.mem_of_getElem? (i := 1616) (by decide +kernel))) rfl
set_option maxRecDepth 20000 in
theorem ms_168 : Cond.selects R_Mo y_Mo_sayTokens y_Mo_sayTokens ∈ gG := gG_in (List.mem_append_left _ (List.mem_of_getElem? (i := 168) (by decide +kernel))) rfl
set_option maxRecDepth 20000 in
theorem mc_Mo_swapTexts : Cond.code y_Mo_swapTexts prog_12_method_78_code 1 (Option.none : Option Jvm.ClassFile.FieldType) ∈ gG := gG_in (List.mem_append_right _ (List.mem_of_getElem? (i := 1562) rfl)) rfl
set_option maxRecDepth 20000 in
theorem m_1559 : Cond.methodLink R_Mo 493 y_Mo_swapTexts ∈ gG := gG_in (List.mem_append_right _ (List.mem_of_getElem? (i := 1559) (by decide +kernel))) rfl
set_option maxRecDepth 20000 in
theorem m_1561 : Cond.instanceMethod y_Mo_swapTexts ∈ gG := gG_in (List.mem_append_right _ (List.mem_of_getElem? (i := 1561) (by decide +kernel))) rfl
set_option maxRecDepth 20000 in
theorem ms_161 : Cond.selects R_Mo y_Mo_swapTexts y_Mo_swapTexts ∈ gG := gG_in (List.mem_append_left _ (List.mem_of_getElem? (i := 161) (by decide +kernel))) rfl
set_option maxRecDepth 20000 in
theorem mc_Mo_sayLine : Cond.code y_Mo_sayLine prog_12_method_90_code 5 (Option.some Jvm.ClassFile.FieldType.int) ∈ gG := gG_in (List.mem_append_right _ (List.mem_of_getElem? (i := 1607) rfl)) rfl
set_option maxRecDepth 20000 in
theorem m_1604 : Cond.methodLink R_Mo 520 y_Mo_sayLine ∈ gG := gG_in (List.mem_append_right _ (List.mem_of_getElem? (i := 1604) (by decide +kernel))) rfl
set_option maxRecDepth 20000 in
theorem m_1606 : Cond.instanceMethod y_Mo_sayLine ∈ gG := gG_in (List.mem_append_right _ (List.mem_of_getElem? (i := 1606) (by decide +kernel))) rfl
set_option maxRecDepth 20000 in
theorem ms_166 : Cond.selects R_Mo y_Mo_sayLine y_Mo_sayLine ∈ gG := gG_in (List.mem_append_left _ (List.mem_of_getElem? (i := 166) (by decide +kernel))) rfl
set_option maxRecDepth 20000 in
theorem mc_Mo_indent : Cond.code y_Mo_indent prog_12_method_88_code 3 (Option.none : Option Jvm.ClassFile.FieldType) ∈ gG := gG_in (List.mem_append_right _ (List.mem_of_getElem? (i := 1598) rfl)) rfl
set_option maxRecDepth 20000 in
theorem m_1595 : Cond.methodLink R_Mo 517 y_Mo_indent ∈ gG := gG_in (List.mem_append_right _ (List.mem_of_getElem? (i := 1595) (by decide +kernel))) rfl
set_option maxRecDepth 20000 in
theorem m_1597 : Cond.instanceMethod y_Mo_indent ∈ gG := gG_in (List.mem_append_right _ (List.mem_of_getElem? (i := 1597) (by decide +kernel))) rfl
set_option maxRecDepth 20000 in
theorem ms_164 : Cond.selects R_Mo y_Mo_indent y_Mo_indent ∈ gG := gG_in (List.mem_append_left _ (List.mem_of_getElem? (i := 164) (by decide +kernel))) rfl
set_option maxRecDepth 20000 in
theorem m_1150 : Cond.fieldLink R_Mo 187 R_Mo "out" "LEquationTextModel$Numbers;" ∈ gG := gG_in (List.mem_append_right _ (List.mem_of_getElem? (i := 1150) (by decide +kernel))) rfl
set_option maxRecDepth 20000 in
theorem mc_Nm_become : Cond.code y_Nm_become prog_13_method_6_code 3 (Option.none : Option Jvm.ClassFile.FieldType) ∈ gG := gG_in (List.mem_append_right _ (List.mem_of_getElem? (i := 1263) rfl)) rfl
set_option maxRecDepth 20000 in
theorem m_1260 : Cond.methodLink R_Mo 476 y_Nm_become ∈ gG := gG_in (List.mem_append_right _ (List.mem_of_getElem? (i := 1260) (by decide +kernel))) rfl
set_option maxRecDepth 20000 in
theorem m_1261 : Cond.instanceMethod y_Nm_become ∈ gG := gG_in (List.mem_append_right _ (List.mem_of_getElem? (i := 1261) (by decide +kernel))) rfl
set_option maxRecDepth 20000 in
theorem m_1262 : Cond.selects R_Nm y_Nm_become y_Nm_become ∈ gG := gG_in (List.mem_append_right _ (List.mem_of_getElem? (i := 1262) (by decide +kernel))) rfl
set_option maxRecDepth 20000 in
theorem mc_Mo_failed : Cond.code y_Mo_failed prog_12_method_29_code 1 (Option.some Jvm.ClassFile.FieldType.boolean) ∈ gG := gG_in (List.mem_append_right _ (List.mem_of_getElem? (i := 1387) rfl)) rfl
set_option maxRecDepth 20000 in
theorem m_1384 : Cond.methodLink R_Mo 294 y_Mo_failed ∈ gG := gG_in (List.mem_append_right _ (List.mem_of_getElem? (i := 1384) (by decide +kernel))) rfl
set_option maxRecDepth 20000 in
theorem m_1386 : Cond.instanceMethod y_Mo_failed ∈ gG := gG_in (List.mem_append_right _ (List.mem_of_getElem? (i := 1386) (by decide +kernel))) rfl
set_option maxRecDepth 20000 in
theorem ms_120 : Cond.selects R_Mo y_Mo_failed y_Mo_failed ∈ gG := gG_in (List.mem_append_left _ (List.mem_of_getElem? (i := 120) (by decide +kernel))) rfl
set_option maxRecDepth 20000 in
theorem mc_Mo_mark : Cond.code y_Mo_mark prog_12_method_27_code 2 (Option.some Jvm.ClassFile.FieldType.boolean) ∈ gG := gG_in (List.mem_append_right _ (List.mem_of_getElem? (i := 1383) rfl)) rfl
set_option maxRecDepth 20000 in
theorem m_1380 : Cond.methodLink R_Mo 291 y_Mo_mark ∈ gG := gG_in (List.mem_append_right _ (List.mem_of_getElem? (i := 1380) (by decide +kernel))) rfl
set_option maxRecDepth 20000 in
theorem m_1382 : Cond.instanceMethod y_Mo_mark ∈ gG := gG_in (List.mem_append_right _ (List.mem_of_getElem? (i := 1382) (by decide +kernel))) rfl
set_option maxRecDepth 20000 in
theorem ms_119 : Cond.selects R_Mo y_Mo_mark y_Mo_mark ∈ gG := gG_in (List.mem_append_left _ (List.mem_of_getElem? (i := 119) (by decide +kernel))) rfl
set_option maxRecDepth 20000 in
theorem mc_Mo_wholeColon : Cond.code y_Mo_wholeColon prog_12_method_28_code 1 (Option.some Jvm.ClassFile.FieldType.int) ∈ gG := gG_in (List.mem_append_right _ (List.mem_of_getElem? (i := 1379) rfl)) rfl
set_option maxRecDepth 20000 in
theorem m_1376 : Cond.methodLink R_Mo 307 y_Mo_wholeColon ∈ gG := gG_in (List.mem_append_right _ (List.mem_of_getElem? (i := 1376) (by decide +kernel))) rfl
set_option maxRecDepth 20000 in
theorem m_1378 : Cond.instanceMethod y_Mo_wholeColon ∈ gG := gG_in (List.mem_append_right _ (List.mem_of_getElem? (i := 1378) (by decide +kernel))) rfl
set_option maxRecDepth 20000 in
theorem ms_118 : Cond.selects R_Mo y_Mo_wholeColon y_Mo_wholeColon ∈ gG := gG_in (List.mem_append_left _ (List.mem_of_getElem? (i := 118) (by decide +kernel))) rfl
set_option maxRecDepth 20000 in
theorem mc_Mo_buildBlock : Cond.code y_Mo_buildBlock prog_12_method_55_code 6 (Option.none : Option Jvm.ClassFile.FieldType) ∈ gG := gG_in (List.mem_append_right _ (List.mem_of_getElem? (i := 1558) rfl)) rfl
set_option maxRecDepth 20000 in
theorem m_1555 : Cond.methodLink R_Mo 408 y_Mo_buildBlock ∈ gG := gG_in (List.mem_append_right _ (List.mem_of_getElem? (i := 1555) (by decide +kernel))) rfl
set_option maxRecDepth 20000 in
theorem m_1557 : Cond.instanceMethod y_Mo_buildBlock ∈ gG := gG_in (List.mem_append_right _ (List.mem_of_getElem? (i := 1557) (by decide +kernel))) rfl
set_option maxRecDepth 20000 in
theorem ms_160 : Cond.selects R_Mo y_Mo_buildBlock y_Mo_buildBlock ∈ gG := gG_in (List.mem_append_left _ (List.mem_of_getElem? (i := 160) (by decide +kernel))) rfl
set_option maxRecDepth 20000 in
theorem mc_Mo_buildRow : Cond.code y_Mo_buildRow prog_12_method_76_code 5 (Option.none : Option Jvm.ClassFile.FieldType) ∈ gG := gG_in (List.mem_append_right _ (List.mem_of_getElem? (i := 1554) rfl)) rfl
set_option maxRecDepth 20000 in
theorem m_1551 : Cond.methodLink R_Mo 405 y_Mo_buildRow ∈ gG := gG_in (List.mem_append_right _ (List.mem_of_getElem? (i := 1551) (by decide +kernel))) rfl
set_option maxRecDepth 20000 in
theorem m_1553 : Cond.instanceMethod y_Mo_buildRow ∈ gG := gG_in (List.mem_append_right _ (List.mem_of_getElem? (i := 1553) (by decide +kernel))) rfl
set_option maxRecDepth 20000 in
theorem ms_159 : Cond.selects R_Mo y_Mo_buildRow y_Mo_buildRow ∈ gG := gG_in (List.mem_append_left _ (List.mem_of_getElem? (i := 159) (by decide +kernel))) rfl
set_option maxRecDepth 20000 in
theorem mc_Mo_buildIf : Cond.code y_Mo_buildIf prog_12_method_66_code 6 (Option.none : Option Jvm.ClassFile.FieldType) ∈ gG := gG_in (List.mem_append_right _ (List.mem_of_getElem? (i := 1510) rfl)) rfl
set_option maxRecDepth 20000 in
theorem m_1507 : Cond.methodLink R_Mo 433 y_Mo_buildIf ∈ gG := gG_in (List.mem_append_right _ (List.mem_of_getElem? (i := 1507) (by decide +kernel))) rfl
set_option maxRecDepth 20000 in
theorem m_1509 : Cond.instanceMethod y_Mo_buildIf ∈ gG := gG_in (List.mem_append_right _ (List.mem_of_getElem? (i := 1509) (by decide +kernel))) rfl
set_option maxRecDepth 20000 in
theorem ms_148 : Cond.selects R_Mo y_Mo_buildIf y_Mo_buildIf ∈ gG := gG_in (List.mem_append_left _ (List.mem_of_getElem? (i := 148) (by decide +kernel))) rfl
set_option maxRecDepth 20000 in
theorem mc_Mo_buildSimple : Cond.code y_Mo_buildSimple prog_12_method_65_code 8 (Option.none : Option Jvm.ClassFile.FieldType) ∈ gG := gG_in (List.mem_append_right _ (List.mem_of_getElem? (i := 1522) rfl)) rfl
set_option maxRecDepth 20000 in
theorem m_1519 : Cond.methodLink R_Mo 442 y_Mo_buildSimple ∈ gG := gG_in (List.mem_append_right _ (List.mem_of_getElem? (i := 1519) (by decide +kernel))) rfl
set_option maxRecDepth 20000 in
theorem m_1521 : Cond.instanceMethod y_Mo_buildSimple ∈ gG := gG_in (List.mem_append_right _ (List.mem_of_getElem? (i := 1521) (by decide +kernel))) rfl
set_option maxRecDepth 20000 in
theorem ms_151 : Cond.selects R_Mo y_Mo_buildSimple y_Mo_buildSimple ∈ gG := gG_in (List.mem_append_left _ (List.mem_of_getElem? (i := 151) (by decide +kernel))) rfl
set_option maxRecDepth 20000 in
theorem mc_Mo_buildFunction : Cond.code y_Mo_buildFunction prog_12_method_68_code 9 (Option.none : Option Jvm.ClassFile.FieldType) ∈ gG := gG_in (List.mem_append_right _ (List.mem_of_getElem? (i := 1490) rfl)) rfl
set_option maxRecDepth 20000 in
theorem m_1487 : Cond.methodLink R_Mo 430 y_Mo_buildFunction ∈ gG := gG_in (List.mem_append_right _ (List.mem_of_getElem? (i := 1487) (by decide +kernel))) rfl
set_option maxRecDepth 20000 in
theorem m_1489 : Cond.instanceMethod y_Mo_buildFunction ∈ gG := gG_in (List.mem_append_right _ (List.mem_of_getElem? (i := 1489) (by decide +kernel))) rfl
set_option maxRecDepth 20000 in
theorem ms_143 : Cond.selects R_Mo y_Mo_buildFunction y_Mo_buildFunction ∈ gG := gG_in (List.mem_append_left _ (List.mem_of_getElem? (i := 143) (by decide +kernel))) rfl
set_option maxRecDepth 20000 in
theorem mc_Mo_buildItem : Cond.code y_Mo_buildItem prog_12_method_75_code 8 (Option.none : Option Jvm.ClassFile.FieldType) ∈ gG := gG_in (List.mem_append_right _ (List.mem_of_getElem? (i := 1550) rfl)) rfl
set_option maxRecDepth 20000 in
theorem m_1547 : Cond.methodLink R_Mo 469 y_Mo_buildItem ∈ gG := gG_in (List.mem_append_right _ (List.mem_of_getElem? (i := 1547) (by decide +kernel))) rfl
set_option maxRecDepth 20000 in
theorem m_1549 : Cond.instanceMethod y_Mo_buildItem ∈ gG := gG_in (List.mem_append_right _ (List.mem_of_getElem? (i := 1549) (by decide +kernel))) rfl
set_option maxRecDepth 20000 in
theorem ms_158 : Cond.selects R_Mo y_Mo_buildItem y_Mo_buildItem ∈ gG := gG_in (List.mem_append_left _ (List.mem_of_getElem? (i := 158) (by decide +kernel))) rfl
set_option maxRecDepth 20000 in
theorem mc_Mo_isTight : Cond.code y_Mo_isTight prog_12_method_73_code 7 (Option.some Jvm.ClassFile.FieldType.boolean) ∈ gG := gG_in (List.mem_append_right _ (List.mem_of_getElem? (i := 1546) rfl)) rfl
set_option maxRecDepth 20000 in
theorem m_1543 : Cond.methodLink R_Mo 466 y_Mo_isTight ∈ gG := gG_in (List.mem_append_right _ (List.mem_of_getElem? (i := 1543) (by decide +kernel))) rfl
set_option maxRecDepth 20000 in
theorem m_1545 : Cond.instanceMethod y_Mo_isTight ∈ gG := gG_in (List.mem_append_right _ (List.mem_of_getElem? (i := 1545) (by decide +kernel))) rfl
set_option maxRecDepth 20000 in
theorem ms_157 : Cond.selects R_Mo y_Mo_isTight y_Mo_isTight ∈ gG := gG_in (List.mem_append_left _ (List.mem_of_getElem? (i := 157) (by decide +kernel))) rfl
set_option maxRecDepth 20000 in
theorem mc_Mo_inBracket : Cond.code y_Mo_inBracket prog_12_method_33_code 5 (Option.some Jvm.ClassFile.FieldType.int) ∈ gG := gG_in (List.mem_append_right _ (List.mem_of_getElem? (i := 1407) rfl)) rfl
set_option maxRecDepth 20000 in
theorem m_1404 : Cond.methodLink R_Mo 322 y_Mo_inBracket ∈ gG := gG_in (List.mem_append_right _ (List.mem_of_getElem? (i := 1404) (by decide +kernel))) rfl
set_option maxRecDepth 20000 in
theorem m_1406 : Cond.instanceMethod y_Mo_inBracket ∈ gG := gG_in (List.mem_append_right _ (List.mem_of_getElem? (i := 1406) (by decide +kernel))) rfl
set_option maxRecDepth 20000 in
theorem ms_125 : Cond.selects R_Mo y_Mo_inBracket y_Mo_inBracket ∈ gG := gG_in (List.mem_append_left _ (List.mem_of_getElem? (i := 125) (by decide +kernel))) rfl
set_option maxRecDepth 20000 in
theorem mc_Mo_readExpression : Cond.code y_Mo_readExpression prog_12_method_30_code 8 (Option.some Jvm.ClassFile.FieldType.boolean) ∈ gG := gG_in (List.mem_append_right _ (List.mem_of_getElem? (i := 1367) rfl)) rfl
set_option maxRecDepth 20000 in
theorem m_1364 : Cond.methodLink R_Mo 326 y_Mo_readExpression ∈ gG := gG_in (List.mem_append_right _ (List.mem_of_getElem? (i := 1364) (by decide +kernel))) rfl
set_option maxRecDepth 20000 in
theorem m_1366 : Cond.instanceMethod y_Mo_readExpression ∈ gG := gG_in (List.mem_append_right _ (List.mem_of_getElem? (i := 1366) (by decide +kernel))) rfl
set_option maxRecDepth 20000 in
theorem ms_115 : Cond.selects R_Mo y_Mo_readExpression y_Mo_readExpression ∈ gG := gG_in (List.mem_append_left _ (List.mem_of_getElem? (i := 115) (by decide +kernel))) rfl
set_option maxRecDepth 20000 in
theorem mc_Mo_readSeveral : Cond.code y_Mo_readSeveral prog_12_method_34_code 3 (Option.some Jvm.ClassFile.FieldType.boolean) ∈ gG := gG_in (List.mem_append_right _ (List.mem_of_getElem? (i := 1423) rfl)) rfl
set_option maxRecDepth 20000 in
theorem m_1420 : Cond.methodLink R_Mo 344 y_Mo_readSeveral ∈ gG := gG_in (List.mem_append_right _ (List.mem_of_getElem? (i := 1420) (by decide +kernel))) rfl
set_option maxRecDepth 20000 in
theorem m_1422 : Cond.instanceMethod y_Mo_readSeveral ∈ gG := gG_in (List.mem_append_right _ (List.mem_of_getElem? (i := 1422) (by decide +kernel))) rfl
set_option maxRecDepth 20000 in
theorem ms_128 : Cond.selects R_Mo y_Mo_readSeveral y_Mo_readSeveral ∈ gG := gG_in (List.mem_append_left _ (List.mem_of_getElem? (i := 128) (by decide +kernel))) rfl
set_option maxRecDepth 20000 in
theorem mc_Mo_isTarget : Cond.code y_Mo_isTarget prog_12_method_45_code 7 (Option.some Jvm.ClassFile.FieldType.boolean) ∈ gG := gG_in (List.mem_append_right _ (List.mem_of_getElem? (i := 1443) rfl)) rfl
set_option maxRecDepth 20000 in
theorem m_1440 : Cond.methodLink R_Mo 347 y_Mo_isTarget ∈ gG := gG_in (List.mem_append_right _ (List.mem_of_getElem? (i := 1440) (by decide +kernel))) rfl
set_option maxRecDepth 20000 in
theorem m_1442 : Cond.instanceMethod y_Mo_isTarget ∈ gG := gG_in (List.mem_append_right _ (List.mem_of_getElem? (i := 1442) (by decide +kernel))) rfl
set_option maxRecDepth 20000 in
theorem ms_133 : Cond.selects R_Mo y_Mo_isTarget y_Mo_isTarget ∈ gG := gG_in (List.mem_append_left _ (List.mem_of_getElem? (i := 133) (by decide +kernel))) rfl
set_option maxRecDepth 20000 in
theorem mc_Mo_readWorking : Cond.code y_Mo_readWorking prog_12_method_44_code 2 (Option.some Jvm.ClassFile.FieldType.boolean) ∈ gG := gG_in (List.mem_append_right _ (List.mem_of_getElem? (i := 1439) rfl)) rfl
set_option maxRecDepth 20000 in
theorem m_1436 : Cond.methodLink R_Mo 362 y_Mo_readWorking ∈ gG := gG_in (List.mem_append_right _ (List.mem_of_getElem? (i := 1436) (by decide +kernel))) rfl
set_option maxRecDepth 20000 in
theorem m_1438 : Cond.instanceMethod y_Mo_readWorking ∈ gG := gG_in (List.mem_append_right _ (List.mem_of_getElem? (i := 1438) (by decide +kernel))) rfl
set_option maxRecDepth 20000 in
theorem ms_132 : Cond.selects R_Mo y_Mo_readWorking y_Mo_readWorking ∈ gG := gG_in (List.mem_append_left _ (List.mem_of_getElem? (i := 132) (by decide +kernel))) rfl
set_option maxRecDepth 20000 in
theorem mc_Mo_readTargets : Cond.code y_Mo_readTargets prog_12_method_43_code 1 (Option.some Jvm.ClassFile.FieldType.boolean) ∈ gG := gG_in (List.mem_append_right _ (List.mem_of_getElem? (i := 1435) rfl)) rfl
set_option maxRecDepth 20000 in
theorem m_1432 : Cond.methodLink R_Mo 356 y_Mo_readTargets ∈ gG := gG_in (List.mem_append_right _ (List.mem_of_getElem? (i := 1432) (by decide +kernel))) rfl
set_option maxRecDepth 20000 in
theorem m_1434 : Cond.instanceMethod y_Mo_readTargets ∈ gG := gG_in (List.mem_append_right _ (List.mem_of_getElem? (i := 1434) (by decide +kernel))) rfl
set_option maxRecDepth 20000 in
theorem ms_131 : Cond.selects R_Mo y_Mo_readTargets y_Mo_readTargets ∈ gG := gG_in (List.mem_append_left _ (List.mem_of_getElem? (i := 131) (by decide +kernel))) rfl
set_option maxRecDepth 20000 in
theorem mc_Mo_targetsEnd : Cond.code y_Mo_targetsEnd prog_12_method_42_code 3 (Option.some Jvm.ClassFile.FieldType.int) ∈ gG := gG_in (List.mem_append_right _ (List.mem_of_getElem? (i := 1431) rfl)) rfl
set_option maxRecDepth 20000 in
theorem m_1428 : Cond.methodLink R_Mo 353 y_Mo_targetsEnd ∈ gG := gG_in (List.mem_append_right _ (List.mem_of_getElem? (i := 1428) (by decide +kernel))) rfl
set_option maxRecDepth 20000 in
theorem m_1430 : Cond.instanceMethod y_Mo_targetsEnd ∈ gG := gG_in (List.mem_append_right _ (List.mem_of_getElem? (i := 1430) (by decide +kernel))) rfl
set_option maxRecDepth 20000 in
theorem ms_130 : Cond.selects R_Mo y_Mo_targetsEnd y_Mo_targetsEnd ∈ gG := gG_in (List.mem_append_left _ (List.mem_of_getElem? (i := 130) (by decide +kernel))) rfl
set_option maxRecDepth 20000 in
theorem mc_Mo_readCondition : Cond.code y_Mo_readCondition prog_12_method_41_code 1 (Option.some Jvm.ClassFile.FieldType.boolean) ∈ gG := gG_in (List.mem_append_right _ (List.mem_of_getElem? (i := 1363) rfl)) rfl
set_option maxRecDepth 20000 in
theorem m_1360 : Cond.methodLink R_Mo 368 y_Mo_readCondition ∈ gG := gG_in (List.mem_append_right _ (List.mem_of_getElem? (i := 1360) (by decide +kernel))) rfl
set_option maxRecDepth 20000 in
theorem m_1362 : Cond.instanceMethod y_Mo_readCondition ∈ gG := gG_in (List.mem_append_right _ (List.mem_of_getElem? (i := 1362) (by decide +kernel))) rfl
set_option maxRecDepth 20000 in
theorem ms_114 : Cond.selects R_Mo y_Mo_readCondition y_Mo_readCondition ∈ gG := gG_in (List.mem_append_left _ (List.mem_of_getElem? (i := 114) (by decide +kernel))) rfl
set_option maxRecDepth 20000 in
theorem mc_Mo_block : Cond.code y_Mo_block prog_12_method_35_code 1 (Option.some Jvm.ClassFile.FieldType.int) ∈ gG := gG_in (List.mem_append_right _ (List.mem_of_getElem? (i := 1411) rfl)) rfl
set_option maxRecDepth 20000 in
theorem m_1408 : Cond.methodLink R_Mo 371 y_Mo_block ∈ gG := gG_in (List.mem_append_right _ (List.mem_of_getElem? (i := 1408) (by decide +kernel))) rfl
set_option maxRecDepth 20000 in
theorem m_1410 : Cond.instanceMethod y_Mo_block ∈ gG := gG_in (List.mem_append_right _ (List.mem_of_getElem? (i := 1410) (by decide +kernel))) rfl
set_option maxRecDepth 20000 in
theorem ms_126 : Cond.selects R_Mo y_Mo_block y_Mo_block ∈ gG := gG_in (List.mem_append_left _ (List.mem_of_getElem? (i := 126) (by decide +kernel))) rfl
set_option maxRecDepth 20000 in
theorem mc_Mo_isInLoop : Cond.code y_Mo_isInLoop prog_12_method_36_code 2 (Option.some Jvm.ClassFile.FieldType.boolean) ∈ gG := gG_in (List.mem_append_right _ (List.mem_of_getElem? (i := 1419) rfl)) rfl
set_option maxRecDepth 20000 in
theorem m_1416 : Cond.methodLink R_Mo 374 y_Mo_isInLoop ∈ gG := gG_in (List.mem_append_right _ (List.mem_of_getElem? (i := 1416) (by decide +kernel))) rfl
set_option maxRecDepth 20000 in
theorem m_1418 : Cond.instanceMethod y_Mo_isInLoop ∈ gG := gG_in (List.mem_append_right _ (List.mem_of_getElem? (i := 1418) (by decide +kernel))) rfl
set_option maxRecDepth 20000 in
theorem ms_127 : Cond.selects R_Mo y_Mo_isInLoop y_Mo_isInLoop ∈ gG := gG_in (List.mem_append_left _ (List.mem_of_getElem? (i := 127) (by decide +kernel))) rfl
set_option maxRecDepth 20000 in
theorem mc_Mo_readFunction : Cond.code y_Mo_readFunction prog_12_method_40_code 3 (Option.some Jvm.ClassFile.FieldType.boolean) ∈ gG := gG_in (List.mem_append_right _ (List.mem_of_getElem? (i := 1331) rfl)) rfl
set_option maxRecDepth 20000 in
theorem m_1328 : Cond.methodLink R_Mo 365 y_Mo_readFunction ∈ gG := gG_in (List.mem_append_right _ (List.mem_of_getElem? (i := 1328) (by decide +kernel))) rfl
set_option maxRecDepth 20000 in
theorem m_1330 : Cond.instanceMethod y_Mo_readFunction ∈ gG := gG_in (List.mem_append_right _ (List.mem_of_getElem? (i := 1330) (by decide +kernel))) rfl
set_option maxRecDepth 20000 in
theorem ms_106 : Cond.selects R_Mo y_Mo_readFunction y_Mo_readFunction ∈ gG := gG_in (List.mem_append_left _ (List.mem_of_getElem? (i := 106) (by decide +kernel))) rfl
set_option maxRecDepth 20000 in
theorem mc_Mo_readRowsStatement : Cond.code y_Mo_readRowsStatement prog_12_method_47_code 2 (Option.some Jvm.ClassFile.FieldType.boolean) ∈ gG := gG_in (List.mem_append_right _ (List.mem_of_getElem? (i := 1427) rfl)) rfl
set_option maxRecDepth 20000 in
theorem m_1424 : Cond.methodLink R_Mo 377 y_Mo_readRowsStatement ∈ gG := gG_in (List.mem_append_right _ (List.mem_of_getElem? (i := 1424) (by decide +kernel))) rfl
set_option maxRecDepth 20000 in
theorem m_1426 : Cond.instanceMethod y_Mo_readRowsStatement ∈ gG := gG_in (List.mem_append_right _ (List.mem_of_getElem? (i := 1426) (by decide +kernel))) rfl
set_option maxRecDepth 20000 in
theorem ms_129 : Cond.selects R_Mo y_Mo_readRowsStatement y_Mo_readRowsStatement ∈ gG := gG_in (List.mem_append_left _ (List.mem_of_getElem? (i := 129) (by decide +kernel))) rfl
set_option maxRecDepth 20000 in
theorem mc_Mo_readStatement : Cond.code y_Mo_readStatement prog_12_method_48_code 2 (Option.some Jvm.ClassFile.FieldType.boolean) ∈ gG := gG_in (List.mem_append_right _ (List.mem_of_getElem? (i := 1327) rfl)) rfl
set_option maxRecDepth 20000 in
theorem m_1324 : Cond.methodLink R_Mo 380 y_Mo_readStatement ∈ gG := gG_in (List.mem_append_right _ (List.mem_of_getElem? (i := 1324) (by decide +kernel))) rfl
set_option maxRecDepth 20000 in
theorem m_1326 : Cond.instanceMethod y_Mo_readStatement ∈ gG := gG_in (List.mem_append_right _ (List.mem_of_getElem? (i := 1326) (by decide +kernel))) rfl
set_option maxRecDepth 20000 in
theorem ms_105 : Cond.selects R_Mo y_Mo_readStatement y_Mo_readStatement ∈ gG := gG_in (List.mem_append_left _ (List.mem_of_getElem? (i := 105) (by decide +kernel))) rfl
set_option maxRecDepth 20000 in
theorem mc_Mo_buildExpression : Cond.code y_Mo_buildExpression prog_12_method_74_code 12 (Option.none : Option Jvm.ClassFile.FieldType) ∈ gG := gG_in (List.mem_append_right _ (List.mem_of_getElem? (i := 1526) rfl)) rfl
set_option maxRecDepth 20000 in
theorem m_1523 : Cond.methodLink R_Mo 401 y_Mo_buildExpression ∈ gG := gG_in (List.mem_append_right _ (List.mem_of_getElem? (i := 1523) (by decide +kernel))) rfl
set_option maxRecDepth 20000 in
theorem m_1525 : Cond.instanceMethod y_Mo_buildExpression ∈ gG := gG_in (List.mem_append_right _ (List.mem_of_getElem? (i := 1525) (by decide +kernel))) rfl
set_option maxRecDepth 20000 in
theorem ms_152 : Cond.selects R_Mo y_Mo_buildExpression y_Mo_buildExpression ∈ gG := gG_in (List.mem_append_left _ (List.mem_of_getElem? (i := 152) (by decide +kernel))) rfl
set_option maxRecDepth 20000 in
theorem mc_Mo_buildStatement : Cond.code y_Mo_buildStatement prog_12_method_64_code 13 (Option.none : Option Jvm.ClassFile.FieldType) ∈ gG := gG_in (List.mem_append_right _ (List.mem_of_getElem? (i := 1486) rfl)) rfl
set_option maxRecDepth 20000 in
theorem m_1483 : Cond.methodLink R_Mo 417 y_Mo_buildStatement ∈ gG := gG_in (List.mem_append_right _ (List.mem_of_getElem? (i := 1483) (by decide +kernel))) rfl
set_option maxRecDepth 20000 in
theorem m_1485 : Cond.instanceMethod y_Mo_buildStatement ∈ gG := gG_in (List.mem_append_right _ (List.mem_of_getElem? (i := 1485) (by decide +kernel))) rfl
set_option maxRecDepth 20000 in
theorem ms_142 : Cond.selects R_Mo y_Mo_buildStatement y_Mo_buildStatement ∈ gG := gG_in (List.mem_append_left _ (List.mem_of_getElem? (i := 142) (by decide +kernel))) rfl
set_option maxRecDepth 20000 in
theorem mc_Mo_statementEnd : Cond.code y_Mo_statementEnd prog_12_method_58_code 5 (Option.some Jvm.ClassFile.FieldType.int) ∈ gG := gG_in (List.mem_append_right _ (List.mem_of_getElem? (i := 1475) rfl)) rfl
set_option maxRecDepth 20000 in
theorem m_1472 : Cond.methodLink R_Mo 414 y_Mo_statementEnd ∈ gG := gG_in (List.mem_append_right _ (List.mem_of_getElem? (i := 1472) (by decide +kernel))) rfl
set_option maxRecDepth 20000 in
theorem m_1474 : Cond.instanceMethod y_Mo_statementEnd ∈ gG := gG_in (List.mem_append_right _ (List.mem_of_getElem? (i := 1474) (by decide +kernel))) rfl
set_option maxRecDepth 20000 in
theorem ms_140 : Cond.selects R_Mo y_Mo_statementEnd y_Mo_statementEnd ∈ gG := gG_in (List.mem_append_left _ (List.mem_of_getElem? (i := 140) (by decide +kernel))) rfl
set_option maxRecDepth 20000 in
theorem mc_Mo_buildStatements : Cond.code y_Mo_buildStatements prog_12_method_56_code 5 (Option.none : Option Jvm.ClassFile.FieldType) ∈ gG := gG_in (List.mem_append_right _ (List.mem_of_getElem? (i := 1471) rfl)) rfl
set_option maxRecDepth 20000 in
theorem m_1468 : Cond.methodLink R_Mo 397 y_Mo_buildStatements ∈ gG := gG_in (List.mem_append_right _ (List.mem_of_getElem? (i := 1468) (by decide +kernel))) rfl
set_option maxRecDepth 20000 in
theorem m_1470 : Cond.instanceMethod y_Mo_buildStatements ∈ gG := gG_in (List.mem_append_right _ (List.mem_of_getElem? (i := 1470) (by decide +kernel))) rfl
set_option maxRecDepth 20000 in
theorem ms_139 : Cond.selects R_Mo y_Mo_buildStatements y_Mo_buildStatements ∈ gG := gG_in (List.mem_append_left _ (List.mem_of_getElem? (i := 139) (by decide +kernel))) rfl
set_option maxRecDepth 20000 in
theorem mc_Mo_build : Cond.code y_Mo_build prog_12_method_54_code 8 (Option.none : Option Jvm.ClassFile.FieldType) ∈ gG := gG_in (List.mem_append_right _ (List.mem_of_getElem? (i := 1451) rfl)) rfl
set_option maxRecDepth 20000 in
theorem m_1448 : Cond.methodLink R_Mo 490 y_Mo_build ∈ gG := gG_in (List.mem_append_right _ (List.mem_of_getElem? (i := 1448) (by decide +kernel))) rfl
set_option maxRecDepth 20000 in
theorem m_1450 : Cond.instanceMethod y_Mo_build ∈ gG := gG_in (List.mem_append_right _ (List.mem_of_getElem? (i := 1450) (by decide +kernel))) rfl
set_option maxRecDepth 20000 in
theorem ms_135 : Cond.selects R_Mo y_Mo_build y_Mo_build ∈ gG := gG_in (List.mem_append_left _ (List.mem_of_getElem? (i := 135) (by decide +kernel))) rfl
set_option maxRecDepth 20000 in
theorem mc_Mo_readProgram : Cond.code y_Mo_readProgram prog_12_method_49_code 2 (Option.some Jvm.ClassFile.FieldType.boolean) ∈ gG := gG_in (List.mem_append_right _ (List.mem_of_getElem? (i := 1319) rfl)) rfl
set_option maxRecDepth 20000 in
theorem m_1316 : Cond.methodLink R_Mo 483 y_Mo_readProgram ∈ gG := gG_in (List.mem_append_right _ (List.mem_of_getElem? (i := 1316) (by decide +kernel))) rfl
set_option maxRecDepth 20000 in
theorem m_1318 : Cond.instanceMethod y_Mo_readProgram ∈ gG := gG_in (List.mem_append_right _ (List.mem_of_getElem? (i := 1318) (by decide +kernel))) rfl
set_option maxRecDepth 20000 in
theorem ms_103 : Cond.selects R_Mo y_Mo_readProgram y_Mo_readProgram ∈ gG := gG_in (List.mem_append_left _ (List.mem_of_getElem? (i := 103) (by decide +kernel))) rfl
set_option maxRecDepth 20000 in
theorem mc_Mo_cut : Cond.code y_Mo_cut prog_12_method_17_code 4 (Option.none : Option Jvm.ClassFile.FieldType) ∈ gG := gG_in (List.mem_append_right _ (List.mem_of_getElem? (i := 1268) rfl)) rfl
set_option maxRecDepth 20000 in
theorem m_1265 : Cond.methodLink R_Mo 480 y_Mo_cut ∈ gG := gG_in (List.mem_append_right _ (List.mem_of_getElem? (i := 1265) (by decide +kernel))) rfl
set_option maxRecDepth 20000 in
theorem m_1267 : Cond.instanceMethod y_Mo_cut ∈ gG := gG_in (List.mem_append_right _ (List.mem_of_getElem? (i := 1267) (by decide +kernel))) rfl
set_option maxRecDepth 20000 in
theorem ms_95 : Cond.selects R_Mo y_Mo_cut y_Mo_cut ∈ gG := gG_in (List.mem_append_left _ (List.mem_of_getElem? (i := 95) (by decide +kernel))) rfl
theorem k_Mo_200 : GoodIn gG (wsV R_Mo 200 R_Nm y_Nm_add (.code y_Nm_add prog_13_method_2_code 4 (Option.none : Option Jvm.ClassFile.FieldType) :: gG)) := gdV m_1244 m_1245 m_1246 m_10 mc_Nm_add
theorem k_Mo_208 : GoodIn gG (wsV R_Mo 208 R_Mo y_Mo_feedFour (.code y_Mo_feedFour prog_12_method_4_code 3 (Option.none : Option Jvm.ClassFile.FieldType) :: gG)) := gdV m_1240 m_1242 ms_94 m_9 mc_Mo_feedFour
theorem k_Mo_211 : GoodIn gG (wsV R_Mo 211 R_Nm y_Nm_drop (.code y_Nm_drop prog_13_method_5_code 2 (Option.none : Option Jvm.ClassFile.FieldType) :: gG)) := gdV m_1252 m_1253 m_1254 m_10 mc_Nm_drop
theorem k_Mo_214 : GoodIn gG (wsV R_Mo 214 R_Nm y_Nm_at (.code y_Nm_at prog_13_method_3_code 2 (Option.some Jvm.ClassFile.FieldType.int) :: gG)) := gdV m_1273 m_1274 m_1275 m_10 mc_Nm_at
theorem k_Mo_218 : GoodIn gG (va_wsS R_Mo 218 y_Mo_isBlank (.code y_Mo_isBlank prog_12_method_10_code 1 (Option.some Jvm.ClassFile.FieldType.boolean) :: gG)) := gdS m_1277 m_1278 m_9 mc_Mo_isBlank
theorem k_Mo_225 : GoodIn gG (va_wsS R_Mo 225 y_Mo_isDigit (.code y_Mo_isDigit prog_12_method_8_code 1 (Option.some Jvm.ClassFile.FieldType.boolean) :: gG)) := gdS m_1291 m_1292 m_9 mc_Mo_isDigit
theorem k_Mo_222 : GoodIn gG (wsV R_Mo 222 R_Mo y_Mo_letter (.code y_Mo_letter prog_12_method_7_code 2 (Option.some Jvm.ClassFile.FieldType.int) :: gG)) := gdV m_1284 m_1286 ms_98 m_9 mc_Mo_letter
theorem k_Mo_228 : GoodIn gG (wsV R_Mo 228 R_Mo y_Mo_digitsEnd (.code y_Mo_digitsEnd prog_12_method_12_code 3 (Option.some Jvm.ClassFile.FieldType.int) :: gG)) := gdV m_1304 m_1306 ms_101 m_9 mc_Mo_digitsEnd
theorem k_Mo_231 : GoodIn gG (wsV R_Mo 231 R_JS y_JS_length (.code y_JS_length prog_19_method_54_code 1 (Option.some Jvm.ClassFile.FieldType.int) :: gG)) := gdV m_1294 m_359 m_360 m_18 mc_JS_length
theorem k_Mo_235 : GoodIn gG (wsV R_Mo 235 R_JS y_JS_charAt (.code y_JS_charAt prog_19_method_56_code 2 (Option.some Jvm.ClassFile.FieldType.char) :: gG)) := gdV m_1299 m_369 m_370 m_18 mc_JS_charAt
theorem k_Mo_260 : GoodIn gG (wsV R_Mo 260 R_Mo y_Mo_isFinite (.code y_Mo_isFinite prog_12_method_15_code 17 (Option.some Jvm.ClassFile.FieldType.boolean) :: gG)) := gdV m_1308 m_1310 ms_102 m_9 mc_Mo_isFinite
theorem k_Mo_257 : GoodIn gG (wsV R_Mo 257 R_Mo y_Mo_numeralEnd (.code y_Mo_numeralEnd prog_12_method_13_code 4 (Option.some Jvm.ClassFile.FieldType.int) :: gG)) := gdV m_1300 m_1302 ms_100 m_9 mc_Mo_numeralEnd
theorem k_Mo_250 : GoodIn gG (va_wsS R_Mo 250 y_Mo_isLetter (.code y_Mo_isLetter prog_12_method_9_code 1 (Option.some Jvm.ClassFile.FieldType.boolean) :: gG)) := gdS m_1288 m_1289 m_9 mc_Mo_isLetter
theorem k_Mo_253 : GoodIn gG (wsV R_Mo 253 R_Mo y_Mo_stands (.code y_Mo_stands prog_12_method_14_code 5 (Option.some Jvm.ClassFile.FieldType.boolean) :: gG)) := gdV m_1295 m_1297 ms_99 m_9 mc_Mo_stands
theorem k_Mo_267 : GoodIn gG (wsV R_Mo 267 R_Mo y_Mo_token (.code y_Mo_token prog_12_method_16_code 5 (Option.some Jvm.ClassFile.FieldType.int) :: gG)) := gdV m_1280 m_1282 ms_97 m_9 mc_Mo_token
theorem k_Mo_264 : GoodIn gG (wsV R_Mo 264 R_Mo y_Mo_skip (.code y_Mo_skip prog_12_method_11_code 3 (Option.some Jvm.ClassFile.FieldType.int) :: gG)) := gdV m_1269 m_1271 ms_96 m_9 mc_Mo_skip
theorem k_Mo_278 : GoodIn gG (wsV R_Mo 278 R_Mo y_Mo_fail (.code y_Mo_fail prog_12_method_20_code 1 (Option.some Jvm.ClassFile.FieldType.boolean) :: gG)) := gdV m_1336 m_1338 ms_108 m_9 mc_Mo_fail
theorem k_Mo_275 : GoodIn gG (wsV R_Mo 275 R_Mo y_Mo_kind (.code y_Mo_kind prog_12_method_19_code 1 (Option.some Jvm.ClassFile.FieldType.int) :: gG)) := gdV m_1320 m_1322 ms_104 m_9 mc_Mo_kind
theorem k_Mo_285 : GoodIn gG (wsV R_Mo 285 R_Mo y_Mo_take (.code y_Mo_take prog_12_method_21_code 2 (Option.some Jvm.ClassFile.FieldType.boolean) :: gG)) := gdV m_1352 m_1354 ms_112 m_9 mc_Mo_take
theorem k_Mo_297 : GoodIn gG (wsV R_Mo 297 R_Mo y_Mo_enter (.code y_Mo_enter prog_12_method_22_code 2 (Option.some Jvm.ClassFile.FieldType.boolean) :: gG)) := gdV m_1332 m_1334 ms_107 m_9 mc_Mo_enter
theorem k_Mo_304 : GoodIn gG (wsV R_Mo 304 R_Mo y_Mo_setTop (.code y_Mo_setTop prog_12_method_26_code 3 (Option.none : Option Jvm.ClassFile.FieldType) :: gG)) := gdV m_1372 m_1374 ms_117 m_9 mc_Mo_setTop
theorem k_Mo_300 : GoodIn gG (wsV R_Mo 300 R_Mo y_Mo_push (.code y_Mo_push prog_12_method_24_code 3 (Option.none : Option Jvm.ClassFile.FieldType) :: gG)) := gdV m_1368 m_1370 ms_116 m_9 mc_Mo_push
theorem k_Mo_319 : GoodIn gG (wsV R_Mo 319 R_Mo y_Mo_top (.code y_Mo_top prog_12_method_25_code 2 (Option.some Jvm.ClassFile.FieldType.int) :: gG)) := gdV m_1400 m_1402 ms_124 m_9 mc_Mo_top
theorem k_Mo_310 : GoodIn gG (wsV R_Mo 310 R_Mo y_Mo_isColonBefore (.code y_Mo_isColonBefore prog_12_method_31_code 1 (Option.some Jvm.ClassFile.FieldType.boolean) :: gG)) := gdV m_1388 m_1390 ms_121 m_9 mc_Mo_isColonBefore
theorem k_Mo_316 : GoodIn gG (wsV R_Mo 316 R_Mo y_Mo_isEmptyOpen (.code y_Mo_isEmptyOpen prog_12_method_32_code 1 (Option.some Jvm.ClassFile.FieldType.boolean) :: gG)) := gdV m_1396 m_1398 ms_123 m_9 mc_Mo_isEmptyOpen
theorem k_Mo_329 : GoodIn gG (wsV R_Mo 329 R_Nm y_Nm_last (.code y_Nm_last prog_13_method_4_code 1 (Option.some Jvm.ClassFile.FieldType.int) :: gG)) := gdV m_1412 m_1413 m_1414 m_10 mc_Nm_last
theorem k_Mo_332 : GoodIn gG (wsV R_Mo 332 R_Mo y_Mo_sameName (.code y_Mo_sameName prog_12_method_37_code 6 (Option.some Jvm.ClassFile.FieldType.boolean) :: gG)) := gdV m_1344 m_1346 ms_110 m_9 mc_Mo_sameName
theorem k_Mo_338 : GoodIn gG (wsV R_Mo 338 R_Mo y_Mo_leave (.code y_Mo_leave prog_12_method_23_code 2 (Option.some Jvm.ClassFile.FieldType.boolean) :: gG)) := gdV m_1348 m_1350 ms_111 m_9 mc_Mo_leave
theorem k_Mo_335 : GoodIn gG (wsV R_Mo 335 R_Mo y_Mo_readNames (.code y_Mo_readNames prog_12_method_38_code 4 (Option.some Jvm.ClassFile.FieldType.boolean) :: gG)) := gdV m_1340 m_1342 ms_109 m_9 mc_Mo_readNames
theorem k_Mo_341 : GoodIn gG (wsV R_Mo 341 R_Mo y_Mo_isFunction (.code y_Mo_isFunction prog_12_method_39_code 4 (Option.some Jvm.ClassFile.FieldType.boolean) :: gG)) := gdV m_1356 m_1358 ms_113 m_9 mc_Mo_isFunction
theorem k_Mo_394 : GoodIn gG (wsV R_Mo 394 R_Mo y_Mo_pushTasks (.code y_Mo_pushTasks prog_12_method_53_code 3 (Option.none : Option Jvm.ClassFile.FieldType) :: gG)) := gdV m_1464 m_1466 ms_138 m_9 mc_Mo_pushTasks
theorem k_Mo_390 : GoodIn gG (wsV R_Mo 390 R_Mo y_Mo_task (.code y_Mo_task prog_12_method_52_code 6 (Option.none : Option Jvm.ClassFile.FieldType) :: gG)) := gdV m_1460 m_1462 ms_137 m_9 mc_Mo_task
theorem k_Mo_386 : GoodIn gG (wsV R_Mo 386 R_Mo y_Mo_newNode (.code y_Mo_newNode prog_12_method_50_code 7 (Option.some Jvm.ClassFile.FieldType.int) :: gG)) := gdV m_1456 m_1458 ms_136 m_9 mc_Mo_newNode
theorem k_Mo_383 : GoodIn gG (wsV R_Mo 383 R_Nm y_Nm_fill (.code y_Nm_fill prog_13_method_7_code 4 (Option.none : Option Jvm.ClassFile.FieldType) :: gG)) := gdV m_1452 m_1453 m_1454 m_10 mc_Nm_fill
theorem k_Mo_411 : GoodIn gG (wsV R_Mo 411 R_Mo y_Mo_placeOf (.code y_Mo_placeOf prog_12_method_51_code 2 (Option.some Jvm.ClassFile.FieldType.int) :: gG)) := gdV m_1495 m_1497 ms_145 m_9 mc_Mo_placeOf
theorem k_Mo_350 : GoodIn gG (wsV R_Mo 350 R_Mo y_Mo_closing (.code y_Mo_closing prog_12_method_46_code 5 (Option.some Jvm.ClassFile.FieldType.int) :: gG)) := gdV m_1444 m_1446 ms_134 m_9 mc_Mo_closing
theorem k_Mo_420 : GoodIn gG (va_wsS R_Mo 420 y_Mo_opensBlock (.code y_Mo_opensBlock prog_12_method_57_code 1 (Option.some Jvm.ClassFile.FieldType.boolean) :: gG)) := gdS m_1476 m_1477 m_9 mc_Mo_opensBlock
theorem k_Mo_426 : GoodIn gG (wsV R_Mo 426 R_Mo y_Mo_leafNode (.code y_Mo_leafNode prog_12_method_62_code 4 (Option.some Jvm.ClassFile.FieldType.int) :: gG)) := gdV m_1503 m_1505 ms_147 m_9 mc_Mo_leafNode
theorem k_Mo_439 : GoodIn gG (wsV R_Mo 439 R_Mo y_Mo_expressions (.code y_Mo_expressions prog_12_method_61_code 7 (Option.none : Option Jvm.ClassFile.FieldType) :: gG)) := gdV m_1515 m_1517 ms_150 m_9 mc_Mo_expressions
theorem k_Mo_445 : GoodIn gG (wsV R_Mo 445 R_Mo y_Mo_nameNodes (.code y_Mo_nameNodes prog_12_method_63_code 6 (Option.none : Option Jvm.ClassFile.FieldType) :: gG)) := gdV m_1499 m_1501 ms_146 m_9 mc_Mo_nameNodes
theorem k_Mo_436 : GoodIn gG (wsV R_Mo 436 R_Mo y_Mo_branchEnd (.code y_Mo_branchEnd prog_12_method_60_code 5 (Option.some Jvm.ClassFile.FieldType.int) :: gG)) := gdV m_1511 m_1513 ms_149 m_9 mc_Mo_branchEnd
theorem k_Mo_448 : GoodIn gG (wsV R_Mo 448 R_Mo y_Mo_nameOf (.code y_Mo_nameOf prog_12_method_67_code 2 (Option.some Jvm.ClassFile.FieldType.int) :: gG)) := gdV m_1491 m_1493 ms_144 m_9 mc_Mo_nameOf
theorem k_Mo_451 : GoodIn gG (wsV R_Mo 451 R_Mo y_Mo_endsOperand (.code y_Mo_endsOperand prog_12_method_69_code 3 (Option.some Jvm.ClassFile.FieldType.boolean) :: gG)) := gdV m_1539 m_1541 ms_156 m_9 mc_Mo_endsOperand
theorem k_Mo_313 : GoodIn gG (wsV R_Mo 313 R_Mo y_Mo_rankOf (.code y_Mo_rankOf prog_12_method_18_code 2 (Option.some Jvm.ClassFile.FieldType.int) :: gG)) := gdV m_1392 m_1394 ms_122 m_9 mc_Mo_rankOf
theorem k_Mo_454 : GoodIn gG (wsV R_Mo 454 R_Mo y_Mo_lastOf (.code y_Mo_lastOf prog_12_method_70_code 7 (Option.some Jvm.ClassFile.FieldType.int) :: gG)) := gdV m_1535 m_1537 ms_155 m_9 mc_Mo_lastOf
theorem k_Mo_463 : GoodIn gG (wsV R_Mo 463 R_Mo y_Mo_rankBetween (.code y_Mo_rankBetween prog_12_method_71_code 4 (Option.some Jvm.ClassFile.FieldType.int) :: gG)) := gdV m_1531 m_1533 ms_154 m_9 mc_Mo_rankBetween
theorem k_Mo_460 : GoodIn gG (wsV R_Mo 460 R_Mo y_Mo_around (.code y_Mo_around prog_12_method_72_code 4 (Option.some Jvm.ClassFile.FieldType.int) :: gG)) := gdV m_1527 m_1529 ms_153 m_9 mc_Mo_around
theorem k_Mo_472 : GoodIn gG (wsV R_Mo 472 R_Mo y_Mo_swap (.code y_Mo_swap prog_12_method_77_code 5 (Option.none : Option Jvm.ClassFile.FieldType) :: gG)) := gdV m_1563 m_1565 ms_162 m_9 mc_Mo_swap
theorem k_Mo_496 : GoodIn gG (wsV R_Mo 496 R_Mo y_Mo_isNode (.code y_Mo_isNode prog_12_method_81_code 2 (Option.some Jvm.ClassFile.FieldType.boolean) :: gG)) := gdV m_1579 m_1581 ms_163 m_9 mc_Mo_isNode
theorem k_Mo_501 : GoodIn gG (wsV R_Mo 501 R_Mo y_Mo_say (.code y_Mo_say prog_12_method_86_code 3 (Option.none : Option Jvm.ClassFile.FieldType) :: gG)) := gdV m_1600 m_1602 ms_165 m_9 mc_Mo_say
theorem k_Mo_507 : GoodIn gG (wsV R_Mo 507 R_Mo y_Mo_sayToken (.code y_Mo_sayToken prog_12_method_87_code 3 (Option.none : Option Jvm.ClassFile.FieldType) :: gG)) := gdV m_1608 m_1610 ms_167 m_9 mc_Mo_sayToken
theorem k_Mo_423 : GoodIn gG (wsV R_Mo 423 R_Mo y_Mo_stopOf (.code y_Mo_stopOf prog_12_method_59_code 3 (Option.some Jvm.ClassFile.FieldType.int) :: gG)) := gdV m_1479 m_1481 ms_141 m_9 mc_Mo_stopOf
theorem k_Mo_512 : GoodIn gG (wsV R_Mo 512 R_Mo y_Mo_sayTokens (.code y_Mo_sayTokens prog_12_method_89_code 8 (Option.none : Option Jvm.ClassFile.FieldType) :: gG)) := gdV m_1614 m_1616 ms_168 m_9 mc_Mo_sayTokens
theorem k_Mo_493 : GoodIn gG (wsV R_Mo 493 R_Mo y_Mo_swapTexts (.code y_Mo_swapTexts prog_12_method_78_code 1 (Option.none : Option Jvm.ClassFile.FieldType) :: gG)) := gdV m_1559 m_1561 ms_161 m_9 mc_Mo_swapTexts
theorem k_Mo_520 : GoodIn gG (wsV R_Mo 520 R_Mo y_Mo_sayLine (.code y_Mo_sayLine prog_12_method_90_code 5 (Option.some Jvm.ClassFile.FieldType.int) :: gG)) := gdV m_1604 m_1606 ms_166 m_9 mc_Mo_sayLine
theorem k_Mo_517 : GoodIn gG (wsV R_Mo 517 R_Mo y_Mo_indent (.code y_Mo_indent prog_12_method_88_code 3 (Option.none : Option Jvm.ClassFile.FieldType) :: gG)) := gdV m_1595 m_1597 ms_164 m_9 mc_Mo_indent
theorem k_Mo_476 : GoodIn gG (wsV R_Mo 476 R_Nm y_Nm_become (.code y_Nm_become prog_13_method_6_code 3 (Option.none : Option Jvm.ClassFile.FieldType) :: gG)) := gdV m_1260 m_1261 m_1262 m_10 mc_Nm_become
theorem k_Mo_294 : GoodIn gG (wsV R_Mo 294 R_Mo y_Mo_failed (.code y_Mo_failed prog_12_method_29_code 1 (Option.some Jvm.ClassFile.FieldType.boolean) :: gG)) := gdV m_1384 m_1386 ms_120 m_9 mc_Mo_failed
theorem k_Mo_291 : GoodIn gG (wsV R_Mo 291 R_Mo y_Mo_mark (.code y_Mo_mark prog_12_method_27_code 2 (Option.some Jvm.ClassFile.FieldType.boolean) :: gG)) := gdV m_1380 m_1382 ms_119 m_9 mc_Mo_mark
theorem k_Mo_307 : GoodIn gG (wsV R_Mo 307 R_Mo y_Mo_wholeColon (.code y_Mo_wholeColon prog_12_method_28_code 1 (Option.some Jvm.ClassFile.FieldType.int) :: gG)) := gdV m_1376 m_1378 ms_118 m_9 mc_Mo_wholeColon
theorem k_Mo_408 : GoodIn gG (wsV R_Mo 408 R_Mo y_Mo_buildBlock (.code y_Mo_buildBlock prog_12_method_55_code 6 (Option.none : Option Jvm.ClassFile.FieldType) :: gG)) := gdV m_1555 m_1557 ms_160 m_9 mc_Mo_buildBlock
theorem k_Mo_405 : GoodIn gG (wsV R_Mo 405 R_Mo y_Mo_buildRow (.code y_Mo_buildRow prog_12_method_76_code 5 (Option.none : Option Jvm.ClassFile.FieldType) :: gG)) := gdV m_1551 m_1553 ms_159 m_9 mc_Mo_buildRow
theorem k_Mo_433 : GoodIn gG (wsV R_Mo 433 R_Mo y_Mo_buildIf (.code y_Mo_buildIf prog_12_method_66_code 6 (Option.none : Option Jvm.ClassFile.FieldType) :: gG)) := gdV m_1507 m_1509 ms_148 m_9 mc_Mo_buildIf
theorem k_Mo_442 : GoodIn gG (wsV R_Mo 442 R_Mo y_Mo_buildSimple (.code y_Mo_buildSimple prog_12_method_65_code 8 (Option.none : Option Jvm.ClassFile.FieldType) :: gG)) := gdV m_1519 m_1521 ms_151 m_9 mc_Mo_buildSimple
theorem k_Mo_430 : GoodIn gG (wsV R_Mo 430 R_Mo y_Mo_buildFunction (.code y_Mo_buildFunction prog_12_method_68_code 9 (Option.none : Option Jvm.ClassFile.FieldType) :: gG)) := gdV m_1487 m_1489 ms_143 m_9 mc_Mo_buildFunction
theorem k_Mo_469 : GoodIn gG (wsV R_Mo 469 R_Mo y_Mo_buildItem (.code y_Mo_buildItem prog_12_method_75_code 8 (Option.none : Option Jvm.ClassFile.FieldType) :: gG)) := gdV m_1547 m_1549 ms_158 m_9 mc_Mo_buildItem
theorem k_Mo_466 : GoodIn gG (wsV R_Mo 466 R_Mo y_Mo_isTight (.code y_Mo_isTight prog_12_method_73_code 7 (Option.some Jvm.ClassFile.FieldType.boolean) :: gG)) := gdV m_1543 m_1545 ms_157 m_9 mc_Mo_isTight
theorem k_Mo_322 : GoodIn gG (wsV R_Mo 322 R_Mo y_Mo_inBracket (.code y_Mo_inBracket prog_12_method_33_code 5 (Option.some Jvm.ClassFile.FieldType.int) :: gG)) := gdV m_1404 m_1406 ms_125 m_9 mc_Mo_inBracket
theorem k_Mo_326 : GoodIn gG (wsV R_Mo 326 R_Mo y_Mo_readExpression (.code y_Mo_readExpression prog_12_method_30_code 8 (Option.some Jvm.ClassFile.FieldType.boolean) :: gG)) := gdV m_1364 m_1366 ms_115 m_9 mc_Mo_readExpression
theorem k_Mo_344 : GoodIn gG (wsV R_Mo 344 R_Mo y_Mo_readSeveral (.code y_Mo_readSeveral prog_12_method_34_code 3 (Option.some Jvm.ClassFile.FieldType.boolean) :: gG)) := gdV m_1420 m_1422 ms_128 m_9 mc_Mo_readSeveral
theorem k_Mo_347 : GoodIn gG (wsV R_Mo 347 R_Mo y_Mo_isTarget (.code y_Mo_isTarget prog_12_method_45_code 7 (Option.some Jvm.ClassFile.FieldType.boolean) :: gG)) := gdV m_1440 m_1442 ms_133 m_9 mc_Mo_isTarget
theorem k_Mo_362 : GoodIn gG (wsV R_Mo 362 R_Mo y_Mo_readWorking (.code y_Mo_readWorking prog_12_method_44_code 2 (Option.some Jvm.ClassFile.FieldType.boolean) :: gG)) := gdV m_1436 m_1438 ms_132 m_9 mc_Mo_readWorking
theorem k_Mo_356 : GoodIn gG (wsV R_Mo 356 R_Mo y_Mo_readTargets (.code y_Mo_readTargets prog_12_method_43_code 1 (Option.some Jvm.ClassFile.FieldType.boolean) :: gG)) := gdV m_1432 m_1434 ms_131 m_9 mc_Mo_readTargets
theorem k_Mo_353 : GoodIn gG (wsV R_Mo 353 R_Mo y_Mo_targetsEnd (.code y_Mo_targetsEnd prog_12_method_42_code 3 (Option.some Jvm.ClassFile.FieldType.int) :: gG)) := gdV m_1428 m_1430 ms_130 m_9 mc_Mo_targetsEnd
theorem k_Mo_368 : GoodIn gG (wsV R_Mo 368 R_Mo y_Mo_readCondition (.code y_Mo_readCondition prog_12_method_41_code 1 (Option.some Jvm.ClassFile.FieldType.boolean) :: gG)) := gdV m_1360 m_1362 ms_114 m_9 mc_Mo_readCondition
theorem k_Mo_371 : GoodIn gG (wsV R_Mo 371 R_Mo y_Mo_block (.code y_Mo_block prog_12_method_35_code 1 (Option.some Jvm.ClassFile.FieldType.int) :: gG)) := gdV m_1408 m_1410 ms_126 m_9 mc_Mo_block
theorem k_Mo_374 : GoodIn gG (wsV R_Mo 374 R_Mo y_Mo_isInLoop (.code y_Mo_isInLoop prog_12_method_36_code 2 (Option.some Jvm.ClassFile.FieldType.boolean) :: gG)) := gdV m_1416 m_1418 ms_127 m_9 mc_Mo_isInLoop
theorem k_Mo_365 : GoodIn gG (wsV R_Mo 365 R_Mo y_Mo_readFunction (.code y_Mo_readFunction prog_12_method_40_code 3 (Option.some Jvm.ClassFile.FieldType.boolean) :: gG)) := gdV m_1328 m_1330 ms_106 m_9 mc_Mo_readFunction
theorem k_Mo_377 : GoodIn gG (wsV R_Mo 377 R_Mo y_Mo_readRowsStatement (.code y_Mo_readRowsStatement prog_12_method_47_code 2 (Option.some Jvm.ClassFile.FieldType.boolean) :: gG)) := gdV m_1424 m_1426 ms_129 m_9 mc_Mo_readRowsStatement
theorem k_Mo_380 : GoodIn gG (wsV R_Mo 380 R_Mo y_Mo_readStatement (.code y_Mo_readStatement prog_12_method_48_code 2 (Option.some Jvm.ClassFile.FieldType.boolean) :: gG)) := gdV m_1324 m_1326 ms_105 m_9 mc_Mo_readStatement
theorem k_Mo_401 : GoodIn gG (wsV R_Mo 401 R_Mo y_Mo_buildExpression (.code y_Mo_buildExpression prog_12_method_74_code 12 (Option.none : Option Jvm.ClassFile.FieldType) :: gG)) := gdV m_1523 m_1525 ms_152 m_9 mc_Mo_buildExpression
theorem k_Mo_417 : GoodIn gG (wsV R_Mo 417 R_Mo y_Mo_buildStatement (.code y_Mo_buildStatement prog_12_method_64_code 13 (Option.none : Option Jvm.ClassFile.FieldType) :: gG)) := gdV m_1483 m_1485 ms_142 m_9 mc_Mo_buildStatement
theorem k_Mo_414 : GoodIn gG (wsV R_Mo 414 R_Mo y_Mo_statementEnd (.code y_Mo_statementEnd prog_12_method_58_code 5 (Option.some Jvm.ClassFile.FieldType.int) :: gG)) := gdV m_1472 m_1474 ms_140 m_9 mc_Mo_statementEnd
theorem k_Mo_397 : GoodIn gG (wsV R_Mo 397 R_Mo y_Mo_buildStatements (.code y_Mo_buildStatements prog_12_method_56_code 5 (Option.none : Option Jvm.ClassFile.FieldType) :: gG)) := gdV m_1468 m_1470 ms_139 m_9 mc_Mo_buildStatements
theorem k_Mo_490 : GoodIn gG (wsV R_Mo 490 R_Mo y_Mo_build (.code y_Mo_build prog_12_method_54_code 8 (Option.none : Option Jvm.ClassFile.FieldType) :: gG)) := gdV m_1448 m_1450 ms_135 m_9 mc_Mo_build
theorem k_Mo_483 : GoodIn gG (wsV R_Mo 483 R_Mo y_Mo_readProgram (.code y_Mo_readProgram prog_12_method_49_code 2 (Option.some Jvm.ClassFile.FieldType.boolean) :: gG)) := gdV m_1316 m_1318 ms_103 m_9 mc_Mo_readProgram
theorem k_Mo_480 : GoodIn gG (wsV R_Mo 480 R_Mo y_Mo_cut (.code y_Mo_cut prog_12_method_17_code 4 (Option.none : Option Jvm.ClassFile.FieldType) :: gG)) := gdV m_1265 m_1267 ms_95 m_9 mc_Mo_cut
def F_Mo_twice_4 (n_g1 : Nat) : Nat → Int32 → Int32 → (Nat → Int32) → Option ((Nat → Int32))
  | 0, _, _, _ => none
  | k_4 + 1, v2_4, v1_4, b0_4 =>
    if 309 ≤ v2_4 then (some b0_4)
    else (inb v2_4 n_g1 (inb v2_4 n_g1 (F_Mo_twice_4 n_g1  k_4 (v2_4 + 1) (((2 * (b0_4 (Int32.toNatClampNeg v2_4))) + v1_4) / 10) (upd b0_4 (Int32.toNatClampNeg v2_4) (((2 * (b0_4 (Int32.toNatClampNeg v2_4))) + v1_4) - ((2 * (b0_4 (Int32.toNatClampNeg v2_4))) + v1_4) / 10 * 10)))))
def F_Mo_twice (n_g1 : Nat) (b_g1 : Nat → Int32) : Option ((Nat → Int32)) :=
  F_Mo_twice_4 n_g1  FU 0 0 b_g1
theorem d_Mo_twice_0 : decode prog_12_method_2_code 0 = .ok (.iconst 0, 1) := by decide +kernel
theorem d_Mo_twice_1 : decode prog_12_method_2_code 1 = .ok (.istore_n 1, 1) := by decide +kernel
theorem d_Mo_twice_2 : decode prog_12_method_2_code 2 = .ok (.iconst 0, 1) := by decide +kernel
theorem d_Mo_twice_3 : decode prog_12_method_2_code 3 = .ok (.istore_n 2, 1) := by decide +kernel
theorem d_Mo_twice_4 : decode prog_12_method_2_code 4 = .ok (.iload_n 2, 1) := by decide +kernel
theorem d_Mo_twice_5 : decode prog_12_method_2_code 5 = .ok (.sipush 309, 3) := by decide +kernel
theorem d_Mo_twice_8 : decode prog_12_method_2_code 8 = .ok (.if_icmp .ge 29, 3) := by decide +kernel
theorem d_Mo_twice_11 : decode prog_12_method_2_code 11 = .ok (.iconst 2, 1) := by decide +kernel
theorem d_Mo_twice_12 : decode prog_12_method_2_code 12 = .ok (.aload_n 0, 1) := by decide +kernel
theorem d_Mo_twice_13 : decode prog_12_method_2_code 13 = .ok (.iload_n 2, 1) := by decide +kernel
theorem d_Mo_twice_14 : decode prog_12_method_2_code 14 = .ok (.iaload, 1) := by decide +kernel
theorem d_Mo_twice_15 : decode prog_12_method_2_code 15 = .ok (.imul, 1) := by decide +kernel
theorem d_Mo_twice_16 : decode prog_12_method_2_code 16 = .ok (.iload_n 1, 1) := by decide +kernel
theorem d_Mo_twice_17 : decode prog_12_method_2_code 17 = .ok (.iadd, 1) := by decide +kernel
theorem d_Mo_twice_18 : decode prog_12_method_2_code 18 = .ok (.istore_n 3, 1) := by decide +kernel
theorem d_Mo_twice_19 : decode prog_12_method_2_code 19 = .ok (.aload_n 0, 1) := by decide +kernel
theorem d_Mo_twice_20 : decode prog_12_method_2_code 20 = .ok (.iload_n 2, 1) := by decide +kernel
theorem d_Mo_twice_21 : decode prog_12_method_2_code 21 = .ok (.iload_n 3, 1) := by decide +kernel
theorem d_Mo_twice_22 : decode prog_12_method_2_code 22 = .ok (.bipush 10, 2) := by decide +kernel
theorem d_Mo_twice_24 : decode prog_12_method_2_code 24 = .ok (.irem, 1) := by decide +kernel
theorem d_Mo_twice_25 : decode prog_12_method_2_code 25 = .ok (.iastore, 1) := by decide +kernel
theorem d_Mo_twice_26 : decode prog_12_method_2_code 26 = .ok (.iload_n 3, 1) := by decide +kernel
theorem d_Mo_twice_27 : decode prog_12_method_2_code 27 = .ok (.bipush 10, 2) := by decide +kernel
theorem d_Mo_twice_29 : decode prog_12_method_2_code 29 = .ok (.idiv, 1) := by decide +kernel
theorem d_Mo_twice_30 : decode prog_12_method_2_code 30 = .ok (.istore_n 1, 1) := by decide +kernel
theorem d_Mo_twice_31 : decode prog_12_method_2_code 31 = .ok (.iinc 2 1, 3) := by decide +kernel
theorem d_Mo_twice_34 : decode prog_12_method_2_code 34 = .ok (.goto (-30), 3) := by decide +kernel
theorem d_Mo_twice_37 : decode prog_12_method_2_code 37 = .ok (.return_, 1) := by decide +kernel
set_option maxHeartbeats 4000000 in
set_option maxRecDepth 100000 in
theorem L_Mo_twice_4 (l : Launch) (D : va_G) (cI cB cJ cS : ClassId) (g1 : Nat) (n_g1 : Nat) (b_g1 : Nat → Int32) (ob_0 : Nat → Int32) (p : Program) (e : Env) (s : State) (m : MethodId) (below : List Frame) (meth : Method) (c : Code) (hr : meth.sig.returnType = (Option.none : Option Jvm.ClassFile.FieldType)) (hnm : meth.name = y_Mo_twice.name) : ∀ (k_4 : Nat) (v2_4 : Int32) (v1_4 : Int32) (b0_4 : Nat → Int32), F_Mo_twice_4 n_g1  k_4 v2_4 v1_4 b0_4 = some ob_0 → J (KxOf p l e { frames := 0, cells := 0, slots := 0, locals := 0 } s m [.ref g1].toArray below meth c D (gT cI cB cJ cS) [(g1, .inl (cI, n_g1, .inl b_g1))] (fun v w => v = none ∧ w = [(g1, .inl (cI, n_g1, .inl ob_0))]) 0 0) prog_12_method_2_code 4 R_Mo 4 [(2, .int v2_4), (1, .int v1_4), (0, .ref g1)] [] [(g1, .inl (cI, n_g1, .inl b0_4))] 0 0 := by
  intro k_4
  induction k_4 with
  | zero => intro v2_4 v1_4 b0_4 h; rw [F_Mo_twice_4] at h; cases h
  | succ k_4 ih_4 =>
    intro v2_4 v1_4 b0_4 h
    rw [F_Mo_twice_4] at h
    refine j_iload_n d_Mo_twice_4 rfl 0 rfl ?_
    refine j_sipush (v := 309) d_Mo_twice_5 (by decide) ?_
    refine j_icmp_ge (tgt := 37) d_Mo_twice_8 (by decide) (fun c1 => ?_) (fun c1 => ?_)
    · replace h := it_t c1 h
      replace h := Option.some.inj h
      subst h
      exact j_vret (w := [(g1, .inl (cI, n_g1, .inl b0_4))]) hr d_Mo_twice_37 [0] rfl (by decide) ⟨rfl, rfl⟩
    · replace h := it_f c1 h
      refine j_iconst (v := 2) d_Mo_twice_11 (by decide) ?_
      refine j_aload_n d_Mo_twice_12 rfl 2 rfl ?_
      refine j_iload_n d_Mo_twice_13 rfl 0 rfl ?_
      replace h := inb_s h
      obtain ⟨i2, h⟩ := h
      refine j_iald (t0 := 0) 0 rfl rfl i2 d_Mo_twice_14 ?_
      refine j_imul d_Mo_twice_15 ?_
      refine j_iload_n d_Mo_twice_16 rfl 1 rfl ?_
      refine j_iadd d_Mo_twice_17 ?_
      refine j_istore_n (lv' := [(3, .int ((2 * (b0_4 (Int32.toNatClampNeg v2_4))) + v1_4)), (2, .int v2_4), (1, .int v1_4), (0, .ref g1)]) d_Mo_twice_18 rfl (by decide) rfl ?_
      refine j_aload_n d_Mo_twice_19 rfl 3 rfl ?_
      refine j_iload_n d_Mo_twice_20 rfl 1 rfl ?_
      refine j_iload_n d_Mo_twice_21 rfl 0 rfl ?_
      refine j_bipush (v := 10) d_Mo_twice_22 (by decide) ?_
      refine j_irem (by decide) d_Mo_twice_24 ?_
      replace h := inb_s h
      obtain ⟨i3, h⟩ := h
      refine j_iast (t0 := 0) (ws' := [(g1, .inl (cI, n_g1, .inl (upd b0_4 (Int32.toNatClampNeg v2_4) (((2 * (b0_4 (Int32.toNatClampNeg v2_4))) + v1_4) - ((2 * (b0_4 (Int32.toNatClampNeg v2_4))) + v1_4) / 10 * 10))))]) 0 rfl rfl i3 d_Mo_twice_25 rfl ?_
      refine j_iload_n d_Mo_twice_26 rfl 0 rfl ?_
      refine j_bipush (v := 10) d_Mo_twice_27 (by decide) ?_
      refine j_idiv (by decide) d_Mo_twice_29 ?_
      refine j_istore_n (lv' := [(1, .int (((2 * (b0_4 (Int32.toNatClampNeg v2_4))) + v1_4) / 10)), (3, .int ((2 * (b0_4 (Int32.toNatClampNeg v2_4))) + v1_4)), (2, .int v2_4), (0, .ref g1)]) d_Mo_twice_30 rfl (by decide) rfl ?_
      refine j_iinc (v := v2_4 + 1) (lv' := [(2, .int (v2_4 + 1)), (1, .int (((2 * (b0_4 (Int32.toNatClampNeg v2_4))) + v1_4) / 10)), (3, .int ((2 * (b0_4 (Int32.toNatClampNeg v2_4))) + v1_4)), (0, .ref g1)]) d_Mo_twice_31 2 rfl rfl (by decide) rfl ?_
      refine j_goto (tgt := 4) d_Mo_twice_34 (by decide) ?_
      refine j_sub (w := [(g1, .inl (cI, n_g1, .inl (upd b0_4 (Int32.toNatClampNeg v2_4) (((2 * (b0_4 (Int32.toNatClampNeg v2_4))) + v1_4) - ((2 * (b0_4 (Int32.toNatClampNeg v2_4))) + v1_4) / 10 * 10))))]) (lv' := [(2, .int (v2_4 + 1)), (1, .int (((2 * (b0_4 (Int32.toNatClampNeg v2_4))) + v1_4) / 10)), (0, .ref g1)]) [0] rfl (by decide) [0, 1, 3] rfl ?_
      exact ih_4 (v2_4 + 1) (((2 * (b0_4 (Int32.toNatClampNeg v2_4))) + v1_4) / 10) (upd b0_4 (Int32.toNatClampNeg v2_4) (((2 * (b0_4 (Int32.toNatClampNeg v2_4))) + v1_4) - ((2 * (b0_4 (Int32.toNatClampNeg v2_4))) + v1_4) / 10 * 10)) h
set_option maxHeartbeats 4000000 in
set_option maxRecDepth 100000 in
theorem c_Mo_twice (l : Launch) (D : va_G) (cI cB cJ cS : ClassId) (g1 : Nat) (n_g1 : Nat) (b_g1 : Nat → Int32) (ob_0 : Nat → Int32) (h : F_Mo_twice n_g1 b_g1 = some ob_0) : Ct l D (gT cI cB cJ cS) y_Mo_twice prog_12_method_2_code 4 (Option.none : Option Jvm.ClassFile.FieldType) 0 0 0 0 [.ref g1] [(g1, .inl (cI, n_g1, .inl b_g1))] (fun v w => v = none ∧ w = [(g1, .inl (cI, n_g1, .inl ob_0))]) := by
  refine Ct.mk (by decide) (Nat.le_of_ble_eq_true rfl) ?_
  intro p e s m below meth c hr hnm
  refine j_norm (pc' := 0) (lv' := [(0, .ref g1)]) (st' := []) (ws' := [(g1, .inl (cI, n_g1, .inl b_g1))]) (cl' := 0) (sl' := 0) rfl rfl rfl rfl rfl rfl ?_
  unfold F_Mo_twice at h
  refine j_iconst (v := 0) d_Mo_twice_0 (by decide) ?_
  refine j_istore_n (lv' := [(1, .int 0), (0, .ref g1)]) d_Mo_twice_1 rfl (by decide) rfl ?_
  refine j_iconst (v := 0) d_Mo_twice_2 (by decide) ?_
  refine j_istore_n (lv' := [(2, .int 0), (1, .int 0), (0, .ref g1)]) d_Mo_twice_3 rfl (by decide) rfl ?_
  refine j_sub (w := [(g1, .inl (cI, n_g1, .inl b_g1))]) (lv' := [(2, .int 0), (1, .int 0), (0, .ref g1)]) [0] rfl (by decide) [0, 1, 2] rfl ?_
  exact L_Mo_twice_4 l D cI cB cJ cS g1 n_g1 b_g1 ob_0 p e s m below meth c hr hnm FU 0 0 b_g1 h
theorem d_Mo_thrown_0 : decode prog_12_method_3_code 0 = .ok (.aload_n 0, 1) := by decide +kernel
theorem d_Mo_thrown_1 : decode prog_12_method_3_code 1 = .ok (.getfield 197, 3) := by decide +kernel
theorem d_Mo_thrown_4 : decode prog_12_method_3_code 4 = .ok (.ireturn, 1) := by decide +kernel
set_option maxHeartbeats 4000000 in
set_option maxRecDepth 100000 in
theorem c_Mo_thrown (l : Launch) (D : va_G) (cI cB cJ cS : ClassId) (h0 : Nat) (am : Nat → Nat) (known_h0 : Int32) (thrown_h0 : Int32) (wrong_h0 : Int32) (lastEnd_h0 : Int32) (at_h0 : Int32) (bad_h0 : Int32) (levels_h0 : Int32) (least_h0 : Int32) (found_h0 : Int32) : Ct l D (gT cI cB cJ cS) y_Mo_thrown prog_12_method_3_code 1 (Option.some Jvm.ClassFile.FieldType.int) 0 0 0 0 [.ref h0] [(h0, .inr (9, moF am known_h0 thrown_h0 wrong_h0 lastEnd_h0 at_h0 bad_h0 levels_h0 least_h0 found_h0))] (fun v w => v = some (.int thrown_h0) ∧ w = [(h0, .inr (9, moF am known_h0 thrown_h0 wrong_h0 lastEnd_h0 at_h0 bad_h0 levels_h0 least_h0 found_h0))]) := by
  refine Ct.mk (by decide) (Nat.le_of_ble_eq_true rfl) ?_
  intro p e s m below meth c hr hnm
  refine j_norm (pc' := 0) (lv' := [(0, .ref h0)]) (st' := []) (ws' := [(h0, .inr (9, moF am known_h0 thrown_h0 wrong_h0 lastEnd_h0 at_h0 bad_h0 levels_h0 least_h0 found_h0))]) (cl' := 0) (sl' := 0) rfl rfl rfl rfl rfl rfl ?_
  refine j_aload_n d_Mo_thrown_0 rfl 0 rfl ?_
  refine j_get ig_Mo rfl 0 rfl 13 (by decide) rfl m_1126 rfl d_Mo_thrown_1 ?_
  exact j_iret (w := [(h0, .inr (9, moF am known_h0 thrown_h0 wrong_h0 lastEnd_h0 at_h0 bad_h0 levels_h0 least_h0 found_h0))]) hr d_Mo_thrown_4 [0] rfl (by decide) ⟨rfl, rfl⟩
noncomputable def F_Mo_feedFour_2 (p1 : Int32) : Nat → Int32 → Int32 → Nat → (Nat → Int32) → Option ((Int32 × Nat × (Nat → Int32)) × Nat × Nat)
  | 0, _, _, _, _ => none
  | k_2 + 1, v2_2, f1_1_2, n2_2, b2_2 =>
    if v2_2 < 0 then (some ((f1_1_2, n2_2, b2_2), 0, 0))
    else (bw (F_Nm_add ((p1 >>> ((8 * v2_2) &&& 31)) &&& 255) f1_1_2 n2_2 b2_2) fun ⟨r2, r3⟩ =>
      F_Mo_feedFour_2 p1  k_2 (v2_2 + (-1)) (f1_1_2 + 1) r2 r3)
noncomputable def F_Mo_feedFour (p1 : Int32) (known_h0 : Int32) (thrown_h0 : Int32) (wrong_h0 : Int32) (lastEnd_h0 : Int32) (at_h0 : Int32) (bad_h0 : Int32) (levels_h0 : Int32) (least_h0 : Int32) (found_h0 : Int32) (size_m3 : Int32) (n_a_all_m3 : Nat) (b_a_all_m3 : Nat → Int32) : Option ((Int32 × Nat × (Nat → Int32)) × Nat × Nat) :=
  F_Mo_feedFour_2 p1  FU 3 size_m3 n_a_all_m3 b_a_all_m3
theorem d_Mo_feedFour_0 : decode prog_12_method_4_code 0 = .ok (.iconst 3, 1) := by decide +kernel
theorem d_Mo_feedFour_1 : decode prog_12_method_4_code 1 = .ok (.istore_n 2, 1) := by decide +kernel
theorem d_Mo_feedFour_2 : decode prog_12_method_4_code 2 = .ok (.iload_n 2, 1) := by decide +kernel
theorem d_Mo_feedFour_3 : decode prog_12_method_4_code 3 = .ok (.ifCond .lt 26, 3) := by decide +kernel
theorem d_Mo_feedFour_6 : decode prog_12_method_4_code 6 = .ok (.aload_n 0, 1) := by decide +kernel
theorem d_Mo_feedFour_7 : decode prog_12_method_4_code 7 = .ok (.getfield 107, 3) := by decide +kernel
theorem d_Mo_feedFour_10 : decode prog_12_method_4_code 10 = .ok (.iload_n 1, 1) := by decide +kernel
theorem d_Mo_feedFour_11 : decode prog_12_method_4_code 11 = .ok (.bipush 8, 2) := by decide +kernel
theorem d_Mo_feedFour_13 : decode prog_12_method_4_code 13 = .ok (.iload_n 2, 1) := by decide +kernel
theorem d_Mo_feedFour_14 : decode prog_12_method_4_code 14 = .ok (.imul, 1) := by decide +kernel
theorem d_Mo_feedFour_15 : decode prog_12_method_4_code 15 = .ok (.ishr, 1) := by decide +kernel
theorem d_Mo_feedFour_16 : decode prog_12_method_4_code 16 = .ok (.sipush 255, 3) := by decide +kernel
theorem d_Mo_feedFour_19 : decode prog_12_method_4_code 19 = .ok (.iand, 1) := by decide +kernel
theorem d_Mo_feedFour_20 : decode prog_12_method_4_code 20 = .ok (.invokevirtual 200, 3) := by decide +kernel
theorem d_Mo_feedFour_23 : decode prog_12_method_4_code 23 = .ok (.iinc 2 (-1), 3) := by decide +kernel
theorem d_Mo_feedFour_26 : decode prog_12_method_4_code 26 = .ok (.goto (-24), 3) := by decide +kernel
theorem d_Mo_feedFour_29 : decode prog_12_method_4_code 29 = .ok (.return_, 1) := by decide +kernel
set_option maxHeartbeats 4000000 in
set_option maxRecDepth 100000 in
theorem L_Mo_feedFour_2 (l : Launch) (D : va_G) (cI cB cJ cS : ClassId) (h0 : Nat) (am : Nat → Nat) (a_all_m3 : Nat) (p1 : Int32) (known_h0 : Int32) (thrown_h0 : Int32) (wrong_h0 : Int32) (lastEnd_h0 : Int32) (at_h0 : Int32) (bad_h0 : Int32) (levels_h0 : Int32) (least_h0 : Int32) (found_h0 : Int32) (size_m3 : Int32) (n_a_all_m3 : Nat) (b_a_all_m3 : Nat → Int32) (o_1_1 : Int32) (on_nq_1_0 : Nat) (ob_nq_1_0 : Nat → Int32) (mc ms : Nat) (p : Program) (e : Env) (s : State) (m : MethodId) (below : List Frame) (meth : Method) (c : Code) (hr : meth.sig.returnType = (Option.none : Option Jvm.ClassFile.FieldType)) (hnm : meth.name = y_Mo_feedFour.name) : ∀ (k_2 : Nat) (q1_0_2 : Nat) (v2_2 : Int32) (f1_1_2 : Int32) (n2_2 : Nat) (b2_2 : Nat → Int32) (cl_2 sl_2 C_2 S_2 : Nat), F_Mo_feedFour_2 p1  k_2 v2_2 f1_1_2 n2_2 b2_2 = some ((o_1_1, on_nq_1_0, ob_nq_1_0), C_2, S_2) → cl_2 + C_2 ≤ mc → sl_2 + S_2 ≤ ms → J (KxOf p l e { frames := 1, cells := mc, slots := ms, locals := 23 } s m [.ref h0, .int p1].toArray below meth c D (gT cI cB cJ cS) [(h0, .inr (9, moF am known_h0 thrown_h0 wrong_h0 lastEnd_h0 at_h0 bad_h0 levels_h0 least_h0 found_h0)), ((am 3), .inr (8, [.ref a_all_m3, .int size_m3])), (a_all_m3, .inl (cI, n_a_all_m3, .inl b_a_all_m3))] (fun v w => ∃ nq_1_0 : Nat, v = none ∧ w = [(h0, .inr (9, moF am known_h0 thrown_h0 wrong_h0 lastEnd_h0 at_h0 bad_h0 levels_h0 least_h0 found_h0)), ((am 3), .inr (8, [.ref nq_1_0, .int o_1_1])), (nq_1_0, .inl (cI, on_nq_1_0, .inl ob_nq_1_0))]) mc ms) prog_12_method_4_code 3 R_Mo 2 [(2, .int v2_2), (0, .ref h0), (1, .int p1)] [] [(h0, .inr (9, moF am known_h0 thrown_h0 wrong_h0 lastEnd_h0 at_h0 bad_h0 levels_h0 least_h0 found_h0)), ((am 3), .inr (8, [.ref q1_0_2, .int f1_1_2])), (q1_0_2, .inl (cI, n2_2, .inl b2_2))] cl_2 sl_2 := by
  intro k_2
  induction k_2 with
  | zero => intro q1_0_2 v2_2 f1_1_2 n2_2 b2_2 cl_2 sl_2 C_2 S_2 h; rw [F_Mo_feedFour_2] at h; cases h
  | succ k_2 ih_2 =>
    intro q1_0_2 v2_2 f1_1_2 n2_2 b2_2 cl_2 sl_2 C_2 S_2 h hC hS
    rw [F_Mo_feedFour_2] at h
    refine j_iload_n d_Mo_feedFour_2 rfl 0 rfl ?_
    refine j_if_lt (tgt := 29) d_Mo_feedFour_3 (by decide) (fun c1 => ?_) (fun c1 => ?_)
    · replace h := it_t c1 h
      replace h := lf_s h
      obtain ⟨h, e1, e2⟩ := h
      replace h := Prod.mk.inj h
      obtain ⟨h9, h⟩ := h
      subst h9
      replace h := Prod.mk.inj h
      obtain ⟨h9, h⟩ := h
      subst h9
      subst h
      refine j_widen (cl' := mc) (sl' := ms) (by omega) (by omega) ?_
      exact j_vret (w := [(h0, .inr (9, moF am known_h0 thrown_h0 wrong_h0 lastEnd_h0 at_h0 bad_h0 levels_h0 least_h0 found_h0)), ((am 3), .inr (8, [.ref q1_0_2, .int f1_1_2])), (q1_0_2, .inl (cI, n2_2, .inl b2_2))]) hr d_Mo_feedFour_29 [0, 1, 2] rfl (by decide) ⟨q1_0_2, rfl, rfl⟩
    · replace h := it_f c1 h
      refine j_aload_n d_Mo_feedFour_6 rfl 1 rfl ?_
      refine j_get ig_Mo rfl 0 rfl 3 (by decide) rfl m_1116 rfl d_Mo_feedFour_7 ?_
      refine j_iload_n d_Mo_feedFour_10 rfl 2 rfl ?_
      refine j_bipush (v := 8) d_Mo_feedFour_11 (by decide) ?_
      refine j_iload_n d_Mo_feedFour_13 rfl 0 rfl ?_
      refine j_imul d_Mo_feedFour_14 ?_
      refine j_ishr d_Mo_feedFour_15 ?_
      refine j_sipush (v := 255) d_Mo_feedFour_16 (by decide) ?_
      refine j_iand d_Mo_feedFour_19 ?_
      replace h := bw_s h
      obtain ⟨⟨r2, r3⟩, C5, S6, C7, S8, k9, h, e1, e2⟩ := h
      replace hC : cl_2 + C5 + C7 ≤ mc := by omega
      replace hS : sl_2 + S6 + S8 ≤ ms := by omega
      clear e1 e2
      refine j_callV (n := 1) (As := [.int ((p1 >>> ((8 * v2_2) &&& 31)) &&& 255)]) (rest := []) (wr := [(h0, .inr (9, moF am known_h0 thrown_h0 wrong_h0 lastEnd_h0 at_h0 bad_h0 levels_h0 least_h0 found_h0))]) (c_Nm_add l D cI cB cJ cS (am 3) q1_0_2 ((p1 >>> ((8 * v2_2) &&& 31)) &&& 255) f1_1_2 n2_2 b2_2  r2 r3 C5 S6 k9) k_Mo_200 (by decide) ⟨Nat.le_of_ble_eq_true rfl, Nat.le_of_ble_eq_true rfl⟩ rfl 0 rfl [1, 2] [0] rfl (by decide) rfl (by decide) (by decide) rfl rfl (Nat.le_of_ble_eq_true rfl) d_Mo_feedFour_20 ⟨show cl_2 + C5 ≤ mc by omega, show sl_2 + S6 ≤ ms by omega⟩ (fun v w hq => ?_)
      obtain ⟨q4, rfl, rfl⟩ := hq
      refine j_norm (pc' := 23) (st' := []) (ws' := [(h0, .inr (9, moF am known_h0 thrown_h0 wrong_h0 lastEnd_h0 at_h0 bad_h0 levels_h0 least_h0 found_h0)), ((am 3), .inr (8, [.ref q4, .int (f1_1_2 + 1)])), (q4, .inl (cI, r2, .inl r3))]) (cl' := cl_2 + C5) (sl' := sl_2 + S6) rfl rfl rfl rfl rfl rfl ?_
      refine j_iinc (v := v2_2 + (-1)) (lv' := [(2, .int (v2_2 + (-1))), (0, .ref h0), (1, .int p1)]) d_Mo_feedFour_23 0 rfl rfl (by decide) rfl ?_
      refine j_goto (tgt := 2) d_Mo_feedFour_26 (by decide) ?_
      refine j_sub (w := [(h0, .inr (9, moF am known_h0 thrown_h0 wrong_h0 lastEnd_h0 at_h0 bad_h0 levels_h0 least_h0 found_h0)), ((am 3), .inr (8, [.ref q4, .int (f1_1_2 + 1)])), (q4, .inl (cI, r2, .inl r3))]) (lv' := [(2, .int (v2_2 + (-1))), (0, .ref h0), (1, .int p1)]) [0, 1, 2] rfl (by decide) [0, 1, 2] rfl ?_
      exact ih_2 q4 (v2_2 + (-1)) (f1_1_2 + 1) r2 r3 (cl_2 + C5) (sl_2 + S6) C7 S8 h hC hS
set_option maxHeartbeats 4000000 in
set_option maxRecDepth 100000 in
theorem c_Mo_feedFour (l : Launch) (D : va_G) (cI cB cJ cS : ClassId) (h0 : Nat) (am : Nat → Nat) (a_all_m3 : Nat) (p1 : Int32) (known_h0 : Int32) (thrown_h0 : Int32) (wrong_h0 : Int32) (lastEnd_h0 : Int32) (at_h0 : Int32) (bad_h0 : Int32) (levels_h0 : Int32) (least_h0 : Int32) (found_h0 : Int32) (size_m3 : Int32) (n_a_all_m3 : Nat) (b_a_all_m3 : Nat → Int32) (o_1_1 : Int32) (on_nq_1_0 : Nat) (ob_nq_1_0 : Nat → Int32) (mc ms : Nat) (h : F_Mo_feedFour p1 known_h0 thrown_h0 wrong_h0 lastEnd_h0 at_h0 bad_h0 levels_h0 least_h0 found_h0 size_m3 n_a_all_m3 b_a_all_m3 = some ((o_1_1, on_nq_1_0, ob_nq_1_0), mc, ms)) : Ct l D (gT cI cB cJ cS) y_Mo_feedFour prog_12_method_4_code 3 (Option.none : Option Jvm.ClassFile.FieldType) 1 23 mc ms [.ref h0, .int p1] [(h0, .inr (9, moF am known_h0 thrown_h0 wrong_h0 lastEnd_h0 at_h0 bad_h0 levels_h0 least_h0 found_h0)), ((am 3), .inr (8, [.ref a_all_m3, .int size_m3])), (a_all_m3, .inl (cI, n_a_all_m3, .inl b_a_all_m3))] (fun v w => ∃ nq_1_0 : Nat, v = none ∧ w = [(h0, .inr (9, moF am known_h0 thrown_h0 wrong_h0 lastEnd_h0 at_h0 bad_h0 levels_h0 least_h0 found_h0)), ((am 3), .inr (8, [.ref nq_1_0, .int o_1_1])), (nq_1_0, .inl (cI, on_nq_1_0, .inl ob_nq_1_0))]) := by
  refine Ct.mk (by decide) (Nat.le_of_ble_eq_true rfl) ?_
  intro p e s m below meth c hr hnm
  refine j_norm (pc' := 0) (lv' := [(0, .ref h0), (1, .int p1)]) (st' := []) (ws' := [(h0, .inr (9, moF am known_h0 thrown_h0 wrong_h0 lastEnd_h0 at_h0 bad_h0 levels_h0 least_h0 found_h0)), ((am 3), .inr (8, [.ref a_all_m3, .int size_m3])), (a_all_m3, .inl (cI, n_a_all_m3, .inl b_a_all_m3))]) (cl' := 0) (sl' := 0) rfl rfl rfl rfl rfl rfl ?_
  unfold F_Mo_feedFour at h
  have hC : 0 + mc ≤ mc := by omega
  have hS : 0 + ms ≤ ms := by omega
  refine j_iconst (v := 3) d_Mo_feedFour_0 (by decide) ?_
  refine j_istore_n (lv' := [(2, .int 3), (0, .ref h0), (1, .int p1)]) d_Mo_feedFour_1 rfl (by decide) rfl ?_
  refine j_sub (w := [(h0, .inr (9, moF am known_h0 thrown_h0 wrong_h0 lastEnd_h0 at_h0 bad_h0 levels_h0 least_h0 found_h0)), ((am 3), .inr (8, [.ref a_all_m3, .int size_m3])), (a_all_m3, .inl (cI, n_a_all_m3, .inl b_a_all_m3))]) (lv' := [(2, .int 3), (0, .ref h0), (1, .int p1)]) [0, 1, 2] rfl (by decide) [0, 1, 2] rfl ?_
  exact L_Mo_feedFour_2 l D cI cB cJ cS h0 am a_all_m3 p1 known_h0 thrown_h0 wrong_h0 lastEnd_h0 at_h0 bad_h0 levels_h0 least_h0 found_h0 size_m3 n_a_all_m3 b_a_all_m3 o_1_1 on_nq_1_0 ob_nq_1_0 mc ms p e s m below meth c hr hnm FU a_all_m3 3 size_m3 n_a_all_m3 b_a_all_m3 0 0 mc ms h hC hS
noncomputable def F_Mo_feed (p1 : Int32) (p2 : Int32) (p3 : Int32) (p4 : Int32) (p5 : Int32) (known_h0 : Int32) (thrown_h0 : Int32) (wrong_h0 : Int32) (lastEnd_h0 : Int32) (at_h0 : Int32) (bad_h0 : Int32) (levels_h0 : Int32) (least_h0 : Int32) (found_h0 : Int32) (size_m3 : Int32) (n_a_all_m3 : Nat) (b_a_all_m3 : Nat → Int32) : Option ((Int32 × Int32 × Nat × (Nat → Int32)) × Nat × Nat) :=
  if (size_m3 + 20) ≤ 65536 then (bw (F_Mo_feedFour p1 known_h0 0 wrong_h0 lastEnd_h0 at_h0 bad_h0 levels_h0 least_h0 found_h0 size_m3 n_a_all_m3 b_a_all_m3) fun ⟨r2, r3, r4⟩ =>
    bw (F_Mo_feedFour p2 known_h0 0 wrong_h0 lastEnd_h0 at_h0 bad_h0 levels_h0 least_h0 found_h0 r2 r3 r4) fun ⟨r11, r12, r13⟩ =>
    bw (F_Mo_feedFour p3 known_h0 0 wrong_h0 lastEnd_h0 at_h0 bad_h0 levels_h0 least_h0 found_h0 r11 r12 r13) fun ⟨r20, r21, r22⟩ =>
    bw (F_Mo_feedFour p4 known_h0 0 wrong_h0 lastEnd_h0 at_h0 bad_h0 levels_h0 least_h0 found_h0 r20 r21 r22) fun ⟨r29, r30, r31⟩ =>
    bw (F_Mo_feedFour p5 known_h0 0 wrong_h0 lastEnd_h0 at_h0 bad_h0 levels_h0 least_h0 found_h0 r29 r30 r31) fun ⟨r38, r39, r40⟩ =>
    (some ((r38, r38, r39, r40), 0, 0)))
  else (some (((-1), size_m3, n_a_all_m3, b_a_all_m3), 0, 0))
theorem d_Mo_feed_0 : decode prog_12_method_5_code 0 = .ok (.aload_n 0, 1) := by decide +kernel
theorem d_Mo_feed_1 : decode prog_12_method_5_code 1 = .ok (.iconst 0, 1) := by decide +kernel
theorem d_Mo_feed_2 : decode prog_12_method_5_code 2 = .ok (.putfield 197, 3) := by decide +kernel
theorem d_Mo_feed_5 : decode prog_12_method_5_code 5 = .ok (.aload_n 0, 1) := by decide +kernel
theorem d_Mo_feed_6 : decode prog_12_method_5_code 6 = .ok (.getfield 107, 3) := by decide +kernel
theorem d_Mo_feed_9 : decode prog_12_method_5_code 9 = .ok (.getfield 204, 3) := by decide +kernel
theorem d_Mo_feed_12 : decode prog_12_method_5_code 12 = .ok (.bipush 20, 2) := by decide +kernel
theorem d_Mo_feed_14 : decode prog_12_method_5_code 14 = .ok (.iadd, 1) := by decide +kernel
theorem d_Mo_feed_15 : decode prog_12_method_5_code 15 = .ok (.ldc 207, 2) := by decide +kernel
theorem d_Mo_feed_17 : decode prog_12_method_5_code 17 = .ok (.if_icmp .le 5, 3) := by decide +kernel
theorem d_Mo_feed_20 : decode prog_12_method_5_code 20 = .ok (.iconst (-1), 1) := by decide +kernel
theorem d_Mo_feed_21 : decode prog_12_method_5_code 21 = .ok (.ireturn, 1) := by decide +kernel
theorem d_Mo_feed_22 : decode prog_12_method_5_code 22 = .ok (.aload_n 0, 1) := by decide +kernel
theorem d_Mo_feed_23 : decode prog_12_method_5_code 23 = .ok (.iload_n 1, 1) := by decide +kernel
theorem d_Mo_feed_24 : decode prog_12_method_5_code 24 = .ok (.invokevirtual 208, 3) := by decide +kernel
theorem d_Mo_feed_27 : decode prog_12_method_5_code 27 = .ok (.aload_n 0, 1) := by decide +kernel
theorem d_Mo_feed_28 : decode prog_12_method_5_code 28 = .ok (.iload_n 2, 1) := by decide +kernel
theorem d_Mo_feed_29 : decode prog_12_method_5_code 29 = .ok (.invokevirtual 208, 3) := by decide +kernel
theorem d_Mo_feed_32 : decode prog_12_method_5_code 32 = .ok (.aload_n 0, 1) := by decide +kernel
theorem d_Mo_feed_33 : decode prog_12_method_5_code 33 = .ok (.iload_n 3, 1) := by decide +kernel
theorem d_Mo_feed_34 : decode prog_12_method_5_code 34 = .ok (.invokevirtual 208, 3) := by decide +kernel
theorem d_Mo_feed_37 : decode prog_12_method_5_code 37 = .ok (.aload_n 0, 1) := by decide +kernel
theorem d_Mo_feed_38 : decode prog_12_method_5_code 38 = .ok (.iload 4, 2) := by decide +kernel
theorem d_Mo_feed_40 : decode prog_12_method_5_code 40 = .ok (.invokevirtual 208, 3) := by decide +kernel
theorem d_Mo_feed_43 : decode prog_12_method_5_code 43 = .ok (.aload_n 0, 1) := by decide +kernel
theorem d_Mo_feed_44 : decode prog_12_method_5_code 44 = .ok (.iload 5, 2) := by decide +kernel
theorem d_Mo_feed_46 : decode prog_12_method_5_code 46 = .ok (.invokevirtual 208, 3) := by decide +kernel
theorem d_Mo_feed_49 : decode prog_12_method_5_code 49 = .ok (.aload_n 0, 1) := by decide +kernel
theorem d_Mo_feed_50 : decode prog_12_method_5_code 50 = .ok (.getfield 107, 3) := by decide +kernel
theorem d_Mo_feed_53 : decode prog_12_method_5_code 53 = .ok (.getfield 204, 3) := by decide +kernel
theorem d_Mo_feed_56 : decode prog_12_method_5_code 56 = .ok (.ireturn, 1) := by decide +kernel
set_option maxHeartbeats 4000000 in
set_option maxRecDepth 100000 in
theorem c_Mo_feed (l : Launch) (D : va_G) (cI cB cJ cS : ClassId) (h0 : Nat) (am : Nat → Nat) (a_all_m3 : Nat) (p1 : Int32) (p2 : Int32) (p3 : Int32) (p4 : Int32) (p5 : Int32) (known_h0 : Int32) (thrown_h0 : Int32) (wrong_h0 : Int32) (lastEnd_h0 : Int32) (at_h0 : Int32) (bad_h0 : Int32) (levels_h0 : Int32) (least_h0 : Int32) (found_h0 : Int32) (size_m3 : Int32) (n_a_all_m3 : Nat) (b_a_all_m3 : Nat → Int32) (ret : Int32) (o_1_1 : Int32) (on_nq_1_0 : Nat) (ob_nq_1_0 : Nat → Int32) (mc ms : Nat) (h : F_Mo_feed p1 p2 p3 p4 p5 known_h0 thrown_h0 wrong_h0 lastEnd_h0 at_h0 bad_h0 levels_h0 least_h0 found_h0 size_m3 n_a_all_m3 b_a_all_m3 = some ((ret, o_1_1, on_nq_1_0, ob_nq_1_0), mc, ms)) : Ct l D (gT cI cB cJ cS) y_Mo_feed prog_12_method_5_code 6 (Option.some Jvm.ClassFile.FieldType.int) 2 45 mc ms [.ref h0, .int p1, .int p2, .int p3, .int p4, .int p5] [(h0, .inr (9, moF am known_h0 thrown_h0 wrong_h0 lastEnd_h0 at_h0 bad_h0 levels_h0 least_h0 found_h0)), ((am 3), .inr (8, [.ref a_all_m3, .int size_m3])), (a_all_m3, .inl (cI, n_a_all_m3, .inl b_a_all_m3))] (fun v w => ∃ nq_1_0 : Nat, v = some (.int ret) ∧ w = [(h0, .inr (9, moF am known_h0 0 wrong_h0 lastEnd_h0 at_h0 bad_h0 levels_h0 least_h0 found_h0)), ((am 3), .inr (8, [.ref nq_1_0, .int o_1_1])), (nq_1_0, .inl (cI, on_nq_1_0, .inl ob_nq_1_0))]) := by
  refine Ct.mk (by decide) (Nat.le_of_ble_eq_true rfl) ?_
  intro p e s m below meth c hr hnm
  refine j_norm (pc' := 0) (lv' := [(0, .ref h0), (1, .int p1), (2, .int p2), (3, .int p3), (4, .int p4), (5, .int p5)]) (st' := []) (ws' := [(h0, .inr (9, moF am known_h0 thrown_h0 wrong_h0 lastEnd_h0 at_h0 bad_h0 levels_h0 least_h0 found_h0)), ((am 3), .inr (8, [.ref a_all_m3, .int size_m3])), (a_all_m3, .inl (cI, n_a_all_m3, .inl b_a_all_m3))]) (cl' := 0) (sl' := 0) rfl rfl rfl rfl rfl rfl ?_
  unfold F_Mo_feed at h
  have hC : 0 + mc ≤ mc := by omega
  have hS : 0 + ms ≤ ms := by omega
  refine j_aload_n d_Mo_feed_0 rfl 0 rfl ?_
  refine j_iconst (v := 0) d_Mo_feed_1 (by decide) ?_
  refine j_put (ws' := [(h0, .inr (9, moF am known_h0 0 wrong_h0 lastEnd_h0 at_h0 bad_h0 levels_h0 least_h0 found_h0)), ((am 3), .inr (8, [.ref a_all_m3, .int size_m3])), (a_all_m3, .inl (cI, n_a_all_m3, .inl b_a_all_m3))]) ig_Mo tk_Mo nm_Mo rfl 0 rfl 13 (by decide) rfl m_1126 rfl (tk_Mo 13 (by decide)) rfl rfl (Nat.le_of_ble_eq_true rfl) d_Mo_feed_2 rfl ?_
  refine j_aload_n d_Mo_feed_5 rfl 0 rfl ?_
  refine j_get ig_Mo rfl 0 rfl 3 (by decide) rfl m_1116 rfl d_Mo_feed_6 ?_
  refine j_getN ig_Nm rfl 1 rfl 1 (by decide) rfl mn_13 rfl d_Mo_feed_9 ?_
  refine j_bipush (v := 20) d_Mo_feed_12 (by decide) ?_
  refine j_iadd d_Mo_feed_14 ?_
  refine j_ldc (v := 65536) m_1239 d_Mo_feed_15 ?_
  refine j_icmp_le (tgt := 22) d_Mo_feed_17 (by decide) (fun c1 => ?_) (fun c1 => ?_)
  · replace h := it_t c1 h
    refine j_aload_n d_Mo_feed_22 rfl 0 rfl ?_
    refine j_iload_n d_Mo_feed_23 rfl 1 rfl ?_
    replace h := bw_s h
    obtain ⟨⟨r2, r3, r4⟩, C6, S7, C8, S9, k10, h, e1, e2⟩ := h
    replace hC : 0 + C6 + C8 ≤ mc := by omega
    replace hS : 0 + S7 + S9 ≤ ms := by omega
    clear e1 e2
    refine j_callV (n := 1) (As := [.int p1]) (rest := []) (wr := []) (c_Mo_feedFour l D cI cB cJ cS h0 am a_all_m3 p1 known_h0 0 wrong_h0 lastEnd_h0 at_h0 bad_h0 levels_h0 least_h0 found_h0 size_m3 n_a_all_m3 b_a_all_m3  r2 r3 r4 C6 S7 k10) k_Mo_208 (by decide) ⟨Nat.le_of_ble_eq_true rfl, Nat.le_of_ble_eq_true rfl⟩ rfl 0 rfl [0, 1, 2] [] rfl (by decide) rfl (by decide) (by decide) rfl rfl (Nat.le_of_ble_eq_true rfl) d_Mo_feed_24 ⟨show 0 + C6 ≤ mc by omega, show 0 + S7 ≤ ms by omega⟩ (fun v w hq => ?_)
    obtain ⟨q5, rfl, rfl⟩ := hq
    refine j_norm (pc' := 27) (st' := []) (ws' := [(h0, .inr (9, moF am known_h0 0 wrong_h0 lastEnd_h0 at_h0 bad_h0 levels_h0 least_h0 found_h0)), ((am 3), .inr (8, [.ref q5, .int r2])), (q5, .inl (cI, r3, .inl r4))]) (cl' := 0 + C6) (sl' := 0 + S7) rfl rfl rfl rfl rfl rfl ?_
    refine j_aload_n d_Mo_feed_27 rfl 0 rfl ?_
    refine j_iload_n d_Mo_feed_28 rfl 2 rfl ?_
    replace h := bw_s h
    obtain ⟨⟨r11, r12, r13⟩, C15, S16, C17, S18, k19, h, e1, e2⟩ := h
    replace hC : 0 + C6 + C15 + C17 ≤ mc := by omega
    replace hS : 0 + S7 + S16 + S18 ≤ ms := by omega
    clear e1 e2
    refine j_callV (n := 1) (As := [.int p2]) (rest := []) (wr := []) (c_Mo_feedFour l D cI cB cJ cS h0 am q5 p2 known_h0 0 wrong_h0 lastEnd_h0 at_h0 bad_h0 levels_h0 least_h0 found_h0 r2 r3 r4  r11 r12 r13 C15 S16 k19) k_Mo_208 (by decide) ⟨Nat.le_of_ble_eq_true rfl, Nat.le_of_ble_eq_true rfl⟩ rfl 0 rfl [0, 1, 2] [] rfl (by decide) rfl (by decide) (by decide) rfl rfl (Nat.le_of_ble_eq_true rfl) d_Mo_feed_29 ⟨show 0 + C6 + C15 ≤ mc by omega, show 0 + S7 + S16 ≤ ms by omega⟩ (fun v w hq => ?_)
    obtain ⟨q14, rfl, rfl⟩ := hq
    refine j_norm (pc' := 32) (st' := []) (ws' := [(h0, .inr (9, moF am known_h0 0 wrong_h0 lastEnd_h0 at_h0 bad_h0 levels_h0 least_h0 found_h0)), ((am 3), .inr (8, [.ref q14, .int r11])), (q14, .inl (cI, r12, .inl r13))]) (cl' := 0 + C6 + C15) (sl' := 0 + S7 + S16) rfl rfl rfl rfl rfl rfl ?_
    refine j_aload_n d_Mo_feed_32 rfl 0 rfl ?_
    refine j_iload_n d_Mo_feed_33 rfl 3 rfl ?_
    replace h := bw_s h
    obtain ⟨⟨r20, r21, r22⟩, C24, S25, C26, S27, k28, h, e1, e2⟩ := h
    replace hC : 0 + C6 + C15 + C24 + C26 ≤ mc := by omega
    replace hS : 0 + S7 + S16 + S25 + S27 ≤ ms := by omega
    clear e1 e2
    refine j_callV (n := 1) (As := [.int p3]) (rest := []) (wr := []) (c_Mo_feedFour l D cI cB cJ cS h0 am q14 p3 known_h0 0 wrong_h0 lastEnd_h0 at_h0 bad_h0 levels_h0 least_h0 found_h0 r11 r12 r13  r20 r21 r22 C24 S25 k28) k_Mo_208 (by decide) ⟨Nat.le_of_ble_eq_true rfl, Nat.le_of_ble_eq_true rfl⟩ rfl 0 rfl [0, 1, 2] [] rfl (by decide) rfl (by decide) (by decide) rfl rfl (Nat.le_of_ble_eq_true rfl) d_Mo_feed_34 ⟨show 0 + C6 + C15 + C24 ≤ mc by omega, show 0 + S7 + S16 + S25 ≤ ms by omega⟩ (fun v w hq => ?_)
    obtain ⟨q23, rfl, rfl⟩ := hq
    refine j_norm (pc' := 37) (st' := []) (ws' := [(h0, .inr (9, moF am known_h0 0 wrong_h0 lastEnd_h0 at_h0 bad_h0 levels_h0 least_h0 found_h0)), ((am 3), .inr (8, [.ref q23, .int r20])), (q23, .inl (cI, r21, .inl r22))]) (cl' := 0 + C6 + C15 + C24) (sl' := 0 + S7 + S16 + S25) rfl rfl rfl rfl rfl rfl ?_
    refine j_aload_n d_Mo_feed_37 rfl 0 rfl ?_
    refine j_iload d_Mo_feed_38 4 rfl ?_
    replace h := bw_s h
    obtain ⟨⟨r29, r30, r31⟩, C33, S34, C35, S36, k37, h, e1, e2⟩ := h
    replace hC : 0 + C6 + C15 + C24 + C33 + C35 ≤ mc := by omega
    replace hS : 0 + S7 + S16 + S25 + S34 + S36 ≤ ms := by omega
    clear e1 e2
    refine j_callV (n := 1) (As := [.int p4]) (rest := []) (wr := []) (c_Mo_feedFour l D cI cB cJ cS h0 am q23 p4 known_h0 0 wrong_h0 lastEnd_h0 at_h0 bad_h0 levels_h0 least_h0 found_h0 r20 r21 r22  r29 r30 r31 C33 S34 k37) k_Mo_208 (by decide) ⟨Nat.le_of_ble_eq_true rfl, Nat.le_of_ble_eq_true rfl⟩ rfl 0 rfl [0, 1, 2] [] rfl (by decide) rfl (by decide) (by decide) rfl rfl (Nat.le_of_ble_eq_true rfl) d_Mo_feed_40 ⟨show 0 + C6 + C15 + C24 + C33 ≤ mc by omega, show 0 + S7 + S16 + S25 + S34 ≤ ms by omega⟩ (fun v w hq => ?_)
    obtain ⟨q32, rfl, rfl⟩ := hq
    refine j_norm (pc' := 43) (st' := []) (ws' := [(h0, .inr (9, moF am known_h0 0 wrong_h0 lastEnd_h0 at_h0 bad_h0 levels_h0 least_h0 found_h0)), ((am 3), .inr (8, [.ref q32, .int r29])), (q32, .inl (cI, r30, .inl r31))]) (cl' := 0 + C6 + C15 + C24 + C33) (sl' := 0 + S7 + S16 + S25 + S34) rfl rfl rfl rfl rfl rfl ?_
    refine j_aload_n d_Mo_feed_43 rfl 0 rfl ?_
    refine j_iload d_Mo_feed_44 5 rfl ?_
    replace h := bw_s h
    obtain ⟨⟨r38, r39, r40⟩, C42, S43, C44, S45, k46, h, e1, e2⟩ := h
    replace hC : 0 + C6 + C15 + C24 + C33 + C42 + C44 ≤ mc := by omega
    replace hS : 0 + S7 + S16 + S25 + S34 + S43 + S45 ≤ ms := by omega
    clear e1 e2
    refine j_callV (n := 1) (As := [.int p5]) (rest := []) (wr := []) (c_Mo_feedFour l D cI cB cJ cS h0 am q32 p5 known_h0 0 wrong_h0 lastEnd_h0 at_h0 bad_h0 levels_h0 least_h0 found_h0 r29 r30 r31  r38 r39 r40 C42 S43 k46) k_Mo_208 (by decide) ⟨Nat.le_of_ble_eq_true rfl, Nat.le_of_ble_eq_true rfl⟩ rfl 0 rfl [0, 1, 2] [] rfl (by decide) rfl (by decide) (by decide) rfl rfl (Nat.le_of_ble_eq_true rfl) d_Mo_feed_46 ⟨show 0 + C6 + C15 + C24 + C33 + C42 ≤ mc by omega, show 0 + S7 + S16 + S25 + S34 + S43 ≤ ms by omega⟩ (fun v w hq => ?_)
    obtain ⟨q41, rfl, rfl⟩ := hq
    refine j_norm (pc' := 49) (st' := []) (ws' := [(h0, .inr (9, moF am known_h0 0 wrong_h0 lastEnd_h0 at_h0 bad_h0 levels_h0 least_h0 found_h0)), ((am 3), .inr (8, [.ref q41, .int r38])), (q41, .inl (cI, r39, .inl r40))]) (cl' := 0 + C6 + C15 + C24 + C33 + C42) (sl' := 0 + S7 + S16 + S25 + S34 + S43) rfl rfl rfl rfl rfl rfl ?_
    refine j_aload_n d_Mo_feed_49 rfl 0 rfl ?_
    refine j_get ig_Mo rfl 0 rfl 3 (by decide) rfl m_1116 rfl d_Mo_feed_50 ?_
    refine j_getN ig_Nm rfl 1 rfl 1 (by decide) rfl mn_13 rfl d_Mo_feed_53 ?_
    replace h := lf_s h
    obtain ⟨h, e1, e2⟩ := h
    replace h := Prod.mk.inj h
    obtain ⟨h9, h⟩ := h
    subst h9
    replace h := Prod.mk.inj h
    obtain ⟨h9, h⟩ := h
    subst h9
    replace h := Prod.mk.inj h
    obtain ⟨h9, h⟩ := h
    subst h9
    subst h
    refine j_widen (cl' := mc) (sl' := ms) (by omega) (by omega) ?_
    exact j_iret (w := [(h0, .inr (9, moF am known_h0 0 wrong_h0 lastEnd_h0 at_h0 bad_h0 levels_h0 least_h0 found_h0)), ((am 3), .inr (8, [.ref q41, .int r38])), (q41, .inl (cI, r39, .inl r40))]) hr d_Mo_feed_56 [0, 1, 2] rfl (by decide) ⟨q41, rfl, rfl⟩
  · replace h := it_f c1 h
    refine j_iconst (v := (-1)) d_Mo_feed_20 (by decide) ?_
    replace h := lf_s h
    obtain ⟨h, e1, e2⟩ := h
    replace h := Prod.mk.inj h
    obtain ⟨h9, h⟩ := h
    subst h9
    replace h := Prod.mk.inj h
    obtain ⟨h9, h⟩ := h
    subst h9
    replace h := Prod.mk.inj h
    obtain ⟨h9, h⟩ := h
    subst h9
    subst h
    refine j_widen (cl' := mc) (sl' := ms) (by omega) (by omega) ?_
    exact j_iret (w := [(h0, .inr (9, moF am known_h0 0 wrong_h0 lastEnd_h0 at_h0 bad_h0 levels_h0 least_h0 found_h0)), ((am 3), .inr (8, [.ref a_all_m3, .int size_m3])), (a_all_m3, .inl (cI, n_a_all_m3, .inl b_a_all_m3))]) hr d_Mo_feed_21 [0, 1, 2] rfl (by decide) ⟨a_all_m3, rfl, rfl⟩
def F_Mo_end_28 (p1 : Int32) (size_m3 : Int32) (t0_28 : Int32) : (Int32 × Int32 × Int32) :=
    if t0_28 ≤ 0 then (size_m3 - (20 - p1), t0_28, size_m3 - (20 - p1))
    else (0, t0_28, size_m3)
def F_Mo_end (p1 : Int32) (known_h0 : Int32) (thrown_h0 : Int32) (wrong_h0 : Int32) (lastEnd_h0 : Int32) (at_h0 : Int32) (bad_h0 : Int32) (levels_h0 : Int32) (least_h0 : Int32) (found_h0 : Int32) (size_m3 : Int32) : (Int32 × Int32 × Int32) :=
  if p1 < 0 then (F_Mo_end_28 p1 size_m3   1)
  else if 20 < p1 then (F_Mo_end_28 p1 size_m3   1)
  else if size_m3 < 20 then (F_Mo_end_28 p1 size_m3   1)
  else (F_Mo_end_28 p1 size_m3   0)
theorem d_Mo_end_0 : decode prog_12_method_6_code 0 = .ok (.aload_n 0, 1) := by decide +kernel
theorem d_Mo_end_1 : decode prog_12_method_6_code 1 = .ok (.iload_n 1, 1) := by decide +kernel
theorem d_Mo_end_2 : decode prog_12_method_6_code 2 = .ok (.ifCond .lt 25, 3) := by decide +kernel
theorem d_Mo_end_5 : decode prog_12_method_6_code 5 = .ok (.iload_n 1, 1) := by decide +kernel
theorem d_Mo_end_6 : decode prog_12_method_6_code 6 = .ok (.bipush 20, 2) := by decide +kernel
theorem d_Mo_end_8 : decode prog_12_method_6_code 8 = .ok (.if_icmp .gt 19, 3) := by decide +kernel
theorem d_Mo_end_11 : decode prog_12_method_6_code 11 = .ok (.aload_n 0, 1) := by decide +kernel
theorem d_Mo_end_12 : decode prog_12_method_6_code 12 = .ok (.getfield 107, 3) := by decide +kernel
theorem d_Mo_end_15 : decode prog_12_method_6_code 15 = .ok (.getfield 204, 3) := by decide +kernel
theorem d_Mo_end_18 : decode prog_12_method_6_code 18 = .ok (.bipush 20, 2) := by decide +kernel
theorem d_Mo_end_20 : decode prog_12_method_6_code 20 = .ok (.if_icmp .lt 7, 3) := by decide +kernel
theorem d_Mo_end_23 : decode prog_12_method_6_code 23 = .ok (.iconst 0, 1) := by decide +kernel
theorem d_Mo_end_24 : decode prog_12_method_6_code 24 = .ok (.goto 4, 3) := by decide +kernel
theorem d_Mo_end_27 : decode prog_12_method_6_code 27 = .ok (.iconst 1, 1) := by decide +kernel
theorem d_Mo_end_28 : decode prog_12_method_6_code 28 = .ok (.putfield 197, 3) := by decide +kernel
theorem d_Mo_end_31 : decode prog_12_method_6_code 31 = .ok (.aload_n 0, 1) := by decide +kernel
theorem d_Mo_end_32 : decode prog_12_method_6_code 32 = .ok (.getfield 197, 3) := by decide +kernel
theorem d_Mo_end_35 : decode prog_12_method_6_code 35 = .ok (.ifCond .le 5, 3) := by decide +kernel
theorem d_Mo_end_38 : decode prog_12_method_6_code 38 = .ok (.iconst 0, 1) := by decide +kernel
theorem d_Mo_end_39 : decode prog_12_method_6_code 39 = .ok (.ireturn, 1) := by decide +kernel
theorem d_Mo_end_40 : decode prog_12_method_6_code 40 = .ok (.aload_n 0, 1) := by decide +kernel
theorem d_Mo_end_41 : decode prog_12_method_6_code 41 = .ok (.getfield 107, 3) := by decide +kernel
theorem d_Mo_end_44 : decode prog_12_method_6_code 44 = .ok (.bipush 20, 2) := by decide +kernel
theorem d_Mo_end_46 : decode prog_12_method_6_code 46 = .ok (.iload_n 1, 1) := by decide +kernel
theorem d_Mo_end_47 : decode prog_12_method_6_code 47 = .ok (.isub, 1) := by decide +kernel
theorem d_Mo_end_48 : decode prog_12_method_6_code 48 = .ok (.invokevirtual 211, 3) := by decide +kernel
theorem d_Mo_end_51 : decode prog_12_method_6_code 51 = .ok (.aload_n 0, 1) := by decide +kernel
theorem d_Mo_end_52 : decode prog_12_method_6_code 52 = .ok (.getfield 107, 3) := by decide +kernel
theorem d_Mo_end_55 : decode prog_12_method_6_code 55 = .ok (.getfield 204, 3) := by decide +kernel
theorem d_Mo_end_58 : decode prog_12_method_6_code 58 = .ok (.ireturn, 1) := by decide +kernel
set_option maxHeartbeats 4000000 in
set_option maxRecDepth 100000 in
theorem L_Mo_end_28 (l : Launch) (D : va_G) (cI cB cJ cS : ClassId) (h0 : Nat) (am : Nat → Nat) (a_all_m3 : Nat) (p1 : Int32) (known_h0 : Int32) (thrown_h0 : Int32) (wrong_h0 : Int32) (lastEnd_h0 : Int32) (at_h0 : Int32) (bad_h0 : Int32) (levels_h0 : Int32) (least_h0 : Int32) (found_h0 : Int32) (size_m3 : Int32) (ret : Int32) (o_0_13 : Int32) (o_1_1 : Int32) (p : Program) (e : Env) (s : State) (m : MethodId) (below : List Frame) (meth : Method) (c : Code) (hr : meth.sig.returnType = (Option.some Jvm.ClassFile.FieldType.int)) (hnm : meth.name = y_Mo_end.name) : ∀ (t0_28 : Int32) (hz_t0_28 : zb t0_28), F_Mo_end_28 p1 size_m3   t0_28 = (ret, o_0_13, o_1_1) → J (KxOf p l e { frames := 1, cells := 0, slots := 0, locals := 21 } s m [.ref h0, .int p1].toArray below meth c D (gT cI cB cJ cS) [(h0, .inr (9, moF am known_h0 thrown_h0 wrong_h0 lastEnd_h0 at_h0 bad_h0 levels_h0 least_h0 found_h0)), ((am 3), .inr (8, [.ref a_all_m3, .int size_m3]))] (fun v w => v = some (.int ret) ∧ w = [(h0, .inr (9, moF am known_h0 o_0_13 wrong_h0 lastEnd_h0 at_h0 bad_h0 levels_h0 least_h0 found_h0)), ((am 3), .inr (8, [.ref a_all_m3, .int o_1_1]))]) 0 0) prog_12_method_6_code 2 R_Mo 28 [(0, .ref h0), (1, .int p1)] [.int t0_28, .ref h0] [(h0, .inr (9, moF am known_h0 thrown_h0 wrong_h0 lastEnd_h0 at_h0 bad_h0 levels_h0 least_h0 found_h0)), ((am 3), .inr (8, [.ref a_all_m3, .int size_m3]))] 0 0 := by
  intro t0_28 hz_t0_28 h
  unfold F_Mo_end_28 at h
  refine j_put (ws' := [(h0, .inr (9, moF am known_h0 t0_28 wrong_h0 lastEnd_h0 at_h0 bad_h0 levels_h0 least_h0 found_h0)), ((am 3), .inr (8, [.ref a_all_m3, .int size_m3]))]) ig_Mo tk_Mo nm_Mo rfl 0 rfl 13 (by decide) rfl m_1126 rfl (tk_Mo 13 (by decide)) rfl rfl (Nat.le_of_ble_eq_true rfl) d_Mo_end_28 rfl ?_
  refine j_aload_n d_Mo_end_31 rfl 0 rfl ?_
  refine j_get ig_Mo rfl 0 rfl 13 (by decide) rfl m_1126 rfl d_Mo_end_32 ?_
  refine j_if_le (tgt := 40) d_Mo_end_35 (by decide) (fun c1 => ?_) (fun c1 => ?_)
  · replace h := it_t c1 h
    refine j_aload_n d_Mo_end_40 rfl 0 rfl ?_
    refine j_get ig_Mo rfl 0 rfl 3 (by decide) rfl m_1116 rfl d_Mo_end_41 ?_
    refine j_bipush (v := 20) d_Mo_end_44 (by decide) ?_
    refine j_iload_n d_Mo_end_46 rfl 1 rfl ?_
    refine j_isub d_Mo_end_47 ?_
    refine j_callV (n := 1) (As := [.int (20 - p1)]) (rest := []) (wr := [(h0, .inr (9, moF am known_h0 t0_28 wrong_h0 lastEnd_h0 at_h0 bad_h0 levels_h0 least_h0 found_h0))]) (c_Nm_drop l D cI cB cJ cS (am 3) a_all_m3 (20 - p1) size_m3  ) k_Mo_211 (by decide) ⟨Nat.le_of_ble_eq_true rfl, Nat.le_of_ble_eq_true rfl⟩ rfl 0 rfl [1] [0] rfl (by decide) rfl (by decide) (by decide) rfl rfl (Nat.le_of_ble_eq_true rfl) d_Mo_end_48 ⟨Nat.le_of_ble_eq_true rfl, Nat.le_of_ble_eq_true rfl⟩ (fun v w hq => ?_)
    obtain ⟨rfl, rfl⟩ := hq
    refine j_norm (pc' := 51) (st' := []) (ws' := [(h0, .inr (9, moF am known_h0 t0_28 wrong_h0 lastEnd_h0 at_h0 bad_h0 levels_h0 least_h0 found_h0)), ((am 3), .inr (8, [.ref a_all_m3, .int (size_m3 - (20 - p1))]))]) (cl' := 0) (sl' := 0) rfl rfl rfl rfl rfl rfl ?_
    refine j_aload_n d_Mo_end_51 rfl 0 rfl ?_
    refine j_get ig_Mo rfl 0 rfl 3 (by decide) rfl m_1116 rfl d_Mo_end_52 ?_
    refine j_getN ig_Nm rfl 1 rfl 1 (by decide) rfl mn_13 rfl d_Mo_end_55 ?_
    replace h := Prod.mk.inj h
    obtain ⟨h9, h⟩ := h
    subst h9
    replace h := Prod.mk.inj h
    obtain ⟨h9, h⟩ := h
    subst h9
    subst h
    exact j_iret (w := [(h0, .inr (9, moF am known_h0 t0_28 wrong_h0 lastEnd_h0 at_h0 bad_h0 levels_h0 least_h0 found_h0)), ((am 3), .inr (8, [.ref a_all_m3, .int (size_m3 - (20 - p1))]))]) hr d_Mo_end_58 [0, 1] rfl (by decide) ⟨rfl, rfl⟩
  · replace h := it_f c1 h
    refine j_iconst (v := 0) d_Mo_end_38 (by decide) ?_
    replace h := Prod.mk.inj h
    obtain ⟨h9, h⟩ := h
    subst h9
    replace h := Prod.mk.inj h
    obtain ⟨h9, h⟩ := h
    subst h9
    subst h
    exact j_iret (w := [(h0, .inr (9, moF am known_h0 t0_28 wrong_h0 lastEnd_h0 at_h0 bad_h0 levels_h0 least_h0 found_h0)), ((am 3), .inr (8, [.ref a_all_m3, .int size_m3]))]) hr d_Mo_end_39 [0, 1] rfl (by decide) ⟨rfl, rfl⟩
set_option maxHeartbeats 4000000 in
set_option maxRecDepth 100000 in
theorem c_Mo_end (l : Launch) (D : va_G) (cI cB cJ cS : ClassId) (h0 : Nat) (am : Nat → Nat) (a_all_m3 : Nat) (p1 : Int32) (known_h0 : Int32) (thrown_h0 : Int32) (wrong_h0 : Int32) (lastEnd_h0 : Int32) (at_h0 : Int32) (bad_h0 : Int32) (levels_h0 : Int32) (least_h0 : Int32) (found_h0 : Int32) (size_m3 : Int32) (ret : Int32) (o_0_13 : Int32) (o_1_1 : Int32) (h : F_Mo_end p1 known_h0 thrown_h0 wrong_h0 lastEnd_h0 at_h0 bad_h0 levels_h0 least_h0 found_h0 size_m3 = (ret, o_0_13, o_1_1)) : Ct l D (gT cI cB cJ cS) y_Mo_end prog_12_method_6_code 2 (Option.some Jvm.ClassFile.FieldType.int) 1 21 0 0 [.ref h0, .int p1] [(h0, .inr (9, moF am known_h0 thrown_h0 wrong_h0 lastEnd_h0 at_h0 bad_h0 levels_h0 least_h0 found_h0)), ((am 3), .inr (8, [.ref a_all_m3, .int size_m3]))] (fun v w => v = some (.int ret) ∧ w = [(h0, .inr (9, moF am known_h0 o_0_13 wrong_h0 lastEnd_h0 at_h0 bad_h0 levels_h0 least_h0 found_h0)), ((am 3), .inr (8, [.ref a_all_m3, .int o_1_1]))]) := by
  refine Ct.mk (by decide) (Nat.le_of_ble_eq_true rfl) ?_
  intro p e s m below meth c hr hnm
  refine j_norm (pc' := 0) (lv' := [(0, .ref h0), (1, .int p1)]) (st' := []) (ws' := [(h0, .inr (9, moF am known_h0 thrown_h0 wrong_h0 lastEnd_h0 at_h0 bad_h0 levels_h0 least_h0 found_h0)), ((am 3), .inr (8, [.ref a_all_m3, .int size_m3]))]) (cl' := 0) (sl' := 0) rfl rfl rfl rfl rfl rfl ?_
  unfold F_Mo_end at h
  refine j_aload_n d_Mo_end_0 rfl 0 rfl ?_
  refine j_iload_n d_Mo_end_1 rfl 1 rfl ?_
  refine j_if_lt (tgt := 27) d_Mo_end_2 (by decide) (fun c3 => ?_) (fun c3 => ?_)
  · replace h := it_t c3 h
    refine j_iconst (v := 1) d_Mo_end_27 (by decide) ?_
    refine j_sub (w := [(h0, .inr (9, moF am known_h0 thrown_h0 wrong_h0 lastEnd_h0 at_h0 bad_h0 levels_h0 least_h0 found_h0)), ((am 3), .inr (8, [.ref a_all_m3, .int size_m3]))]) (lv' := [(0, .ref h0), (1, .int p1)]) [0, 1] rfl (by decide) [0, 1] rfl ?_
    exact L_Mo_end_28 l D cI cB cJ cS h0 am a_all_m3 p1 known_h0 thrown_h0 wrong_h0 lastEnd_h0 at_h0 bad_h0 levels_h0 least_h0 found_h0 size_m3 ret o_0_13 o_1_1 p e s m below meth c hr hnm 1 zb1 h
  · replace h := it_f c3 h
    refine j_iload_n d_Mo_end_5 rfl 1 rfl ?_
    refine j_bipush (v := 20) d_Mo_end_6 (by decide) ?_
    refine j_icmp_gt (tgt := 27) d_Mo_end_8 (by decide) (fun c4 => ?_) (fun c4 => ?_)
    · replace h := it_t c4 h
      refine j_iconst (v := 1) d_Mo_end_27 (by decide) ?_
      refine j_sub (w := [(h0, .inr (9, moF am known_h0 thrown_h0 wrong_h0 lastEnd_h0 at_h0 bad_h0 levels_h0 least_h0 found_h0)), ((am 3), .inr (8, [.ref a_all_m3, .int size_m3]))]) (lv' := [(0, .ref h0), (1, .int p1)]) [0, 1] rfl (by decide) [0, 1] rfl ?_
      exact L_Mo_end_28 l D cI cB cJ cS h0 am a_all_m3 p1 known_h0 thrown_h0 wrong_h0 lastEnd_h0 at_h0 bad_h0 levels_h0 least_h0 found_h0 size_m3 ret o_0_13 o_1_1 p e s m below meth c hr hnm 1 zb1 h
    · replace h := it_f c4 h
      refine j_aload_n d_Mo_end_11 rfl 0 rfl ?_
      refine j_get ig_Mo rfl 0 rfl 3 (by decide) rfl m_1116 rfl d_Mo_end_12 ?_
      refine j_getN ig_Nm rfl 1 rfl 1 (by decide) rfl mn_13 rfl d_Mo_end_15 ?_
      refine j_bipush (v := 20) d_Mo_end_18 (by decide) ?_
      refine j_icmp_lt (tgt := 27) d_Mo_end_20 (by decide) (fun c5 => ?_) (fun c5 => ?_)
      · replace h := it_t c5 h
        refine j_iconst (v := 1) d_Mo_end_27 (by decide) ?_
        refine j_sub (w := [(h0, .inr (9, moF am known_h0 thrown_h0 wrong_h0 lastEnd_h0 at_h0 bad_h0 levels_h0 least_h0 found_h0)), ((am 3), .inr (8, [.ref a_all_m3, .int size_m3]))]) (lv' := [(0, .ref h0), (1, .int p1)]) [0, 1] rfl (by decide) [0, 1] rfl ?_
        exact L_Mo_end_28 l D cI cB cJ cS h0 am a_all_m3 p1 known_h0 thrown_h0 wrong_h0 lastEnd_h0 at_h0 bad_h0 levels_h0 least_h0 found_h0 size_m3 ret o_0_13 o_1_1 p e s m below meth c hr hnm 1 zb1 h
      · replace h := it_f c5 h
        refine j_iconst (v := 0) d_Mo_end_23 (by decide) ?_
        refine j_goto (tgt := 28) d_Mo_end_24 (by decide) ?_
        refine j_sub (w := [(h0, .inr (9, moF am known_h0 thrown_h0 wrong_h0 lastEnd_h0 at_h0 bad_h0 levels_h0 least_h0 found_h0)), ((am 3), .inr (8, [.ref a_all_m3, .int size_m3]))]) (lv' := [(0, .ref h0), (1, .int p1)]) [0, 1] rfl (by decide) [0, 1] rfl ?_
        exact L_Mo_end_28 l D cI cB cJ cS h0 am a_all_m3 p1 known_h0 thrown_h0 wrong_h0 lastEnd_h0 at_h0 bad_h0 levels_h0 least_h0 found_h0 size_m3 ret o_0_13 o_1_1 p e s m below meth c hr hnm 0 zb0 h
def F_Mo_letter (p1 : Int32) (known_h0 : Int32) (thrown_h0 : Int32) (wrong_h0 : Int32) (lastEnd_h0 : Int32) (at_h0 : Int32) (bad_h0 : Int32) (levels_h0 : Int32) (least_h0 : Int32) (found_h0 : Int32) (size_m4 : Int32) (n_a_all_m4 : Nat) (b_a_all_m4 : Nat → Int32) : Option (Int32) :=
  if size_m4 ≤ p1 then (some 0)
  else (Option.bind (F_Nm_at p1 size_m4 n_a_all_m4 b_a_all_m4) fun _ =>
    (some (b_a_all_m4 (Int32.toNatClampNeg p1))))
theorem d_Mo_letter_0 : decode prog_12_method_7_code 0 = .ok (.iload_n 1, 1) := by decide +kernel
theorem d_Mo_letter_1 : decode prog_12_method_7_code 1 = .ok (.aload_n 0, 1) := by decide +kernel
theorem d_Mo_letter_2 : decode prog_12_method_7_code 2 = .ok (.getfield 111, 3) := by decide +kernel
theorem d_Mo_letter_5 : decode prog_12_method_7_code 5 = .ok (.getfield 204, 3) := by decide +kernel
theorem d_Mo_letter_8 : decode prog_12_method_7_code 8 = .ok (.if_icmp .ge 14, 3) := by decide +kernel
theorem d_Mo_letter_11 : decode prog_12_method_7_code 11 = .ok (.aload_n 0, 1) := by decide +kernel
theorem d_Mo_letter_12 : decode prog_12_method_7_code 12 = .ok (.getfield 111, 3) := by decide +kernel
theorem d_Mo_letter_15 : decode prog_12_method_7_code 15 = .ok (.iload_n 1, 1) := by decide +kernel
theorem d_Mo_letter_16 : decode prog_12_method_7_code 16 = .ok (.invokevirtual 214, 3) := by decide +kernel
theorem d_Mo_letter_19 : decode prog_12_method_7_code 19 = .ok (.goto 4, 3) := by decide +kernel
theorem d_Mo_letter_22 : decode prog_12_method_7_code 22 = .ok (.iconst 0, 1) := by decide +kernel
theorem d_Mo_letter_23 : decode prog_12_method_7_code 23 = .ok (.ireturn, 1) := by decide +kernel
set_option maxHeartbeats 4000000 in
set_option maxRecDepth 100000 in
theorem c_Mo_letter (l : Launch) (D : va_G) (cI cB cJ cS : ClassId) (h0 : Nat) (am : Nat → Nat) (a_all_m4 : Nat) (p1 : Int32) (known_h0 : Int32) (thrown_h0 : Int32) (wrong_h0 : Int32) (lastEnd_h0 : Int32) (at_h0 : Int32) (bad_h0 : Int32) (levels_h0 : Int32) (least_h0 : Int32) (found_h0 : Int32) (size_m4 : Int32) (n_a_all_m4 : Nat) (b_a_all_m4 : Nat → Int32) (ret : Int32) (h : F_Mo_letter p1 known_h0 thrown_h0 wrong_h0 lastEnd_h0 at_h0 bad_h0 levels_h0 least_h0 found_h0 size_m4 n_a_all_m4 b_a_all_m4 = some ret) : Ct l D (gT cI cB cJ cS) y_Mo_letter prog_12_method_7_code 2 (Option.some Jvm.ClassFile.FieldType.int) 1 21 0 0 [.ref h0, .int p1] [(h0, .inr (9, moF am known_h0 thrown_h0 wrong_h0 lastEnd_h0 at_h0 bad_h0 levels_h0 least_h0 found_h0)), ((am 4), .inr (8, [.ref a_all_m4, .int size_m4])), (a_all_m4, .inl (cI, n_a_all_m4, .inl b_a_all_m4))] (fun v w => v = some (.int ret) ∧ w = [(h0, .inr (9, moF am known_h0 thrown_h0 wrong_h0 lastEnd_h0 at_h0 bad_h0 levels_h0 least_h0 found_h0)), ((am 4), .inr (8, [.ref a_all_m4, .int size_m4])), (a_all_m4, .inl (cI, n_a_all_m4, .inl b_a_all_m4))]) := by
  refine Ct.mk (by decide) (Nat.le_of_ble_eq_true rfl) ?_
  intro p e s m below meth c hr hnm
  refine j_norm (pc' := 0) (lv' := [(0, .ref h0), (1, .int p1)]) (st' := []) (ws' := [(h0, .inr (9, moF am known_h0 thrown_h0 wrong_h0 lastEnd_h0 at_h0 bad_h0 levels_h0 least_h0 found_h0)), ((am 4), .inr (8, [.ref a_all_m4, .int size_m4])), (a_all_m4, .inl (cI, n_a_all_m4, .inl b_a_all_m4))]) (cl' := 0) (sl' := 0) rfl rfl rfl rfl rfl rfl ?_
  unfold F_Mo_letter at h
  refine j_iload_n d_Mo_letter_0 rfl 1 rfl ?_
  refine j_aload_n d_Mo_letter_1 rfl 0 rfl ?_
  refine j_get ig_Mo rfl 0 rfl 4 (by decide) rfl m_1117 rfl d_Mo_letter_2 ?_
  refine j_getN ig_Nm rfl 1 rfl 1 (by decide) rfl mn_13 rfl d_Mo_letter_5 ?_
  refine j_icmp_ge (tgt := 22) d_Mo_letter_8 (by decide) (fun c1 => ?_) (fun c1 => ?_)
  · replace h := it_t c1 h
    refine j_iconst (v := 0) d_Mo_letter_22 (by decide) ?_
    replace h := Option.some.inj h
    subst h
    exact j_iret (w := [(h0, .inr (9, moF am known_h0 thrown_h0 wrong_h0 lastEnd_h0 at_h0 bad_h0 levels_h0 least_h0 found_h0)), ((am 4), .inr (8, [.ref a_all_m4, .int size_m4])), (a_all_m4, .inl (cI, n_a_all_m4, .inl b_a_all_m4))]) hr d_Mo_letter_23 [0, 1, 2] rfl (by decide) ⟨rfl, rfl⟩
  · replace h := it_f c1 h
    refine j_aload_n d_Mo_letter_11 rfl 0 rfl ?_
    refine j_get ig_Mo rfl 0 rfl 4 (by decide) rfl m_1117 rfl d_Mo_letter_12 ?_
    refine j_iload_n d_Mo_letter_15 rfl 1 rfl ?_
    replace h := bd_s h
    obtain ⟨_, k2, h⟩ := h
    refine j_callV (n := 1) (As := [.int p1]) (rest := []) (wr := [(h0, .inr (9, moF am known_h0 thrown_h0 wrong_h0 lastEnd_h0 at_h0 bad_h0 levels_h0 least_h0 found_h0))]) (c_Nm_at l D cI cB cJ cS (am 4) a_all_m4 p1 size_m4 n_a_all_m4 b_a_all_m4  k2) k_Mo_214 (by decide) ⟨Nat.le_of_ble_eq_true rfl, Nat.le_of_ble_eq_true rfl⟩ rfl 0 rfl [1, 2] [0] rfl (by decide) rfl (by decide) (by decide) rfl rfl (Nat.le_of_ble_eq_true rfl) d_Mo_letter_16 ⟨Nat.le_of_ble_eq_true rfl, Nat.le_of_ble_eq_true rfl⟩ (fun v w hq => ?_)
    obtain ⟨rfl, rfl⟩ := hq
    refine j_norm (pc' := 19) (st' := [.int (b_a_all_m4 (Int32.toNatClampNeg p1))]) (ws' := [(h0, .inr (9, moF am known_h0 thrown_h0 wrong_h0 lastEnd_h0 at_h0 bad_h0 levels_h0 least_h0 found_h0)), ((am 4), .inr (8, [.ref a_all_m4, .int size_m4])), (a_all_m4, .inl (cI, n_a_all_m4, .inl b_a_all_m4))]) (cl' := 0) (sl' := 0) rfl rfl rfl rfl rfl rfl ?_
    refine j_goto (tgt := 23) d_Mo_letter_19 (by decide) ?_
    replace h := Option.some.inj h
    subst h
    exact j_iret (w := [(h0, .inr (9, moF am known_h0 thrown_h0 wrong_h0 lastEnd_h0 at_h0 bad_h0 levels_h0 least_h0 found_h0)), ((am 4), .inr (8, [.ref a_all_m4, .int size_m4])), (a_all_m4, .inl (cI, n_a_all_m4, .inl b_a_all_m4))]) hr d_Mo_letter_23 [0, 1, 2] rfl (by decide) ⟨rfl, rfl⟩
def F_Mo_isDigit (p1 : Int32) : (Int32) :=
  if p1 < 48 then 0
  else if 57 < p1 then 0
  else 1
theorem d_Mo_isDigit_0 : decode prog_12_method_8_code 0 = .ok (.iload_n 0, 1) := by decide +kernel
theorem d_Mo_isDigit_1 : decode prog_12_method_8_code 1 = .ok (.bipush 48, 2) := by decide +kernel
theorem d_Mo_isDigit_3 : decode prog_12_method_8_code 3 = .ok (.if_icmp .lt 13, 3) := by decide +kernel
theorem d_Mo_isDigit_6 : decode prog_12_method_8_code 6 = .ok (.iload_n 0, 1) := by decide +kernel
theorem d_Mo_isDigit_7 : decode prog_12_method_8_code 7 = .ok (.bipush 57, 2) := by decide +kernel
theorem d_Mo_isDigit_9 : decode prog_12_method_8_code 9 = .ok (.if_icmp .gt 7, 3) := by decide +kernel
theorem d_Mo_isDigit_12 : decode prog_12_method_8_code 12 = .ok (.iconst 1, 1) := by decide +kernel
theorem d_Mo_isDigit_13 : decode prog_12_method_8_code 13 = .ok (.goto 4, 3) := by decide +kernel
theorem d_Mo_isDigit_16 : decode prog_12_method_8_code 16 = .ok (.iconst 0, 1) := by decide +kernel
theorem d_Mo_isDigit_17 : decode prog_12_method_8_code 17 = .ok (.ireturn, 1) := by decide +kernel
set_option maxHeartbeats 4000000 in
set_option maxRecDepth 100000 in
theorem c_Mo_isDigit (l : Launch) (D : va_G) (cI cB cJ cS : ClassId) (p1 : Int32) (ret : Int32) (h : F_Mo_isDigit p1 = ret) : Ct l D (gT cI cB cJ cS) y_Mo_isDigit prog_12_method_8_code 1 (Option.some Jvm.ClassFile.FieldType.boolean) 0 0 0 0 [.int p1] [] (fun v w => v = some (.int ret) ∧ zb ret ∧ w = []) := by
  refine Ct.mk (by decide) (Nat.le_of_ble_eq_true rfl) ?_
  intro p e s m below meth c hr hnm
  refine j_norm (pc' := 0) (lv' := [(0, .int p1)]) (st' := []) (ws' := []) (cl' := 0) (sl' := 0) rfl rfl rfl rfl rfl rfl ?_
  unfold F_Mo_isDigit at h
  refine j_iload_n d_Mo_isDigit_0 rfl 0 rfl ?_
  refine j_bipush (v := 48) d_Mo_isDigit_1 (by decide) ?_
  refine j_icmp_lt (tgt := 16) d_Mo_isDigit_3 (by decide) (fun c1 => ?_) (fun c1 => ?_)
  · replace h := it_t c1 h
    refine j_iconst (v := 0) d_Mo_isDigit_16 (by decide) ?_
    subst h
    exact j_zret (w := []) hr (zb_n zb0) d_Mo_isDigit_17 [] rfl (by decide) ⟨rfl, zb0, rfl⟩
  · replace h := it_f c1 h
    refine j_iload_n d_Mo_isDigit_6 rfl 0 rfl ?_
    refine j_bipush (v := 57) d_Mo_isDigit_7 (by decide) ?_
    refine j_icmp_gt (tgt := 16) d_Mo_isDigit_9 (by decide) (fun c2 => ?_) (fun c2 => ?_)
    · replace h := it_t c2 h
      refine j_iconst (v := 0) d_Mo_isDigit_16 (by decide) ?_
      subst h
      exact j_zret (w := []) hr (zb_n zb0) d_Mo_isDigit_17 [] rfl (by decide) ⟨rfl, zb0, rfl⟩
    · replace h := it_f c2 h
      refine j_iconst (v := 1) d_Mo_isDigit_12 (by decide) ?_
      refine j_goto (tgt := 17) d_Mo_isDigit_13 (by decide) ?_
      subst h
      exact j_zret (w := []) hr (zb_n zb1) d_Mo_isDigit_17 [] rfl (by decide) ⟨rfl, zb1, rfl⟩
def F_Mo_isLetter_12 (p1 : Int32) : (Int32) :=
    if p1 < 65 then 0
    else if 90 < p1 then 0
    else 1
def F_Mo_isLetter (p1 : Int32) : (Int32) :=
  if p1 < 97 then (F_Mo_isLetter_12 p1   )
  else if p1 ≤ 122 then 1
  else (F_Mo_isLetter_12 p1   )
theorem d_Mo_isLetter_0 : decode prog_12_method_9_code 0 = .ok (.iload_n 0, 1) := by decide +kernel
theorem d_Mo_isLetter_1 : decode prog_12_method_9_code 1 = .ok (.bipush 97, 2) := by decide +kernel
theorem d_Mo_isLetter_3 : decode prog_12_method_9_code 3 = .ok (.if_icmp .lt 9, 3) := by decide +kernel
theorem d_Mo_isLetter_6 : decode prog_12_method_9_code 6 = .ok (.iload_n 0, 1) := by decide +kernel
theorem d_Mo_isLetter_7 : decode prog_12_method_9_code 7 = .ok (.bipush 122, 2) := by decide +kernel
theorem d_Mo_isLetter_9 : decode prog_12_method_9_code 9 = .ok (.if_icmp .le 15, 3) := by decide +kernel
theorem d_Mo_isLetter_12 : decode prog_12_method_9_code 12 = .ok (.iload_n 0, 1) := by decide +kernel
theorem d_Mo_isLetter_13 : decode prog_12_method_9_code 13 = .ok (.bipush 65, 2) := by decide +kernel
theorem d_Mo_isLetter_15 : decode prog_12_method_9_code 15 = .ok (.if_icmp .lt 13, 3) := by decide +kernel
theorem d_Mo_isLetter_18 : decode prog_12_method_9_code 18 = .ok (.iload_n 0, 1) := by decide +kernel
theorem d_Mo_isLetter_19 : decode prog_12_method_9_code 19 = .ok (.bipush 90, 2) := by decide +kernel
theorem d_Mo_isLetter_21 : decode prog_12_method_9_code 21 = .ok (.if_icmp .gt 7, 3) := by decide +kernel
theorem d_Mo_isLetter_24 : decode prog_12_method_9_code 24 = .ok (.iconst 1, 1) := by decide +kernel
theorem d_Mo_isLetter_25 : decode prog_12_method_9_code 25 = .ok (.goto 4, 3) := by decide +kernel
theorem d_Mo_isLetter_28 : decode prog_12_method_9_code 28 = .ok (.iconst 0, 1) := by decide +kernel
theorem d_Mo_isLetter_29 : decode prog_12_method_9_code 29 = .ok (.ireturn, 1) := by decide +kernel
set_option maxHeartbeats 4000000 in
set_option maxRecDepth 100000 in
theorem L_Mo_isLetter_12 (l : Launch) (D : va_G) (cI cB cJ cS : ClassId) (p1 : Int32) (ret : Int32) (p : Program) (e : Env) (s : State) (m : MethodId) (below : List Frame) (meth : Method) (c : Code) (hr : meth.sig.returnType = (Option.some Jvm.ClassFile.FieldType.boolean)) (hnm : meth.name = y_Mo_isLetter.name) : F_Mo_isLetter_12 p1    = ret → J (KxOf p l e { frames := 0, cells := 0, slots := 0, locals := 0 } s m [.int p1].toArray below meth c D (gT cI cB cJ cS) [] (fun v w => v = some (.int ret) ∧ zb ret ∧ w = []) 0 0) prog_12_method_9_code 1 R_Mo 12 [(0, .int p1)] [] [] 0 0 := by
  intro  h
  unfold F_Mo_isLetter_12 at h
  refine j_iload_n d_Mo_isLetter_12 rfl 0 rfl ?_
  refine j_bipush (v := 65) d_Mo_isLetter_13 (by decide) ?_
  refine j_icmp_lt (tgt := 28) d_Mo_isLetter_15 (by decide) (fun c1 => ?_) (fun c1 => ?_)
  · replace h := it_t c1 h
    refine j_iconst (v := 0) d_Mo_isLetter_28 (by decide) ?_
    subst h
    exact j_zret (w := []) hr (zb_n zb0) d_Mo_isLetter_29 [] rfl (by decide) ⟨rfl, zb0, rfl⟩
  · replace h := it_f c1 h
    refine j_iload_n d_Mo_isLetter_18 rfl 0 rfl ?_
    refine j_bipush (v := 90) d_Mo_isLetter_19 (by decide) ?_
    refine j_icmp_gt (tgt := 28) d_Mo_isLetter_21 (by decide) (fun c2 => ?_) (fun c2 => ?_)
    · replace h := it_t c2 h
      refine j_iconst (v := 0) d_Mo_isLetter_28 (by decide) ?_
      subst h
      exact j_zret (w := []) hr (zb_n zb0) d_Mo_isLetter_29 [] rfl (by decide) ⟨rfl, zb0, rfl⟩
    · replace h := it_f c2 h
      refine j_iconst (v := 1) d_Mo_isLetter_24 (by decide) ?_
      refine j_goto (tgt := 29) d_Mo_isLetter_25 (by decide) ?_
      subst h
      exact j_zret (w := []) hr (zb_n zb1) d_Mo_isLetter_29 [] rfl (by decide) ⟨rfl, zb1, rfl⟩
set_option maxHeartbeats 4000000 in
set_option maxRecDepth 100000 in
theorem c_Mo_isLetter (l : Launch) (D : va_G) (cI cB cJ cS : ClassId) (p1 : Int32) (ret : Int32) (h : F_Mo_isLetter p1 = ret) : Ct l D (gT cI cB cJ cS) y_Mo_isLetter prog_12_method_9_code 1 (Option.some Jvm.ClassFile.FieldType.boolean) 0 0 0 0 [.int p1] [] (fun v w => v = some (.int ret) ∧ zb ret ∧ w = []) := by
  refine Ct.mk (by decide) (Nat.le_of_ble_eq_true rfl) ?_
  intro p e s m below meth c hr hnm
  refine j_norm (pc' := 0) (lv' := [(0, .int p1)]) (st' := []) (ws' := []) (cl' := 0) (sl' := 0) rfl rfl rfl rfl rfl rfl ?_
  unfold F_Mo_isLetter at h
  refine j_iload_n d_Mo_isLetter_0 rfl 0 rfl ?_
  refine j_bipush (v := 97) d_Mo_isLetter_1 (by decide) ?_
  refine j_icmp_lt (tgt := 12) d_Mo_isLetter_3 (by decide) (fun c3 => ?_) (fun c3 => ?_)
  · replace h := it_t c3 h
    refine j_sub (w := []) (lv' := [(0, .int p1)]) [] rfl (by decide) [0] rfl ?_
    exact L_Mo_isLetter_12 l D cI cB cJ cS p1 ret p e s m below meth c hr hnm  h
  · replace h := it_f c3 h
    refine j_iload_n d_Mo_isLetter_6 rfl 0 rfl ?_
    refine j_bipush (v := 122) d_Mo_isLetter_7 (by decide) ?_
    refine j_icmp_le (tgt := 24) d_Mo_isLetter_9 (by decide) (fun c4 => ?_) (fun c4 => ?_)
    · replace h := it_t c4 h
      refine j_iconst (v := 1) d_Mo_isLetter_24 (by decide) ?_
      refine j_goto (tgt := 29) d_Mo_isLetter_25 (by decide) ?_
      subst h
      exact j_zret (w := []) hr (zb_n zb1) d_Mo_isLetter_29 [] rfl (by decide) ⟨rfl, zb1, rfl⟩
    · replace h := it_f c4 h
      refine j_sub (w := []) (lv' := [(0, .int p1)]) [] rfl (by decide) [0] rfl ?_
      exact L_Mo_isLetter_12 l D cI cB cJ cS p1 ret p e s m below meth c hr hnm  h
def F_Mo_isBlank (p1 : Int32) : (Int32) :=
  if p1 = 9 then 1
  else if p1 = 10 then 1
  else if p1 = 13 then 1
  else if p1 = 32 then 1
  else 0
theorem d_Mo_isBlank_0 : decode prog_12_method_10_code 0 = .ok (.iload_n 0, 1) := by decide +kernel
theorem d_Mo_isBlank_1 : decode prog_12_method_10_code 1 = .ok (.bipush 9, 2) := by decide +kernel
theorem d_Mo_isBlank_3 : decode prog_12_method_10_code 3 = .ok (.if_icmp .eq 21, 3) := by decide +kernel
theorem d_Mo_isBlank_6 : decode prog_12_method_10_code 6 = .ok (.iload_n 0, 1) := by decide +kernel
theorem d_Mo_isBlank_7 : decode prog_12_method_10_code 7 = .ok (.bipush 10, 2) := by decide +kernel
theorem d_Mo_isBlank_9 : decode prog_12_method_10_code 9 = .ok (.if_icmp .eq 15, 3) := by decide +kernel
theorem d_Mo_isBlank_12 : decode prog_12_method_10_code 12 = .ok (.iload_n 0, 1) := by decide +kernel
theorem d_Mo_isBlank_13 : decode prog_12_method_10_code 13 = .ok (.bipush 13, 2) := by decide +kernel
theorem d_Mo_isBlank_15 : decode prog_12_method_10_code 15 = .ok (.if_icmp .eq 9, 3) := by decide +kernel
theorem d_Mo_isBlank_18 : decode prog_12_method_10_code 18 = .ok (.iload_n 0, 1) := by decide +kernel
theorem d_Mo_isBlank_19 : decode prog_12_method_10_code 19 = .ok (.bipush 32, 2) := by decide +kernel
theorem d_Mo_isBlank_21 : decode prog_12_method_10_code 21 = .ok (.if_icmp .ne 7, 3) := by decide +kernel
theorem d_Mo_isBlank_24 : decode prog_12_method_10_code 24 = .ok (.iconst 1, 1) := by decide +kernel
theorem d_Mo_isBlank_25 : decode prog_12_method_10_code 25 = .ok (.goto 4, 3) := by decide +kernel
theorem d_Mo_isBlank_28 : decode prog_12_method_10_code 28 = .ok (.iconst 0, 1) := by decide +kernel
theorem d_Mo_isBlank_29 : decode prog_12_method_10_code 29 = .ok (.ireturn, 1) := by decide +kernel
set_option maxHeartbeats 4000000 in
set_option maxRecDepth 100000 in
theorem c_Mo_isBlank (l : Launch) (D : va_G) (cI cB cJ cS : ClassId) (p1 : Int32) (ret : Int32) (h : F_Mo_isBlank p1 = ret) : Ct l D (gT cI cB cJ cS) y_Mo_isBlank prog_12_method_10_code 1 (Option.some Jvm.ClassFile.FieldType.boolean) 0 0 0 0 [.int p1] [] (fun v w => v = some (.int ret) ∧ zb ret ∧ w = []) := by
  refine Ct.mk (by decide) (Nat.le_of_ble_eq_true rfl) ?_
  intro p e s m below meth c hr hnm
  refine j_norm (pc' := 0) (lv' := [(0, .int p1)]) (st' := []) (ws' := []) (cl' := 0) (sl' := 0) rfl rfl rfl rfl rfl rfl ?_
  unfold F_Mo_isBlank at h
  refine j_iload_n d_Mo_isBlank_0 rfl 0 rfl ?_
  refine j_bipush (v := 9) d_Mo_isBlank_1 (by decide) ?_
  refine j_icmp_eq (tgt := 24) d_Mo_isBlank_3 (by decide) (fun c1 => ?_) (fun c1 => ?_)
  · replace h := it_t c1 h
    refine j_iconst (v := 1) d_Mo_isBlank_24 (by decide) ?_
    refine j_goto (tgt := 29) d_Mo_isBlank_25 (by decide) ?_
    subst h
    exact j_zret (w := []) hr (zb_n zb1) d_Mo_isBlank_29 [] rfl (by decide) ⟨rfl, zb1, rfl⟩
  · replace h := it_f c1 h
    refine j_iload_n d_Mo_isBlank_6 rfl 0 rfl ?_
    refine j_bipush (v := 10) d_Mo_isBlank_7 (by decide) ?_
    refine j_icmp_eq (tgt := 24) d_Mo_isBlank_9 (by decide) (fun c2 => ?_) (fun c2 => ?_)
    · replace h := it_t c2 h
      refine j_iconst (v := 1) d_Mo_isBlank_24 (by decide) ?_
      refine j_goto (tgt := 29) d_Mo_isBlank_25 (by decide) ?_
      subst h
      exact j_zret (w := []) hr (zb_n zb1) d_Mo_isBlank_29 [] rfl (by decide) ⟨rfl, zb1, rfl⟩
    · replace h := it_f c2 h
      refine j_iload_n d_Mo_isBlank_12 rfl 0 rfl ?_
      refine j_bipush (v := 13) d_Mo_isBlank_13 (by decide) ?_
      refine j_icmp_eq (tgt := 24) d_Mo_isBlank_15 (by decide) (fun c3 => ?_) (fun c3 => ?_)
      · replace h := it_t c3 h
        refine j_iconst (v := 1) d_Mo_isBlank_24 (by decide) ?_
        refine j_goto (tgt := 29) d_Mo_isBlank_25 (by decide) ?_
        subst h
        exact j_zret (w := []) hr (zb_n zb1) d_Mo_isBlank_29 [] rfl (by decide) ⟨rfl, zb1, rfl⟩
      · replace h := it_f c3 h
        refine j_iload_n d_Mo_isBlank_18 rfl 0 rfl ?_
        refine j_bipush (v := 32) d_Mo_isBlank_19 (by decide) ?_
        refine j_icmp_ne (tgt := 28) d_Mo_isBlank_21 (by decide) (fun c4 => ?_) (fun c4 => ?_)
        · replace h := it_f c4 h
          refine j_iconst (v := 0) d_Mo_isBlank_28 (by decide) ?_
          subst h
          exact j_zret (w := []) hr (zb_n zb0) d_Mo_isBlank_29 [] rfl (by decide) ⟨rfl, zb0, rfl⟩
        · replace h := it_t c4 h
          refine j_iconst (v := 1) d_Mo_isBlank_24 (by decide) ?_
          refine j_goto (tgt := 29) d_Mo_isBlank_25 (by decide) ?_
          subst h
          exact j_zret (w := []) hr (zb_n zb1) d_Mo_isBlank_29 [] rfl (by decide) ⟨rfl, zb1, rfl⟩
def F_Mo_skip_53 (size_m4 : Int32) (n_a_all_m4 : Nat) (b_a_all_m4 : Nat → Int32) (K_2 : Int32 → Option (Int32)) : Nat → Int32 → Option (Int32)
  | 0, _ => none
  | k_53 + 1, v2_53 =>
    if size_m4 ≤ v2_53 then (K_2 v2_53)
    else (Option.bind (F_Nm_at v2_53 size_m4 n_a_all_m4 b_a_all_m4) fun _ =>
      if (b_a_all_m4 (Int32.toNatClampNeg v2_53)) = 10 then (K_2 v2_53)
      else (F_Mo_skip_53 size_m4 n_a_all_m4 b_a_all_m4 K_2 k_53 (v2_53 + 1)))
def F_Mo_skip_2 (size_m4 : Int32) (n_a_all_m4 : Nat) (b_a_all_m4 : Nat → Int32) : Nat → Int32 → Option (Int32)
  | 0, _ => none
  | k_2 + 1, v2_2 =>
    if size_m4 ≤ v2_2 then (some v2_2)
    else (Option.bind (F_Nm_at v2_2 size_m4 n_a_all_m4 b_a_all_m4) fun _ =>
      nm (F_Mo_isBlank (b_a_all_m4 (Int32.toNatClampNeg v2_2))) fun r6 =>
      if r6 = 0 then (Option.bind (F_Nm_at v2_2 size_m4 n_a_all_m4 b_a_all_m4) fun _ =>
        if (b_a_all_m4 (Int32.toNatClampNeg v2_2)) = 37 then (Option.bind (F_Nm_at v2_2 size_m4 n_a_all_m4 b_a_all_m4) fun _ =>
          if (b_a_all_m4 (Int32.toNatClampNeg v2_2)) = 37 then (F_Mo_skip_53 size_m4 n_a_all_m4 b_a_all_m4 (F_Mo_skip_2 size_m4 n_a_all_m4 b_a_all_m4  k_2) FU v2_2)
          else (F_Mo_skip_2 size_m4 n_a_all_m4 b_a_all_m4  k_2 (v2_2 + 1)))
        else (some v2_2))
      else (Option.bind (F_Nm_at v2_2 size_m4 n_a_all_m4 b_a_all_m4) fun _ =>
        if (b_a_all_m4 (Int32.toNatClampNeg v2_2)) = 37 then (F_Mo_skip_53 size_m4 n_a_all_m4 b_a_all_m4 (F_Mo_skip_2 size_m4 n_a_all_m4 b_a_all_m4  k_2) FU v2_2)
        else (F_Mo_skip_2 size_m4 n_a_all_m4 b_a_all_m4  k_2 (v2_2 + 1))))
def F_Mo_skip (p1 : Int32) (known_h0 : Int32) (thrown_h0 : Int32) (wrong_h0 : Int32) (lastEnd_h0 : Int32) (at_h0 : Int32) (bad_h0 : Int32) (levels_h0 : Int32) (least_h0 : Int32) (found_h0 : Int32) (size_m4 : Int32) (n_a_all_m4 : Nat) (b_a_all_m4 : Nat → Int32) : Option (Int32) :=
  F_Mo_skip_2 size_m4 n_a_all_m4 b_a_all_m4  FU p1
theorem d_Mo_skip_0 : decode prog_12_method_11_code 0 = .ok (.iload_n 1, 1) := by decide +kernel
theorem d_Mo_skip_1 : decode prog_12_method_11_code 1 = .ok (.istore_n 2, 1) := by decide +kernel
theorem d_Mo_skip_2 : decode prog_12_method_11_code 2 = .ok (.iload_n 2, 1) := by decide +kernel
theorem d_Mo_skip_3 : decode prog_12_method_11_code 3 = .ok (.aload_n 0, 1) := by decide +kernel
theorem d_Mo_skip_4 : decode prog_12_method_11_code 4 = .ok (.getfield 111, 3) := by decide +kernel
theorem d_Mo_skip_7 : decode prog_12_method_11_code 7 = .ok (.getfield 204, 3) := by decide +kernel
theorem d_Mo_skip_10 : decode prog_12_method_11_code 10 = .ok (.if_icmp .ge 79, 3) := by decide +kernel
theorem d_Mo_skip_13 : decode prog_12_method_11_code 13 = .ok (.aload_n 0, 1) := by decide +kernel
theorem d_Mo_skip_14 : decode prog_12_method_11_code 14 = .ok (.getfield 111, 3) := by decide +kernel
theorem d_Mo_skip_17 : decode prog_12_method_11_code 17 = .ok (.iload_n 2, 1) := by decide +kernel
theorem d_Mo_skip_18 : decode prog_12_method_11_code 18 = .ok (.invokevirtual 214, 3) := by decide +kernel
theorem d_Mo_skip_21 : decode prog_12_method_11_code 21 = .ok (.invokestatic 218, 3) := by decide +kernel
theorem d_Mo_skip_24 : decode prog_12_method_11_code 24 = .ok (.ifCond .ne 16, 3) := by decide +kernel
theorem d_Mo_skip_27 : decode prog_12_method_11_code 27 = .ok (.aload_n 0, 1) := by decide +kernel
theorem d_Mo_skip_28 : decode prog_12_method_11_code 28 = .ok (.getfield 111, 3) := by decide +kernel
theorem d_Mo_skip_31 : decode prog_12_method_11_code 31 = .ok (.iload_n 2, 1) := by decide +kernel
theorem d_Mo_skip_32 : decode prog_12_method_11_code 32 = .ok (.invokevirtual 214, 3) := by decide +kernel
theorem d_Mo_skip_35 : decode prog_12_method_11_code 35 = .ok (.bipush 37, 2) := by decide +kernel
theorem d_Mo_skip_37 : decode prog_12_method_11_code 37 = .ok (.if_icmp .ne 52, 3) := by decide +kernel
theorem d_Mo_skip_40 : decode prog_12_method_11_code 40 = .ok (.aload_n 0, 1) := by decide +kernel
theorem d_Mo_skip_41 : decode prog_12_method_11_code 41 = .ok (.getfield 111, 3) := by decide +kernel
theorem d_Mo_skip_44 : decode prog_12_method_11_code 44 = .ok (.iload_n 2, 1) := by decide +kernel
theorem d_Mo_skip_45 : decode prog_12_method_11_code 45 = .ok (.invokevirtual 214, 3) := by decide +kernel
theorem d_Mo_skip_48 : decode prog_12_method_11_code 48 = .ok (.bipush 37, 2) := by decide +kernel
theorem d_Mo_skip_50 : decode prog_12_method_11_code 50 = .ok (.if_icmp .ne 33, 3) := by decide +kernel
theorem d_Mo_skip_53 : decode prog_12_method_11_code 53 = .ok (.iload_n 2, 1) := by decide +kernel
theorem d_Mo_skip_54 : decode prog_12_method_11_code 54 = .ok (.aload_n 0, 1) := by decide +kernel
theorem d_Mo_skip_55 : decode prog_12_method_11_code 55 = .ok (.getfield 111, 3) := by decide +kernel
theorem d_Mo_skip_58 : decode prog_12_method_11_code 58 = .ok (.getfield 204, 3) := by decide +kernel
theorem d_Mo_skip_61 : decode prog_12_method_11_code 61 = .ok (.if_icmp .ge (-59), 3) := by decide +kernel
theorem d_Mo_skip_64 : decode prog_12_method_11_code 64 = .ok (.aload_n 0, 1) := by decide +kernel
theorem d_Mo_skip_65 : decode prog_12_method_11_code 65 = .ok (.getfield 111, 3) := by decide +kernel
theorem d_Mo_skip_68 : decode prog_12_method_11_code 68 = .ok (.iload_n 2, 1) := by decide +kernel
theorem d_Mo_skip_69 : decode prog_12_method_11_code 69 = .ok (.invokevirtual 214, 3) := by decide +kernel
theorem d_Mo_skip_72 : decode prog_12_method_11_code 72 = .ok (.bipush 10, 2) := by decide +kernel
theorem d_Mo_skip_74 : decode prog_12_method_11_code 74 = .ok (.if_icmp .eq (-72), 3) := by decide +kernel
theorem d_Mo_skip_77 : decode prog_12_method_11_code 77 = .ok (.iinc 2 1, 3) := by decide +kernel
theorem d_Mo_skip_80 : decode prog_12_method_11_code 80 = .ok (.goto (-27), 3) := by decide +kernel
theorem d_Mo_skip_83 : decode prog_12_method_11_code 83 = .ok (.iinc 2 1, 3) := by decide +kernel
theorem d_Mo_skip_86 : decode prog_12_method_11_code 86 = .ok (.goto (-84), 3) := by decide +kernel
theorem d_Mo_skip_89 : decode prog_12_method_11_code 89 = .ok (.iload_n 2, 1) := by decide +kernel
theorem d_Mo_skip_90 : decode prog_12_method_11_code 90 = .ok (.ireturn, 1) := by decide +kernel
set_option maxHeartbeats 4000000 in
set_option maxRecDepth 100000 in
theorem L_Mo_skip_2 (l : Launch) (D : va_G) (cI cB cJ cS : ClassId) (h0 : Nat) (am : Nat → Nat) (a_all_m4 : Nat) (p1 : Int32) (known_h0 : Int32) (thrown_h0 : Int32) (wrong_h0 : Int32) (lastEnd_h0 : Int32) (at_h0 : Int32) (bad_h0 : Int32) (levels_h0 : Int32) (least_h0 : Int32) (found_h0 : Int32) (size_m4 : Int32) (n_a_all_m4 : Nat) (b_a_all_m4 : Nat → Int32) (ret : Int32) (p : Program) (e : Env) (s : State) (m : MethodId) (below : List Frame) (meth : Method) (c : Code) (hr : meth.sig.returnType = (Option.some Jvm.ClassFile.FieldType.int)) (hnm : meth.name = y_Mo_skip.name) : ∀ (k_2 : Nat) (v2_2 : Int32), F_Mo_skip_2 size_m4 n_a_all_m4 b_a_all_m4  k_2 v2_2 = some ret → J (KxOf p l e { frames := 1, cells := 0, slots := 0, locals := 21 } s m [.ref h0, .int p1].toArray below meth c D (gT cI cB cJ cS) [(h0, .inr (9, moF am known_h0 thrown_h0 wrong_h0 lastEnd_h0 at_h0 bad_h0 levels_h0 least_h0 found_h0)), ((am 4), .inr (8, [.ref a_all_m4, .int size_m4])), (a_all_m4, .inl (cI, n_a_all_m4, .inl b_a_all_m4))] (fun v w => v = some (.int ret) ∧ w = [(h0, .inr (9, moF am known_h0 thrown_h0 wrong_h0 lastEnd_h0 at_h0 bad_h0 levels_h0 least_h0 found_h0)), ((am 4), .inr (8, [.ref a_all_m4, .int size_m4])), (a_all_m4, .inl (cI, n_a_all_m4, .inl b_a_all_m4))]) 0 0) prog_12_method_11_code 3 R_Mo 2 [(2, .int v2_2), (0, .ref h0), (1, .int p1)] [] [(h0, .inr (9, moF am known_h0 thrown_h0 wrong_h0 lastEnd_h0 at_h0 bad_h0 levels_h0 least_h0 found_h0)), ((am 4), .inr (8, [.ref a_all_m4, .int size_m4])), (a_all_m4, .inl (cI, n_a_all_m4, .inl b_a_all_m4))] 0 0 := by
  intro k_2
  induction k_2 with
  | zero => intro v2_2 h; rw [F_Mo_skip_2] at h; cases h
  | succ k_2 ih_2 =>
    intro v2_2 h
    rw [F_Mo_skip_2] at h
    have L_53 : ∀ (k_53 : Nat) (v2_53 : Int32), F_Mo_skip_53 size_m4 n_a_all_m4 b_a_all_m4 (F_Mo_skip_2 size_m4 n_a_all_m4 b_a_all_m4  k_2) k_53 v2_53 = some ret → J (KxOf p l e { frames := 1, cells := 0, slots := 0, locals := 21 } s m [.ref h0, .int p1].toArray below meth c D (gT cI cB cJ cS) [(h0, .inr (9, moF am known_h0 thrown_h0 wrong_h0 lastEnd_h0 at_h0 bad_h0 levels_h0 least_h0 found_h0)), ((am 4), .inr (8, [.ref a_all_m4, .int size_m4])), (a_all_m4, .inl (cI, n_a_all_m4, .inl b_a_all_m4))] (fun v w => v = some (.int ret) ∧ w = [(h0, .inr (9, moF am known_h0 thrown_h0 wrong_h0 lastEnd_h0 at_h0 bad_h0 levels_h0 least_h0 found_h0)), ((am 4), .inr (8, [.ref a_all_m4, .int size_m4])), (a_all_m4, .inl (cI, n_a_all_m4, .inl b_a_all_m4))]) 0 0) prog_12_method_11_code 3 R_Mo 53 [(2, .int v2_53), (0, .ref h0), (1, .int p1)] [] [(h0, .inr (9, moF am known_h0 thrown_h0 wrong_h0 lastEnd_h0 at_h0 bad_h0 levels_h0 least_h0 found_h0)), ((am 4), .inr (8, [.ref a_all_m4, .int size_m4])), (a_all_m4, .inl (cI, n_a_all_m4, .inl b_a_all_m4))] 0 0 := by
      clear h
      intro k_53
      induction k_53 with
      | zero => intro v2_53 h; rw [F_Mo_skip_53] at h; cases h
      | succ k_53 ih_53 =>
        intro v2_53 h
        rw [F_Mo_skip_53] at h
        refine j_iload_n d_Mo_skip_53 rfl 0 rfl ?_
        refine j_aload_n d_Mo_skip_54 rfl 1 rfl ?_
        refine j_get ig_Mo rfl 0 rfl 4 (by decide) rfl m_1117 rfl d_Mo_skip_55 ?_
        refine j_getN ig_Nm rfl 1 rfl 1 (by decide) rfl mn_13 rfl d_Mo_skip_58 ?_
        refine j_icmp_ge (tgt := 2) d_Mo_skip_61 (by decide) (fun c1 => ?_) (fun c1 => ?_)
        · replace h := it_t c1 h
          refine j_sub (w := [(h0, .inr (9, moF am known_h0 thrown_h0 wrong_h0 lastEnd_h0 at_h0 bad_h0 levels_h0 least_h0 found_h0)), ((am 4), .inr (8, [.ref a_all_m4, .int size_m4])), (a_all_m4, .inl (cI, n_a_all_m4, .inl b_a_all_m4))]) (lv' := [(2, .int v2_53), (0, .ref h0), (1, .int p1)]) [0, 1, 2] rfl (by decide) [0, 1, 2] rfl ?_
          exact ih_2 v2_53 h
        · replace h := it_f c1 h
          refine j_aload_n d_Mo_skip_64 rfl 1 rfl ?_
          refine j_get ig_Mo rfl 0 rfl 4 (by decide) rfl m_1117 rfl d_Mo_skip_65 ?_
          refine j_iload_n d_Mo_skip_68 rfl 0 rfl ?_
          replace h := bd_s h
          obtain ⟨_, k2, h⟩ := h
          refine j_callV (n := 1) (As := [.int v2_53]) (rest := []) (wr := [(h0, .inr (9, moF am known_h0 thrown_h0 wrong_h0 lastEnd_h0 at_h0 bad_h0 levels_h0 least_h0 found_h0))]) (c_Nm_at l D cI cB cJ cS (am 4) a_all_m4 v2_53 size_m4 n_a_all_m4 b_a_all_m4  k2) k_Mo_214 (by decide) ⟨Nat.le_of_ble_eq_true rfl, Nat.le_of_ble_eq_true rfl⟩ rfl 0 rfl [1, 2] [0] rfl (by decide) rfl (by decide) (by decide) rfl rfl (Nat.le_of_ble_eq_true rfl) d_Mo_skip_69 ⟨Nat.le_of_ble_eq_true rfl, Nat.le_of_ble_eq_true rfl⟩ (fun v w hq => ?_)
          obtain ⟨rfl, rfl⟩ := hq
          refine j_norm (pc' := 72) (st' := [.int (b_a_all_m4 (Int32.toNatClampNeg v2_53))]) (ws' := [(h0, .inr (9, moF am known_h0 thrown_h0 wrong_h0 lastEnd_h0 at_h0 bad_h0 levels_h0 least_h0 found_h0)), ((am 4), .inr (8, [.ref a_all_m4, .int size_m4])), (a_all_m4, .inl (cI, n_a_all_m4, .inl b_a_all_m4))]) (cl' := 0) (sl' := 0) rfl rfl rfl rfl rfl rfl ?_
          refine j_bipush (v := 10) d_Mo_skip_72 (by decide) ?_
          refine j_icmp_eq (tgt := 2) d_Mo_skip_74 (by decide) (fun c3 => ?_) (fun c3 => ?_)
          · replace h := it_t c3 h
            refine j_sub (w := [(h0, .inr (9, moF am known_h0 thrown_h0 wrong_h0 lastEnd_h0 at_h0 bad_h0 levels_h0 least_h0 found_h0)), ((am 4), .inr (8, [.ref a_all_m4, .int size_m4])), (a_all_m4, .inl (cI, n_a_all_m4, .inl b_a_all_m4))]) (lv' := [(2, .int v2_53), (0, .ref h0), (1, .int p1)]) [0, 1, 2] rfl (by decide) [0, 1, 2] rfl ?_
            exact ih_2 v2_53 h
          · replace h := it_f c3 h
            refine j_iinc (v := v2_53 + 1) (lv' := [(2, .int (v2_53 + 1)), (0, .ref h0), (1, .int p1)]) d_Mo_skip_77 0 rfl rfl (by decide) rfl ?_
            refine j_goto (tgt := 53) d_Mo_skip_80 (by decide) ?_
            refine j_sub (w := [(h0, .inr (9, moF am known_h0 thrown_h0 wrong_h0 lastEnd_h0 at_h0 bad_h0 levels_h0 least_h0 found_h0)), ((am 4), .inr (8, [.ref a_all_m4, .int size_m4])), (a_all_m4, .inl (cI, n_a_all_m4, .inl b_a_all_m4))]) (lv' := [(2, .int (v2_53 + 1)), (0, .ref h0), (1, .int p1)]) [0, 1, 2] rfl (by decide) [0, 1, 2] rfl ?_
            exact ih_53 (v2_53 + 1) h
    refine j_iload_n d_Mo_skip_2 rfl 0 rfl ?_
    refine j_aload_n d_Mo_skip_3 rfl 1 rfl ?_
    refine j_get ig_Mo rfl 0 rfl 4 (by decide) rfl m_1117 rfl d_Mo_skip_4 ?_
    refine j_getN ig_Nm rfl 1 rfl 1 (by decide) rfl mn_13 rfl d_Mo_skip_7 ?_
    refine j_icmp_ge (tgt := 89) d_Mo_skip_10 (by decide) (fun c4 => ?_) (fun c4 => ?_)
    · replace h := it_t c4 h
      refine j_iload_n d_Mo_skip_89 rfl 0 rfl ?_
      replace h := Option.some.inj h
      subst h
      exact j_iret (w := [(h0, .inr (9, moF am known_h0 thrown_h0 wrong_h0 lastEnd_h0 at_h0 bad_h0 levels_h0 least_h0 found_h0)), ((am 4), .inr (8, [.ref a_all_m4, .int size_m4])), (a_all_m4, .inl (cI, n_a_all_m4, .inl b_a_all_m4))]) hr d_Mo_skip_90 [0, 1, 2] rfl (by decide) ⟨rfl, rfl⟩
    · replace h := it_f c4 h
      refine j_aload_n d_Mo_skip_13 rfl 1 rfl ?_
      refine j_get ig_Mo rfl 0 rfl 4 (by decide) rfl m_1117 rfl d_Mo_skip_14 ?_
      refine j_iload_n d_Mo_skip_17 rfl 0 rfl ?_
      replace h := bd_s h
      obtain ⟨_, k5, h⟩ := h
      refine j_callV (n := 1) (As := [.int v2_2]) (rest := []) (wr := [(h0, .inr (9, moF am known_h0 thrown_h0 wrong_h0 lastEnd_h0 at_h0 bad_h0 levels_h0 least_h0 found_h0))]) (c_Nm_at l D cI cB cJ cS (am 4) a_all_m4 v2_2 size_m4 n_a_all_m4 b_a_all_m4  k5) k_Mo_214 (by decide) ⟨Nat.le_of_ble_eq_true rfl, Nat.le_of_ble_eq_true rfl⟩ rfl 0 rfl [1, 2] [0] rfl (by decide) rfl (by decide) (by decide) rfl rfl (Nat.le_of_ble_eq_true rfl) d_Mo_skip_18 ⟨Nat.le_of_ble_eq_true rfl, Nat.le_of_ble_eq_true rfl⟩ (fun v w hq => ?_)
      obtain ⟨rfl, rfl⟩ := hq
      refine j_norm (pc' := 21) (st' := [.int (b_a_all_m4 (Int32.toNatClampNeg v2_2))]) (ws' := [(h0, .inr (9, moF am known_h0 thrown_h0 wrong_h0 lastEnd_h0 at_h0 bad_h0 levels_h0 least_h0 found_h0)), ((am 4), .inr (8, [.ref a_all_m4, .int size_m4])), (a_all_m4, .inl (cI, n_a_all_m4, .inl b_a_all_m4))]) (cl' := 0) (sl' := 0) rfl rfl rfl rfl rfl rfl ?_
      obtain ⟨r6, k8⟩ : ∃ z, (F_Mo_isBlank (b_a_all_m4 (Int32.toNatClampNeg v2_2))) = z := ⟨_, rfl⟩
      replace h := nm_at k8 h
      refine j_callS (n := 1) (As := [.int (b_a_all_m4 (Int32.toNatClampNeg v2_2))]) (rest := []) (wr := [(h0, .inr (9, moF am known_h0 thrown_h0 wrong_h0 lastEnd_h0 at_h0 bad_h0 levels_h0 least_h0 found_h0)), ((am 4), .inr (8, [.ref a_all_m4, .int size_m4])), (a_all_m4, .inl (cI, n_a_all_m4, .inl b_a_all_m4))]) (c_Mo_isBlank l D cI cB cJ cS (b_a_all_m4 (Int32.toNatClampNeg v2_2))  r6 k8) k_Mo_218 (by decide) ⟨Nat.le_of_ble_eq_true rfl, Nat.le_of_ble_eq_true rfl⟩ [] [0, 1, 2] rfl (by decide) rfl (by decide) (by decide) rfl rfl (Nat.le_of_ble_eq_true rfl) d_Mo_skip_21 ⟨Nat.le_of_ble_eq_true rfl, Nat.le_of_ble_eq_true rfl⟩ (fun v w hq => ?_)
      obtain ⟨rfl, z7, rfl⟩ := hq
      refine j_norm (pc' := 24) (st' := [.int r6]) (ws' := [(h0, .inr (9, moF am known_h0 thrown_h0 wrong_h0 lastEnd_h0 at_h0 bad_h0 levels_h0 least_h0 found_h0)), ((am 4), .inr (8, [.ref a_all_m4, .int size_m4])), (a_all_m4, .inl (cI, n_a_all_m4, .inl b_a_all_m4))]) (cl' := 0) (sl' := 0) rfl rfl rfl rfl rfl rfl ?_
      refine j_if_ne (tgt := 40) d_Mo_skip_24 (by decide) (fun c9 => ?_) (fun c9 => ?_)
      · replace h := it_f c9 h
        refine j_aload_n d_Mo_skip_40 rfl 1 rfl ?_
        refine j_get ig_Mo rfl 0 rfl 4 (by decide) rfl m_1117 rfl d_Mo_skip_41 ?_
        refine j_iload_n d_Mo_skip_44 rfl 0 rfl ?_
        replace h := bd_s h
        obtain ⟨_, k10, h⟩ := h
        refine j_callV (n := 1) (As := [.int v2_2]) (rest := []) (wr := [(h0, .inr (9, moF am known_h0 thrown_h0 wrong_h0 lastEnd_h0 at_h0 bad_h0 levels_h0 least_h0 found_h0))]) (c_Nm_at l D cI cB cJ cS (am 4) a_all_m4 v2_2 size_m4 n_a_all_m4 b_a_all_m4  k10) k_Mo_214 (by decide) ⟨Nat.le_of_ble_eq_true rfl, Nat.le_of_ble_eq_true rfl⟩ rfl 0 rfl [1, 2] [0] rfl (by decide) rfl (by decide) (by decide) rfl rfl (Nat.le_of_ble_eq_true rfl) d_Mo_skip_45 ⟨Nat.le_of_ble_eq_true rfl, Nat.le_of_ble_eq_true rfl⟩ (fun v w hq => ?_)
        obtain ⟨rfl, rfl⟩ := hq
        refine j_norm (pc' := 48) (st' := [.int (b_a_all_m4 (Int32.toNatClampNeg v2_2))]) (ws' := [(h0, .inr (9, moF am known_h0 thrown_h0 wrong_h0 lastEnd_h0 at_h0 bad_h0 levels_h0 least_h0 found_h0)), ((am 4), .inr (8, [.ref a_all_m4, .int size_m4])), (a_all_m4, .inl (cI, n_a_all_m4, .inl b_a_all_m4))]) (cl' := 0) (sl' := 0) rfl rfl rfl rfl rfl rfl ?_
        refine j_bipush (v := 37) d_Mo_skip_48 (by decide) ?_
        refine j_icmp_ne (tgt := 83) d_Mo_skip_50 (by decide) (fun c11 => ?_) (fun c11 => ?_)
        · replace h := it_f c11 h
          refine j_iinc (v := v2_2 + 1) (lv' := [(2, .int (v2_2 + 1)), (0, .ref h0), (1, .int p1)]) d_Mo_skip_83 0 rfl rfl (by decide) rfl ?_
          refine j_goto (tgt := 2) d_Mo_skip_86 (by decide) ?_
          refine j_sub (w := [(h0, .inr (9, moF am known_h0 thrown_h0 wrong_h0 lastEnd_h0 at_h0 bad_h0 levels_h0 least_h0 found_h0)), ((am 4), .inr (8, [.ref a_all_m4, .int size_m4])), (a_all_m4, .inl (cI, n_a_all_m4, .inl b_a_all_m4))]) (lv' := [(2, .int (v2_2 + 1)), (0, .ref h0), (1, .int p1)]) [0, 1, 2] rfl (by decide) [0, 1, 2] rfl ?_
          exact ih_2 (v2_2 + 1) h
        · replace h := it_t c11 h
          refine j_sub (w := [(h0, .inr (9, moF am known_h0 thrown_h0 wrong_h0 lastEnd_h0 at_h0 bad_h0 levels_h0 least_h0 found_h0)), ((am 4), .inr (8, [.ref a_all_m4, .int size_m4])), (a_all_m4, .inl (cI, n_a_all_m4, .inl b_a_all_m4))]) (lv' := [(2, .int v2_2), (0, .ref h0), (1, .int p1)]) [0, 1, 2] rfl (by decide) [0, 1, 2] rfl ?_
          exact L_53 FU v2_2 h
      · replace h := it_t c9 h
        refine j_aload_n d_Mo_skip_27 rfl 1 rfl ?_
        refine j_get ig_Mo rfl 0 rfl 4 (by decide) rfl m_1117 rfl d_Mo_skip_28 ?_
        refine j_iload_n d_Mo_skip_31 rfl 0 rfl ?_
        replace h := bd_s h
        obtain ⟨_, k12, h⟩ := h
        refine j_callV (n := 1) (As := [.int v2_2]) (rest := []) (wr := [(h0, .inr (9, moF am known_h0 thrown_h0 wrong_h0 lastEnd_h0 at_h0 bad_h0 levels_h0 least_h0 found_h0))]) (c_Nm_at l D cI cB cJ cS (am 4) a_all_m4 v2_2 size_m4 n_a_all_m4 b_a_all_m4  k12) k_Mo_214 (by decide) ⟨Nat.le_of_ble_eq_true rfl, Nat.le_of_ble_eq_true rfl⟩ rfl 0 rfl [1, 2] [0] rfl (by decide) rfl (by decide) (by decide) rfl rfl (Nat.le_of_ble_eq_true rfl) d_Mo_skip_32 ⟨Nat.le_of_ble_eq_true rfl, Nat.le_of_ble_eq_true rfl⟩ (fun v w hq => ?_)
        obtain ⟨rfl, rfl⟩ := hq
        refine j_norm (pc' := 35) (st' := [.int (b_a_all_m4 (Int32.toNatClampNeg v2_2))]) (ws' := [(h0, .inr (9, moF am known_h0 thrown_h0 wrong_h0 lastEnd_h0 at_h0 bad_h0 levels_h0 least_h0 found_h0)), ((am 4), .inr (8, [.ref a_all_m4, .int size_m4])), (a_all_m4, .inl (cI, n_a_all_m4, .inl b_a_all_m4))]) (cl' := 0) (sl' := 0) rfl rfl rfl rfl rfl rfl ?_
        refine j_bipush (v := 37) d_Mo_skip_35 (by decide) ?_
        refine j_icmp_ne (tgt := 89) d_Mo_skip_37 (by decide) (fun c13 => ?_) (fun c13 => ?_)
        · replace h := it_f c13 h
          refine j_iload_n d_Mo_skip_89 rfl 0 rfl ?_
          replace h := Option.some.inj h
          subst h
          exact j_iret (w := [(h0, .inr (9, moF am known_h0 thrown_h0 wrong_h0 lastEnd_h0 at_h0 bad_h0 levels_h0 least_h0 found_h0)), ((am 4), .inr (8, [.ref a_all_m4, .int size_m4])), (a_all_m4, .inl (cI, n_a_all_m4, .inl b_a_all_m4))]) hr d_Mo_skip_90 [0, 1, 2] rfl (by decide) ⟨rfl, rfl⟩
        · replace h := it_t c13 h
          refine j_aload_n d_Mo_skip_40 rfl 1 rfl ?_
          refine j_get ig_Mo rfl 0 rfl 4 (by decide) rfl m_1117 rfl d_Mo_skip_41 ?_
          refine j_iload_n d_Mo_skip_44 rfl 0 rfl ?_
          replace h := bd_s h
          obtain ⟨_, k14, h⟩ := h
          refine j_callV (n := 1) (As := [.int v2_2]) (rest := []) (wr := [(h0, .inr (9, moF am known_h0 thrown_h0 wrong_h0 lastEnd_h0 at_h0 bad_h0 levels_h0 least_h0 found_h0))]) (c_Nm_at l D cI cB cJ cS (am 4) a_all_m4 v2_2 size_m4 n_a_all_m4 b_a_all_m4  k14) k_Mo_214 (by decide) ⟨Nat.le_of_ble_eq_true rfl, Nat.le_of_ble_eq_true rfl⟩ rfl 0 rfl [1, 2] [0] rfl (by decide) rfl (by decide) (by decide) rfl rfl (Nat.le_of_ble_eq_true rfl) d_Mo_skip_45 ⟨Nat.le_of_ble_eq_true rfl, Nat.le_of_ble_eq_true rfl⟩ (fun v w hq => ?_)
          obtain ⟨rfl, rfl⟩ := hq
          refine j_norm (pc' := 48) (st' := [.int (b_a_all_m4 (Int32.toNatClampNeg v2_2))]) (ws' := [(h0, .inr (9, moF am known_h0 thrown_h0 wrong_h0 lastEnd_h0 at_h0 bad_h0 levels_h0 least_h0 found_h0)), ((am 4), .inr (8, [.ref a_all_m4, .int size_m4])), (a_all_m4, .inl (cI, n_a_all_m4, .inl b_a_all_m4))]) (cl' := 0) (sl' := 0) rfl rfl rfl rfl rfl rfl ?_
          refine j_bipush (v := 37) d_Mo_skip_48 (by decide) ?_
          refine j_icmp_ne (tgt := 83) d_Mo_skip_50 (by decide) (fun c15 => ?_) (fun c15 => ?_)
          · replace h := it_f c15 h
            refine j_iinc (v := v2_2 + 1) (lv' := [(2, .int (v2_2 + 1)), (0, .ref h0), (1, .int p1)]) d_Mo_skip_83 0 rfl rfl (by decide) rfl ?_
            refine j_goto (tgt := 2) d_Mo_skip_86 (by decide) ?_
            refine j_sub (w := [(h0, .inr (9, moF am known_h0 thrown_h0 wrong_h0 lastEnd_h0 at_h0 bad_h0 levels_h0 least_h0 found_h0)), ((am 4), .inr (8, [.ref a_all_m4, .int size_m4])), (a_all_m4, .inl (cI, n_a_all_m4, .inl b_a_all_m4))]) (lv' := [(2, .int (v2_2 + 1)), (0, .ref h0), (1, .int p1)]) [0, 1, 2] rfl (by decide) [0, 1, 2] rfl ?_
            exact ih_2 (v2_2 + 1) h
          · replace h := it_t c15 h
            refine j_sub (w := [(h0, .inr (9, moF am known_h0 thrown_h0 wrong_h0 lastEnd_h0 at_h0 bad_h0 levels_h0 least_h0 found_h0)), ((am 4), .inr (8, [.ref a_all_m4, .int size_m4])), (a_all_m4, .inl (cI, n_a_all_m4, .inl b_a_all_m4))]) (lv' := [(2, .int v2_2), (0, .ref h0), (1, .int p1)]) [0, 1, 2] rfl (by decide) [0, 1, 2] rfl ?_
            exact L_53 FU v2_2 h
set_option maxHeartbeats 4000000 in
set_option maxRecDepth 100000 in
theorem c_Mo_skip (l : Launch) (D : va_G) (cI cB cJ cS : ClassId) (h0 : Nat) (am : Nat → Nat) (a_all_m4 : Nat) (p1 : Int32) (known_h0 : Int32) (thrown_h0 : Int32) (wrong_h0 : Int32) (lastEnd_h0 : Int32) (at_h0 : Int32) (bad_h0 : Int32) (levels_h0 : Int32) (least_h0 : Int32) (found_h0 : Int32) (size_m4 : Int32) (n_a_all_m4 : Nat) (b_a_all_m4 : Nat → Int32) (ret : Int32) (h : F_Mo_skip p1 known_h0 thrown_h0 wrong_h0 lastEnd_h0 at_h0 bad_h0 levels_h0 least_h0 found_h0 size_m4 n_a_all_m4 b_a_all_m4 = some ret) : Ct l D (gT cI cB cJ cS) y_Mo_skip prog_12_method_11_code 3 (Option.some Jvm.ClassFile.FieldType.int) 1 21 0 0 [.ref h0, .int p1] [(h0, .inr (9, moF am known_h0 thrown_h0 wrong_h0 lastEnd_h0 at_h0 bad_h0 levels_h0 least_h0 found_h0)), ((am 4), .inr (8, [.ref a_all_m4, .int size_m4])), (a_all_m4, .inl (cI, n_a_all_m4, .inl b_a_all_m4))] (fun v w => v = some (.int ret) ∧ w = [(h0, .inr (9, moF am known_h0 thrown_h0 wrong_h0 lastEnd_h0 at_h0 bad_h0 levels_h0 least_h0 found_h0)), ((am 4), .inr (8, [.ref a_all_m4, .int size_m4])), (a_all_m4, .inl (cI, n_a_all_m4, .inl b_a_all_m4))]) := by
  refine Ct.mk (by decide) (Nat.le_of_ble_eq_true rfl) ?_
  intro p e s m below meth c hr hnm
  refine j_norm (pc' := 0) (lv' := [(0, .ref h0), (1, .int p1)]) (st' := []) (ws' := [(h0, .inr (9, moF am known_h0 thrown_h0 wrong_h0 lastEnd_h0 at_h0 bad_h0 levels_h0 least_h0 found_h0)), ((am 4), .inr (8, [.ref a_all_m4, .int size_m4])), (a_all_m4, .inl (cI, n_a_all_m4, .inl b_a_all_m4))]) (cl' := 0) (sl' := 0) rfl rfl rfl rfl rfl rfl ?_
  unfold F_Mo_skip at h
  refine j_iload_n d_Mo_skip_0 rfl 1 rfl ?_
  refine j_istore_n (lv' := [(2, .int p1), (0, .ref h0), (1, .int p1)]) d_Mo_skip_1 rfl (by decide) rfl ?_
  refine j_sub (w := [(h0, .inr (9, moF am known_h0 thrown_h0 wrong_h0 lastEnd_h0 at_h0 bad_h0 levels_h0 least_h0 found_h0)), ((am 4), .inr (8, [.ref a_all_m4, .int size_m4])), (a_all_m4, .inl (cI, n_a_all_m4, .inl b_a_all_m4))]) (lv' := [(2, .int p1), (0, .ref h0), (1, .int p1)]) [0, 1, 2] rfl (by decide) [0, 1, 2] rfl ?_
  exact L_Mo_skip_2 l D cI cB cJ cS h0 am a_all_m4 p1 known_h0 thrown_h0 wrong_h0 lastEnd_h0 at_h0 bad_h0 levels_h0 least_h0 found_h0 size_m4 n_a_all_m4 b_a_all_m4 ret p e s m below meth c hr hnm FU p1 h
def F_Mo_digitsEnd_2 (known_h0 : Int32) (thrown_h0 : Int32) (wrong_h0 : Int32) (lastEnd_h0 : Int32) (at_h0 : Int32) (bad_h0 : Int32) (levels_h0 : Int32) (least_h0 : Int32) (found_h0 : Int32) (size_m4 : Int32) (n_a_all_m4 : Nat) (b_a_all_m4 : Nat → Int32) : Nat → Int32 → Option (Int32)
  | 0, _ => none
  | k_2 + 1, v2_2 =>
    Option.bind (F_Mo_letter v2_2 known_h0 thrown_h0 wrong_h0 lastEnd_h0 at_h0 bad_h0 levels_h0 least_h0 found_h0 size_m4 n_a_all_m4 b_a_all_m4) fun r1 =>
    nm (F_Mo_isDigit r1) fun r3 =>
    if r3 = 0 then (some v2_2)
    else (F_Mo_digitsEnd_2 known_h0 thrown_h0 wrong_h0 lastEnd_h0 at_h0 bad_h0 levels_h0 least_h0 found_h0 size_m4 n_a_all_m4 b_a_all_m4  k_2 (v2_2 + 1))
def F_Mo_digitsEnd (p1 : Int32) (known_h0 : Int32) (thrown_h0 : Int32) (wrong_h0 : Int32) (lastEnd_h0 : Int32) (at_h0 : Int32) (bad_h0 : Int32) (levels_h0 : Int32) (least_h0 : Int32) (found_h0 : Int32) (size_m4 : Int32) (n_a_all_m4 : Nat) (b_a_all_m4 : Nat → Int32) : Option (Int32) :=
  F_Mo_digitsEnd_2 known_h0 thrown_h0 wrong_h0 lastEnd_h0 at_h0 bad_h0 levels_h0 least_h0 found_h0 size_m4 n_a_all_m4 b_a_all_m4  FU p1
theorem d_Mo_digitsEnd_0 : decode prog_12_method_12_code 0 = .ok (.iload_n 1, 1) := by decide +kernel
theorem d_Mo_digitsEnd_1 : decode prog_12_method_12_code 1 = .ok (.istore_n 2, 1) := by decide +kernel
theorem d_Mo_digitsEnd_2 : decode prog_12_method_12_code 2 = .ok (.aload_n 0, 1) := by decide +kernel
theorem d_Mo_digitsEnd_3 : decode prog_12_method_12_code 3 = .ok (.iload_n 2, 1) := by decide +kernel
theorem d_Mo_digitsEnd_4 : decode prog_12_method_12_code 4 = .ok (.invokevirtual 222, 3) := by decide +kernel
theorem d_Mo_digitsEnd_7 : decode prog_12_method_12_code 7 = .ok (.invokestatic 225, 3) := by decide +kernel
theorem d_Mo_digitsEnd_10 : decode prog_12_method_12_code 10 = .ok (.ifCond .eq 9, 3) := by decide +kernel
theorem d_Mo_digitsEnd_13 : decode prog_12_method_12_code 13 = .ok (.iinc 2 1, 3) := by decide +kernel
theorem d_Mo_digitsEnd_16 : decode prog_12_method_12_code 16 = .ok (.goto (-14), 3) := by decide +kernel
theorem d_Mo_digitsEnd_19 : decode prog_12_method_12_code 19 = .ok (.iload_n 2, 1) := by decide +kernel
theorem d_Mo_digitsEnd_20 : decode prog_12_method_12_code 20 = .ok (.ireturn, 1) := by decide +kernel
set_option maxHeartbeats 4000000 in
set_option maxRecDepth 100000 in
theorem L_Mo_digitsEnd_2 (l : Launch) (D : va_G) (cI cB cJ cS : ClassId) (h0 : Nat) (am : Nat → Nat) (a_all_m4 : Nat) (p1 : Int32) (known_h0 : Int32) (thrown_h0 : Int32) (wrong_h0 : Int32) (lastEnd_h0 : Int32) (at_h0 : Int32) (bad_h0 : Int32) (levels_h0 : Int32) (least_h0 : Int32) (found_h0 : Int32) (size_m4 : Int32) (n_a_all_m4 : Nat) (b_a_all_m4 : Nat → Int32) (ret : Int32) (p : Program) (e : Env) (s : State) (m : MethodId) (below : List Frame) (meth : Method) (c : Code) (hr : meth.sig.returnType = (Option.some Jvm.ClassFile.FieldType.int)) (hnm : meth.name = y_Mo_digitsEnd.name) : ∀ (k_2 : Nat) (v2_2 : Int32), F_Mo_digitsEnd_2 known_h0 thrown_h0 wrong_h0 lastEnd_h0 at_h0 bad_h0 levels_h0 least_h0 found_h0 size_m4 n_a_all_m4 b_a_all_m4  k_2 v2_2 = some ret → J (KxOf p l e { frames := 2, cells := 0, slots := 0, locals := 42 } s m [.ref h0, .int p1].toArray below meth c D (gT cI cB cJ cS) [(h0, .inr (9, moF am known_h0 thrown_h0 wrong_h0 lastEnd_h0 at_h0 bad_h0 levels_h0 least_h0 found_h0)), ((am 4), .inr (8, [.ref a_all_m4, .int size_m4])), (a_all_m4, .inl (cI, n_a_all_m4, .inl b_a_all_m4))] (fun v w => v = some (.int ret) ∧ w = [(h0, .inr (9, moF am known_h0 thrown_h0 wrong_h0 lastEnd_h0 at_h0 bad_h0 levels_h0 least_h0 found_h0)), ((am 4), .inr (8, [.ref a_all_m4, .int size_m4])), (a_all_m4, .inl (cI, n_a_all_m4, .inl b_a_all_m4))]) 0 0) prog_12_method_12_code 3 R_Mo 2 [(2, .int v2_2), (0, .ref h0), (1, .int p1)] [] [(h0, .inr (9, moF am known_h0 thrown_h0 wrong_h0 lastEnd_h0 at_h0 bad_h0 levels_h0 least_h0 found_h0)), ((am 4), .inr (8, [.ref a_all_m4, .int size_m4])), (a_all_m4, .inl (cI, n_a_all_m4, .inl b_a_all_m4))] 0 0 := by
  intro k_2
  induction k_2 with
  | zero => intro v2_2 h; rw [F_Mo_digitsEnd_2] at h; cases h
  | succ k_2 ih_2 =>
    intro v2_2 h
    rw [F_Mo_digitsEnd_2] at h
    refine j_aload_n d_Mo_digitsEnd_2 rfl 1 rfl ?_
    refine j_iload_n d_Mo_digitsEnd_3 rfl 0 rfl ?_
    replace h := bd_s h
    obtain ⟨r1, k2, h⟩ := h
    refine j_callV (n := 1) (As := [.int v2_2]) (rest := []) (wr := []) (c_Mo_letter l D cI cB cJ cS h0 am a_all_m4 v2_2 known_h0 thrown_h0 wrong_h0 lastEnd_h0 at_h0 bad_h0 levels_h0 least_h0 found_h0 size_m4 n_a_all_m4 b_a_all_m4  r1 k2) k_Mo_222 (by decide) ⟨Nat.le_of_ble_eq_true rfl, Nat.le_of_ble_eq_true rfl⟩ rfl 0 rfl [0, 1, 2] [] rfl (by decide) rfl (by decide) (by decide) rfl rfl (Nat.le_of_ble_eq_true rfl) d_Mo_digitsEnd_4 ⟨Nat.le_of_ble_eq_true rfl, Nat.le_of_ble_eq_true rfl⟩ (fun v w hq => ?_)
    obtain ⟨rfl, rfl⟩ := hq
    refine j_norm (pc' := 7) (st' := [.int r1]) (ws' := [(h0, .inr (9, moF am known_h0 thrown_h0 wrong_h0 lastEnd_h0 at_h0 bad_h0 levels_h0 least_h0 found_h0)), ((am 4), .inr (8, [.ref a_all_m4, .int size_m4])), (a_all_m4, .inl (cI, n_a_all_m4, .inl b_a_all_m4))]) (cl' := 0) (sl' := 0) rfl rfl rfl rfl rfl rfl ?_
    obtain ⟨r3, k5⟩ : ∃ z, (F_Mo_isDigit r1) = z := ⟨_, rfl⟩
    replace h := nm_at k5 h
    refine j_callS (n := 1) (As := [.int r1]) (rest := []) (wr := [(h0, .inr (9, moF am known_h0 thrown_h0 wrong_h0 lastEnd_h0 at_h0 bad_h0 levels_h0 least_h0 found_h0)), ((am 4), .inr (8, [.ref a_all_m4, .int size_m4])), (a_all_m4, .inl (cI, n_a_all_m4, .inl b_a_all_m4))]) (c_Mo_isDigit l D cI cB cJ cS r1  r3 k5) k_Mo_225 (by decide) ⟨Nat.le_of_ble_eq_true rfl, Nat.le_of_ble_eq_true rfl⟩ [] [0, 1, 2] rfl (by decide) rfl (by decide) (by decide) rfl rfl (Nat.le_of_ble_eq_true rfl) d_Mo_digitsEnd_7 ⟨Nat.le_of_ble_eq_true rfl, Nat.le_of_ble_eq_true rfl⟩ (fun v w hq => ?_)
    obtain ⟨rfl, z4, rfl⟩ := hq
    refine j_norm (pc' := 10) (st' := [.int r3]) (ws' := [(h0, .inr (9, moF am known_h0 thrown_h0 wrong_h0 lastEnd_h0 at_h0 bad_h0 levels_h0 least_h0 found_h0)), ((am 4), .inr (8, [.ref a_all_m4, .int size_m4])), (a_all_m4, .inl (cI, n_a_all_m4, .inl b_a_all_m4))]) (cl' := 0) (sl' := 0) rfl rfl rfl rfl rfl rfl ?_
    refine j_if_eq (tgt := 19) d_Mo_digitsEnd_10 (by decide) (fun c6 => ?_) (fun c6 => ?_)
    · replace h := it_t c6 h
      refine j_iload_n d_Mo_digitsEnd_19 rfl 0 rfl ?_
      replace h := Option.some.inj h
      subst h
      exact j_iret (w := [(h0, .inr (9, moF am known_h0 thrown_h0 wrong_h0 lastEnd_h0 at_h0 bad_h0 levels_h0 least_h0 found_h0)), ((am 4), .inr (8, [.ref a_all_m4, .int size_m4])), (a_all_m4, .inl (cI, n_a_all_m4, .inl b_a_all_m4))]) hr d_Mo_digitsEnd_20 [0, 1, 2] rfl (by decide) ⟨rfl, rfl⟩
    · replace h := it_f c6 h
      refine j_iinc (v := v2_2 + 1) (lv' := [(2, .int (v2_2 + 1)), (0, .ref h0), (1, .int p1)]) d_Mo_digitsEnd_13 0 rfl rfl (by decide) rfl ?_
      refine j_goto (tgt := 2) d_Mo_digitsEnd_16 (by decide) ?_
      refine j_sub (w := [(h0, .inr (9, moF am known_h0 thrown_h0 wrong_h0 lastEnd_h0 at_h0 bad_h0 levels_h0 least_h0 found_h0)), ((am 4), .inr (8, [.ref a_all_m4, .int size_m4])), (a_all_m4, .inl (cI, n_a_all_m4, .inl b_a_all_m4))]) (lv' := [(2, .int (v2_2 + 1)), (0, .ref h0), (1, .int p1)]) [0, 1, 2] rfl (by decide) [0, 1, 2] rfl ?_
      exact ih_2 (v2_2 + 1) h
set_option maxHeartbeats 4000000 in
set_option maxRecDepth 100000 in
theorem c_Mo_digitsEnd (l : Launch) (D : va_G) (cI cB cJ cS : ClassId) (h0 : Nat) (am : Nat → Nat) (a_all_m4 : Nat) (p1 : Int32) (known_h0 : Int32) (thrown_h0 : Int32) (wrong_h0 : Int32) (lastEnd_h0 : Int32) (at_h0 : Int32) (bad_h0 : Int32) (levels_h0 : Int32) (least_h0 : Int32) (found_h0 : Int32) (size_m4 : Int32) (n_a_all_m4 : Nat) (b_a_all_m4 : Nat → Int32) (ret : Int32) (h : F_Mo_digitsEnd p1 known_h0 thrown_h0 wrong_h0 lastEnd_h0 at_h0 bad_h0 levels_h0 least_h0 found_h0 size_m4 n_a_all_m4 b_a_all_m4 = some ret) : Ct l D (gT cI cB cJ cS) y_Mo_digitsEnd prog_12_method_12_code 3 (Option.some Jvm.ClassFile.FieldType.int) 2 42 0 0 [.ref h0, .int p1] [(h0, .inr (9, moF am known_h0 thrown_h0 wrong_h0 lastEnd_h0 at_h0 bad_h0 levels_h0 least_h0 found_h0)), ((am 4), .inr (8, [.ref a_all_m4, .int size_m4])), (a_all_m4, .inl (cI, n_a_all_m4, .inl b_a_all_m4))] (fun v w => v = some (.int ret) ∧ w = [(h0, .inr (9, moF am known_h0 thrown_h0 wrong_h0 lastEnd_h0 at_h0 bad_h0 levels_h0 least_h0 found_h0)), ((am 4), .inr (8, [.ref a_all_m4, .int size_m4])), (a_all_m4, .inl (cI, n_a_all_m4, .inl b_a_all_m4))]) := by
  refine Ct.mk (by decide) (Nat.le_of_ble_eq_true rfl) ?_
  intro p e s m below meth c hr hnm
  refine j_norm (pc' := 0) (lv' := [(0, .ref h0), (1, .int p1)]) (st' := []) (ws' := [(h0, .inr (9, moF am known_h0 thrown_h0 wrong_h0 lastEnd_h0 at_h0 bad_h0 levels_h0 least_h0 found_h0)), ((am 4), .inr (8, [.ref a_all_m4, .int size_m4])), (a_all_m4, .inl (cI, n_a_all_m4, .inl b_a_all_m4))]) (cl' := 0) (sl' := 0) rfl rfl rfl rfl rfl rfl ?_
  unfold F_Mo_digitsEnd at h
  refine j_iload_n d_Mo_digitsEnd_0 rfl 1 rfl ?_
  refine j_istore_n (lv' := [(2, .int p1), (0, .ref h0), (1, .int p1)]) d_Mo_digitsEnd_1 rfl (by decide) rfl ?_
  refine j_sub (w := [(h0, .inr (9, moF am known_h0 thrown_h0 wrong_h0 lastEnd_h0 at_h0 bad_h0 levels_h0 least_h0 found_h0)), ((am 4), .inr (8, [.ref a_all_m4, .int size_m4])), (a_all_m4, .inl (cI, n_a_all_m4, .inl b_a_all_m4))]) (lv' := [(2, .int p1), (0, .ref h0), (1, .int p1)]) [0, 1, 2] rfl (by decide) [0, 1, 2] rfl ?_
  exact L_Mo_digitsEnd_2 l D cI cB cJ cS h0 am a_all_m4 p1 known_h0 thrown_h0 wrong_h0 lastEnd_h0 at_h0 bad_h0 levels_h0 least_h0 found_h0 size_m4 n_a_all_m4 b_a_all_m4 ret p e s m below meth c hr hnm FU p1 h
def F_Mo_numeralEnd_76 (known_h0 : Int32) (thrown_h0 : Int32) (wrong_h0 : Int32) (lastEnd_h0 : Int32) (at_h0 : Int32) (bad_h0 : Int32) (levels_h0 : Int32) (least_h0 : Int32) (found_h0 : Int32) (size_m4 : Int32) (n_a_all_m4 : Nat) (b_a_all_m4 : Nat → Int32) (v2_76 : Int32) (t0_76 : Int32) : Option (Int32) :=
    Option.bind (F_Mo_letter ((v2_76 + 1) + t0_76) known_h0 thrown_h0 wrong_h0 lastEnd_h0 at_h0 bad_h0 levels_h0 least_h0 found_h0 size_m4 n_a_all_m4 b_a_all_m4) fun r1 =>
    nm (F_Mo_isDigit r1) fun r3 =>
    if r3 = 0 then (some v2_76)
    else (Option.bind (F_Mo_digitsEnd ((v2_76 + 1) + t0_76) known_h0 thrown_h0 wrong_h0 lastEnd_h0 at_h0 bad_h0 levels_h0 least_h0 found_h0 size_m4 n_a_all_m4 b_a_all_m4) fun r7 =>
      (some r7))
def F_Mo_numeralEnd_37 (known_h0 : Int32) (thrown_h0 : Int32) (wrong_h0 : Int32) (lastEnd_h0 : Int32) (at_h0 : Int32) (bad_h0 : Int32) (levels_h0 : Int32) (least_h0 : Int32) (found_h0 : Int32) (size_m4 : Int32) (n_a_all_m4 : Nat) (b_a_all_m4 : Nat → Int32) (v2_37 : Int32) : Option (Int32) :=
    Option.bind (F_Mo_letter v2_37 known_h0 thrown_h0 wrong_h0 lastEnd_h0 at_h0 bad_h0 levels_h0 least_h0 found_h0 size_m4 n_a_all_m4 b_a_all_m4) fun r9 =>
    if r9 = 101 then (Option.bind (F_Mo_letter (v2_37 + 1) known_h0 thrown_h0 wrong_h0 lastEnd_h0 at_h0 bad_h0 levels_h0 least_h0 found_h0 size_m4 n_a_all_m4 b_a_all_m4) fun r12 =>
      if r12 = 43 then (F_Mo_numeralEnd_76 known_h0 thrown_h0 wrong_h0 lastEnd_h0 at_h0 bad_h0 levels_h0 least_h0 found_h0 size_m4 n_a_all_m4 b_a_all_m4   v2_37 1)
      else (Option.bind (F_Mo_letter (v2_37 + 1) known_h0 thrown_h0 wrong_h0 lastEnd_h0 at_h0 bad_h0 levels_h0 least_h0 found_h0 size_m4 n_a_all_m4 b_a_all_m4) fun r15 =>
        if r15 = 45 then (F_Mo_numeralEnd_76 known_h0 thrown_h0 wrong_h0 lastEnd_h0 at_h0 bad_h0 levels_h0 least_h0 found_h0 size_m4 n_a_all_m4 b_a_all_m4   v2_37 1)
        else (F_Mo_numeralEnd_76 known_h0 thrown_h0 wrong_h0 lastEnd_h0 at_h0 bad_h0 levels_h0 least_h0 found_h0 size_m4 n_a_all_m4 b_a_all_m4   v2_37 0)))
    else (some v2_37)
def F_Mo_numeralEnd (p1 : Int32) (known_h0 : Int32) (thrown_h0 : Int32) (wrong_h0 : Int32) (lastEnd_h0 : Int32) (at_h0 : Int32) (bad_h0 : Int32) (levels_h0 : Int32) (least_h0 : Int32) (found_h0 : Int32) (size_m4 : Int32) (n_a_all_m4 : Nat) (b_a_all_m4 : Nat → Int32) : Option (Int32) :=
  Option.bind (F_Mo_digitsEnd p1 known_h0 thrown_h0 wrong_h0 lastEnd_h0 at_h0 bad_h0 levels_h0 least_h0 found_h0 size_m4 n_a_all_m4 b_a_all_m4) fun r18 =>
  Option.bind (F_Mo_letter r18 known_h0 thrown_h0 wrong_h0 lastEnd_h0 at_h0 bad_h0 levels_h0 least_h0 found_h0 size_m4 n_a_all_m4 b_a_all_m4) fun r20 =>
  if r20 = 46 then (Option.bind (F_Mo_letter (r18 + 1) known_h0 thrown_h0 wrong_h0 lastEnd_h0 at_h0 bad_h0 levels_h0 least_h0 found_h0 size_m4 n_a_all_m4 b_a_all_m4) fun r23 =>
    nm (F_Mo_isDigit r23) fun r25 =>
    if r25 = 0 then (F_Mo_numeralEnd_37 known_h0 thrown_h0 wrong_h0 lastEnd_h0 at_h0 bad_h0 levels_h0 least_h0 found_h0 size_m4 n_a_all_m4 b_a_all_m4   r18)
    else (Option.bind (F_Mo_digitsEnd (r18 + 1) known_h0 thrown_h0 wrong_h0 lastEnd_h0 at_h0 bad_h0 levels_h0 least_h0 found_h0 size_m4 n_a_all_m4 b_a_all_m4) fun r29 =>
      F_Mo_numeralEnd_37 known_h0 thrown_h0 wrong_h0 lastEnd_h0 at_h0 bad_h0 levels_h0 least_h0 found_h0 size_m4 n_a_all_m4 b_a_all_m4   r29))
  else (F_Mo_numeralEnd_37 known_h0 thrown_h0 wrong_h0 lastEnd_h0 at_h0 bad_h0 levels_h0 least_h0 found_h0 size_m4 n_a_all_m4 b_a_all_m4   r18)
theorem d_Mo_numeralEnd_0 : decode prog_12_method_13_code 0 = .ok (.aload_n 0, 1) := by decide +kernel
theorem d_Mo_numeralEnd_1 : decode prog_12_method_13_code 1 = .ok (.iload_n 1, 1) := by decide +kernel
theorem d_Mo_numeralEnd_2 : decode prog_12_method_13_code 2 = .ok (.invokevirtual 228, 3) := by decide +kernel
theorem d_Mo_numeralEnd_5 : decode prog_12_method_13_code 5 = .ok (.istore_n 2, 1) := by decide +kernel
theorem d_Mo_numeralEnd_6 : decode prog_12_method_13_code 6 = .ok (.aload_n 0, 1) := by decide +kernel
theorem d_Mo_numeralEnd_7 : decode prog_12_method_13_code 7 = .ok (.iload_n 2, 1) := by decide +kernel
theorem d_Mo_numeralEnd_8 : decode prog_12_method_13_code 8 = .ok (.invokevirtual 222, 3) := by decide +kernel
theorem d_Mo_numeralEnd_11 : decode prog_12_method_13_code 11 = .ok (.bipush 46, 2) := by decide +kernel
theorem d_Mo_numeralEnd_13 : decode prog_12_method_13_code 13 = .ok (.if_icmp .ne 24, 3) := by decide +kernel
theorem d_Mo_numeralEnd_16 : decode prog_12_method_13_code 16 = .ok (.aload_n 0, 1) := by decide +kernel
theorem d_Mo_numeralEnd_17 : decode prog_12_method_13_code 17 = .ok (.iload_n 2, 1) := by decide +kernel
theorem d_Mo_numeralEnd_18 : decode prog_12_method_13_code 18 = .ok (.iconst 1, 1) := by decide +kernel
theorem d_Mo_numeralEnd_19 : decode prog_12_method_13_code 19 = .ok (.iadd, 1) := by decide +kernel
theorem d_Mo_numeralEnd_20 : decode prog_12_method_13_code 20 = .ok (.invokevirtual 222, 3) := by decide +kernel
theorem d_Mo_numeralEnd_23 : decode prog_12_method_13_code 23 = .ok (.invokestatic 225, 3) := by decide +kernel
theorem d_Mo_numeralEnd_26 : decode prog_12_method_13_code 26 = .ok (.ifCond .eq 11, 3) := by decide +kernel
theorem d_Mo_numeralEnd_29 : decode prog_12_method_13_code 29 = .ok (.aload_n 0, 1) := by decide +kernel
theorem d_Mo_numeralEnd_30 : decode prog_12_method_13_code 30 = .ok (.iload_n 2, 1) := by decide +kernel
theorem d_Mo_numeralEnd_31 : decode prog_12_method_13_code 31 = .ok (.iconst 1, 1) := by decide +kernel
theorem d_Mo_numeralEnd_32 : decode prog_12_method_13_code 32 = .ok (.iadd, 1) := by decide +kernel
theorem d_Mo_numeralEnd_33 : decode prog_12_method_13_code 33 = .ok (.invokevirtual 228, 3) := by decide +kernel
theorem d_Mo_numeralEnd_36 : decode prog_12_method_13_code 36 = .ok (.istore_n 2, 1) := by decide +kernel
theorem d_Mo_numeralEnd_37 : decode prog_12_method_13_code 37 = .ok (.aload_n 0, 1) := by decide +kernel
theorem d_Mo_numeralEnd_38 : decode prog_12_method_13_code 38 = .ok (.iload_n 2, 1) := by decide +kernel
theorem d_Mo_numeralEnd_39 : decode prog_12_method_13_code 39 = .ok (.invokevirtual 222, 3) := by decide +kernel
theorem d_Mo_numeralEnd_42 : decode prog_12_method_13_code 42 = .ok (.bipush 101, 2) := by decide +kernel
theorem d_Mo_numeralEnd_44 : decode prog_12_method_13_code 44 = .ok (.if_icmp .ne 62, 3) := by decide +kernel
theorem d_Mo_numeralEnd_47 : decode prog_12_method_13_code 47 = .ok (.aload_n 0, 1) := by decide +kernel
theorem d_Mo_numeralEnd_48 : decode prog_12_method_13_code 48 = .ok (.iload_n 2, 1) := by decide +kernel
theorem d_Mo_numeralEnd_49 : decode prog_12_method_13_code 49 = .ok (.iconst 1, 1) := by decide +kernel
theorem d_Mo_numeralEnd_50 : decode prog_12_method_13_code 50 = .ok (.iadd, 1) := by decide +kernel
theorem d_Mo_numeralEnd_51 : decode prog_12_method_13_code 51 = .ok (.invokevirtual 222, 3) := by decide +kernel
theorem d_Mo_numeralEnd_54 : decode prog_12_method_13_code 54 = .ok (.bipush 43, 2) := by decide +kernel
theorem d_Mo_numeralEnd_56 : decode prog_12_method_13_code 56 = .ok (.if_icmp .eq 15, 3) := by decide +kernel
theorem d_Mo_numeralEnd_59 : decode prog_12_method_13_code 59 = .ok (.aload_n 0, 1) := by decide +kernel
theorem d_Mo_numeralEnd_60 : decode prog_12_method_13_code 60 = .ok (.iload_n 2, 1) := by decide +kernel
theorem d_Mo_numeralEnd_61 : decode prog_12_method_13_code 61 = .ok (.iconst 1, 1) := by decide +kernel
theorem d_Mo_numeralEnd_62 : decode prog_12_method_13_code 62 = .ok (.iadd, 1) := by decide +kernel
theorem d_Mo_numeralEnd_63 : decode prog_12_method_13_code 63 = .ok (.invokevirtual 222, 3) := by decide +kernel
theorem d_Mo_numeralEnd_66 : decode prog_12_method_13_code 66 = .ok (.bipush 45, 2) := by decide +kernel
theorem d_Mo_numeralEnd_68 : decode prog_12_method_13_code 68 = .ok (.if_icmp .ne 7, 3) := by decide +kernel
theorem d_Mo_numeralEnd_71 : decode prog_12_method_13_code 71 = .ok (.iconst 1, 1) := by decide +kernel
theorem d_Mo_numeralEnd_72 : decode prog_12_method_13_code 72 = .ok (.goto 4, 3) := by decide +kernel
theorem d_Mo_numeralEnd_75 : decode prog_12_method_13_code 75 = .ok (.iconst 0, 1) := by decide +kernel
theorem d_Mo_numeralEnd_76 : decode prog_12_method_13_code 76 = .ok (.istore_n 3, 1) := by decide +kernel
theorem d_Mo_numeralEnd_77 : decode prog_12_method_13_code 77 = .ok (.aload_n 0, 1) := by decide +kernel
theorem d_Mo_numeralEnd_78 : decode prog_12_method_13_code 78 = .ok (.iload_n 2, 1) := by decide +kernel
theorem d_Mo_numeralEnd_79 : decode prog_12_method_13_code 79 = .ok (.iconst 1, 1) := by decide +kernel
theorem d_Mo_numeralEnd_80 : decode prog_12_method_13_code 80 = .ok (.iadd, 1) := by decide +kernel
theorem d_Mo_numeralEnd_81 : decode prog_12_method_13_code 81 = .ok (.iload_n 3, 1) := by decide +kernel
theorem d_Mo_numeralEnd_82 : decode prog_12_method_13_code 82 = .ok (.iadd, 1) := by decide +kernel
theorem d_Mo_numeralEnd_83 : decode prog_12_method_13_code 83 = .ok (.invokevirtual 222, 3) := by decide +kernel
theorem d_Mo_numeralEnd_86 : decode prog_12_method_13_code 86 = .ok (.invokestatic 225, 3) := by decide +kernel
theorem d_Mo_numeralEnd_89 : decode prog_12_method_13_code 89 = .ok (.ifCond .eq 15, 3) := by decide +kernel
theorem d_Mo_numeralEnd_92 : decode prog_12_method_13_code 92 = .ok (.aload_n 0, 1) := by decide +kernel
theorem d_Mo_numeralEnd_93 : decode prog_12_method_13_code 93 = .ok (.iload_n 2, 1) := by decide +kernel
theorem d_Mo_numeralEnd_94 : decode prog_12_method_13_code 94 = .ok (.iconst 1, 1) := by decide +kernel
theorem d_Mo_numeralEnd_95 : decode prog_12_method_13_code 95 = .ok (.iadd, 1) := by decide +kernel
theorem d_Mo_numeralEnd_96 : decode prog_12_method_13_code 96 = .ok (.iload_n 3, 1) := by decide +kernel
theorem d_Mo_numeralEnd_97 : decode prog_12_method_13_code 97 = .ok (.iadd, 1) := by decide +kernel
theorem d_Mo_numeralEnd_98 : decode prog_12_method_13_code 98 = .ok (.invokevirtual 228, 3) := by decide +kernel
theorem d_Mo_numeralEnd_101 : decode prog_12_method_13_code 101 = .ok (.goto 4, 3) := by decide +kernel
theorem d_Mo_numeralEnd_104 : decode prog_12_method_13_code 104 = .ok (.iload_n 2, 1) := by decide +kernel
theorem d_Mo_numeralEnd_105 : decode prog_12_method_13_code 105 = .ok (.istore_n 2, 1) := by decide +kernel
theorem d_Mo_numeralEnd_106 : decode prog_12_method_13_code 106 = .ok (.iload_n 2, 1) := by decide +kernel
theorem d_Mo_numeralEnd_107 : decode prog_12_method_13_code 107 = .ok (.ireturn, 1) := by decide +kernel
set_option maxHeartbeats 4000000 in
set_option maxRecDepth 100000 in
theorem L_Mo_numeralEnd_76 (l : Launch) (D : va_G) (cI cB cJ cS : ClassId) (h0 : Nat) (am : Nat → Nat) (a_all_m4 : Nat) (p1 : Int32) (known_h0 : Int32) (thrown_h0 : Int32) (wrong_h0 : Int32) (lastEnd_h0 : Int32) (at_h0 : Int32) (bad_h0 : Int32) (levels_h0 : Int32) (least_h0 : Int32) (found_h0 : Int32) (size_m4 : Int32) (n_a_all_m4 : Nat) (b_a_all_m4 : Nat → Int32) (ret : Int32) (p : Program) (e : Env) (s : State) (m : MethodId) (below : List Frame) (meth : Method) (c : Code) (hr : meth.sig.returnType = (Option.some Jvm.ClassFile.FieldType.int)) (hnm : meth.name = y_Mo_numeralEnd.name) : ∀ (v2_76 : Int32) (t0_76 : Int32) (hz_t0_76 : zb t0_76), F_Mo_numeralEnd_76 known_h0 thrown_h0 wrong_h0 lastEnd_h0 at_h0 bad_h0 levels_h0 least_h0 found_h0 size_m4 n_a_all_m4 b_a_all_m4   v2_76 t0_76 = some ret → J (KxOf p l e { frames := 3, cells := 0, slots := 0, locals := 64 } s m [.ref h0, .int p1].toArray below meth c D (gT cI cB cJ cS) [(h0, .inr (9, moF am known_h0 thrown_h0 wrong_h0 lastEnd_h0 at_h0 bad_h0 levels_h0 least_h0 found_h0)), ((am 4), .inr (8, [.ref a_all_m4, .int size_m4])), (a_all_m4, .inl (cI, n_a_all_m4, .inl b_a_all_m4))] (fun v w => v = some (.int ret) ∧ w = [(h0, .inr (9, moF am known_h0 thrown_h0 wrong_h0 lastEnd_h0 at_h0 bad_h0 levels_h0 least_h0 found_h0)), ((am 4), .inr (8, [.ref a_all_m4, .int size_m4])), (a_all_m4, .inl (cI, n_a_all_m4, .inl b_a_all_m4))]) 0 0) prog_12_method_13_code 4 R_Mo 76 [(2, .int v2_76), (0, .ref h0), (1, .int p1)] [.int t0_76] [(h0, .inr (9, moF am known_h0 thrown_h0 wrong_h0 lastEnd_h0 at_h0 bad_h0 levels_h0 least_h0 found_h0)), ((am 4), .inr (8, [.ref a_all_m4, .int size_m4])), (a_all_m4, .inl (cI, n_a_all_m4, .inl b_a_all_m4))] 0 0 := by
  intro v2_76 t0_76 hz_t0_76 h
  unfold F_Mo_numeralEnd_76 at h
  refine j_istore_n (lv' := [(3, .int t0_76), (2, .int v2_76), (0, .ref h0), (1, .int p1)]) d_Mo_numeralEnd_76 rfl (by decide) rfl ?_
  refine j_aload_n d_Mo_numeralEnd_77 rfl 2 rfl ?_
  refine j_iload_n d_Mo_numeralEnd_78 rfl 1 rfl ?_
  refine j_iconst (v := 1) d_Mo_numeralEnd_79 (by decide) ?_
  refine j_iadd d_Mo_numeralEnd_80 ?_
  refine j_iload_n d_Mo_numeralEnd_81 rfl 0 rfl ?_
  refine j_iadd d_Mo_numeralEnd_82 ?_
  replace h := bd_s h
  obtain ⟨r1, k2, h⟩ := h
  refine j_callV (n := 1) (As := [.int ((v2_76 + 1) + t0_76)]) (rest := []) (wr := []) (c_Mo_letter l D cI cB cJ cS h0 am a_all_m4 ((v2_76 + 1) + t0_76) known_h0 thrown_h0 wrong_h0 lastEnd_h0 at_h0 bad_h0 levels_h0 least_h0 found_h0 size_m4 n_a_all_m4 b_a_all_m4  r1 k2) k_Mo_222 (by decide) ⟨Nat.le_of_ble_eq_true rfl, Nat.le_of_ble_eq_true rfl⟩ rfl 0 rfl [0, 1, 2] [] rfl (by decide) rfl (by decide) (by decide) rfl rfl (Nat.le_of_ble_eq_true rfl) d_Mo_numeralEnd_83 ⟨Nat.le_of_ble_eq_true rfl, Nat.le_of_ble_eq_true rfl⟩ (fun v w hq => ?_)
  obtain ⟨rfl, rfl⟩ := hq
  refine j_norm (pc' := 86) (st' := [.int r1]) (ws' := [(h0, .inr (9, moF am known_h0 thrown_h0 wrong_h0 lastEnd_h0 at_h0 bad_h0 levels_h0 least_h0 found_h0)), ((am 4), .inr (8, [.ref a_all_m4, .int size_m4])), (a_all_m4, .inl (cI, n_a_all_m4, .inl b_a_all_m4))]) (cl' := 0) (sl' := 0) rfl rfl rfl rfl rfl rfl ?_
  obtain ⟨r3, k5⟩ : ∃ z, (F_Mo_isDigit r1) = z := ⟨_, rfl⟩
  replace h := nm_at k5 h
  refine j_callS (n := 1) (As := [.int r1]) (rest := []) (wr := [(h0, .inr (9, moF am known_h0 thrown_h0 wrong_h0 lastEnd_h0 at_h0 bad_h0 levels_h0 least_h0 found_h0)), ((am 4), .inr (8, [.ref a_all_m4, .int size_m4])), (a_all_m4, .inl (cI, n_a_all_m4, .inl b_a_all_m4))]) (c_Mo_isDigit l D cI cB cJ cS r1  r3 k5) k_Mo_225 (by decide) ⟨Nat.le_of_ble_eq_true rfl, Nat.le_of_ble_eq_true rfl⟩ [] [0, 1, 2] rfl (by decide) rfl (by decide) (by decide) rfl rfl (Nat.le_of_ble_eq_true rfl) d_Mo_numeralEnd_86 ⟨Nat.le_of_ble_eq_true rfl, Nat.le_of_ble_eq_true rfl⟩ (fun v w hq => ?_)
  obtain ⟨rfl, z4, rfl⟩ := hq
  refine j_norm (pc' := 89) (st' := [.int r3]) (ws' := [(h0, .inr (9, moF am known_h0 thrown_h0 wrong_h0 lastEnd_h0 at_h0 bad_h0 levels_h0 least_h0 found_h0)), ((am 4), .inr (8, [.ref a_all_m4, .int size_m4])), (a_all_m4, .inl (cI, n_a_all_m4, .inl b_a_all_m4))]) (cl' := 0) (sl' := 0) rfl rfl rfl rfl rfl rfl ?_
  refine j_if_eq (tgt := 104) d_Mo_numeralEnd_89 (by decide) (fun c6 => ?_) (fun c6 => ?_)
  · replace h := it_t c6 h
    refine j_iload_n d_Mo_numeralEnd_104 rfl 1 rfl ?_
    refine j_istore_n (lv' := [(2, .int v2_76), (3, .int t0_76), (0, .ref h0), (1, .int p1)]) d_Mo_numeralEnd_105 rfl (by decide) rfl ?_
    refine j_iload_n d_Mo_numeralEnd_106 rfl 0 rfl ?_
    replace h := Option.some.inj h
    subst h
    exact j_iret (w := [(h0, .inr (9, moF am known_h0 thrown_h0 wrong_h0 lastEnd_h0 at_h0 bad_h0 levels_h0 least_h0 found_h0)), ((am 4), .inr (8, [.ref a_all_m4, .int size_m4])), (a_all_m4, .inl (cI, n_a_all_m4, .inl b_a_all_m4))]) hr d_Mo_numeralEnd_107 [0, 1, 2] rfl (by decide) ⟨rfl, rfl⟩
  · replace h := it_f c6 h
    refine j_aload_n d_Mo_numeralEnd_92 rfl 2 rfl ?_
    refine j_iload_n d_Mo_numeralEnd_93 rfl 1 rfl ?_
    refine j_iconst (v := 1) d_Mo_numeralEnd_94 (by decide) ?_
    refine j_iadd d_Mo_numeralEnd_95 ?_
    refine j_iload_n d_Mo_numeralEnd_96 rfl 0 rfl ?_
    refine j_iadd d_Mo_numeralEnd_97 ?_
    replace h := bd_s h
    obtain ⟨r7, k8, h⟩ := h
    refine j_callV (n := 1) (As := [.int ((v2_76 + 1) + t0_76)]) (rest := []) (wr := []) (c_Mo_digitsEnd l D cI cB cJ cS h0 am a_all_m4 ((v2_76 + 1) + t0_76) known_h0 thrown_h0 wrong_h0 lastEnd_h0 at_h0 bad_h0 levels_h0 least_h0 found_h0 size_m4 n_a_all_m4 b_a_all_m4  r7 k8) k_Mo_228 (by decide) ⟨Nat.le_of_ble_eq_true rfl, Nat.le_of_ble_eq_true rfl⟩ rfl 0 rfl [0, 1, 2] [] rfl (by decide) rfl (by decide) (by decide) rfl rfl (Nat.le_of_ble_eq_true rfl) d_Mo_numeralEnd_98 ⟨Nat.le_of_ble_eq_true rfl, Nat.le_of_ble_eq_true rfl⟩ (fun v w hq => ?_)
    obtain ⟨rfl, rfl⟩ := hq
    refine j_norm (pc' := 101) (st' := [.int r7]) (ws' := [(h0, .inr (9, moF am known_h0 thrown_h0 wrong_h0 lastEnd_h0 at_h0 bad_h0 levels_h0 least_h0 found_h0)), ((am 4), .inr (8, [.ref a_all_m4, .int size_m4])), (a_all_m4, .inl (cI, n_a_all_m4, .inl b_a_all_m4))]) (cl' := 0) (sl' := 0) rfl rfl rfl rfl rfl rfl ?_
    refine j_goto (tgt := 105) d_Mo_numeralEnd_101 (by decide) ?_
    refine j_istore_n (lv' := [(2, .int r7), (3, .int t0_76), (0, .ref h0), (1, .int p1)]) d_Mo_numeralEnd_105 rfl (by decide) rfl ?_
    refine j_iload_n d_Mo_numeralEnd_106 rfl 0 rfl ?_
    replace h := Option.some.inj h
    subst h
    exact j_iret (w := [(h0, .inr (9, moF am known_h0 thrown_h0 wrong_h0 lastEnd_h0 at_h0 bad_h0 levels_h0 least_h0 found_h0)), ((am 4), .inr (8, [.ref a_all_m4, .int size_m4])), (a_all_m4, .inl (cI, n_a_all_m4, .inl b_a_all_m4))]) hr d_Mo_numeralEnd_107 [0, 1, 2] rfl (by decide) ⟨rfl, rfl⟩
set_option maxHeartbeats 4000000 in
set_option maxRecDepth 100000 in
theorem L_Mo_numeralEnd_37 (l : Launch) (D : va_G) (cI cB cJ cS : ClassId) (h0 : Nat) (am : Nat → Nat) (a_all_m4 : Nat) (p1 : Int32) (known_h0 : Int32) (thrown_h0 : Int32) (wrong_h0 : Int32) (lastEnd_h0 : Int32) (at_h0 : Int32) (bad_h0 : Int32) (levels_h0 : Int32) (least_h0 : Int32) (found_h0 : Int32) (size_m4 : Int32) (n_a_all_m4 : Nat) (b_a_all_m4 : Nat → Int32) (ret : Int32) (p : Program) (e : Env) (s : State) (m : MethodId) (below : List Frame) (meth : Method) (c : Code) (hr : meth.sig.returnType = (Option.some Jvm.ClassFile.FieldType.int)) (hnm : meth.name = y_Mo_numeralEnd.name) : ∀ (v2_37 : Int32), F_Mo_numeralEnd_37 known_h0 thrown_h0 wrong_h0 lastEnd_h0 at_h0 bad_h0 levels_h0 least_h0 found_h0 size_m4 n_a_all_m4 b_a_all_m4   v2_37 = some ret → J (KxOf p l e { frames := 3, cells := 0, slots := 0, locals := 64 } s m [.ref h0, .int p1].toArray below meth c D (gT cI cB cJ cS) [(h0, .inr (9, moF am known_h0 thrown_h0 wrong_h0 lastEnd_h0 at_h0 bad_h0 levels_h0 least_h0 found_h0)), ((am 4), .inr (8, [.ref a_all_m4, .int size_m4])), (a_all_m4, .inl (cI, n_a_all_m4, .inl b_a_all_m4))] (fun v w => v = some (.int ret) ∧ w = [(h0, .inr (9, moF am known_h0 thrown_h0 wrong_h0 lastEnd_h0 at_h0 bad_h0 levels_h0 least_h0 found_h0)), ((am 4), .inr (8, [.ref a_all_m4, .int size_m4])), (a_all_m4, .inl (cI, n_a_all_m4, .inl b_a_all_m4))]) 0 0) prog_12_method_13_code 4 R_Mo 37 [(2, .int v2_37), (0, .ref h0), (1, .int p1)] [] [(h0, .inr (9, moF am known_h0 thrown_h0 wrong_h0 lastEnd_h0 at_h0 bad_h0 levels_h0 least_h0 found_h0)), ((am 4), .inr (8, [.ref a_all_m4, .int size_m4])), (a_all_m4, .inl (cI, n_a_all_m4, .inl b_a_all_m4))] 0 0 := by
  intro v2_37 h
  unfold F_Mo_numeralEnd_37 at h
  refine j_aload_n d_Mo_numeralEnd_37 rfl 1 rfl ?_
  refine j_iload_n d_Mo_numeralEnd_38 rfl 0 rfl ?_
  replace h := bd_s h
  obtain ⟨r9, k10, h⟩ := h
  refine j_callV (n := 1) (As := [.int v2_37]) (rest := []) (wr := []) (c_Mo_letter l D cI cB cJ cS h0 am a_all_m4 v2_37 known_h0 thrown_h0 wrong_h0 lastEnd_h0 at_h0 bad_h0 levels_h0 least_h0 found_h0 size_m4 n_a_all_m4 b_a_all_m4  r9 k10) k_Mo_222 (by decide) ⟨Nat.le_of_ble_eq_true rfl, Nat.le_of_ble_eq_true rfl⟩ rfl 0 rfl [0, 1, 2] [] rfl (by decide) rfl (by decide) (by decide) rfl rfl (Nat.le_of_ble_eq_true rfl) d_Mo_numeralEnd_39 ⟨Nat.le_of_ble_eq_true rfl, Nat.le_of_ble_eq_true rfl⟩ (fun v w hq => ?_)
  obtain ⟨rfl, rfl⟩ := hq
  refine j_norm (pc' := 42) (st' := [.int r9]) (ws' := [(h0, .inr (9, moF am known_h0 thrown_h0 wrong_h0 lastEnd_h0 at_h0 bad_h0 levels_h0 least_h0 found_h0)), ((am 4), .inr (8, [.ref a_all_m4, .int size_m4])), (a_all_m4, .inl (cI, n_a_all_m4, .inl b_a_all_m4))]) (cl' := 0) (sl' := 0) rfl rfl rfl rfl rfl rfl ?_
  refine j_bipush (v := 101) d_Mo_numeralEnd_42 (by decide) ?_
  refine j_icmp_ne (tgt := 106) d_Mo_numeralEnd_44 (by decide) (fun c11 => ?_) (fun c11 => ?_)
  · replace h := it_f c11 h
    refine j_iload_n d_Mo_numeralEnd_106 rfl 0 rfl ?_
    replace h := Option.some.inj h
    subst h
    exact j_iret (w := [(h0, .inr (9, moF am known_h0 thrown_h0 wrong_h0 lastEnd_h0 at_h0 bad_h0 levels_h0 least_h0 found_h0)), ((am 4), .inr (8, [.ref a_all_m4, .int size_m4])), (a_all_m4, .inl (cI, n_a_all_m4, .inl b_a_all_m4))]) hr d_Mo_numeralEnd_107 [0, 1, 2] rfl (by decide) ⟨rfl, rfl⟩
  · replace h := it_t c11 h
    refine j_aload_n d_Mo_numeralEnd_47 rfl 1 rfl ?_
    refine j_iload_n d_Mo_numeralEnd_48 rfl 0 rfl ?_
    refine j_iconst (v := 1) d_Mo_numeralEnd_49 (by decide) ?_
    refine j_iadd d_Mo_numeralEnd_50 ?_
    replace h := bd_s h
    obtain ⟨r12, k13, h⟩ := h
    refine j_callV (n := 1) (As := [.int (v2_37 + 1)]) (rest := []) (wr := []) (c_Mo_letter l D cI cB cJ cS h0 am a_all_m4 (v2_37 + 1) known_h0 thrown_h0 wrong_h0 lastEnd_h0 at_h0 bad_h0 levels_h0 least_h0 found_h0 size_m4 n_a_all_m4 b_a_all_m4  r12 k13) k_Mo_222 (by decide) ⟨Nat.le_of_ble_eq_true rfl, Nat.le_of_ble_eq_true rfl⟩ rfl 0 rfl [0, 1, 2] [] rfl (by decide) rfl (by decide) (by decide) rfl rfl (Nat.le_of_ble_eq_true rfl) d_Mo_numeralEnd_51 ⟨Nat.le_of_ble_eq_true rfl, Nat.le_of_ble_eq_true rfl⟩ (fun v w hq => ?_)
    obtain ⟨rfl, rfl⟩ := hq
    refine j_norm (pc' := 54) (st' := [.int r12]) (ws' := [(h0, .inr (9, moF am known_h0 thrown_h0 wrong_h0 lastEnd_h0 at_h0 bad_h0 levels_h0 least_h0 found_h0)), ((am 4), .inr (8, [.ref a_all_m4, .int size_m4])), (a_all_m4, .inl (cI, n_a_all_m4, .inl b_a_all_m4))]) (cl' := 0) (sl' := 0) rfl rfl rfl rfl rfl rfl ?_
    refine j_bipush (v := 43) d_Mo_numeralEnd_54 (by decide) ?_
    refine j_icmp_eq (tgt := 71) d_Mo_numeralEnd_56 (by decide) (fun c14 => ?_) (fun c14 => ?_)
    · replace h := it_t c14 h
      refine j_iconst (v := 1) d_Mo_numeralEnd_71 (by decide) ?_
      refine j_goto (tgt := 76) d_Mo_numeralEnd_72 (by decide) ?_
      refine j_sub (w := [(h0, .inr (9, moF am known_h0 thrown_h0 wrong_h0 lastEnd_h0 at_h0 bad_h0 levels_h0 least_h0 found_h0)), ((am 4), .inr (8, [.ref a_all_m4, .int size_m4])), (a_all_m4, .inl (cI, n_a_all_m4, .inl b_a_all_m4))]) (lv' := [(2, .int v2_37), (0, .ref h0), (1, .int p1)]) [0, 1, 2] rfl (by decide) [0, 1, 2] rfl ?_
      exact L_Mo_numeralEnd_76 l D cI cB cJ cS h0 am a_all_m4 p1 known_h0 thrown_h0 wrong_h0 lastEnd_h0 at_h0 bad_h0 levels_h0 least_h0 found_h0 size_m4 n_a_all_m4 b_a_all_m4 ret p e s m below meth c hr hnm v2_37 1 zb1 h
    · replace h := it_f c14 h
      refine j_aload_n d_Mo_numeralEnd_59 rfl 1 rfl ?_
      refine j_iload_n d_Mo_numeralEnd_60 rfl 0 rfl ?_
      refine j_iconst (v := 1) d_Mo_numeralEnd_61 (by decide) ?_
      refine j_iadd d_Mo_numeralEnd_62 ?_
      replace h := bd_s h
      obtain ⟨r15, k16, h⟩ := h
      refine j_callV (n := 1) (As := [.int (v2_37 + 1)]) (rest := []) (wr := []) (c_Mo_letter l D cI cB cJ cS h0 am a_all_m4 (v2_37 + 1) known_h0 thrown_h0 wrong_h0 lastEnd_h0 at_h0 bad_h0 levels_h0 least_h0 found_h0 size_m4 n_a_all_m4 b_a_all_m4  r15 k16) k_Mo_222 (by decide) ⟨Nat.le_of_ble_eq_true rfl, Nat.le_of_ble_eq_true rfl⟩ rfl 0 rfl [0, 1, 2] [] rfl (by decide) rfl (by decide) (by decide) rfl rfl (Nat.le_of_ble_eq_true rfl) d_Mo_numeralEnd_63 ⟨Nat.le_of_ble_eq_true rfl, Nat.le_of_ble_eq_true rfl⟩ (fun v w hq => ?_)
      obtain ⟨rfl, rfl⟩ := hq
      refine j_norm (pc' := 66) (st' := [.int r15]) (ws' := [(h0, .inr (9, moF am known_h0 thrown_h0 wrong_h0 lastEnd_h0 at_h0 bad_h0 levels_h0 least_h0 found_h0)), ((am 4), .inr (8, [.ref a_all_m4, .int size_m4])), (a_all_m4, .inl (cI, n_a_all_m4, .inl b_a_all_m4))]) (cl' := 0) (sl' := 0) rfl rfl rfl rfl rfl rfl ?_
      refine j_bipush (v := 45) d_Mo_numeralEnd_66 (by decide) ?_
      refine j_icmp_ne (tgt := 75) d_Mo_numeralEnd_68 (by decide) (fun c17 => ?_) (fun c17 => ?_)
      · replace h := it_f c17 h
        refine j_iconst (v := 0) d_Mo_numeralEnd_75 (by decide) ?_
        refine j_sub (w := [(h0, .inr (9, moF am known_h0 thrown_h0 wrong_h0 lastEnd_h0 at_h0 bad_h0 levels_h0 least_h0 found_h0)), ((am 4), .inr (8, [.ref a_all_m4, .int size_m4])), (a_all_m4, .inl (cI, n_a_all_m4, .inl b_a_all_m4))]) (lv' := [(2, .int v2_37), (0, .ref h0), (1, .int p1)]) [0, 1, 2] rfl (by decide) [0, 1, 2] rfl ?_
        exact L_Mo_numeralEnd_76 l D cI cB cJ cS h0 am a_all_m4 p1 known_h0 thrown_h0 wrong_h0 lastEnd_h0 at_h0 bad_h0 levels_h0 least_h0 found_h0 size_m4 n_a_all_m4 b_a_all_m4 ret p e s m below meth c hr hnm v2_37 0 zb0 h
      · replace h := it_t c17 h
        refine j_iconst (v := 1) d_Mo_numeralEnd_71 (by decide) ?_
        refine j_goto (tgt := 76) d_Mo_numeralEnd_72 (by decide) ?_
        refine j_sub (w := [(h0, .inr (9, moF am known_h0 thrown_h0 wrong_h0 lastEnd_h0 at_h0 bad_h0 levels_h0 least_h0 found_h0)), ((am 4), .inr (8, [.ref a_all_m4, .int size_m4])), (a_all_m4, .inl (cI, n_a_all_m4, .inl b_a_all_m4))]) (lv' := [(2, .int v2_37), (0, .ref h0), (1, .int p1)]) [0, 1, 2] rfl (by decide) [0, 1, 2] rfl ?_
        exact L_Mo_numeralEnd_76 l D cI cB cJ cS h0 am a_all_m4 p1 known_h0 thrown_h0 wrong_h0 lastEnd_h0 at_h0 bad_h0 levels_h0 least_h0 found_h0 size_m4 n_a_all_m4 b_a_all_m4 ret p e s m below meth c hr hnm v2_37 1 zb1 h
set_option maxHeartbeats 4000000 in
set_option maxRecDepth 100000 in
theorem c_Mo_numeralEnd (l : Launch) (D : va_G) (cI cB cJ cS : ClassId) (h0 : Nat) (am : Nat → Nat) (a_all_m4 : Nat) (p1 : Int32) (known_h0 : Int32) (thrown_h0 : Int32) (wrong_h0 : Int32) (lastEnd_h0 : Int32) (at_h0 : Int32) (bad_h0 : Int32) (levels_h0 : Int32) (least_h0 : Int32) (found_h0 : Int32) (size_m4 : Int32) (n_a_all_m4 : Nat) (b_a_all_m4 : Nat → Int32) (ret : Int32) (h : F_Mo_numeralEnd p1 known_h0 thrown_h0 wrong_h0 lastEnd_h0 at_h0 bad_h0 levels_h0 least_h0 found_h0 size_m4 n_a_all_m4 b_a_all_m4 = some ret) : Ct l D (gT cI cB cJ cS) y_Mo_numeralEnd prog_12_method_13_code 4 (Option.some Jvm.ClassFile.FieldType.int) 3 64 0 0 [.ref h0, .int p1] [(h0, .inr (9, moF am known_h0 thrown_h0 wrong_h0 lastEnd_h0 at_h0 bad_h0 levels_h0 least_h0 found_h0)), ((am 4), .inr (8, [.ref a_all_m4, .int size_m4])), (a_all_m4, .inl (cI, n_a_all_m4, .inl b_a_all_m4))] (fun v w => v = some (.int ret) ∧ w = [(h0, .inr (9, moF am known_h0 thrown_h0 wrong_h0 lastEnd_h0 at_h0 bad_h0 levels_h0 least_h0 found_h0)), ((am 4), .inr (8, [.ref a_all_m4, .int size_m4])), (a_all_m4, .inl (cI, n_a_all_m4, .inl b_a_all_m4))]) := by
  refine Ct.mk (by decide) (Nat.le_of_ble_eq_true rfl) ?_
  intro p e s m below meth c hr hnm
  refine j_norm (pc' := 0) (lv' := [(0, .ref h0), (1, .int p1)]) (st' := []) (ws' := [(h0, .inr (9, moF am known_h0 thrown_h0 wrong_h0 lastEnd_h0 at_h0 bad_h0 levels_h0 least_h0 found_h0)), ((am 4), .inr (8, [.ref a_all_m4, .int size_m4])), (a_all_m4, .inl (cI, n_a_all_m4, .inl b_a_all_m4))]) (cl' := 0) (sl' := 0) rfl rfl rfl rfl rfl rfl ?_
  unfold F_Mo_numeralEnd at h
  refine j_aload_n d_Mo_numeralEnd_0 rfl 0 rfl ?_
  refine j_iload_n d_Mo_numeralEnd_1 rfl 1 rfl ?_
  replace h := bd_s h
  obtain ⟨r18, k19, h⟩ := h
  refine j_callV (n := 1) (As := [.int p1]) (rest := []) (wr := []) (c_Mo_digitsEnd l D cI cB cJ cS h0 am a_all_m4 p1 known_h0 thrown_h0 wrong_h0 lastEnd_h0 at_h0 bad_h0 levels_h0 least_h0 found_h0 size_m4 n_a_all_m4 b_a_all_m4  r18 k19) k_Mo_228 (by decide) ⟨Nat.le_of_ble_eq_true rfl, Nat.le_of_ble_eq_true rfl⟩ rfl 0 rfl [0, 1, 2] [] rfl (by decide) rfl (by decide) (by decide) rfl rfl (Nat.le_of_ble_eq_true rfl) d_Mo_numeralEnd_2 ⟨Nat.le_of_ble_eq_true rfl, Nat.le_of_ble_eq_true rfl⟩ (fun v w hq => ?_)
  obtain ⟨rfl, rfl⟩ := hq
  refine j_norm (pc' := 5) (st' := [.int r18]) (ws' := [(h0, .inr (9, moF am known_h0 thrown_h0 wrong_h0 lastEnd_h0 at_h0 bad_h0 levels_h0 least_h0 found_h0)), ((am 4), .inr (8, [.ref a_all_m4, .int size_m4])), (a_all_m4, .inl (cI, n_a_all_m4, .inl b_a_all_m4))]) (cl' := 0) (sl' := 0) rfl rfl rfl rfl rfl rfl ?_
  refine j_istore_n (lv' := [(2, .int r18), (0, .ref h0), (1, .int p1)]) d_Mo_numeralEnd_5 rfl (by decide) rfl ?_
  refine j_aload_n d_Mo_numeralEnd_6 rfl 1 rfl ?_
  refine j_iload_n d_Mo_numeralEnd_7 rfl 0 rfl ?_
  replace h := bd_s h
  obtain ⟨r20, k21, h⟩ := h
  refine j_callV (n := 1) (As := [.int r18]) (rest := []) (wr := []) (c_Mo_letter l D cI cB cJ cS h0 am a_all_m4 r18 known_h0 thrown_h0 wrong_h0 lastEnd_h0 at_h0 bad_h0 levels_h0 least_h0 found_h0 size_m4 n_a_all_m4 b_a_all_m4  r20 k21) k_Mo_222 (by decide) ⟨Nat.le_of_ble_eq_true rfl, Nat.le_of_ble_eq_true rfl⟩ rfl 0 rfl [0, 1, 2] [] rfl (by decide) rfl (by decide) (by decide) rfl rfl (Nat.le_of_ble_eq_true rfl) d_Mo_numeralEnd_8 ⟨Nat.le_of_ble_eq_true rfl, Nat.le_of_ble_eq_true rfl⟩ (fun v w hq => ?_)
  obtain ⟨rfl, rfl⟩ := hq
  refine j_norm (pc' := 11) (st' := [.int r20]) (ws' := [(h0, .inr (9, moF am known_h0 thrown_h0 wrong_h0 lastEnd_h0 at_h0 bad_h0 levels_h0 least_h0 found_h0)), ((am 4), .inr (8, [.ref a_all_m4, .int size_m4])), (a_all_m4, .inl (cI, n_a_all_m4, .inl b_a_all_m4))]) (cl' := 0) (sl' := 0) rfl rfl rfl rfl rfl rfl ?_
  refine j_bipush (v := 46) d_Mo_numeralEnd_11 (by decide) ?_
  refine j_icmp_ne (tgt := 37) d_Mo_numeralEnd_13 (by decide) (fun c22 => ?_) (fun c22 => ?_)
  · replace h := it_f c22 h
    refine j_sub (w := [(h0, .inr (9, moF am known_h0 thrown_h0 wrong_h0 lastEnd_h0 at_h0 bad_h0 levels_h0 least_h0 found_h0)), ((am 4), .inr (8, [.ref a_all_m4, .int size_m4])), (a_all_m4, .inl (cI, n_a_all_m4, .inl b_a_all_m4))]) (lv' := [(2, .int r18), (0, .ref h0), (1, .int p1)]) [0, 1, 2] rfl (by decide) [0, 1, 2] rfl ?_
    exact L_Mo_numeralEnd_37 l D cI cB cJ cS h0 am a_all_m4 p1 known_h0 thrown_h0 wrong_h0 lastEnd_h0 at_h0 bad_h0 levels_h0 least_h0 found_h0 size_m4 n_a_all_m4 b_a_all_m4 ret p e s m below meth c hr hnm r18 h
  · replace h := it_t c22 h
    refine j_aload_n d_Mo_numeralEnd_16 rfl 1 rfl ?_
    refine j_iload_n d_Mo_numeralEnd_17 rfl 0 rfl ?_
    refine j_iconst (v := 1) d_Mo_numeralEnd_18 (by decide) ?_
    refine j_iadd d_Mo_numeralEnd_19 ?_
    replace h := bd_s h
    obtain ⟨r23, k24, h⟩ := h
    refine j_callV (n := 1) (As := [.int (r18 + 1)]) (rest := []) (wr := []) (c_Mo_letter l D cI cB cJ cS h0 am a_all_m4 (r18 + 1) known_h0 thrown_h0 wrong_h0 lastEnd_h0 at_h0 bad_h0 levels_h0 least_h0 found_h0 size_m4 n_a_all_m4 b_a_all_m4  r23 k24) k_Mo_222 (by decide) ⟨Nat.le_of_ble_eq_true rfl, Nat.le_of_ble_eq_true rfl⟩ rfl 0 rfl [0, 1, 2] [] rfl (by decide) rfl (by decide) (by decide) rfl rfl (Nat.le_of_ble_eq_true rfl) d_Mo_numeralEnd_20 ⟨Nat.le_of_ble_eq_true rfl, Nat.le_of_ble_eq_true rfl⟩ (fun v w hq => ?_)
    obtain ⟨rfl, rfl⟩ := hq
    refine j_norm (pc' := 23) (st' := [.int r23]) (ws' := [(h0, .inr (9, moF am known_h0 thrown_h0 wrong_h0 lastEnd_h0 at_h0 bad_h0 levels_h0 least_h0 found_h0)), ((am 4), .inr (8, [.ref a_all_m4, .int size_m4])), (a_all_m4, .inl (cI, n_a_all_m4, .inl b_a_all_m4))]) (cl' := 0) (sl' := 0) rfl rfl rfl rfl rfl rfl ?_
    obtain ⟨r25, k27⟩ : ∃ z, (F_Mo_isDigit r23) = z := ⟨_, rfl⟩
    replace h := nm_at k27 h
    refine j_callS (n := 1) (As := [.int r23]) (rest := []) (wr := [(h0, .inr (9, moF am known_h0 thrown_h0 wrong_h0 lastEnd_h0 at_h0 bad_h0 levels_h0 least_h0 found_h0)), ((am 4), .inr (8, [.ref a_all_m4, .int size_m4])), (a_all_m4, .inl (cI, n_a_all_m4, .inl b_a_all_m4))]) (c_Mo_isDigit l D cI cB cJ cS r23  r25 k27) k_Mo_225 (by decide) ⟨Nat.le_of_ble_eq_true rfl, Nat.le_of_ble_eq_true rfl⟩ [] [0, 1, 2] rfl (by decide) rfl (by decide) (by decide) rfl rfl (Nat.le_of_ble_eq_true rfl) d_Mo_numeralEnd_23 ⟨Nat.le_of_ble_eq_true rfl, Nat.le_of_ble_eq_true rfl⟩ (fun v w hq => ?_)
    obtain ⟨rfl, z26, rfl⟩ := hq
    refine j_norm (pc' := 26) (st' := [.int r25]) (ws' := [(h0, .inr (9, moF am known_h0 thrown_h0 wrong_h0 lastEnd_h0 at_h0 bad_h0 levels_h0 least_h0 found_h0)), ((am 4), .inr (8, [.ref a_all_m4, .int size_m4])), (a_all_m4, .inl (cI, n_a_all_m4, .inl b_a_all_m4))]) (cl' := 0) (sl' := 0) rfl rfl rfl rfl rfl rfl ?_
    refine j_if_eq (tgt := 37) d_Mo_numeralEnd_26 (by decide) (fun c28 => ?_) (fun c28 => ?_)
    · replace h := it_t c28 h
      refine j_sub (w := [(h0, .inr (9, moF am known_h0 thrown_h0 wrong_h0 lastEnd_h0 at_h0 bad_h0 levels_h0 least_h0 found_h0)), ((am 4), .inr (8, [.ref a_all_m4, .int size_m4])), (a_all_m4, .inl (cI, n_a_all_m4, .inl b_a_all_m4))]) (lv' := [(2, .int r18), (0, .ref h0), (1, .int p1)]) [0, 1, 2] rfl (by decide) [0, 1, 2] rfl ?_
      exact L_Mo_numeralEnd_37 l D cI cB cJ cS h0 am a_all_m4 p1 known_h0 thrown_h0 wrong_h0 lastEnd_h0 at_h0 bad_h0 levels_h0 least_h0 found_h0 size_m4 n_a_all_m4 b_a_all_m4 ret p e s m below meth c hr hnm r18 h
    · replace h := it_f c28 h
      refine j_aload_n d_Mo_numeralEnd_29 rfl 1 rfl ?_
      refine j_iload_n d_Mo_numeralEnd_30 rfl 0 rfl ?_
      refine j_iconst (v := 1) d_Mo_numeralEnd_31 (by decide) ?_
      refine j_iadd d_Mo_numeralEnd_32 ?_
      replace h := bd_s h
      obtain ⟨r29, k30, h⟩ := h
      refine j_callV (n := 1) (As := [.int (r18 + 1)]) (rest := []) (wr := []) (c_Mo_digitsEnd l D cI cB cJ cS h0 am a_all_m4 (r18 + 1) known_h0 thrown_h0 wrong_h0 lastEnd_h0 at_h0 bad_h0 levels_h0 least_h0 found_h0 size_m4 n_a_all_m4 b_a_all_m4  r29 k30) k_Mo_228 (by decide) ⟨Nat.le_of_ble_eq_true rfl, Nat.le_of_ble_eq_true rfl⟩ rfl 0 rfl [0, 1, 2] [] rfl (by decide) rfl (by decide) (by decide) rfl rfl (Nat.le_of_ble_eq_true rfl) d_Mo_numeralEnd_33 ⟨Nat.le_of_ble_eq_true rfl, Nat.le_of_ble_eq_true rfl⟩ (fun v w hq => ?_)
      obtain ⟨rfl, rfl⟩ := hq
      refine j_norm (pc' := 36) (st' := [.int r29]) (ws' := [(h0, .inr (9, moF am known_h0 thrown_h0 wrong_h0 lastEnd_h0 at_h0 bad_h0 levels_h0 least_h0 found_h0)), ((am 4), .inr (8, [.ref a_all_m4, .int size_m4])), (a_all_m4, .inl (cI, n_a_all_m4, .inl b_a_all_m4))]) (cl' := 0) (sl' := 0) rfl rfl rfl rfl rfl rfl ?_
      refine j_istore_n (lv' := [(2, .int r29), (0, .ref h0), (1, .int p1)]) d_Mo_numeralEnd_36 rfl (by decide) rfl ?_
      refine j_sub (w := [(h0, .inr (9, moF am known_h0 thrown_h0 wrong_h0 lastEnd_h0 at_h0 bad_h0 levels_h0 least_h0 found_h0)), ((am 4), .inr (8, [.ref a_all_m4, .int size_m4])), (a_all_m4, .inl (cI, n_a_all_m4, .inl b_a_all_m4))]) (lv' := [(2, .int r29), (0, .ref h0), (1, .int p1)]) [0, 1, 2] rfl (by decide) [0, 1, 2] rfl ?_
      exact L_Mo_numeralEnd_37 l D cI cB cJ cS h0 am a_all_m4 p1 known_h0 thrown_h0 wrong_h0 lastEnd_h0 at_h0 bad_h0 levels_h0 least_h0 found_h0 size_m4 n_a_all_m4 b_a_all_m4 ret p e s m below meth c hr hnm r29 h
