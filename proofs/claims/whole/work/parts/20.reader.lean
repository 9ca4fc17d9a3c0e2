set_option maxRecDepth 20000 in
theorem m_111 : Cond.fieldLink R_Rd 86 R_Fr "kind" "I" ∈ gG := gG_in (List.mem_append_right _ (List.mem_of_getElem? (i := 111) (by decide +kernel))) rfl
set_option maxRecDepth 20000 in
theorem m_107 : Cond.fieldLink R_Rd 144 R_Fr "below" "LEquationText$Frame;" ∈ gG := gG_in (List.mem_append_right _ (List.mem_of_getElem? (i := 107) (by decide +kernel))) rfl
set_option maxRecDepth 20000 in
theorem m_131 : Cond.fieldLink R_Rd 330 R_Fr "limited" "Z" ∈ gG := gG_in (List.mem_append_right _ (List.mem_of_getElem? (i := 131) (by decide +kernel))) rfl
set_option maxRecDepth 20000 in
theorem m_119 : Cond.fieldLink R_Rd 224 R_Fr "parts" "I" ∈ gG := gG_in (List.mem_append_right _ (List.mem_of_getElem? (i := 119) (by decide +kernel))) rfl
set_option maxRecDepth 20000 in
theorem m_174 : Cond.fieldLink R_Rd 46 R_Rd "top" "LEquationText$Frame;" ∈ gG := gG_in (List.mem_append_right _ (List.mem_of_getElem? (i := 174) (by decide +kernel))) rfl
set_option maxRecDepth 20000 in
theorem m_170 : Cond.fieldLink R_Rd 23 R_Rd "draft" "LEquationText$Nodes;" ∈ gG := gG_in (List.mem_append_right _ (List.mem_of_getElem? (i := 170) (by decide +kernel))) rfl
set_option maxRecDepth 20000 in
theorem m_181 : Cond.fieldLink R_Rd 72 R_Rd "fault" "I" ∈ gG := gG_in (List.mem_append_right _ (List.mem_of_getElem? (i := 181) (by decide +kernel))) rfl
set_option maxRecDepth 20000 in
theorem m_175 : Cond.fieldLink R_Rd 52 R_Rd "text" "LEquationText$Row;" ∈ gG := gG_in (List.mem_append_right _ (List.mem_of_getElem? (i := 175) (by decide +kernel))) rfl
set_option maxRecDepth 20000 in
theorem m_169 : Cond.fieldLink R_Rd 14 R_Rd "scanner" "LEquationText$Scanner;" ∈ gG := gG_in (List.mem_append_right _ (List.mem_of_getElem? (i := 169) (by decide +kernel))) rfl
set_option maxRecDepth 20000 in
theorem m_171 : Cond.fieldLink R_Rd 30 R_Rd "waiting" "LEquationText$Tokens;" ∈ gG := gG_in (List.mem_append_right _ (List.mem_of_getElem? (i := 171) (by decide +kernel))) rfl
set_option maxRecDepth 20000 in
theorem m_172 : Cond.fieldLink R_Rd 34 R_Rd "functions" "LEquationText$Tokens;" ∈ gG := gG_in (List.mem_append_right _ (List.mem_of_getElem? (i := 172) (by decide +kernel))) rfl
set_option maxRecDepth 20000 in
theorem m_173 : Cond.fieldLink R_Rd 42 R_Rd "bottom" "LEquationText$Frame;" ∈ gG := gG_in (List.mem_append_right _ (List.mem_of_getElem? (i := 173) (by decide +kernel))) rfl
set_option maxRecDepth 20000 in
theorem m_176 : Cond.fieldLink R_Rd 56 R_Rd "mode" "I" ∈ gG := gG_in (List.mem_append_right _ (List.mem_of_getElem? (i := 176) (by decide +kernel))) rfl
set_option maxRecDepth 20000 in
theorem m_177 : Cond.fieldLink R_Rd 60 R_Rd "levels" "I" ∈ gG := gG_in (List.mem_append_right _ (List.mem_of_getElem? (i := 177) (by decide +kernel))) rfl
set_option maxRecDepth 20000 in
theorem m_178 : Cond.fieldLink R_Rd 63 R_Rd "signs" "I" ∈ gG := gG_in (List.mem_append_right _ (List.mem_of_getElem? (i := 178) (by decide +kernel))) rfl
set_option maxRecDepth 20000 in
theorem m_179 : Cond.fieldLink R_Rd 66 R_Rd "loops" "I" ∈ gG := gG_in (List.mem_append_right _ (List.mem_of_getElem? (i := 179) (by decide +kernel))) rfl
set_option maxRecDepth 20000 in
theorem mc_Fr_begin : Cond.code y_Fr_begin prog_2_method_2_code 4 (Option.none : Option Jvm.ClassFile.FieldType) ∈ gG := gG_in (List.mem_append_right _ (List.mem_of_getElem? (i := 325) rfl)) rfl
set_option maxRecDepth 20000 in
theorem m_322 : Cond.methodLink R_Rd 121 y_Fr_begin ∈ gG := gG_in (List.mem_append_right _ (List.mem_of_getElem? (i := 322) (by decide +kernel))) rfl
set_option maxRecDepth 20000 in
theorem m_323 : Cond.instanceMethod y_Fr_begin ∈ gG := gG_in (List.mem_append_right _ (List.mem_of_getElem? (i := 323) (by decide +kernel))) rfl
set_option maxRecDepth 20000 in
theorem m_324 : Cond.selects R_Fr y_Fr_begin y_Fr_begin ∈ gG := gG_in (List.mem_append_right _ (List.mem_of_getElem? (i := 324) (by decide +kernel))) rfl
set_option maxRecDepth 20000 in
theorem m_7 : Cond.initialized R_Fr ∈ gG := gG_in (List.mem_append_right _ (List.mem_of_getElem? (i := 7) (by decide +kernel))) rfl
set_option maxRecDepth 20000 in
theorem mc_Tk_clear : Cond.code y_Tk_clear prog_9_method_3_code 1 (Option.none : Option Jvm.ClassFile.FieldType) ∈ gG := gG_in (List.mem_append_right _ (List.mem_of_getElem? (i := 321) rfl)) rfl
set_option maxRecDepth 20000 in
theorem m_318 : Cond.methodLink R_Rd 120 y_Tk_clear ∈ gG := gG_in (List.mem_append_right _ (List.mem_of_getElem? (i := 318) (by decide +kernel))) rfl
set_option maxRecDepth 20000 in
theorem m_319 : Cond.instanceMethod y_Tk_clear ∈ gG := gG_in (List.mem_append_right _ (List.mem_of_getElem? (i := 319) (by decide +kernel))) rfl
set_option maxRecDepth 20000 in
theorem m_320 : Cond.selects R_Tk y_Tk_clear y_Tk_clear ∈ gG := gG_in (List.mem_append_right _ (List.mem_of_getElem? (i := 320) (by decide +kernel))) rfl
set_option maxRecDepth 20000 in
theorem m_314 : Cond.methodLink R_Rd 117 y_Nd_clear ∈ gG := gG_in (List.mem_append_right _ (List.mem_of_getElem? (i := 314) (by decide +kernel))) rfl
set_option maxRecDepth 20000 in
theorem mc_Sc_begin : Cond.code y_Sc_begin prog_8_method_2_code 2 (Option.none : Option Jvm.ClassFile.FieldType) ∈ gG := gG_in (List.mem_append_right _ (List.mem_of_getElem? (i := 313) rfl)) rfl
set_option maxRecDepth 20000 in
theorem m_310 : Cond.methodLink R_Rd 116 y_Sc_begin ∈ gG := gG_in (List.mem_append_right _ (List.mem_of_getElem? (i := 310) (by decide +kernel))) rfl
set_option maxRecDepth 20000 in
theorem m_311 : Cond.instanceMethod y_Sc_begin ∈ gG := gG_in (List.mem_append_right _ (List.mem_of_getElem? (i := 311) (by decide +kernel))) rfl
set_option maxRecDepth 20000 in
theorem m_312 : Cond.selects R_Sc y_Sc_begin y_Sc_begin ∈ gG := gG_in (List.mem_append_right _ (List.mem_of_getElem? (i := 312) (by decide +kernel))) rfl
set_option maxRecDepth 20000 in
theorem mc_Rd_goOn : Cond.code y_Rd_goOn prog_6_method_6_code 2 (Option.some Jvm.ClassFile.FieldType.boolean) ∈ gG := gG_in (List.mem_append_right _ (List.mem_of_getElem? (i := 529) rfl)) rfl
set_option maxRecDepth 20000 in
theorem m_526 : Cond.methodLink R_Rd 130 y_Rd_goOn ∈ gG := gG_in (List.mem_append_right _ (List.mem_of_getElem? (i := 526) (by decide +kernel))) rfl
set_option maxRecDepth 20000 in
theorem m_528 : Cond.instanceMethod y_Rd_goOn ∈ gG := gG_in (List.mem_append_right _ (List.mem_of_getElem? (i := 528) (by decide +kernel))) rfl
set_option maxRecDepth 20000 in
theorem ms_18 : Cond.selects R_Rd y_Rd_goOn y_Rd_goOn ∈ gG := gG_in (List.mem_append_left _ (List.mem_of_getElem? (i := 18) (by decide +kernel))) rfl
set_option maxRecDepth 20000 in
theorem m_2 : Cond.initialized R_Rd ∈ gG := gG_in (List.mem_append_right _ (List.mem_of_getElem? (i := 2) (by decide +kernel))) rfl
set_option maxRecDepth 20000 in
theorem m_557 : Cond.methodLink R_Rd 127 y_Nd_addLeaf ∈ gG := gG_in (List.mem_append_right _ (List.mem_of_getElem? (i := 557) (by decide +kernel))) rfl
set_option maxRecDepth 20000 in
theorem mc_Sc_width : Cond.code y_Sc_width prog_8_method_5_code 1 (Option.some Jvm.ClassFile.FieldType.int) ∈ gG := gG_in (List.mem_append_right _ (List.mem_of_getElem? (i := 489) rfl)) rfl
set_option maxRecDepth 20000 in
theorem m_486 : Cond.methodLink R_Rd 124 y_Sc_width ∈ gG := gG_in (List.mem_append_right _ (List.mem_of_getElem? (i := 486) (by decide +kernel))) rfl
set_option maxRecDepth 20000 in
theorem m_487 : Cond.instanceMethod y_Sc_width ∈ gG := gG_in (List.mem_append_right _ (List.mem_of_getElem? (i := 487) (by decide +kernel))) rfl
set_option maxRecDepth 20000 in
theorem m_488 : Cond.selects R_Sc y_Sc_width y_Sc_width ∈ gG := gG_in (List.mem_append_right _ (List.mem_of_getElem? (i := 488) (by decide +kernel))) rfl
set_option maxRecDepth 20000 in
theorem mc_Sc_start : Cond.code y_Sc_start prog_8_method_4_code 1 (Option.some Jvm.ClassFile.FieldType.int) ∈ gG := gG_in (List.mem_append_right _ (List.mem_of_getElem? (i := 485) rfl)) rfl
set_option maxRecDepth 20000 in
theorem m_482 : Cond.methodLink R_Rd 113 y_Sc_start ∈ gG := gG_in (List.mem_append_right _ (List.mem_of_getElem? (i := 482) (by decide +kernel))) rfl
set_option maxRecDepth 20000 in
theorem m_483 : Cond.instanceMethod y_Sc_start ∈ gG := gG_in (List.mem_append_right _ (List.mem_of_getElem? (i := 483) (by decide +kernel))) rfl
set_option maxRecDepth 20000 in
theorem m_484 : Cond.selects R_Sc y_Sc_start y_Sc_start ∈ gG := gG_in (List.mem_append_right _ (List.mem_of_getElem? (i := 484) (by decide +kernel))) rfl
set_option maxRecDepth 20000 in
theorem m_109 : Cond.fieldLink R_Rd 134 R_Fr "above" "LEquationText$Frame;" ∈ gG := gG_in (List.mem_append_right _ (List.mem_of_getElem? (i := 109) (by decide +kernel))) rfl
set_option maxRecDepth 20000 in
theorem m_129 : Cond.fieldLink R_Rd 140 R_Fr "waitingBelow" "I" ∈ gG := gG_in (List.mem_append_right _ (List.mem_of_getElem? (i := 129) (by decide +kernel))) rfl
set_option maxRecDepth 20000 in
theorem m_127 : Cond.fieldLink R_Rd 143 R_Fr "signs" "I" ∈ gG := gG_in (List.mem_append_right _ (List.mem_of_getElem? (i := 127) (by decide +kernel))) rfl
set_option maxRecDepth 20000 in
theorem mc_Tk_count : Cond.code y_Tk_count prog_9_method_2_code 1 (Option.some Jvm.ClassFile.FieldType.int) ∈ gG := gG_in (List.mem_append_right _ (List.mem_of_getElem? (i := 493) rfl)) rfl
set_option maxRecDepth 20000 in
theorem m_490 : Cond.methodLink R_Rd 137 y_Tk_count ∈ gG := gG_in (List.mem_append_right _ (List.mem_of_getElem? (i := 490) (by decide +kernel))) rfl
set_option maxRecDepth 20000 in
theorem m_491 : Cond.instanceMethod y_Tk_count ∈ gG := gG_in (List.mem_append_right _ (List.mem_of_getElem? (i := 491) (by decide +kernel))) rfl
set_option maxRecDepth 20000 in
theorem m_492 : Cond.selects R_Tk y_Tk_count y_Tk_count ∈ gG := gG_in (List.mem_append_right _ (List.mem_of_getElem? (i := 492) (by decide +kernel))) rfl
set_option maxRecDepth 20000 in
theorem m_103 : Cond.instanceMethod y_Fr_init ∈ gG := gG_in (List.mem_append_right _ (List.mem_of_getElem? (i := 103) (by decide +kernel))) rfl
set_option maxRecDepth 20000 in
theorem mc_Fr_init : Cond.code y_Fr_init prog_2_method_1_code 2 (Option.none : Option Jvm.ClassFile.FieldType) ∈ gG := gG_in (List.mem_append_right _ (List.mem_of_getElem? (i := 104) rfl)) rfl
set_option maxRecDepth 20000 in
theorem m_102 : Cond.methodLink R_Rd 39 y_Fr_init ∈ gG := gG_in (List.mem_append_right _ (List.mem_of_getElem? (i := 102) (by decide +kernel))) rfl
set_option maxRecDepth 20000 in
theorem m_100 : Cond.classLink R_Rd 37 R_Fr ∈ gG := gG_in (List.mem_append_right _ (List.mem_of_getElem? (i := 100) (by decide +kernel))) rfl
set_option maxRecDepth 20000 in
theorem m_101 : Cond.instantiable R_Fr 15 ∈ gG := gG_in (List.mem_append_right _ (List.mem_of_getElem? (i := 101) (by decide +kernel))) rfl
set_option maxRecDepth 20000 in
theorem m_180 : Cond.fieldLink R_Rd 69 R_Rd "token" "I" ∈ gG := gG_in (List.mem_append_right _ (List.mem_of_getElem? (i := 180) (by decide +kernel))) rfl
set_option maxRecDepth 20000 in
theorem mc_Rd_push : Cond.code y_Rd_push prog_6_method_8_code 2 (Option.none : Option Jvm.ClassFile.FieldType) ∈ gG := gG_in (List.mem_append_right _ (List.mem_of_getElem? (i := 481) rfl)) rfl
set_option maxRecDepth 20000 in
theorem m_478 : Cond.methodLink R_Rd 150 y_Rd_push ∈ gG := gG_in (List.mem_append_right _ (List.mem_of_getElem? (i := 478) (by decide +kernel))) rfl
set_option maxRecDepth 20000 in
theorem m_480 : Cond.instanceMethod y_Rd_push ∈ gG := gG_in (List.mem_append_right _ (List.mem_of_getElem? (i := 480) (by decide +kernel))) rfl
set_option maxRecDepth 20000 in
theorem ms_12 : Cond.selects R_Rd y_Rd_push y_Rd_push ∈ gG := gG_in (List.mem_append_left _ (List.mem_of_getElem? (i := 12) (by decide +kernel))) rfl
set_option maxRecDepth 20000 in
theorem mc_Sc_isWord : Cond.code y_Sc_isWord prog_8_method_6_code 1 (Option.some Jvm.ClassFile.FieldType.boolean) ∈ gG := gG_in (List.mem_append_right _ (List.mem_of_getElem? (i := 477) rfl)) rfl
set_option maxRecDepth 20000 in
theorem m_475 : Cond.methodLink R_Rd 147 y_Sc_isWord ∈ gG := gG_in (List.mem_append_right _ (List.mem_of_getElem? (i := 475) (by decide +kernel))) rfl
set_option maxRecDepth 20000 in
theorem m_476 : Cond.static y_Sc_isWord ∈ gG := gG_in (List.mem_append_right _ (List.mem_of_getElem? (i := 476) (by decide +kernel))) rfl
set_option maxRecDepth 20000 in
theorem m_121 : Cond.fieldLink R_Rd 90 R_Fr "innerParts" "I" ∈ gG := gG_in (List.mem_append_right _ (List.mem_of_getElem? (i := 121) (by decide +kernel))) rfl
set_option maxRecDepth 20000 in
theorem m_123 : Cond.fieldLink R_Rd 174 R_Fr "innerPlace" "I" ∈ gG := gG_in (List.mem_append_right _ (List.mem_of_getElem? (i := 123) (by decide +kernel))) rfl
set_option maxRecDepth 20000 in
theorem m_125 : Cond.fieldLink R_Rd 177 R_Fr "innerWidth" "I" ∈ gG := gG_in (List.mem_append_right _ (List.mem_of_getElem? (i := 125) (by decide +kernel))) rfl
set_option maxRecDepth 20000 in
theorem m_133 : Cond.fieldLink R_Rd 160 R_Fr "targets" "Z" ∈ gG := gG_in (List.mem_append_right _ (List.mem_of_getElem? (i := 133) (by decide +kernel))) rfl
set_option maxRecDepth 20000 in
theorem m_135 : Cond.fieldLink R_Rd 215 R_Fr "lastBlock" "Z" ∈ gG := gG_in (List.mem_append_right _ (List.mem_of_getElem? (i := 135) (by decide +kernel))) rfl
set_option maxRecDepth 20000 in
theorem m_453 : Cond.methodLink R_Rd 93 y_Nd_add ∈ gG := gG_in (List.mem_append_right _ (List.mem_of_getElem? (i := 453) (by decide +kernel))) rfl
set_option maxRecDepth 20000 in
theorem m_113 : Cond.fieldLink R_Rd 227 R_Fr "place" "I" ∈ gG := gG_in (List.mem_append_right _ (List.mem_of_getElem? (i := 113) (by decide +kernel))) rfl
set_option maxRecDepth 20000 in
theorem m_115 : Cond.fieldLink R_Rd 230 R_Fr "width" "I" ∈ gG := gG_in (List.mem_append_right _ (List.mem_of_getElem? (i := 115) (by decide +kernel))) rfl
set_option maxRecDepth 20000 in
theorem mc_Rd_isLoop : Cond.code y_Rd_isLoop prog_6_method_16_code 1 (Option.some Jvm.ClassFile.FieldType.boolean) ∈ gG := gG_in (List.mem_append_right _ (List.mem_of_getElem? (i := 767) rfl)) rfl
set_option maxRecDepth 20000 in
theorem m_765 : Cond.methodLink R_Rd 212 y_Rd_isLoop ∈ gG := gG_in (List.mem_append_right _ (List.mem_of_getElem? (i := 765) (by decide +kernel))) rfl
set_option maxRecDepth 20000 in
theorem m_766 : Cond.static y_Rd_isLoop ∈ gG := gG_in (List.mem_append_right _ (List.mem_of_getElem? (i := 766) (by decide +kernel))) rfl
set_option maxRecDepth 20000 in
theorem mc_Rd_endBlock : Cond.code y_Rd_endBlock prog_6_method_19_code 1 (Option.none : Option Jvm.ClassFile.FieldType) ∈ gG := gG_in (List.mem_append_right _ (List.mem_of_getElem? (i := 775) rfl)) rfl
set_option maxRecDepth 20000 in
theorem m_772 : Cond.methodLink R_Rd 218 y_Rd_endBlock ∈ gG := gG_in (List.mem_append_right _ (List.mem_of_getElem? (i := 772) (by decide +kernel))) rfl
set_option maxRecDepth 20000 in
theorem m_774 : Cond.instanceMethod y_Rd_endBlock ∈ gG := gG_in (List.mem_append_right _ (List.mem_of_getElem? (i := 774) (by decide +kernel))) rfl
set_option maxRecDepth 20000 in
theorem ms_69 : Cond.selects R_Rd y_Rd_endBlock y_Rd_endBlock ∈ gG := gG_in (List.mem_append_left _ (List.mem_of_getElem? (i := 69) (by decide +kernel))) rfl
set_option maxRecDepth 20000 in
theorem mc_Rd_beginBlock : Cond.code y_Rd_beginBlock prog_6_method_18_code 1 (Option.none : Option Jvm.ClassFile.FieldType) ∈ gG := gG_in (List.mem_append_right _ (List.mem_of_getElem? (i := 645) rfl)) rfl
set_option maxRecDepth 20000 in
theorem m_642 : Cond.methodLink R_Rd 221 y_Rd_beginBlock ∈ gG := gG_in (List.mem_append_right _ (List.mem_of_getElem? (i := 642) (by decide +kernel))) rfl
set_option maxRecDepth 20000 in
theorem m_644 : Cond.instanceMethod y_Rd_beginBlock ∈ gG := gG_in (List.mem_append_right _ (List.mem_of_getElem? (i := 644) (by decide +kernel))) rfl
set_option maxRecDepth 20000 in
theorem ms_43 : Cond.selects R_Rd y_Rd_beginBlock y_Rd_beginBlock ∈ gG := gG_in (List.mem_append_left _ (List.mem_of_getElem? (i := 43) (by decide +kernel))) rfl
set_option maxRecDepth 20000 in
theorem mc_Rd_pop : Cond.code y_Rd_pop prog_6_method_9_code 1 (Option.none : Option Jvm.ClassFile.FieldType) ∈ gG := gG_in (List.mem_append_right _ (List.mem_of_getElem? (i := 521) rfl)) rfl
set_option maxRecDepth 20000 in
theorem m_518 : Cond.methodLink R_Rd 232 y_Rd_pop ∈ gG := gG_in (List.mem_append_right _ (List.mem_of_getElem? (i := 518) (by decide +kernel))) rfl
set_option maxRecDepth 20000 in
theorem m_520 : Cond.instanceMethod y_Rd_pop ∈ gG := gG_in (List.mem_append_right _ (List.mem_of_getElem? (i := 520) (by decide +kernel))) rfl
set_option maxRecDepth 20000 in
theorem ms_16 : Cond.selects R_Rd y_Rd_pop y_Rd_pop ∈ gG := gG_in (List.mem_append_left _ (List.mem_of_getElem? (i := 16) (by decide +kernel))) rfl
set_option maxRecDepth 20000 in
theorem m_117 : Cond.fieldLink R_Rd 259 R_Fr "second" "I" ∈ gG := gG_in (List.mem_append_right _ (List.mem_of_getElem? (i := 117) (by decide +kernel))) rfl
set_option maxRecDepth 20000 in
theorem mc_Rd_endNames : Cond.code y_Rd_endNames prog_6_method_31_code 2 (Option.none : Option Jvm.ClassFile.FieldType) ∈ gG := gG_in (List.mem_append_right _ (List.mem_of_getElem? (i := 735) rfl)) rfl
set_option maxRecDepth 20000 in
theorem m_732 : Cond.methodLink R_Rd 272 y_Rd_endNames ∈ gG := gG_in (List.mem_append_right _ (List.mem_of_getElem? (i := 732) (by decide +kernel))) rfl
set_option maxRecDepth 20000 in
theorem m_734 : Cond.instanceMethod y_Rd_endNames ∈ gG := gG_in (List.mem_append_right _ (List.mem_of_getElem? (i := 734) (by decide +kernel))) rfl
set_option maxRecDepth 20000 in
theorem ms_61 : Cond.selects R_Rd y_Rd_endNames y_Rd_endNames ∈ gG := gG_in (List.mem_append_left _ (List.mem_of_getElem? (i := 61) (by decide +kernel))) rfl
set_option maxRecDepth 20000 in
theorem mc_Rd_addName : Cond.code y_Rd_addName prog_6_method_7_code 2 (Option.some Jvm.ClassFile.FieldType.boolean) ∈ gG := gG_in (List.mem_append_right _ (List.mem_of_getElem? (i := 586) rfl)) rfl
set_option maxRecDepth 20000 in
theorem m_583 : Cond.methodLink R_Rd 192 y_Rd_addName ∈ gG := gG_in (List.mem_append_right _ (List.mem_of_getElem? (i := 583) (by decide +kernel))) rfl
set_option maxRecDepth 20000 in
theorem m_585 : Cond.instanceMethod y_Rd_addName ∈ gG := gG_in (List.mem_append_right _ (List.mem_of_getElem? (i := 585) (by decide +kernel))) rfl
set_option maxRecDepth 20000 in
theorem ms_29 : Cond.selects R_Rd y_Rd_addName y_Rd_addName ∈ gG := gG_in (List.mem_append_left _ (List.mem_of_getElem? (i := 29) (by decide +kernel))) rfl
set_option maxRecDepth 20000 in
theorem mc_Rw_same : Cond.code y_Rw_same prog_7_method_8_code 5 (Option.some Jvm.ClassFile.FieldType.boolean) ∈ gG := gG_in (List.mem_append_right _ (List.mem_of_getElem? (i := 730) rfl)) rfl
set_option maxRecDepth 20000 in
theorem m_727 : Cond.methodLink R_Rd 266 y_Rw_same ∈ gG := gG_in (List.mem_append_right _ (List.mem_of_getElem? (i := 727) (by decide +kernel))) rfl
set_option maxRecDepth 20000 in
theorem m_728 : Cond.instanceMethod y_Rw_same ∈ gG := gG_in (List.mem_append_right _ (List.mem_of_getElem? (i := 728) (by decide +kernel))) rfl
set_option maxRecDepth 20000 in
theorem m_729 : Cond.selects R_Rw y_Rw_same y_Rw_same ∈ gG := gG_in (List.mem_append_right _ (List.mem_of_getElem? (i := 729) (by decide +kernel))) rfl
set_option maxRecDepth 20000 in
theorem m_748 : Cond.methodLink R_Rd 276 y_Nd_get ∈ gG := gG_in (List.mem_append_right _ (List.mem_of_getElem? (i := 748) (by decide +kernel))) rfl
set_option maxRecDepth 20000 in
theorem m_744 : Cond.methodLink R_Rd 275 y_Nd_count ∈ gG := gG_in (List.mem_append_right _ (List.mem_of_getElem? (i := 744) (by decide +kernel))) rfl
set_option maxRecDepth 20000 in
theorem mc_Rd_endStatement : Cond.code y_Rd_endStatement prog_6_method_23_code 1 (Option.some Jvm.ClassFile.FieldType.boolean) ∈ gG := gG_in (List.mem_append_right _ (List.mem_of_getElem? (i := 633) rfl)) rfl
set_option maxRecDepth 20000 in
theorem m_630 : Cond.methodLink R_Rd 183 y_Rd_endStatement ∈ gG := gG_in (List.mem_append_right _ (List.mem_of_getElem? (i := 630) (by decide +kernel))) rfl
set_option maxRecDepth 20000 in
theorem m_632 : Cond.instanceMethod y_Rd_endStatement ∈ gG := gG_in (List.mem_append_right _ (List.mem_of_getElem? (i := 632) (by decide +kernel))) rfl
set_option maxRecDepth 20000 in
theorem ms_40 : Cond.selects R_Rd y_Rd_endStatement y_Rd_endStatement ∈ gG := gG_in (List.mem_append_left _ (List.mem_of_getElem? (i := 40) (by decide +kernel))) rfl
set_option maxRecDepth 20000 in
theorem mc_Rd_addNothing : Cond.code y_Rd_addNothing prog_6_method_38_code 2 (Option.some Jvm.ClassFile.FieldType.boolean) ∈ gG := gG_in (List.mem_append_right _ (List.mem_of_getElem? (i := 525) rfl)) rfl
set_option maxRecDepth 20000 in
theorem m_522 : Cond.methodLink R_Rd 277 y_Rd_addNothing ∈ gG := gG_in (List.mem_append_right _ (List.mem_of_getElem? (i := 522) (by decide +kernel))) rfl
set_option maxRecDepth 20000 in
theorem m_524 : Cond.instanceMethod y_Rd_addNothing ∈ gG := gG_in (List.mem_append_right _ (List.mem_of_getElem? (i := 524) (by decide +kernel))) rfl
set_option maxRecDepth 20000 in
theorem ms_17 : Cond.selects R_Rd y_Rd_addNothing y_Rd_addNothing ∈ gG := gG_in (List.mem_append_left _ (List.mem_of_getElem? (i := 17) (by decide +kernel))) rfl
set_option maxRecDepth 20000 in
theorem mc_Rd_takeSeveralEquals : Cond.code y_Rd_takeSeveralEquals prog_6_method_40_code 1 (Option.some Jvm.ClassFile.FieldType.boolean) ∈ gG := gG_in (List.mem_append_right _ (List.mem_of_getElem? (i := 685) rfl)) rfl
set_option maxRecDepth 20000 in
theorem m_682 : Cond.methodLink R_Rd 286 y_Rd_takeSeveralEquals ∈ gG := gG_in (List.mem_append_right _ (List.mem_of_getElem? (i := 682) (by decide +kernel))) rfl
set_option maxRecDepth 20000 in
theorem m_684 : Cond.instanceMethod y_Rd_takeSeveralEquals ∈ gG := gG_in (List.mem_append_right _ (List.mem_of_getElem? (i := 684) (by decide +kernel))) rfl
set_option maxRecDepth 20000 in
theorem ms_50 : Cond.selects R_Rd y_Rd_takeSeveralEquals y_Rd_takeSeveralEquals ∈ gG := gG_in (List.mem_append_left _ (List.mem_of_getElem? (i := 50) (by decide +kernel))) rfl
set_option maxRecDepth 20000 in
theorem mc_Nd_dropLast : Cond.code y_Nd_dropLast prog_4_method_9_code 1 (Option.none : Option Jvm.ClassFile.FieldType) ∈ gG := gG_in (List.mem_append_right _ (List.mem_of_getElem? (i := 673) rfl)) rfl
set_option maxRecDepth 20000 in
theorem m_670 : Cond.methodLink R_Rd 299 y_Nd_dropLast ∈ gG := gG_in (List.mem_append_right _ (List.mem_of_getElem? (i := 670) (by decide +kernel))) rfl
set_option maxRecDepth 20000 in
theorem m_671 : Cond.instanceMethod y_Nd_dropLast ∈ gG := gG_in (List.mem_append_right _ (List.mem_of_getElem? (i := 671) (by decide +kernel))) rfl
set_option maxRecDepth 20000 in
theorem m_672 : Cond.selects R_Nd y_Nd_dropLast y_Nd_dropLast ∈ gG := gG_in (List.mem_append_right _ (List.mem_of_getElem? (i := 672) (by decide +kernel))) rfl
set_option maxRecDepth 20000 in
theorem mc_Nd_last : Cond.code y_Nd_last prog_4_method_5_code 2 (Option.some Jvm.ClassFile.FieldType.int) ∈ gG := gG_in (List.mem_append_right _ (List.mem_of_getElem? (i := 653) rfl)) rfl
set_option maxRecDepth 20000 in
theorem m_650 : Cond.methodLink R_Rd 298 y_Nd_last ∈ gG := gG_in (List.mem_append_right _ (List.mem_of_getElem? (i := 650) (by decide +kernel))) rfl
set_option maxRecDepth 20000 in
theorem m_651 : Cond.instanceMethod y_Nd_last ∈ gG := gG_in (List.mem_append_right _ (List.mem_of_getElem? (i := 651) (by decide +kernel))) rfl
set_option maxRecDepth 20000 in
theorem m_652 : Cond.selects R_Nd y_Nd_last y_Nd_last ∈ gG := gG_in (List.mem_append_right _ (List.mem_of_getElem? (i := 652) (by decide +kernel))) rfl
set_option maxRecDepth 20000 in
theorem mc_Tk_add : Cond.code y_Tk_add prog_9_method_4_code 5 (Option.none : Option Jvm.ClassFile.FieldType) ∈ gG := gG_in (List.mem_append_right _ (List.mem_of_getElem? (i := 573) rfl)) rfl
set_option maxRecDepth 20000 in
theorem m_570 : Cond.methodLink R_Rd 270 y_Tk_add ∈ gG := gG_in (List.mem_append_right _ (List.mem_of_getElem? (i := 570) (by decide +kernel))) rfl
set_option maxRecDepth 20000 in
theorem m_571 : Cond.instanceMethod y_Tk_add ∈ gG := gG_in (List.mem_append_right _ (List.mem_of_getElem? (i := 571) (by decide +kernel))) rfl
set_option maxRecDepth 20000 in
theorem m_572 : Cond.selects R_Tk y_Tk_add y_Tk_add ∈ gG := gG_in (List.mem_append_right _ (List.mem_of_getElem? (i := 572) (by decide +kernel))) rfl
set_option maxRecDepth 20000 in
theorem mc_Rd_goDeeper : Cond.code y_Rd_goDeeper prog_6_method_10_code 1 (Option.some Jvm.ClassFile.FieldType.boolean) ∈ gG := gG_in (List.mem_append_right _ (List.mem_of_getElem? (i := 569) rfl)) rfl
set_option maxRecDepth 20000 in
theorem m_566 : Cond.methodLink R_Rd 186 y_Rd_goDeeper ∈ gG := gG_in (List.mem_append_right _ (List.mem_of_getElem? (i := 566) (by decide +kernel))) rfl
set_option maxRecDepth 20000 in
theorem m_568 : Cond.instanceMethod y_Rd_goDeeper ∈ gG := gG_in (List.mem_append_right _ (List.mem_of_getElem? (i := 568) (by decide +kernel))) rfl
set_option maxRecDepth 20000 in
theorem ms_26 : Cond.selects R_Rd y_Rd_goDeeper y_Rd_goDeeper ∈ gG := gG_in (List.mem_append_left _ (List.mem_of_getElem? (i := 26) (by decide +kernel))) rfl
set_option maxRecDepth 20000 in
theorem mc_Rd_openCall : Cond.code y_Rd_openCall prog_6_method_42_code 1 (Option.some Jvm.ClassFile.FieldType.boolean) ∈ gG := gG_in (List.mem_append_right _ (List.mem_of_getElem? (i := 677) rfl)) rfl
set_option maxRecDepth 20000 in
theorem m_674 : Cond.methodLink R_Rd 292 y_Rd_openCall ∈ gG := gG_in (List.mem_append_right _ (List.mem_of_getElem? (i := 674) (by decide +kernel))) rfl
set_option maxRecDepth 20000 in
theorem m_676 : Cond.instanceMethod y_Rd_openCall ∈ gG := gG_in (List.mem_append_right _ (List.mem_of_getElem? (i := 676) (by decide +kernel))) rfl
set_option maxRecDepth 20000 in
theorem ms_48 : Cond.selects R_Rd y_Rd_openCall y_Rd_openCall ∈ gG := gG_in (List.mem_append_left _ (List.mem_of_getElem? (i := 48) (by decide +kernel))) rfl
set_option maxRecDepth 20000 in
theorem m_603 : Cond.methodLink R_Rd 345 y_Rk_of ∈ gG := gG_in (List.mem_append_right _ (List.mem_of_getElem? (i := 603) (by decide +kernel))) rfl
set_option maxRecDepth 20000 in
theorem mc_Tk_last : Cond.code y_Tk_last prog_9_method_7_code 2 (Option.some Jvm.ClassFile.FieldType.int) ∈ gG := gG_in (List.mem_append_right _ (List.mem_of_getElem? (i := 505) rfl)) rfl
set_option maxRecDepth 20000 in
theorem m_502 : Cond.methodLink R_Rd 164 y_Tk_last ∈ gG := gG_in (List.mem_append_right _ (List.mem_of_getElem? (i := 502) (by decide +kernel))) rfl
set_option maxRecDepth 20000 in
theorem m_503 : Cond.instanceMethod y_Tk_last ∈ gG := gG_in (List.mem_append_right _ (List.mem_of_getElem? (i := 503) (by decide +kernel))) rfl
set_option maxRecDepth 20000 in
theorem m_504 : Cond.selects R_Tk y_Tk_last y_Tk_last ∈ gG := gG_in (List.mem_append_right _ (List.mem_of_getElem? (i := 504) (by decide +kernel))) rfl
set_option maxRecDepth 20000 in
theorem mc_Tk_dropLast : Cond.code y_Tk_dropLast prog_9_method_5_code 1 (Option.none : Option Jvm.ClassFile.FieldType) ∈ gG := gG_in (List.mem_append_right _ (List.mem_of_getElem? (i := 513) rfl)) rfl
set_option maxRecDepth 20000 in
theorem m_510 : Cond.methodLink R_Rd 168 y_Tk_dropLast ∈ gG := gG_in (List.mem_append_right _ (List.mem_of_getElem? (i := 510) (by decide +kernel))) rfl
set_option maxRecDepth 20000 in
theorem m_511 : Cond.instanceMethod y_Tk_dropLast ∈ gG := gG_in (List.mem_append_right _ (List.mem_of_getElem? (i := 511) (by decide +kernel))) rfl
set_option maxRecDepth 20000 in
theorem m_512 : Cond.selects R_Tk y_Tk_dropLast y_Tk_dropLast ∈ gG := gG_in (List.mem_append_right _ (List.mem_of_getElem? (i := 512) (by decide +kernel))) rfl
set_option maxRecDepth 20000 in
theorem mc_Rd_takeOperation : Cond.code y_Rd_takeOperation prog_6_method_60_code 2 (Option.some Jvm.ClassFile.FieldType.boolean) ∈ gG := gG_in (List.mem_append_right _ (List.mem_of_getElem? (i := 661) rfl)) rfl
set_option maxRecDepth 20000 in
theorem m_658 : Cond.methodLink R_Rd 369 y_Rd_takeOperation ∈ gG := gG_in (List.mem_append_right _ (List.mem_of_getElem? (i := 658) (by decide +kernel))) rfl
set_option maxRecDepth 20000 in
theorem m_660 : Cond.instanceMethod y_Rd_takeOperation ∈ gG := gG_in (List.mem_append_right _ (List.mem_of_getElem? (i := 660) (by decide +kernel))) rfl
set_option maxRecDepth 20000 in
theorem ms_46 : Cond.selects R_Rd y_Rd_takeOperation y_Rd_takeOperation ∈ gG := gG_in (List.mem_append_left _ (List.mem_of_getElem? (i := 46) (by decide +kernel))) rfl
set_option maxRecDepth 20000 in
theorem mc_Tk_giveLastSecond : Cond.code y_Tk_giveLastSecond prog_9_method_8_code 2 (Option.none : Option Jvm.ClassFile.FieldType) ∈ gG := gG_in (List.mem_append_right _ (List.mem_of_getElem? (i := 665) rfl)) rfl
set_option maxRecDepth 20000 in
theorem m_662 : Cond.methodLink R_Rd 372 y_Tk_giveLastSecond ∈ gG := gG_in (List.mem_append_right _ (List.mem_of_getElem? (i := 662) (by decide +kernel))) rfl
set_option maxRecDepth 20000 in
theorem m_663 : Cond.instanceMethod y_Tk_giveLastSecond ∈ gG := gG_in (List.mem_append_right _ (List.mem_of_getElem? (i := 663) (by decide +kernel))) rfl
set_option maxRecDepth 20000 in
theorem m_664 : Cond.selects R_Tk y_Tk_giveLastSecond y_Tk_giveLastSecond ∈ gG := gG_in (List.mem_append_right _ (List.mem_of_getElem? (i := 664) (by decide +kernel))) rfl
set_option maxRecDepth 20000 in
theorem mc_Rd_isCall : Cond.code y_Rd_isCall prog_6_method_48_code 1 (Option.some Jvm.ClassFile.FieldType.boolean) ∈ gG := gG_in (List.mem_append_right _ (List.mem_of_getElem? (i := 540) rfl)) rfl
set_option maxRecDepth 20000 in
theorem m_538 : Cond.methodLink R_Rd 315 y_Rd_isCall ∈ gG := gG_in (List.mem_append_right _ (List.mem_of_getElem? (i := 538) (by decide +kernel))) rfl
set_option maxRecDepth 20000 in
theorem m_539 : Cond.static y_Rd_isCall ∈ gG := gG_in (List.mem_append_right _ (List.mem_of_getElem? (i := 539) (by decide +kernel))) rfl
set_option maxRecDepth 20000 in
theorem mc_Rd_hasRoomForName : Cond.code y_Rd_hasRoomForName prog_6_method_34_code 1 (Option.some Jvm.ClassFile.FieldType.boolean) ∈ gG := gG_in (List.mem_append_right _ (List.mem_of_getElem? (i := 617) rfl)) rfl
set_option maxRecDepth 20000 in
theorem m_614 : Cond.methodLink R_Rd 247 y_Rd_hasRoomForName ∈ gG := gG_in (List.mem_append_right _ (List.mem_of_getElem? (i := 614) (by decide +kernel))) rfl
set_option maxRecDepth 20000 in
theorem m_616 : Cond.instanceMethod y_Rd_hasRoomForName ∈ gG := gG_in (List.mem_append_right _ (List.mem_of_getElem? (i := 616) (by decide +kernel))) rfl
set_option maxRecDepth 20000 in
theorem ms_36 : Cond.selects R_Rd y_Rd_hasRoomForName y_Rd_hasRoomForName ∈ gG := gG_in (List.mem_append_left _ (List.mem_of_getElem? (i := 36) (by decide +kernel))) rfl
set_option maxRecDepth 20000 in
theorem mc_Rd_endItem : Cond.code y_Rd_endItem prog_6_method_54_code 1 (Option.some Jvm.ClassFile.FieldType.boolean) ∈ gG := gG_in (List.mem_append_right _ (List.mem_of_getElem? (i := 501) rfl)) rfl
set_option maxRecDepth 20000 in
theorem m_498 : Cond.methodLink R_Rd 157 y_Rd_endItem ∈ gG := gG_in (List.mem_append_right _ (List.mem_of_getElem? (i := 498) (by decide +kernel))) rfl
set_option maxRecDepth 20000 in
theorem m_500 : Cond.instanceMethod y_Rd_endItem ∈ gG := gG_in (List.mem_append_right _ (List.mem_of_getElem? (i := 500) (by decide +kernel))) rfl
set_option maxRecDepth 20000 in
theorem ms_14 : Cond.selects R_Rd y_Rd_endItem y_Rd_endItem ∈ gG := gG_in (List.mem_append_left _ (List.mem_of_getElem? (i := 14) (by decide +kernel))) rfl
set_option maxRecDepth 20000 in
theorem mc_Rd_closeItem : Cond.code y_Rd_closeItem prog_6_method_67_code 1 (Option.some Jvm.ClassFile.FieldType.boolean) ∈ gG := gG_in (List.mem_append_right _ (List.mem_of_getElem? (i := 548) rfl)) rfl
set_option maxRecDepth 20000 in
theorem m_545 : Cond.methodLink R_Rd 378 y_Rd_closeItem ∈ gG := gG_in (List.mem_append_right _ (List.mem_of_getElem? (i := 545) (by decide +kernel))) rfl
set_option maxRecDepth 20000 in
theorem m_547 : Cond.instanceMethod y_Rd_closeItem ∈ gG := gG_in (List.mem_append_right _ (List.mem_of_getElem? (i := 547) (by decide +kernel))) rfl
set_option maxRecDepth 20000 in
theorem ms_22 : Cond.selects R_Rd y_Rd_closeItem y_Rd_closeItem ∈ gG := gG_in (List.mem_append_left _ (List.mem_of_getElem? (i := 22) (by decide +kernel))) rfl
set_option maxRecDepth 20000 in
theorem mc_Rd_begin : Cond.code y_Rd_begin prog_6_method_5_code 2 (Option.none : Option Jvm.ClassFile.FieldType) ∈ gG := gG_in (List.mem_append_right _ (List.mem_of_getElem? (i := 309) rfl)) rfl
set_option maxRecDepth 20000 in
theorem m_306 : Cond.methodLink R_Rd 75 y_Rd_begin ∈ gG := gG_in (List.mem_append_right _ (List.mem_of_getElem? (i := 306) (by decide +kernel))) rfl
set_option maxRecDepth 20000 in
theorem m_308 : Cond.instanceMethod y_Rd_begin ∈ gG := gG_in (List.mem_append_right _ (List.mem_of_getElem? (i := 308) (by decide +kernel))) rfl
set_option maxRecDepth 20000 in
theorem ms_0 : Cond.selects R_Rd y_Rd_begin y_Rd_begin ∈ gG := gG_in (List.mem_append_left _ (List.mem_of_getElem? (i := 0) (by decide +kernel))) rfl
set_option maxRecDepth 20000 in
theorem mc_Sc_kind : Cond.code y_Sc_kind prog_8_method_3_code 1 (Option.some Jvm.ClassFile.FieldType.int) ∈ gG := gG_in (List.mem_append_right _ (List.mem_of_getElem? (i := 452) rfl)) rfl
set_option maxRecDepth 20000 in
theorem m_449 : Cond.methodLink R_Rd 82 y_Sc_kind ∈ gG := gG_in (List.mem_append_right _ (List.mem_of_getElem? (i := 449) (by decide +kernel))) rfl
set_option maxRecDepth 20000 in
theorem m_450 : Cond.instanceMethod y_Sc_kind ∈ gG := gG_in (List.mem_append_right _ (List.mem_of_getElem? (i := 450) (by decide +kernel))) rfl
set_option maxRecDepth 20000 in
theorem m_451 : Cond.selects R_Sc y_Sc_kind y_Sc_kind ∈ gG := gG_in (List.mem_append_right _ (List.mem_of_getElem? (i := 451) (by decide +kernel))) rfl
set_option maxRecDepth 20000 in
theorem mc_Sc_step : Cond.code y_Sc_step prog_8_method_8_code 2 (Option.none : Option Jvm.ClassFile.FieldType) ∈ gG := gG_in (List.mem_append_right _ (List.mem_of_getElem? (i := 329) rfl)) rfl
set_option maxRecDepth 20000 in
theorem m_326 : Cond.methodLink R_Rd 79 y_Sc_step ∈ gG := gG_in (List.mem_append_right _ (List.mem_of_getElem? (i := 326) (by decide +kernel))) rfl
set_option maxRecDepth 20000 in
theorem m_327 : Cond.instanceMethod y_Sc_step ∈ gG := gG_in (List.mem_append_right _ (List.mem_of_getElem? (i := 327) (by decide +kernel))) rfl
set_option maxRecDepth 20000 in
theorem m_328 : Cond.selects R_Sc y_Sc_step y_Sc_step ∈ gG := gG_in (List.mem_append_right _ (List.mem_of_getElem? (i := 328) (by decide +kernel))) rfl
set_option maxRecDepth 20000 in
theorem mc_Rd_settleStart : Cond.code y_Rd_settleStart prog_6_method_12_code 2 (Option.none : Option Jvm.ClassFile.FieldType) ∈ gG := gG_in (List.mem_append_right _ (List.mem_of_getElem? (i := 497) rfl)) rfl
set_option maxRecDepth 20000 in
theorem m_494 : Cond.methodLink R_Rd 154 y_Rd_settleStart ∈ gG := gG_in (List.mem_append_right _ (List.mem_of_getElem? (i := 494) (by decide +kernel))) rfl
set_option maxRecDepth 20000 in
theorem m_496 : Cond.instanceMethod y_Rd_settleStart ∈ gG := gG_in (List.mem_append_right _ (List.mem_of_getElem? (i := 496) (by decide +kernel))) rfl
set_option maxRecDepth 20000 in
theorem ms_13 : Cond.selects R_Rd y_Rd_settleStart y_Rd_settleStart ∈ gG := gG_in (List.mem_append_left _ (List.mem_of_getElem? (i := 13) (by decide +kernel))) rfl
set_option maxRecDepth 20000 in
theorem mc_Rd_becomeTargets : Cond.code y_Rd_becomeTargets prog_6_method_44_code 4 (Option.some Jvm.ClassFile.FieldType.boolean) ∈ gG := gG_in (List.mem_append_right _ (List.mem_of_getElem? (i := 517) rfl)) rfl
set_option maxRecDepth 20000 in
theorem m_514 : Cond.methodLink R_Rd 171 y_Rd_becomeTargets ∈ gG := gG_in (List.mem_append_right _ (List.mem_of_getElem? (i := 514) (by decide +kernel))) rfl
set_option maxRecDepth 20000 in
theorem m_516 : Cond.instanceMethod y_Rd_becomeTargets ∈ gG := gG_in (List.mem_append_right _ (List.mem_of_getElem? (i := 516) (by decide +kernel))) rfl
set_option maxRecDepth 20000 in
theorem ms_15 : Cond.selects R_Rd y_Rd_becomeTargets y_Rd_becomeTargets ∈ gG := gG_in (List.mem_append_left _ (List.mem_of_getElem? (i := 15) (by decide +kernel))) rfl
set_option maxRecDepth 20000 in
theorem mc_Rd_keepName : Cond.code y_Rd_keepName prog_6_method_27_code 2 (Option.some Jvm.ClassFile.FieldType.boolean) ∈ gG := gG_in (List.mem_append_right _ (List.mem_of_getElem? (i := 713) rfl)) rfl
set_option maxRecDepth 20000 in
theorem m_710 : Cond.methodLink R_Rd 235 y_Rd_keepName ∈ gG := gG_in (List.mem_append_right _ (List.mem_of_getElem? (i := 710) (by decide +kernel))) rfl
set_option maxRecDepth 20000 in
theorem m_712 : Cond.instanceMethod y_Rd_keepName ∈ gG := gG_in (List.mem_append_right _ (List.mem_of_getElem? (i := 712) (by decide +kernel))) rfl
set_option maxRecDepth 20000 in
theorem ms_57 : Cond.selects R_Rd y_Rd_keepName y_Rd_keepName ∈ gG := gG_in (List.mem_append_left _ (List.mem_of_getElem? (i := 57) (by decide +kernel))) rfl
set_option maxRecDepth 20000 in
theorem m_726 : Cond.methodLink R_Rd 262 y_Tk_get ∈ gG := gG_in (List.mem_append_right _ (List.mem_of_getElem? (i := 726) (by decide +kernel))) rfl
set_option maxRecDepth 20000 in
theorem mc_Rd_addTarget : Cond.code y_Rd_addTarget prog_6_method_37_code 1 (Option.some Jvm.ClassFile.FieldType.boolean) ∈ gG := gG_in (List.mem_append_right _ (List.mem_of_getElem? (i := 693) rfl)) rfl
set_option maxRecDepth 20000 in
theorem m_690 : Cond.methodLink R_Rd 280 y_Rd_addTarget ∈ gG := gG_in (List.mem_append_right _ (List.mem_of_getElem? (i := 690) (by decide +kernel))) rfl
set_option maxRecDepth 20000 in
theorem m_692 : Cond.instanceMethod y_Rd_addTarget ∈ gG := gG_in (List.mem_append_right _ (List.mem_of_getElem? (i := 692) (by decide +kernel))) rfl
set_option maxRecDepth 20000 in
theorem ms_52 : Cond.selects R_Rd y_Rd_addTarget y_Rd_addTarget ∈ gG := gG_in (List.mem_append_left _ (List.mem_of_getElem? (i := 52) (by decide +kernel))) rfl
set_option maxRecDepth 20000 in
theorem mc_Rd_endTargets : Cond.code y_Rd_endTargets prog_6_method_39_code 1 (Option.some Jvm.ClassFile.FieldType.boolean) ∈ gG := gG_in (List.mem_append_right _ (List.mem_of_getElem? (i := 697) rfl)) rfl
set_option maxRecDepth 20000 in
theorem m_694 : Cond.methodLink R_Rd 283 y_Rd_endTargets ∈ gG := gG_in (List.mem_append_right _ (List.mem_of_getElem? (i := 694) (by decide +kernel))) rfl
set_option maxRecDepth 20000 in
theorem m_696 : Cond.instanceMethod y_Rd_endTargets ∈ gG := gG_in (List.mem_append_right _ (List.mem_of_getElem? (i := 696) (by decide +kernel))) rfl
set_option maxRecDepth 20000 in
theorem ms_53 : Cond.selects R_Rd y_Rd_endTargets y_Rd_endTargets ∈ gG := gG_in (List.mem_append_left _ (List.mem_of_getElem? (i := 53) (by decide +kernel))) rfl
set_option maxRecDepth 20000 in
theorem mc_Rd_beginCall : Cond.code y_Rd_beginCall prog_6_method_41_code 1 (Option.some Jvm.ClassFile.FieldType.boolean) ∈ gG := gG_in (List.mem_append_right _ (List.mem_of_getElem? (i := 701) rfl)) rfl
set_option maxRecDepth 20000 in
theorem m_698 : Cond.methodLink R_Rd 289 y_Rd_beginCall ∈ gG := gG_in (List.mem_append_right _ (List.mem_of_getElem? (i := 698) (by decide +kernel))) rfl
set_option maxRecDepth 20000 in
theorem m_700 : Cond.instanceMethod y_Rd_beginCall ∈ gG := gG_in (List.mem_append_right _ (List.mem_of_getElem? (i := 700) (by decide +kernel))) rfl
set_option maxRecDepth 20000 in
theorem ms_54 : Cond.selects R_Rd y_Rd_beginCall y_Rd_beginCall ∈ gG := gG_in (List.mem_append_left _ (List.mem_of_getElem? (i := 54) (by decide +kernel))) rfl
set_option maxRecDepth 20000 in
theorem mc_Rd_endSeveral : Cond.code y_Rd_endSeveral prog_6_method_43_code 1 (Option.some Jvm.ClassFile.FieldType.boolean) ∈ gG := gG_in (List.mem_append_right _ (List.mem_of_getElem? (i := 705) rfl)) rfl
set_option maxRecDepth 20000 in
theorem m_702 : Cond.methodLink R_Rd 295 y_Rd_endSeveral ∈ gG := gG_in (List.mem_append_right _ (List.mem_of_getElem? (i := 702) (by decide +kernel))) rfl
set_option maxRecDepth 20000 in
theorem m_704 : Cond.instanceMethod y_Rd_endSeveral ∈ gG := gG_in (List.mem_append_right _ (List.mem_of_getElem? (i := 704) (by decide +kernel))) rfl
set_option maxRecDepth 20000 in
theorem ms_55 : Cond.selects R_Rd y_Rd_endSeveral y_Rd_endSeveral ∈ gG := gG_in (List.mem_append_left _ (List.mem_of_getElem? (i := 55) (by decide +kernel))) rfl
set_option maxRecDepth 20000 in
theorem mc_Rd_closeCall : Cond.code y_Rd_closeCall prog_6_method_68_code 2 (Option.some Jvm.ClassFile.FieldType.boolean) ∈ gG := gG_in (List.mem_append_right _ (List.mem_of_getElem? (i := 544) rfl)) rfl
set_option maxRecDepth 20000 in
theorem m_541 : Cond.methodLink R_Rd 318 y_Rd_closeCall ∈ gG := gG_in (List.mem_append_right _ (List.mem_of_getElem? (i := 541) (by decide +kernel))) rfl
set_option maxRecDepth 20000 in
theorem m_543 : Cond.instanceMethod y_Rd_closeCall ∈ gG := gG_in (List.mem_append_right _ (List.mem_of_getElem? (i := 543) (by decide +kernel))) rfl
set_option maxRecDepth 20000 in
theorem ms_21 : Cond.selects R_Rd y_Rd_closeCall y_Rd_closeCall ∈ gG := gG_in (List.mem_append_left _ (List.mem_of_getElem? (i := 21) (by decide +kernel))) rfl
set_option maxRecDepth 20000 in
theorem mc_Rd_addAll : Cond.code y_Rd_addAll prog_6_method_49_code 1 (Option.some Jvm.ClassFile.FieldType.boolean) ∈ gG := gG_in (List.mem_append_right _ (List.mem_of_getElem? (i := 556) rfl)) rfl
set_option maxRecDepth 20000 in
theorem m_553 : Cond.methodLink R_Rd 324 y_Rd_addAll ∈ gG := gG_in (List.mem_append_right _ (List.mem_of_getElem? (i := 553) (by decide +kernel))) rfl
set_option maxRecDepth 20000 in
theorem m_555 : Cond.instanceMethod y_Rd_addAll ∈ gG := gG_in (List.mem_append_right _ (List.mem_of_getElem? (i := 555) (by decide +kernel))) rfl
set_option maxRecDepth 20000 in
theorem ms_24 : Cond.selects R_Rd y_Rd_addAll y_Rd_addAll ∈ gG := gG_in (List.mem_append_left _ (List.mem_of_getElem? (i := 24) (by decide +kernel))) rfl
set_option maxRecDepth 20000 in
theorem mc_Rd_closeRows : Cond.code y_Rd_closeRows prog_6_method_70_code 2 (Option.some Jvm.ClassFile.FieldType.boolean) ∈ gG := gG_in (List.mem_append_right _ (List.mem_of_getElem? (i := 552) rfl)) rfl
set_option maxRecDepth 20000 in
theorem m_549 : Cond.methodLink R_Rd 321 y_Rd_closeRows ∈ gG := gG_in (List.mem_append_right _ (List.mem_of_getElem? (i := 549) (by decide +kernel))) rfl
set_option maxRecDepth 20000 in
theorem m_551 : Cond.instanceMethod y_Rd_closeRows ∈ gG := gG_in (List.mem_append_right _ (List.mem_of_getElem? (i := 551) (by decide +kernel))) rfl
set_option maxRecDepth 20000 in
theorem ms_23 : Cond.selects R_Rd y_Rd_closeRows y_Rd_closeRows ∈ gG := gG_in (List.mem_append_left _ (List.mem_of_getElem? (i := 23) (by decide +kernel))) rfl
set_option maxRecDepth 20000 in
theorem mc_Rd_takeSign : Cond.code y_Rd_takeSign prog_6_method_51_code 1 (Option.some Jvm.ClassFile.FieldType.boolean) ∈ gG := gG_in (List.mem_append_right _ (List.mem_of_getElem? (i := 565) rfl)) rfl
set_option maxRecDepth 20000 in
theorem m_562 : Cond.methodLink R_Rd 327 y_Rd_takeSign ∈ gG := gG_in (List.mem_append_right _ (List.mem_of_getElem? (i := 562) (by decide +kernel))) rfl
set_option maxRecDepth 20000 in
theorem m_564 : Cond.instanceMethod y_Rd_takeSign ∈ gG := gG_in (List.mem_append_right _ (List.mem_of_getElem? (i := 564) (by decide +kernel))) rfl
set_option maxRecDepth 20000 in
theorem ms_25 : Cond.selects R_Rd y_Rd_takeSign y_Rd_takeSign ∈ gG := gG_in (List.mem_append_left _ (List.mem_of_getElem? (i := 25) (by decide +kernel))) rfl
set_option maxRecDepth 20000 in
theorem mc_Rd_endPlain : Cond.code y_Rd_endPlain prog_6_method_64_code 2 (Option.some Jvm.ClassFile.FieldType.boolean) ∈ gG := gG_in (List.mem_append_right _ (List.mem_of_getElem? (i := 629) rfl)) rfl
set_option maxRecDepth 20000 in
theorem m_626 : Cond.methodLink R_Rd 375 y_Rd_endPlain ∈ gG := gG_in (List.mem_append_right _ (List.mem_of_getElem? (i := 626) (by decide +kernel))) rfl
set_option maxRecDepth 20000 in
theorem m_628 : Cond.instanceMethod y_Rd_endPlain ∈ gG := gG_in (List.mem_append_right _ (List.mem_of_getElem? (i := 628) (by decide +kernel))) rfl
set_option maxRecDepth 20000 in
theorem ms_39 : Cond.selects R_Rd y_Rd_endPlain y_Rd_endPlain ∈ gG := gG_in (List.mem_append_left _ (List.mem_of_getElem? (i := 39) (by decide +kernel))) rfl
set_option maxRecDepth 20000 in
theorem mc_Rd_endRow : Cond.code y_Rd_endRow prog_6_method_69_code 1 (Option.some Jvm.ClassFile.FieldType.boolean) ∈ gG := gG_in (List.mem_append_right _ (List.mem_of_getElem? (i := 625) rfl)) rfl
set_option maxRecDepth 20000 in
theorem m_622 : Cond.methodLink R_Rd 360 y_Rd_endRow ∈ gG := gG_in (List.mem_append_right _ (List.mem_of_getElem? (i := 622) (by decide +kernel))) rfl
set_option maxRecDepth 20000 in
theorem m_624 : Cond.instanceMethod y_Rd_endRow ∈ gG := gG_in (List.mem_append_right _ (List.mem_of_getElem? (i := 624) (by decide +kernel))) rfl
set_option maxRecDepth 20000 in
theorem ms_38 : Cond.selects R_Rd y_Rd_endRow y_Rd_endRow ∈ gG := gG_in (List.mem_append_left _ (List.mem_of_getElem? (i := 38) (by decide +kernel))) rfl
set_option maxRecDepth 20000 in
theorem mc_Rd_endHead : Cond.code y_Rd_endHead prog_6_method_25_code 1 (Option.some Jvm.ClassFile.FieldType.boolean) ∈ gG := gG_in (List.mem_append_right _ (List.mem_of_getElem? (i := 641) rfl)) rfl
set_option maxRecDepth 20000 in
theorem m_638 : Cond.methodLink R_Rd 381 y_Rd_endHead ∈ gG := gG_in (List.mem_append_right _ (List.mem_of_getElem? (i := 638) (by decide +kernel))) rfl
set_option maxRecDepth 20000 in
theorem m_640 : Cond.instanceMethod y_Rd_endHead ∈ gG := gG_in (List.mem_append_right _ (List.mem_of_getElem? (i := 640) (by decide +kernel))) rfl
set_option maxRecDepth 20000 in
theorem ms_42 : Cond.selects R_Rd y_Rd_endHead y_Rd_endHead ∈ gG := gG_in (List.mem_append_left _ (List.mem_of_getElem? (i := 42) (by decide +kernel))) rfl
set_option maxRecDepth 20000 in
theorem mc_Rd_openBlocks : Cond.code y_Rd_openBlocks prog_6_method_15_code 3 (Option.some Jvm.ClassFile.FieldType.boolean) ∈ gG := gG_in (List.mem_append_right _ (List.mem_of_getElem? (i := 764) rfl)) rfl
set_option maxRecDepth 20000 in
theorem m_761 : Cond.methodLink R_Rd 195 y_Rd_openBlocks ∈ gG := gG_in (List.mem_append_right _ (List.mem_of_getElem? (i := 761) (by decide +kernel))) rfl
set_option maxRecDepth 20000 in
theorem m_763 : Cond.instanceMethod y_Rd_openBlocks ∈ gG := gG_in (List.mem_append_right _ (List.mem_of_getElem? (i := 763) (by decide +kernel))) rfl
set_option maxRecDepth 20000 in
theorem ms_67 : Cond.selects R_Rd y_Rd_openBlocks y_Rd_openBlocks ∈ gG := gG_in (List.mem_append_left _ (List.mem_of_getElem? (i := 67) (by decide +kernel))) rfl
set_option maxRecDepth 20000 in
theorem mc_Rd_nextBlock : Cond.code y_Rd_nextBlock prog_6_method_17_code 4 (Option.some Jvm.ClassFile.FieldType.boolean) ∈ gG := gG_in (List.mem_append_right _ (List.mem_of_getElem? (i := 771) rfl)) rfl
set_option maxRecDepth 20000 in
theorem m_768 : Cond.methodLink R_Rd 199 y_Rd_nextBlock ∈ gG := gG_in (List.mem_append_right _ (List.mem_of_getElem? (i := 768) (by decide +kernel))) rfl
set_option maxRecDepth 20000 in
theorem m_770 : Cond.instanceMethod y_Rd_nextBlock ∈ gG := gG_in (List.mem_append_right _ (List.mem_of_getElem? (i := 770) (by decide +kernel))) rfl
set_option maxRecDepth 20000 in
theorem ms_68 : Cond.selects R_Rd y_Rd_nextBlock y_Rd_nextBlock ∈ gG := gG_in (List.mem_append_left _ (List.mem_of_getElem? (i := 68) (by decide +kernel))) rfl
set_option maxRecDepth 20000 in
theorem mc_Rd_endBlocks : Cond.code y_Rd_endBlocks prog_6_method_20_code 1 (Option.some Jvm.ClassFile.FieldType.boolean) ∈ gG := gG_in (List.mem_append_right _ (List.mem_of_getElem? (i := 779) rfl)) rfl
set_option maxRecDepth 20000 in
theorem m_776 : Cond.methodLink R_Rd 203 y_Rd_endBlocks ∈ gG := gG_in (List.mem_append_right _ (List.mem_of_getElem? (i := 776) (by decide +kernel))) rfl
set_option maxRecDepth 20000 in
theorem m_778 : Cond.instanceMethod y_Rd_endBlocks ∈ gG := gG_in (List.mem_append_right _ (List.mem_of_getElem? (i := 778) (by decide +kernel))) rfl
set_option maxRecDepth 20000 in
theorem ms_70 : Cond.selects R_Rd y_Rd_endBlocks y_Rd_endBlocks ∈ gG := gG_in (List.mem_append_left _ (List.mem_of_getElem? (i := 70) (by decide +kernel))) rfl
set_option maxRecDepth 20000 in
theorem mc_Rd_addWord : Cond.code y_Rd_addWord prog_6_method_21_code 2 (Option.some Jvm.ClassFile.FieldType.boolean) ∈ gG := gG_in (List.mem_append_right _ (List.mem_of_getElem? (i := 783) rfl)) rfl
set_option maxRecDepth 20000 in
theorem m_780 : Cond.methodLink R_Rd 206 y_Rd_addWord ∈ gG := gG_in (List.mem_append_right _ (List.mem_of_getElem? (i := 780) (by decide +kernel))) rfl
set_option maxRecDepth 20000 in
theorem m_782 : Cond.instanceMethod y_Rd_addWord ∈ gG := gG_in (List.mem_append_right _ (List.mem_of_getElem? (i := 782) (by decide +kernel))) rfl
set_option maxRecDepth 20000 in
theorem ms_71 : Cond.selects R_Rd y_Rd_addWord y_Rd_addWord ∈ gG := gG_in (List.mem_append_left _ (List.mem_of_getElem? (i := 71) (by decide +kernel))) rfl
set_option maxRecDepth 20000 in
theorem mc_Rd_openValues : Cond.code y_Rd_openValues prog_6_method_22_code 2 (Option.some Jvm.ClassFile.FieldType.boolean) ∈ gG := gG_in (List.mem_append_right _ (List.mem_of_getElem? (i := 787) rfl)) rfl
set_option maxRecDepth 20000 in
theorem m_784 : Cond.methodLink R_Rd 209 y_Rd_openValues ∈ gG := gG_in (List.mem_append_right _ (List.mem_of_getElem? (i := 784) (by decide +kernel))) rfl
set_option maxRecDepth 20000 in
theorem m_786 : Cond.instanceMethod y_Rd_openValues ∈ gG := gG_in (List.mem_append_right _ (List.mem_of_getElem? (i := 786) (by decide +kernel))) rfl
set_option maxRecDepth 20000 in
theorem ms_72 : Cond.selects R_Rd y_Rd_openValues y_Rd_openValues ∈ gG := gG_in (List.mem_append_left _ (List.mem_of_getElem? (i := 72) (by decide +kernel))) rfl
set_option maxRecDepth 20000 in
theorem mc_Rd_openParameters : Cond.code y_Rd_openParameters prog_6_method_32_code 1 (Option.some Jvm.ClassFile.FieldType.boolean) ∈ gG := gG_in (List.mem_append_right _ (List.mem_of_getElem? (i := 739) rfl)) rfl
set_option maxRecDepth 20000 in
theorem m_736 : Cond.methodLink R_Rd 253 y_Rd_openParameters ∈ gG := gG_in (List.mem_append_right _ (List.mem_of_getElem? (i := 736) (by decide +kernel))) rfl
set_option maxRecDepth 20000 in
theorem m_738 : Cond.instanceMethod y_Rd_openParameters ∈ gG := gG_in (List.mem_append_right _ (List.mem_of_getElem? (i := 738) (by decide +kernel))) rfl
set_option maxRecDepth 20000 in
theorem ms_62 : Cond.selects R_Rd y_Rd_openParameters y_Rd_openParameters ∈ gG := gG_in (List.mem_append_left _ (List.mem_of_getElem? (i := 62) (by decide +kernel))) rfl
set_option maxRecDepth 20000 in
theorem mc_Rd_nameFunction : Cond.code y_Rd_nameFunction prog_6_method_30_code 2 (Option.some Jvm.ClassFile.FieldType.boolean) ∈ gG := gG_in (List.mem_append_right _ (List.mem_of_getElem? (i := 725) rfl)) rfl
set_option maxRecDepth 20000 in
theorem m_722 : Cond.methodLink R_Rd 250 y_Rd_nameFunction ∈ gG := gG_in (List.mem_append_right _ (List.mem_of_getElem? (i := 722) (by decide +kernel))) rfl
set_option maxRecDepth 20000 in
theorem m_724 : Cond.instanceMethod y_Rd_nameFunction ∈ gG := gG_in (List.mem_append_right _ (List.mem_of_getElem? (i := 724) (by decide +kernel))) rfl
set_option maxRecDepth 20000 in
theorem ms_60 : Cond.selects R_Rd y_Rd_nameFunction y_Rd_nameFunction ∈ gG := gG_in (List.mem_append_left _ (List.mem_of_getElem? (i := 60) (by decide +kernel))) rfl
set_option maxRecDepth 20000 in
theorem mc_Rd_takeAtStart : Cond.code y_Rd_takeAtStart prog_6_method_47_code 1 (Option.some Jvm.ClassFile.FieldType.boolean) ∈ gG := gG_in (List.mem_append_right _ (List.mem_of_getElem? (i := 537) rfl)) rfl
set_option maxRecDepth 20000 in
theorem m_534 : Cond.methodLink R_Rd 300 y_Rd_takeAtStart ∈ gG := gG_in (List.mem_append_right _ (List.mem_of_getElem? (i := 534) (by decide +kernel))) rfl
set_option maxRecDepth 20000 in
theorem m_536 : Cond.instanceMethod y_Rd_takeAtStart ∈ gG := gG_in (List.mem_append_right _ (List.mem_of_getElem? (i := 536) (by decide +kernel))) rfl
set_option maxRecDepth 20000 in
theorem ms_20 : Cond.selects R_Rd y_Rd_takeAtStart y_Rd_takeAtStart ∈ gG := gG_in (List.mem_append_left _ (List.mem_of_getElem? (i := 20) (by decide +kernel))) rfl
set_option maxRecDepth 20000 in
theorem mc_Rd_addItem : Cond.code y_Rd_addItem prog_6_method_53_code 2 (Option.some Jvm.ClassFile.FieldType.boolean) ∈ gG := gG_in (List.mem_append_right _ (List.mem_of_getElem? (i := 582) rfl)) rfl
set_option maxRecDepth 20000 in
theorem m_579 : Cond.methodLink R_Rd 333 y_Rd_addItem ∈ gG := gG_in (List.mem_append_right _ (List.mem_of_getElem? (i := 579) (by decide +kernel))) rfl
set_option maxRecDepth 20000 in
theorem m_581 : Cond.instanceMethod y_Rd_addItem ∈ gG := gG_in (List.mem_append_right _ (List.mem_of_getElem? (i := 581) (by decide +kernel))) rfl
set_option maxRecDepth 20000 in
theorem ms_28 : Cond.selects R_Rd y_Rd_addItem y_Rd_addItem ∈ gG := gG_in (List.mem_append_left _ (List.mem_of_getElem? (i := 28) (by decide +kernel))) rfl
set_option maxRecDepth 20000 in
theorem mc_Rd_limitNearestCall : Cond.code y_Rd_limitNearestCall prog_6_method_57_code 2 (Option.some Jvm.ClassFile.FieldType.boolean) ∈ gG := gG_in (List.mem_append_right _ (List.mem_of_getElem? (i := 590) rfl)) rfl
set_option maxRecDepth 20000 in
theorem m_587 : Cond.methodLink R_Rd 336 y_Rd_limitNearestCall ∈ gG := gG_in (List.mem_append_right _ (List.mem_of_getElem? (i := 587) (by decide +kernel))) rfl
set_option maxRecDepth 20000 in
theorem m_589 : Cond.instanceMethod y_Rd_limitNearestCall ∈ gG := gG_in (List.mem_append_right _ (List.mem_of_getElem? (i := 589) (by decide +kernel))) rfl
set_option maxRecDepth 20000 in
theorem ms_30 : Cond.selects R_Rd y_Rd_limitNearestCall y_Rd_limitNearestCall ∈ gG := gG_in (List.mem_append_left _ (List.mem_of_getElem? (i := 30) (by decide +kernel))) rfl
set_option maxRecDepth 20000 in
theorem mc_Rd_openItem : Cond.code y_Rd_openItem prog_6_method_55_code 3 (Option.some Jvm.ClassFile.FieldType.boolean) ∈ gG := gG_in (List.mem_append_right _ (List.mem_of_getElem? (i := 594) rfl)) rfl
set_option maxRecDepth 20000 in
theorem m_591 : Cond.methodLink R_Rd 339 y_Rd_openItem ∈ gG := gG_in (List.mem_append_right _ (List.mem_of_getElem? (i := 591) (by decide +kernel))) rfl
set_option maxRecDepth 20000 in
theorem m_593 : Cond.instanceMethod y_Rd_openItem ∈ gG := gG_in (List.mem_append_right _ (List.mem_of_getElem? (i := 593) (by decide +kernel))) rfl
set_option maxRecDepth 20000 in
theorem ms_31 : Cond.selects R_Rd y_Rd_openItem y_Rd_openItem ∈ gG := gG_in (List.mem_append_left _ (List.mem_of_getElem? (i := 31) (by decide +kernel))) rfl
set_option maxRecDepth 20000 in
theorem mc_Rd_takePowerSign : Cond.code y_Rd_takePowerSign prog_6_method_52_code 1 (Option.some Jvm.ClassFile.FieldType.boolean) ∈ gG := gG_in (List.mem_append_right _ (List.mem_of_getElem? (i := 598) rfl)) rfl
set_option maxRecDepth 20000 in
theorem m_595 : Cond.methodLink R_Rd 342 y_Rd_takePowerSign ∈ gG := gG_in (List.mem_append_right _ (List.mem_of_getElem? (i := 595) (by decide +kernel))) rfl
set_option maxRecDepth 20000 in
theorem m_597 : Cond.instanceMethod y_Rd_takePowerSign ∈ gG := gG_in (List.mem_append_right _ (List.mem_of_getElem? (i := 597) (by decide +kernel))) rfl
set_option maxRecDepth 20000 in
theorem ms_32 : Cond.selects R_Rd y_Rd_takePowerSign y_Rd_takePowerSign ∈ gG := gG_in (List.mem_append_left _ (List.mem_of_getElem? (i := 32) (by decide +kernel))) rfl
set_option maxRecDepth 20000 in
theorem mc_Rd_closeBracket : Cond.code y_Rd_closeBracket prog_6_method_66_code 1 (Option.some Jvm.ClassFile.FieldType.boolean) ∈ gG := gG_in (List.mem_append_right _ (List.mem_of_getElem? (i := 637) rfl)) rfl
set_option maxRecDepth 20000 in
theorem m_634 : Cond.methodLink R_Rd 357 y_Rd_closeBracket ∈ gG := gG_in (List.mem_append_right _ (List.mem_of_getElem? (i := 634) (by decide +kernel))) rfl
set_option maxRecDepth 20000 in
theorem m_636 : Cond.instanceMethod y_Rd_closeBracket ∈ gG := gG_in (List.mem_append_right _ (List.mem_of_getElem? (i := 636) (by decide +kernel))) rfl
set_option maxRecDepth 20000 in
theorem ms_41 : Cond.selects R_Rd y_Rd_closeBracket y_Rd_closeBracket ∈ gG := gG_in (List.mem_append_left _ (List.mem_of_getElem? (i := 41) (by decide +kernel))) rfl
set_option maxRecDepth 20000 in
theorem mc_Rd_takeComma : Cond.code y_Rd_takeComma prog_6_method_62_code 1 (Option.some Jvm.ClassFile.FieldType.boolean) ∈ gG := gG_in (List.mem_append_right _ (List.mem_of_getElem? (i := 613) rfl)) rfl
set_option maxRecDepth 20000 in
theorem m_610 : Cond.methodLink R_Rd 351 y_Rd_takeComma ∈ gG := gG_in (List.mem_append_right _ (List.mem_of_getElem? (i := 610) (by decide +kernel))) rfl
set_option maxRecDepth 20000 in
theorem m_612 : Cond.instanceMethod y_Rd_takeComma ∈ gG := gG_in (List.mem_append_right _ (List.mem_of_getElem? (i := 612) (by decide +kernel))) rfl
set_option maxRecDepth 20000 in
theorem ms_35 : Cond.selects R_Rd y_Rd_takeComma y_Rd_takeComma ∈ gG := gG_in (List.mem_append_left _ (List.mem_of_getElem? (i := 35) (by decide +kernel))) rfl
set_option maxRecDepth 20000 in
theorem mc_Rd_takeColon : Cond.code y_Rd_takeColon prog_6_method_61_code 1 (Option.some Jvm.ClassFile.FieldType.boolean) ∈ gG := gG_in (List.mem_append_right _ (List.mem_of_getElem? (i := 657) rfl)) rfl
set_option maxRecDepth 20000 in
theorem m_654 : Cond.methodLink R_Rd 366 y_Rd_takeColon ∈ gG := gG_in (List.mem_append_right _ (List.mem_of_getElem? (i := 654) (by decide +kernel))) rfl
set_option maxRecDepth 20000 in
theorem m_656 : Cond.instanceMethod y_Rd_takeColon ∈ gG := gG_in (List.mem_append_right _ (List.mem_of_getElem? (i := 656) (by decide +kernel))) rfl
set_option maxRecDepth 20000 in
theorem ms_45 : Cond.selects R_Rd y_Rd_takeColon y_Rd_takeColon ∈ gG := gG_in (List.mem_append_left _ (List.mem_of_getElem? (i := 45) (by decide +kernel))) rfl
set_option maxRecDepth 20000 in
theorem mc_Rd_takeSemicolon : Cond.code y_Rd_takeSemicolon prog_6_method_63_code 1 (Option.some Jvm.ClassFile.FieldType.boolean) ∈ gG := gG_in (List.mem_append_right _ (List.mem_of_getElem? (i := 621) rfl)) rfl
set_option maxRecDepth 20000 in
theorem m_618 : Cond.methodLink R_Rd 354 y_Rd_takeSemicolon ∈ gG := gG_in (List.mem_append_right _ (List.mem_of_getElem? (i := 618) (by decide +kernel))) rfl
set_option maxRecDepth 20000 in
theorem m_620 : Cond.instanceMethod y_Rd_takeSemicolon ∈ gG := gG_in (List.mem_append_right _ (List.mem_of_getElem? (i := 620) (by decide +kernel))) rfl
set_option maxRecDepth 20000 in
theorem ms_37 : Cond.selects R_Rd y_Rd_takeSemicolon y_Rd_takeSemicolon ∈ gG := gG_in (List.mem_append_left _ (List.mem_of_getElem? (i := 37) (by decide +kernel))) rfl
set_option maxRecDepth 20000 in
theorem mc_Rd_takeEquals : Cond.code y_Rd_takeEquals prog_6_method_65_code 4 (Option.some Jvm.ClassFile.FieldType.boolean) ∈ gG := gG_in (List.mem_append_right _ (List.mem_of_getElem? (i := 649) rfl)) rfl
set_option maxRecDepth 20000 in
theorem m_646 : Cond.methodLink R_Rd 363 y_Rd_takeEquals ∈ gG := gG_in (List.mem_append_right _ (List.mem_of_getElem? (i := 646) (by decide +kernel))) rfl
set_option maxRecDepth 20000 in
theorem m_648 : Cond.instanceMethod y_Rd_takeEquals ∈ gG := gG_in (List.mem_append_right _ (List.mem_of_getElem? (i := 648) (by decide +kernel))) rfl
set_option maxRecDepth 20000 in
theorem ms_44 : Cond.selects R_Rd y_Rd_takeEquals y_Rd_takeEquals ∈ gG := gG_in (List.mem_append_left _ (List.mem_of_getElem? (i := 44) (by decide +kernel))) rfl
set_option maxRecDepth 20000 in
theorem mc_Rd_endWaiting : Cond.code y_Rd_endWaiting prog_6_method_59_code 7 (Option.none : Option Jvm.ClassFile.FieldType) ∈ gG := gG_in (List.mem_append_right _ (List.mem_of_getElem? (i := 609) rfl)) rfl
set_option maxRecDepth 20000 in
theorem m_606 : Cond.methodLink R_Rd 348 y_Rd_endWaiting ∈ gG := gG_in (List.mem_append_right _ (List.mem_of_getElem? (i := 606) (by decide +kernel))) rfl
set_option maxRecDepth 20000 in
theorem m_608 : Cond.instanceMethod y_Rd_endWaiting ∈ gG := gG_in (List.mem_append_right _ (List.mem_of_getElem? (i := 608) (by decide +kernel))) rfl
set_option maxRecDepth 20000 in
theorem ms_34 : Cond.selects R_Rd y_Rd_endWaiting y_Rd_endWaiting ∈ gG := gG_in (List.mem_append_left _ (List.mem_of_getElem? (i := 34) (by decide +kernel))) rfl
set_option maxRecDepth 20000 in
theorem mc_Rd_beginStatement : Cond.code y_Rd_beginStatement prog_6_method_14_code 1 (Option.some Jvm.ClassFile.FieldType.boolean) ∈ gG := gG_in (List.mem_append_right _ (List.mem_of_getElem? (i := 760) rfl)) rfl
set_option maxRecDepth 20000 in
theorem m_757 : Cond.methodLink R_Rd 180 y_Rd_beginStatement ∈ gG := gG_in (List.mem_append_right _ (List.mem_of_getElem? (i := 757) (by decide +kernel))) rfl
set_option maxRecDepth 20000 in
theorem m_759 : Cond.instanceMethod y_Rd_beginStatement ∈ gG := gG_in (List.mem_append_right _ (List.mem_of_getElem? (i := 759) (by decide +kernel))) rfl
set_option maxRecDepth 20000 in
theorem ms_66 : Cond.selects R_Rd y_Rd_beginStatement y_Rd_beginStatement ∈ gG := gG_in (List.mem_append_left _ (List.mem_of_getElem? (i := 66) (by decide +kernel))) rfl
set_option maxRecDepth 20000 in
theorem mc_Rd_openHead : Cond.code y_Rd_openHead prog_6_method_24_code 2 (Option.some Jvm.ClassFile.FieldType.boolean) ∈ gG := gG_in (List.mem_append_right _ (List.mem_of_getElem? (i := 791) rfl)) rfl
set_option maxRecDepth 20000 in
theorem m_788 : Cond.methodLink R_Rd 189 y_Rd_openHead ∈ gG := gG_in (List.mem_append_right _ (List.mem_of_getElem? (i := 788) (by decide +kernel))) rfl
set_option maxRecDepth 20000 in
theorem m_790 : Cond.instanceMethod y_Rd_openHead ∈ gG := gG_in (List.mem_append_right _ (List.mem_of_getElem? (i := 790) (by decide +kernel))) rfl
set_option maxRecDepth 20000 in
theorem ms_73 : Cond.selects R_Rd y_Rd_openHead y_Rd_openHead ∈ gG := gG_in (List.mem_append_left _ (List.mem_of_getElem? (i := 73) (by decide +kernel))) rfl
set_option maxRecDepth 20000 in
theorem mc_Rd_takeFirstAsName : Cond.code y_Rd_takeFirstAsName prog_6_method_29_code 1 (Option.some Jvm.ClassFile.FieldType.boolean) ∈ gG := gG_in (List.mem_append_right _ (List.mem_of_getElem? (i := 721) rfl)) rfl
set_option maxRecDepth 20000 in
theorem m_718 : Cond.methodLink R_Rd 241 y_Rd_takeFirstAsName ∈ gG := gG_in (List.mem_append_right _ (List.mem_of_getElem? (i := 718) (by decide +kernel))) rfl
set_option maxRecDepth 20000 in
theorem m_720 : Cond.instanceMethod y_Rd_takeFirstAsName ∈ gG := gG_in (List.mem_append_right _ (List.mem_of_getElem? (i := 720) (by decide +kernel))) rfl
set_option maxRecDepth 20000 in
theorem ms_59 : Cond.selects R_Rd y_Rd_takeFirstAsName y_Rd_takeFirstAsName ∈ gG := gG_in (List.mem_append_left _ (List.mem_of_getElem? (i := 59) (by decide +kernel))) rfl
set_option maxRecDepth 20000 in
theorem mc_Rd_takeFirstAsResult : Cond.code y_Rd_takeFirstAsResult prog_6_method_28_code 1 (Option.some Jvm.ClassFile.FieldType.boolean) ∈ gG := gG_in (List.mem_append_right _ (List.mem_of_getElem? (i := 717) rfl)) rfl
set_option maxRecDepth 20000 in
theorem m_714 : Cond.methodLink R_Rd 238 y_Rd_takeFirstAsResult ∈ gG := gG_in (List.mem_append_right _ (List.mem_of_getElem? (i := 714) (by decide +kernel))) rfl
set_option maxRecDepth 20000 in
theorem m_716 : Cond.instanceMethod y_Rd_takeFirstAsResult ∈ gG := gG_in (List.mem_append_right _ (List.mem_of_getElem? (i := 716) (by decide +kernel))) rfl
set_option maxRecDepth 20000 in
theorem ms_58 : Cond.selects R_Rd y_Rd_takeFirstAsResult y_Rd_takeFirstAsResult ∈ gG := gG_in (List.mem_append_left _ (List.mem_of_getElem? (i := 58) (by decide +kernel))) rfl
set_option maxRecDepth 20000 in
theorem mc_Rd_addDifferentName : Cond.code y_Rd_addDifferentName prog_6_method_35_code 4 (Option.some Jvm.ClassFile.FieldType.boolean) ∈ gG := gG_in (List.mem_append_right _ (List.mem_of_getElem? (i := 743) rfl)) rfl
set_option maxRecDepth 20000 in
theorem m_740 : Cond.methodLink R_Rd 244 y_Rd_addDifferentName ∈ gG := gG_in (List.mem_append_right _ (List.mem_of_getElem? (i := 740) (by decide +kernel))) rfl
set_option maxRecDepth 20000 in
theorem m_742 : Cond.instanceMethod y_Rd_addDifferentName ∈ gG := gG_in (List.mem_append_right _ (List.mem_of_getElem? (i := 742) (by decide +kernel))) rfl
set_option maxRecDepth 20000 in
theorem ms_63 : Cond.selects R_Rd y_Rd_addDifferentName y_Rd_addDifferentName ∈ gG := gG_in (List.mem_append_left _ (List.mem_of_getElem? (i := 63) (by decide +kernel))) rfl
set_option maxRecDepth 20000 in
theorem mc_Rd_endParameters : Cond.code y_Rd_endParameters prog_6_method_33_code 1 (Option.some Jvm.ClassFile.FieldType.boolean) ∈ gG := gG_in (List.mem_append_right _ (List.mem_of_getElem? (i := 752) rfl)) rfl
set_option maxRecDepth 20000 in
theorem m_749 : Cond.methodLink R_Rd 256 y_Rd_endParameters ∈ gG := gG_in (List.mem_append_right _ (List.mem_of_getElem? (i := 749) (by decide +kernel))) rfl
set_option maxRecDepth 20000 in
theorem m_751 : Cond.instanceMethod y_Rd_endParameters ∈ gG := gG_in (List.mem_append_right _ (List.mem_of_getElem? (i := 751) (by decide +kernel))) rfl
set_option maxRecDepth 20000 in
theorem ms_64 : Cond.selects R_Rd y_Rd_endParameters y_Rd_endParameters ∈ gG := gG_in (List.mem_append_left _ (List.mem_of_getElem? (i := 64) (by decide +kernel))) rfl
set_option maxRecDepth 20000 in
theorem mc_Rd_takeOperand : Cond.code y_Rd_takeOperand prog_6_method_50_code 1 (Option.some Jvm.ClassFile.FieldType.boolean) ∈ gG := gG_in (List.mem_append_right _ (List.mem_of_getElem? (i := 578) rfl)) rfl
set_option maxRecDepth 20000 in
theorem m_575 : Cond.methodLink R_Rd 303 y_Rd_takeOperand ∈ gG := gG_in (List.mem_append_right _ (List.mem_of_getElem? (i := 575) (by decide +kernel))) rfl
set_option maxRecDepth 20000 in
theorem m_577 : Cond.instanceMethod y_Rd_takeOperand ∈ gG := gG_in (List.mem_append_right _ (List.mem_of_getElem? (i := 577) (by decide +kernel))) rfl
set_option maxRecDepth 20000 in
theorem ms_27 : Cond.selects R_Rd y_Rd_takeOperand y_Rd_takeOperand ∈ gG := gG_in (List.mem_append_left _ (List.mem_of_getElem? (i := 27) (by decide +kernel))) rfl
set_option maxRecDepth 20000 in
theorem mc_Rd_takeOperator : Cond.code y_Rd_takeOperator prog_6_method_58_code 2 (Option.some Jvm.ClassFile.FieldType.boolean) ∈ gG := gG_in (List.mem_append_right _ (List.mem_of_getElem? (i := 602) rfl)) rfl
set_option maxRecDepth 20000 in
theorem m_599 : Cond.methodLink R_Rd 306 y_Rd_takeOperator ∈ gG := gG_in (List.mem_append_right _ (List.mem_of_getElem? (i := 599) (by decide +kernel))) rfl
set_option maxRecDepth 20000 in
theorem m_601 : Cond.instanceMethod y_Rd_takeOperator ∈ gG := gG_in (List.mem_append_right _ (List.mem_of_getElem? (i := 601) (by decide +kernel))) rfl
set_option maxRecDepth 20000 in
theorem ms_33 : Cond.selects R_Rd y_Rd_takeOperator y_Rd_takeOperator ∈ gG := gG_in (List.mem_append_left _ (List.mem_of_getElem? (i := 33) (by decide +kernel))) rfl
set_option maxRecDepth 20000 in
theorem mc_Rd_openArguments : Cond.code y_Rd_openArguments prog_6_method_56_code 3 (Option.some Jvm.ClassFile.FieldType.boolean) ∈ gG := gG_in (List.mem_append_right _ (List.mem_of_getElem? (i := 669) rfl)) rfl
set_option maxRecDepth 20000 in
theorem m_666 : Cond.methodLink R_Rd 309 y_Rd_openArguments ∈ gG := gG_in (List.mem_append_right _ (List.mem_of_getElem? (i := 666) (by decide +kernel))) rfl
set_option maxRecDepth 20000 in
theorem m_668 : Cond.instanceMethod y_Rd_openArguments ∈ gG := gG_in (List.mem_append_right _ (List.mem_of_getElem? (i := 668) (by decide +kernel))) rfl
set_option maxRecDepth 20000 in
theorem ms_47 : Cond.selects R_Rd y_Rd_openArguments y_Rd_openArguments ∈ gG := gG_in (List.mem_append_left _ (List.mem_of_getElem? (i := 47) (by decide +kernel))) rfl
set_option maxRecDepth 20000 in
theorem mc_Rd_turnRowsToTargets : Cond.code y_Rd_turnRowsToTargets prog_6_method_45_code 2 (Option.some Jvm.ClassFile.FieldType.boolean) ∈ gG := gG_in (List.mem_append_right _ (List.mem_of_getElem? (i := 681) rfl)) rfl
set_option maxRecDepth 20000 in
theorem m_678 : Cond.methodLink R_Rd 312 y_Rd_turnRowsToTargets ∈ gG := gG_in (List.mem_append_right _ (List.mem_of_getElem? (i := 678) (by decide +kernel))) rfl
set_option maxRecDepth 20000 in
theorem m_680 : Cond.instanceMethod y_Rd_turnRowsToTargets ∈ gG := gG_in (List.mem_append_right _ (List.mem_of_getElem? (i := 680) (by decide +kernel))) rfl
set_option maxRecDepth 20000 in
theorem ms_49 : Cond.selects R_Rd y_Rd_turnRowsToTargets y_Rd_turnRowsToTargets ∈ gG := gG_in (List.mem_append_left _ (List.mem_of_getElem? (i := 49) (by decide +kernel))) rfl
set_option maxRecDepth 20000 in
theorem mc_Rd_standsInStatement : Cond.code y_Rd_standsInStatement prog_6_method_13_code 1 (Option.some Jvm.ClassFile.FieldType.boolean) ∈ gG := gG_in (List.mem_append_right _ (List.mem_of_getElem? (i := 756) rfl)) rfl
set_option maxRecDepth 20000 in
theorem m_753 : Cond.methodLink R_Rd 110 y_Rd_standsInStatement ∈ gG := gG_in (List.mem_append_right _ (List.mem_of_getElem? (i := 753) (by decide +kernel))) rfl
set_option maxRecDepth 20000 in
theorem m_755 : Cond.instanceMethod y_Rd_standsInStatement ∈ gG := gG_in (List.mem_append_right _ (List.mem_of_getElem? (i := 755) (by decide +kernel))) rfl
set_option maxRecDepth 20000 in
theorem ms_65 : Cond.selects R_Rd y_Rd_standsInStatement y_Rd_standsInStatement ∈ gG := gG_in (List.mem_append_left _ (List.mem_of_getElem? (i := 65) (by decide +kernel))) rfl
set_option maxRecDepth 20000 in
theorem mc_Rd_standsInFunctionHead : Cond.code y_Rd_standsInFunctionHead prog_6_method_26_code 1 (Option.some Jvm.ClassFile.FieldType.boolean) ∈ gG := gG_in (List.mem_append_right _ (List.mem_of_getElem? (i := 709) rfl)) rfl
set_option maxRecDepth 20000 in
theorem m_706 : Cond.methodLink R_Rd 107 y_Rd_standsInFunctionHead ∈ gG := gG_in (List.mem_append_right _ (List.mem_of_getElem? (i := 706) (by decide +kernel))) rfl
set_option maxRecDepth 20000 in
theorem m_708 : Cond.instanceMethod y_Rd_standsInFunctionHead ∈ gG := gG_in (List.mem_append_right _ (List.mem_of_getElem? (i := 708) (by decide +kernel))) rfl
set_option maxRecDepth 20000 in
theorem ms_56 : Cond.selects R_Rd y_Rd_standsInFunctionHead y_Rd_standsInFunctionHead ∈ gG := gG_in (List.mem_append_left _ (List.mem_of_getElem? (i := 56) (by decide +kernel))) rfl
set_option maxRecDepth 20000 in
theorem mc_Rd_standsInSeveral : Cond.code y_Rd_standsInSeveral prog_6_method_36_code 1 (Option.some Jvm.ClassFile.FieldType.boolean) ∈ gG := gG_in (List.mem_append_right _ (List.mem_of_getElem? (i := 689) rfl)) rfl
set_option maxRecDepth 20000 in
theorem m_686 : Cond.methodLink R_Rd 104 y_Rd_standsInSeveral ∈ gG := gG_in (List.mem_append_right _ (List.mem_of_getElem? (i := 686) (by decide +kernel))) rfl
set_option maxRecDepth 20000 in
theorem m_688 : Cond.instanceMethod y_Rd_standsInSeveral ∈ gG := gG_in (List.mem_append_right _ (List.mem_of_getElem? (i := 688) (by decide +kernel))) rfl
set_option maxRecDepth 20000 in
theorem ms_51 : Cond.selects R_Rd y_Rd_standsInSeveral y_Rd_standsInSeveral ∈ gG := gG_in (List.mem_append_left _ (List.mem_of_getElem? (i := 51) (by decide +kernel))) rfl
set_option maxRecDepth 20000 in
theorem mc_Rd_standsInExpression : Cond.code y_Rd_standsInExpression prog_6_method_46_code 1 (Option.some Jvm.ClassFile.FieldType.boolean) ∈ gG := gG_in (List.mem_append_right _ (List.mem_of_getElem? (i := 533) rfl)) rfl
set_option maxRecDepth 20000 in
theorem m_530 : Cond.methodLink R_Rd 100 y_Rd_standsInExpression ∈ gG := gG_in (List.mem_append_right _ (List.mem_of_getElem? (i := 530) (by decide +kernel))) rfl
set_option maxRecDepth 20000 in
theorem m_532 : Cond.instanceMethod y_Rd_standsInExpression ∈ gG := gG_in (List.mem_append_right _ (List.mem_of_getElem? (i := 532) (by decide +kernel))) rfl
set_option maxRecDepth 20000 in
theorem ms_19 : Cond.selects R_Rd y_Rd_standsInExpression y_Rd_standsInExpression ∈ gG := gG_in (List.mem_append_left _ (List.mem_of_getElem? (i := 19) (by decide +kernel))) rfl
set_option maxRecDepth 20000 in
theorem mc_Rd_settle : Cond.code y_Rd_settle prog_6_method_11_code 2 (Option.none : Option Jvm.ClassFile.FieldType) ∈ gG := gG_in (List.mem_append_right _ (List.mem_of_getElem? (i := 474) rfl)) rfl
set_option maxRecDepth 20000 in
theorem m_471 : Cond.methodLink R_Rd 97 y_Rd_settle ∈ gG := gG_in (List.mem_append_right _ (List.mem_of_getElem? (i := 471) (by decide +kernel))) rfl
set_option maxRecDepth 20000 in
theorem m_473 : Cond.instanceMethod y_Rd_settle ∈ gG := gG_in (List.mem_append_right _ (List.mem_of_getElem? (i := 473) (by decide +kernel))) rfl
set_option maxRecDepth 20000 in
theorem ms_11 : Cond.selects R_Rd y_Rd_settle y_Rd_settle ∈ gG := gG_in (List.mem_append_left _ (List.mem_of_getElem? (i := 11) (by decide +kernel))) rfl
set_option maxRecDepth 20000 in
theorem m_239 : Cond.fieldLink R_Eq 10 R_Eq "reader" "LEquationText$Reader;" ∈ gG := gG_in (List.mem_append_right _ (List.mem_of_getElem? (i := 239) (by decide +kernel))) rfl
set_option maxRecDepth 20000 in
theorem m_818 : Cond.methodLink R_Eq 66 y_Rw_cut ∈ gG := gG_in (List.mem_append_right _ (List.mem_of_getElem? (i := 818) (by decide +kernel))) rfl
set_option maxRecDepth 20000 in
theorem mc_Nd_arrange : Cond.code y_Nd_arrange prog_4_method_12_code 5 (Option.none : Option Jvm.ClassFile.FieldType) ∈ gG := gG_in (List.mem_append_right _ (List.mem_of_getElem? (i := 803) rfl)) rfl
set_option maxRecDepth 20000 in
theorem m_800 : Cond.methodLink R_Eq 79 y_Nd_arrange ∈ gG := gG_in (List.mem_append_right _ (List.mem_of_getElem? (i := 800) (by decide +kernel))) rfl
set_option maxRecDepth 20000 in
theorem m_801 : Cond.instanceMethod y_Nd_arrange ∈ gG := gG_in (List.mem_append_right _ (List.mem_of_getElem? (i := 801) (by decide +kernel))) rfl
set_option maxRecDepth 20000 in
theorem m_802 : Cond.selects R_Nd y_Nd_arrange y_Nd_arrange ∈ gG := gG_in (List.mem_append_right _ (List.mem_of_getElem? (i := 802) (by decide +kernel))) rfl
set_option maxRecDepth 20000 in
theorem mc_Rd_draft : Cond.code y_Rd_draft prog_6_method_2_code 1 (Option.some (Jvm.ClassFile.FieldType.object "EquationText$Nodes")) ∈ gG := gG_in (List.mem_append_right _ (List.mem_of_getElem? (i := 799) rfl)) rfl
set_option maxRecDepth 20000 in
theorem m_796 : Cond.methodLink R_Eq 75 y_Rd_draft ∈ gG := gG_in (List.mem_append_right _ (List.mem_of_getElem? (i := 796) (by decide +kernel))) rfl
set_option maxRecDepth 20000 in
theorem m_797 : Cond.instanceMethod y_Rd_draft ∈ gG := gG_in (List.mem_append_right _ (List.mem_of_getElem? (i := 797) (by decide +kernel))) rfl
set_option maxRecDepth 20000 in
theorem m_798 : Cond.selects R_Rd y_Rd_draft y_Rd_draft ∈ gG := gG_in (List.mem_append_right _ (List.mem_of_getElem? (i := 798) (by decide +kernel))) rfl
set_option maxRecDepth 20000 in
theorem mc_Rd_fault : Cond.code y_Rd_fault prog_6_method_3_code 1 (Option.some Jvm.ClassFile.FieldType.int) ∈ gG := gG_in (List.mem_append_right _ (List.mem_of_getElem? (i := 795) rfl)) rfl
set_option maxRecDepth 20000 in
theorem m_792 : Cond.methodLink R_Eq 73 y_Rd_fault ∈ gG := gG_in (List.mem_append_right _ (List.mem_of_getElem? (i := 792) (by decide +kernel))) rfl
set_option maxRecDepth 20000 in
theorem m_793 : Cond.instanceMethod y_Rd_fault ∈ gG := gG_in (List.mem_append_right _ (List.mem_of_getElem? (i := 793) (by decide +kernel))) rfl
set_option maxRecDepth 20000 in
theorem m_794 : Cond.selects R_Rd y_Rd_fault y_Rd_fault ∈ gG := gG_in (List.mem_append_right _ (List.mem_of_getElem? (i := 794) (by decide +kernel))) rfl
set_option maxRecDepth 20000 in
theorem mc_Rd_take : Cond.code y_Rd_take prog_6_method_4_code 4 (Option.some Jvm.ClassFile.FieldType.int) ∈ gG := gG_in (List.mem_append_right _ (List.mem_of_getElem? (i := 305) rfl)) rfl
set_option maxRecDepth 20000 in
theorem m_302 : Cond.methodLink R_Eq 69 y_Rd_take ∈ gG := gG_in (List.mem_append_right _ (List.mem_of_getElem? (i := 302) (by decide +kernel))) rfl
set_option maxRecDepth 20000 in
theorem m_303 : Cond.instanceMethod y_Rd_take ∈ gG := gG_in (List.mem_append_right _ (List.mem_of_getElem? (i := 303) (by decide +kernel))) rfl
set_option maxRecDepth 20000 in
theorem m_304 : Cond.selects R_Rd y_Rd_take y_Rd_take ∈ gG := gG_in (List.mem_append_right _ (List.mem_of_getElem? (i := 304) (by decide +kernel))) rfl
theorem k_Rd_121 : GoodIn gG (wsV R_Rd 121 R_Fr y_Fr_begin (.code y_Fr_begin prog_2_method_2_code 4 (Option.none : Option Jvm.ClassFile.FieldType) :: gG)) := gdV m_322 m_323 m_324 m_7 mc_Fr_begin
theorem k_Rd_120 : GoodIn gG (wsV R_Rd 120 R_Tk y_Tk_clear (.code y_Tk_clear prog_9_method_3_code 1 (Option.none : Option Jvm.ClassFile.FieldType) :: gG)) := gdV m_318 m_319 m_320 m_6 mc_Tk_clear
theorem k_Rd_117 : GoodIn gG (wsV R_Rd 117 R_Nd y_Nd_clear (.code y_Nd_clear prog_4_method_8_code 1 (Option.none : Option Jvm.ClassFile.FieldType) :: gG)) := gdV m_314 m_315 m_316 m_5 mc_Nd_clear
theorem k_Rd_116 : GoodIn gG (wsV R_Rd 116 R_Sc y_Sc_begin (.code y_Sc_begin prog_8_method_2_code 2 (Option.none : Option Jvm.ClassFile.FieldType) :: gG)) := gdV m_310 m_311 m_312 m_3 mc_Sc_begin
theorem k_Rd_130 : GoodIn gG (wsV R_Rd 130 R_Rd y_Rd_goOn (.code y_Rd_goOn prog_6_method_6_code 2 (Option.some Jvm.ClassFile.FieldType.boolean) :: gG)) := gdV m_526 m_528 ms_18 m_2 mc_Rd_goOn
theorem k_Rd_127 : GoodIn gG (wsV R_Rd 127 R_Nd y_Nd_addLeaf (.code y_Nd_addLeaf prog_4_method_11_code 4 (Option.none : Option Jvm.ClassFile.FieldType) :: gG)) := gdV m_557 m_558 m_559 m_5 mc_Nd_addLeaf
theorem k_Rd_124 : GoodIn gG (wsV R_Rd 124 R_Sc y_Sc_width (.code y_Sc_width prog_8_method_5_code 1 (Option.some Jvm.ClassFile.FieldType.int) :: gG)) := gdV m_486 m_487 m_488 m_3 mc_Sc_width
theorem k_Rd_113 : GoodIn gG (wsV R_Rd 113 R_Sc y_Sc_start (.code y_Sc_start prog_8_method_4_code 1 (Option.some Jvm.ClassFile.FieldType.int) :: gG)) := gdV m_482 m_483 m_484 m_3 mc_Sc_start
theorem k_Rd_137 : GoodIn gG (wsV R_Rd 137 R_Tk y_Tk_count (.code y_Tk_count prog_9_method_2_code 1 (Option.some Jvm.ClassFile.FieldType.int) :: gG)) := gdV m_490 m_491 m_492 m_6 mc_Tk_count
theorem k_Rd_150 : GoodIn gG (wsV R_Rd 150 R_Rd y_Rd_push (.code y_Rd_push prog_6_method_8_code 2 (Option.none : Option Jvm.ClassFile.FieldType) :: gG)) := gdV m_478 m_480 ms_12 m_2 mc_Rd_push
theorem k_Rd_147 : GoodIn gG (va_wsS R_Rd 147 y_Sc_isWord (.code y_Sc_isWord prog_8_method_6_code 1 (Option.some Jvm.ClassFile.FieldType.boolean) :: gG)) := gdS m_475 m_476 m_3 mc_Sc_isWord
theorem k_Rd_93 : GoodIn gG (wsV R_Rd 93 R_Nd y_Nd_add (.code y_Nd_add prog_4_method_10_code 9 (Option.none : Option Jvm.ClassFile.FieldType) :: gG)) := gdV m_453 m_454 m_455 m_5 mc_Nd_add
theorem k_Rd_212 : GoodIn gG (va_wsS R_Rd 212 y_Rd_isLoop (.code y_Rd_isLoop prog_6_method_16_code 1 (Option.some Jvm.ClassFile.FieldType.boolean) :: gG)) := gdS m_765 m_766 m_2 mc_Rd_isLoop
theorem k_Rd_218 : GoodIn gG (wsV R_Rd 218 R_Rd y_Rd_endBlock (.code y_Rd_endBlock prog_6_method_19_code 1 (Option.none : Option Jvm.ClassFile.FieldType) :: gG)) := gdV m_772 m_774 ms_69 m_2 mc_Rd_endBlock
theorem k_Rd_221 : GoodIn gG (wsV R_Rd 221 R_Rd y_Rd_beginBlock (.code y_Rd_beginBlock prog_6_method_18_code 1 (Option.none : Option Jvm.ClassFile.FieldType) :: gG)) := gdV m_642 m_644 ms_43 m_2 mc_Rd_beginBlock
theorem k_Rd_232 : GoodIn gG (wsV R_Rd 232 R_Rd y_Rd_pop (.code y_Rd_pop prog_6_method_9_code 1 (Option.none : Option Jvm.ClassFile.FieldType) :: gG)) := gdV m_518 m_520 ms_16 m_2 mc_Rd_pop
theorem k_Rd_272 : GoodIn gG (wsV R_Rd 272 R_Rd y_Rd_endNames (.code y_Rd_endNames prog_6_method_31_code 2 (Option.none : Option Jvm.ClassFile.FieldType) :: gG)) := gdV m_732 m_734 ms_61 m_2 mc_Rd_endNames
theorem k_Rd_192 : GoodIn gG (wsV R_Rd 192 R_Rd y_Rd_addName (.code y_Rd_addName prog_6_method_7_code 2 (Option.some Jvm.ClassFile.FieldType.boolean) :: gG)) := gdV m_583 m_585 ms_29 m_2 mc_Rd_addName
theorem k_Rd_266 : GoodIn gG (wsV R_Rd 266 R_Rw y_Rw_same (.code y_Rw_same prog_7_method_8_code 5 (Option.some Jvm.ClassFile.FieldType.boolean) :: gG)) := gdV m_727 m_728 m_729 m_4 mc_Rw_same
theorem k_Rd_276 : GoodIn gG (wsV R_Rd 276 R_Nd y_Nd_get (.code y_Nd_get prog_4_method_3_code 3 (Option.some Jvm.ClassFile.FieldType.int) :: gG)) := gdV m_748 m_468 m_469 m_5 mc_Nd_get
theorem k_Rd_275 : GoodIn gG (wsV R_Rd 275 R_Nd y_Nd_count (.code y_Nd_count prog_4_method_2_code 1 (Option.some Jvm.ClassFile.FieldType.int) :: gG)) := gdV m_744 m_745 m_746 m_5 mc_Nd_count
theorem k_Rd_183 : GoodIn gG (wsV R_Rd 183 R_Rd y_Rd_endStatement (.code y_Rd_endStatement prog_6_method_23_code 1 (Option.some Jvm.ClassFile.FieldType.boolean) :: gG)) := gdV m_630 m_632 ms_40 m_2 mc_Rd_endStatement
theorem k_Rd_277 : GoodIn gG (wsV R_Rd 277 R_Rd y_Rd_addNothing (.code y_Rd_addNothing prog_6_method_38_code 2 (Option.some Jvm.ClassFile.FieldType.boolean) :: gG)) := gdV m_522 m_524 ms_17 m_2 mc_Rd_addNothing
theorem k_Rd_286 : GoodIn gG (wsV R_Rd 286 R_Rd y_Rd_takeSeveralEquals (.code y_Rd_takeSeveralEquals prog_6_method_40_code 1 (Option.some Jvm.ClassFile.FieldType.boolean) :: gG)) := gdV m_682 m_684 ms_50 m_2 mc_Rd_takeSeveralEquals
theorem k_Rd_299 : GoodIn gG (wsV R_Rd 299 R_Nd y_Nd_dropLast (.code y_Nd_dropLast prog_4_method_9_code 1 (Option.none : Option Jvm.ClassFile.FieldType) :: gG)) := gdV m_670 m_671 m_672 m_5 mc_Nd_dropLast
theorem k_Rd_298 : GoodIn gG (wsV R_Rd 298 R_Nd y_Nd_last (.code y_Nd_last prog_4_method_5_code 2 (Option.some Jvm.ClassFile.FieldType.int) :: gG)) := gdV m_650 m_651 m_652 m_5 mc_Nd_last
theorem k_Rd_270 : GoodIn gG (wsV R_Rd 270 R_Tk y_Tk_add (.code y_Tk_add prog_9_method_4_code 5 (Option.none : Option Jvm.ClassFile.FieldType) :: gG)) := gdV m_570 m_571 m_572 m_6 mc_Tk_add
theorem k_Rd_186 : GoodIn gG (wsV R_Rd 186 R_Rd y_Rd_goDeeper (.code y_Rd_goDeeper prog_6_method_10_code 1 (Option.some Jvm.ClassFile.FieldType.boolean) :: gG)) := gdV m_566 m_568 ms_26 m_2 mc_Rd_goDeeper
theorem k_Rd_292 : GoodIn gG (wsV R_Rd 292 R_Rd y_Rd_openCall (.code y_Rd_openCall prog_6_method_42_code 1 (Option.some Jvm.ClassFile.FieldType.boolean) :: gG)) := gdV m_674 m_676 ms_48 m_2 mc_Rd_openCall
theorem k_Rd_345 : GoodIn gG (va_wsS R_Rd 345 y_Rk_of (.code y_Rk_of prog_5_method_2_code 1 (Option.some Jvm.ClassFile.FieldType.int) :: gG)) := gdS m_603 m_604 m_22 mc_Rk_of
theorem k_Rd_164 : GoodIn gG (wsV R_Rd 164 R_Tk y_Tk_last (.code y_Tk_last prog_9_method_7_code 2 (Option.some Jvm.ClassFile.FieldType.int) :: gG)) := gdV m_502 m_503 m_504 m_6 mc_Tk_last
theorem k_Rd_168 : GoodIn gG (wsV R_Rd 168 R_Tk y_Tk_dropLast (.code y_Tk_dropLast prog_9_method_5_code 1 (Option.none : Option Jvm.ClassFile.FieldType) :: gG)) := gdV m_510 m_511 m_512 m_6 mc_Tk_dropLast
theorem k_Rd_369 : GoodIn gG (wsV R_Rd 369 R_Rd y_Rd_takeOperation (.code y_Rd_takeOperation prog_6_method_60_code 2 (Option.some Jvm.ClassFile.FieldType.boolean) :: gG)) := gdV m_658 m_660 ms_46 m_2 mc_Rd_takeOperation
theorem k_Rd_372 : GoodIn gG (wsV R_Rd 372 R_Tk y_Tk_giveLastSecond (.code y_Tk_giveLastSecond prog_9_method_8_code 2 (Option.none : Option Jvm.ClassFile.FieldType) :: gG)) := gdV m_662 m_663 m_664 m_6 mc_Tk_giveLastSecond
theorem k_Rd_315 : GoodIn gG (va_wsS R_Rd 315 y_Rd_isCall (.code y_Rd_isCall prog_6_method_48_code 1 (Option.some Jvm.ClassFile.FieldType.boolean) :: gG)) := gdS m_538 m_539 m_2 mc_Rd_isCall
theorem k_Rd_247 : GoodIn gG (wsV R_Rd 247 R_Rd y_Rd_hasRoomForName (.code y_Rd_hasRoomForName prog_6_method_34_code 1 (Option.some Jvm.ClassFile.FieldType.boolean) :: gG)) := gdV m_614 m_616 ms_36 m_2 mc_Rd_hasRoomForName
theorem k_Rd_157 : GoodIn gG (wsV R_Rd 157 R_Rd y_Rd_endItem (.code y_Rd_endItem prog_6_method_54_code 1 (Option.some Jvm.ClassFile.FieldType.boolean) :: gG)) := gdV m_498 m_500 ms_14 m_2 mc_Rd_endItem
theorem k_Rd_378 : GoodIn gG (wsV R_Rd 378 R_Rd y_Rd_closeItem (.code y_Rd_closeItem prog_6_method_67_code 1 (Option.some Jvm.ClassFile.FieldType.boolean) :: gG)) := gdV m_545 m_547 ms_22 m_2 mc_Rd_closeItem
theorem k_Rd_75 : GoodIn gG (wsV R_Rd 75 R_Rd y_Rd_begin (.code y_Rd_begin prog_6_method_5_code 2 (Option.none : Option Jvm.ClassFile.FieldType) :: gG)) := gdV m_306 m_308 ms_0 m_2 mc_Rd_begin
theorem k_Rd_82 : GoodIn gG (wsV R_Rd 82 R_Sc y_Sc_kind (.code y_Sc_kind prog_8_method_3_code 1 (Option.some Jvm.ClassFile.FieldType.int) :: gG)) := gdV m_449 m_450 m_451 m_3 mc_Sc_kind
theorem k_Rd_79 : GoodIn gG (wsV R_Rd 79 R_Sc y_Sc_step (.code y_Sc_step prog_8_method_8_code 2 (Option.none : Option Jvm.ClassFile.FieldType) :: gG)) := gdV m_326 m_327 m_328 m_3 mc_Sc_step
theorem k_Rd_154 : GoodIn gG (wsV R_Rd 154 R_Rd y_Rd_settleStart (.code y_Rd_settleStart prog_6_method_12_code 2 (Option.none : Option Jvm.ClassFile.FieldType) :: gG)) := gdV m_494 m_496 ms_13 m_2 mc_Rd_settleStart
theorem k_Rd_171 : GoodIn gG (wsV R_Rd 171 R_Rd y_Rd_becomeTargets (.code y_Rd_becomeTargets prog_6_method_44_code 4 (Option.some Jvm.ClassFile.FieldType.boolean) :: gG)) := gdV m_514 m_516 ms_15 m_2 mc_Rd_becomeTargets
theorem k_Rd_235 : GoodIn gG (wsV R_Rd 235 R_Rd y_Rd_keepName (.code y_Rd_keepName prog_6_method_27_code 2 (Option.some Jvm.ClassFile.FieldType.boolean) :: gG)) := gdV m_710 m_712 ms_57 m_2 mc_Rd_keepName
theorem k_Rd_262 : GoodIn gG (wsV R_Rd 262 R_Tk y_Tk_get (.code y_Tk_get prog_9_method_6_code 3 (Option.some Jvm.ClassFile.FieldType.int) :: gG)) := gdV m_726 m_507 m_508 m_6 mc_Tk_get
theorem k_Rd_280 : GoodIn gG (wsV R_Rd 280 R_Rd y_Rd_addTarget (.code y_Rd_addTarget prog_6_method_37_code 1 (Option.some Jvm.ClassFile.FieldType.boolean) :: gG)) := gdV m_690 m_692 ms_52 m_2 mc_Rd_addTarget
theorem k_Rd_283 : GoodIn gG (wsV R_Rd 283 R_Rd y_Rd_endTargets (.code y_Rd_endTargets prog_6_method_39_code 1 (Option.some Jvm.ClassFile.FieldType.boolean) :: gG)) := gdV m_694 m_696 ms_53 m_2 mc_Rd_endTargets
theorem k_Rd_289 : GoodIn gG (wsV R_Rd 289 R_Rd y_Rd_beginCall (.code y_Rd_beginCall prog_6_method_41_code 1 (Option.some Jvm.ClassFile.FieldType.boolean) :: gG)) := gdV m_698 m_700 ms_54 m_2 mc_Rd_beginCall
theorem k_Rd_295 : GoodIn gG (wsV R_Rd 295 R_Rd y_Rd_endSeveral (.code y_Rd_endSeveral prog_6_method_43_code 1 (Option.some Jvm.ClassFile.FieldType.boolean) :: gG)) := gdV m_702 m_704 ms_55 m_2 mc_Rd_endSeveral
theorem k_Rd_318 : GoodIn gG (wsV R_Rd 318 R_Rd y_Rd_closeCall (.code y_Rd_closeCall prog_6_method_68_code 2 (Option.some Jvm.ClassFile.FieldType.boolean) :: gG)) := gdV m_541 m_543 ms_21 m_2 mc_Rd_closeCall
theorem k_Rd_324 : GoodIn gG (wsV R_Rd 324 R_Rd y_Rd_addAll (.code y_Rd_addAll prog_6_method_49_code 1 (Option.some Jvm.ClassFile.FieldType.boolean) :: gG)) := gdV m_553 m_555 ms_24 m_2 mc_Rd_addAll
theorem k_Rd_321 : GoodIn gG (wsV R_Rd 321 R_Rd y_Rd_closeRows (.code y_Rd_closeRows prog_6_method_70_code 2 (Option.some Jvm.ClassFile.FieldType.boolean) :: gG)) := gdV m_549 m_551 ms_23 m_2 mc_Rd_closeRows
theorem k_Rd_327 : GoodIn gG (wsV R_Rd 327 R_Rd y_Rd_takeSign (.code y_Rd_takeSign prog_6_method_51_code 1 (Option.some Jvm.ClassFile.FieldType.boolean) :: gG)) := gdV m_562 m_564 ms_25 m_2 mc_Rd_takeSign
theorem k_Rd_375 : GoodIn gG (wsV R_Rd 375 R_Rd y_Rd_endPlain (.code y_Rd_endPlain prog_6_method_64_code 2 (Option.some Jvm.ClassFile.FieldType.boolean) :: gG)) := gdV m_626 m_628 ms_39 m_2 mc_Rd_endPlain
theorem k_Rd_360 : GoodIn gG (wsV R_Rd 360 R_Rd y_Rd_endRow (.code y_Rd_endRow prog_6_method_69_code 1 (Option.some Jvm.ClassFile.FieldType.boolean) :: gG)) := gdV m_622 m_624 ms_38 m_2 mc_Rd_endRow
theorem k_Rd_381 : GoodIn gG (wsV R_Rd 381 R_Rd y_Rd_endHead (.code y_Rd_endHead prog_6_method_25_code 1 (Option.some Jvm.ClassFile.FieldType.boolean) :: gG)) := gdV m_638 m_640 ms_42 m_2 mc_Rd_endHead
theorem k_Rd_195 : GoodIn gG (wsV R_Rd 195 R_Rd y_Rd_openBlocks (.code y_Rd_openBlocks prog_6_method_15_code 3 (Option.some Jvm.ClassFile.FieldType.boolean) :: gG)) := gdV m_761 m_763 ms_67 m_2 mc_Rd_openBlocks
theorem k_Rd_199 : GoodIn gG (wsV R_Rd 199 R_Rd y_Rd_nextBlock (.code y_Rd_nextBlock prog_6_method_17_code 4 (Option.some Jvm.ClassFile.FieldType.boolean) :: gG)) := gdV m_768 m_770 ms_68 m_2 mc_Rd_nextBlock
theorem k_Rd_203 : GoodIn gG (wsV R_Rd 203 R_Rd y_Rd_endBlocks (.code y_Rd_endBlocks prog_6_method_20_code 1 (Option.some Jvm.ClassFile.FieldType.boolean) :: gG)) := gdV m_776 m_778 ms_70 m_2 mc_Rd_endBlocks
theorem k_Rd_206 : GoodIn gG (wsV R_Rd 206 R_Rd y_Rd_addWord (.code y_Rd_addWord prog_6_method_21_code 2 (Option.some Jvm.ClassFile.FieldType.boolean) :: gG)) := gdV m_780 m_782 ms_71 m_2 mc_Rd_addWord
theorem k_Rd_209 : GoodIn gG (wsV R_Rd 209 R_Rd y_Rd_openValues (.code y_Rd_openValues prog_6_method_22_code 2 (Option.some Jvm.ClassFile.FieldType.boolean) :: gG)) := gdV m_784 m_786 ms_72 m_2 mc_Rd_openValues
theorem k_Rd_253 : GoodIn gG (wsV R_Rd 253 R_Rd y_Rd_openParameters (.code y_Rd_openParameters prog_6_method_32_code 1 (Option.some Jvm.ClassFile.FieldType.boolean) :: gG)) := gdV m_736 m_738 ms_62 m_2 mc_Rd_openParameters
theorem k_Rd_250 : GoodIn gG (wsV R_Rd 250 R_Rd y_Rd_nameFunction (.code y_Rd_nameFunction prog_6_method_30_code 2 (Option.some Jvm.ClassFile.FieldType.boolean) :: gG)) := gdV m_722 m_724 ms_60 m_2 mc_Rd_nameFunction
theorem k_Rd_300 : GoodIn gG (wsV R_Rd 300 R_Rd y_Rd_takeAtStart (.code y_Rd_takeAtStart prog_6_method_47_code 1 (Option.some Jvm.ClassFile.FieldType.boolean) :: gG)) := gdV m_534 m_536 ms_20 m_2 mc_Rd_takeAtStart
theorem k_Rd_333 : GoodIn gG (wsV R_Rd 333 R_Rd y_Rd_addItem (.code y_Rd_addItem prog_6_method_53_code 2 (Option.some Jvm.ClassFile.FieldType.boolean) :: gG)) := gdV m_579 m_581 ms_28 m_2 mc_Rd_addItem
theorem k_Rd_336 : GoodIn gG (wsV R_Rd 336 R_Rd y_Rd_limitNearestCall (.code y_Rd_limitNearestCall prog_6_method_57_code 2 (Option.some Jvm.ClassFile.FieldType.boolean) :: gG)) := gdV m_587 m_589 ms_30 m_2 mc_Rd_limitNearestCall
theorem k_Rd_339 : GoodIn gG (wsV R_Rd 339 R_Rd y_Rd_openItem (.code y_Rd_openItem prog_6_method_55_code 3 (Option.some Jvm.ClassFile.FieldType.boolean) :: gG)) := gdV m_591 m_593 ms_31 m_2 mc_Rd_openItem
theorem k_Rd_342 : GoodIn gG (wsV R_Rd 342 R_Rd y_Rd_takePowerSign (.code y_Rd_takePowerSign prog_6_method_52_code 1 (Option.some Jvm.ClassFile.FieldType.boolean) :: gG)) := gdV m_595 m_597 ms_32 m_2 mc_Rd_takePowerSign
theorem k_Rd_357 : GoodIn gG (wsV R_Rd 357 R_Rd y_Rd_closeBracket (.code y_Rd_closeBracket prog_6_method_66_code 1 (Option.some Jvm.ClassFile.FieldType.boolean) :: gG)) := gdV m_634 m_636 ms_41 m_2 mc_Rd_closeBracket
theorem k_Rd_351 : GoodIn gG (wsV R_Rd 351 R_Rd y_Rd_takeComma (.code y_Rd_takeComma prog_6_method_62_code 1 (Option.some Jvm.ClassFile.FieldType.boolean) :: gG)) := gdV m_610 m_612 ms_35 m_2 mc_Rd_takeComma
theorem k_Rd_366 : GoodIn gG (wsV R_Rd 366 R_Rd y_Rd_takeColon (.code y_Rd_takeColon prog_6_method_61_code 1 (Option.some Jvm.ClassFile.FieldType.boolean) :: gG)) := gdV m_654 m_656 ms_45 m_2 mc_Rd_takeColon
theorem k_Rd_354 : GoodIn gG (wsV R_Rd 354 R_Rd y_Rd_takeSemicolon (.code y_Rd_takeSemicolon prog_6_method_63_code 1 (Option.some Jvm.ClassFile.FieldType.boolean) :: gG)) := gdV m_618 m_620 ms_37 m_2 mc_Rd_takeSemicolon
theorem k_Rd_363 : GoodIn gG (wsV R_Rd 363 R_Rd y_Rd_takeEquals (.code y_Rd_takeEquals prog_6_method_65_code 4 (Option.some Jvm.ClassFile.FieldType.boolean) :: gG)) := gdV m_646 m_648 ms_44 m_2 mc_Rd_takeEquals
theorem k_Rd_348 : GoodIn gG (wsV R_Rd 348 R_Rd y_Rd_endWaiting (.code y_Rd_endWaiting prog_6_method_59_code 7 (Option.none : Option Jvm.ClassFile.FieldType) :: gG)) := gdV m_606 m_608 ms_34 m_2 mc_Rd_endWaiting
theorem k_Rd_180 : GoodIn gG (wsV R_Rd 180 R_Rd y_Rd_beginStatement (.code y_Rd_beginStatement prog_6_method_14_code 1 (Option.some Jvm.ClassFile.FieldType.boolean) :: gG)) := gdV m_757 m_759 ms_66 m_2 mc_Rd_beginStatement
theorem k_Rd_189 : GoodIn gG (wsV R_Rd 189 R_Rd y_Rd_openHead (.code y_Rd_openHead prog_6_method_24_code 2 (Option.some Jvm.ClassFile.FieldType.boolean) :: gG)) := gdV m_788 m_790 ms_73 m_2 mc_Rd_openHead
theorem k_Rd_241 : GoodIn gG (wsV R_Rd 241 R_Rd y_Rd_takeFirstAsName (.code y_Rd_takeFirstAsName prog_6_method_29_code 1 (Option.some Jvm.ClassFile.FieldType.boolean) :: gG)) := gdV m_718 m_720 ms_59 m_2 mc_Rd_takeFirstAsName
theorem k_Rd_238 : GoodIn gG (wsV R_Rd 238 R_Rd y_Rd_takeFirstAsResult (.code y_Rd_takeFirstAsResult prog_6_method_28_code 1 (Option.some Jvm.ClassFile.FieldType.boolean) :: gG)) := gdV m_714 m_716 ms_58 m_2 mc_Rd_takeFirstAsResult
theorem k_Rd_244 : GoodIn gG (wsV R_Rd 244 R_Rd y_Rd_addDifferentName (.code y_Rd_addDifferentName prog_6_method_35_code 4 (Option.some Jvm.ClassFile.FieldType.boolean) :: gG)) := gdV m_740 m_742 ms_63 m_2 mc_Rd_addDifferentName
theorem k_Rd_256 : GoodIn gG (wsV R_Rd 256 R_Rd y_Rd_endParameters (.code y_Rd_endParameters prog_6_method_33_code 1 (Option.some Jvm.ClassFile.FieldType.boolean) :: gG)) := gdV m_749 m_751 ms_64 m_2 mc_Rd_endParameters
theorem k_Rd_303 : GoodIn gG (wsV R_Rd 303 R_Rd y_Rd_takeOperand (.code y_Rd_takeOperand prog_6_method_50_code 1 (Option.some Jvm.ClassFile.FieldType.boolean) :: gG)) := gdV m_575 m_577 ms_27 m_2 mc_Rd_takeOperand
theorem k_Rd_306 : GoodIn gG (wsV R_Rd 306 R_Rd y_Rd_takeOperator (.code y_Rd_takeOperator prog_6_method_58_code 2 (Option.some Jvm.ClassFile.FieldType.boolean) :: gG)) := gdV m_599 m_601 ms_33 m_2 mc_Rd_takeOperator
theorem k_Rd_309 : GoodIn gG (wsV R_Rd 309 R_Rd y_Rd_openArguments (.code y_Rd_openArguments prog_6_method_56_code 3 (Option.some Jvm.ClassFile.FieldType.boolean) :: gG)) := gdV m_666 m_668 ms_47 m_2 mc_Rd_openArguments
theorem k_Rd_312 : GoodIn gG (wsV R_Rd 312 R_Rd y_Rd_turnRowsToTargets (.code y_Rd_turnRowsToTargets prog_6_method_45_code 2 (Option.some Jvm.ClassFile.FieldType.boolean) :: gG)) := gdV m_678 m_680 ms_49 m_2 mc_Rd_turnRowsToTargets
theorem k_Rd_110 : GoodIn gG (wsV R_Rd 110 R_Rd y_Rd_standsInStatement (.code y_Rd_standsInStatement prog_6_method_13_code 1 (Option.some Jvm.ClassFile.FieldType.boolean) :: gG)) := gdV m_753 m_755 ms_65 m_2 mc_Rd_standsInStatement
theorem k_Rd_107 : GoodIn gG (wsV R_Rd 107 R_Rd y_Rd_standsInFunctionHead (.code y_Rd_standsInFunctionHead prog_6_method_26_code 1 (Option.some Jvm.ClassFile.FieldType.boolean) :: gG)) := gdV m_706 m_708 ms_56 m_2 mc_Rd_standsInFunctionHead
theorem k_Rd_104 : GoodIn gG (wsV R_Rd 104 R_Rd y_Rd_standsInSeveral (.code y_Rd_standsInSeveral prog_6_method_36_code 1 (Option.some Jvm.ClassFile.FieldType.boolean) :: gG)) := gdV m_686 m_688 ms_51 m_2 mc_Rd_standsInSeveral
theorem k_Rd_100 : GoodIn gG (wsV R_Rd 100 R_Rd y_Rd_standsInExpression (.code y_Rd_standsInExpression prog_6_method_46_code 1 (Option.some Jvm.ClassFile.FieldType.boolean) :: gG)) := gdV m_530 m_532 ms_19 m_2 mc_Rd_standsInExpression
theorem k_Rd_97 : GoodIn gG (wsV R_Rd 97 R_Rd y_Rd_settle (.code y_Rd_settle prog_6_method_11_code 2 (Option.none : Option Jvm.ClassFile.FieldType) :: gG)) := gdV m_471 m_473 ms_11 m_2 mc_Rd_settle
theorem k_Eq_66 : GoodIn gG (wsV R_Eq 66 R_Rw y_Rw_cut (.code y_Rw_cut prog_7_method_6_code 2 (Option.none : Option Jvm.ClassFile.FieldType) :: gG)) := gdV m_818 m_819 m_820 m_4 mc_Rw_cut
theorem k_Eq_79 : GoodIn gG (wsV R_Eq 79 R_Nd y_Nd_arrange (.code y_Nd_arrange prog_4_method_12_code 5 (Option.none : Option Jvm.ClassFile.FieldType) :: gG)) := gdV m_800 m_801 m_802 m_5 mc_Nd_arrange
theorem k_Eq_75 : GoodIn gG (wsV R_Eq 75 R_Rd y_Rd_draft (.code y_Rd_draft prog_6_method_2_code 1 (Option.some (Jvm.ClassFile.FieldType.object "EquationText$Nodes")) :: gG)) := gdV m_796 m_797 m_798 m_2 mc_Rd_draft
theorem k_Eq_73 : GoodIn gG (wsV R_Eq 73 R_Rd y_Rd_fault (.code y_Rd_fault prog_6_method_3_code 1 (Option.some Jvm.ClassFile.FieldType.int) :: gG)) := gdV m_792 m_793 m_794 m_2 mc_Rd_fault
theorem k_Eq_69 : GoodIn gG (wsV R_Eq 69 R_Rd y_Rd_take (.code y_Rd_take prog_6_method_4_code 4 (Option.some Jvm.ClassFile.FieldType.int) :: gG)) := gdV m_302 m_303 m_304 m_2 mc_Rd_take
theorem d_Rd_limitNearestCall_0 : decode prog_6_method_57_code 0 = .ok (.aload_n 0, 1) := by decide +kernel
theorem d_Rd_limitNearestCall_1 : decode prog_6_method_57_code 1 = .ok (.getfield 46, 3) := by decide +kernel
theorem d_Rd_limitNearestCall_4 : decode prog_6_method_57_code 4 = .ok (.astore_n 1, 1) := by decide +kernel
theorem d_Rd_limitNearestCall_5 : decode prog_6_method_57_code 5 = .ok (.aload_n 1, 1) := by decide +kernel
theorem d_Rd_limitNearestCall_6 : decode prog_6_method_57_code 6 = .ok (.ifnull 59, 3) := by decide +kernel
theorem d_Rd_limitNearestCall_9 : decode prog_6_method_57_code 9 = .ok (.aload_n 1, 1) := by decide +kernel
theorem d_Rd_limitNearestCall_10 : decode prog_6_method_57_code 10 = .ok (.getfield 86, 3) := by decide +kernel
theorem d_Rd_limitNearestCall_13 : decode prog_6_method_57_code 13 = .ok (.bipush 33, 2) := by decide +kernel
theorem d_Rd_limitNearestCall_15 : decode prog_6_method_57_code 15 = .ok (.if_icmp .ne 22, 3) := by decide +kernel
theorem d_Rd_limitNearestCall_18 : decode prog_6_method_57_code 18 = .ok (.aload_n 1, 1) := by decide +kernel
theorem d_Rd_limitNearestCall_19 : decode prog_6_method_57_code 19 = .ok (.iconst 1, 1) := by decide +kernel
theorem d_Rd_limitNearestCall_20 : decode prog_6_method_57_code 20 = .ok (.putfield 330, 3) := by decide +kernel
theorem d_Rd_limitNearestCall_23 : decode prog_6_method_57_code 23 = .ok (.aload_n 1, 1) := by decide +kernel
theorem d_Rd_limitNearestCall_24 : decode prog_6_method_57_code 24 = .ok (.getfield 224, 3) := by decide +kernel
theorem d_Rd_limitNearestCall_27 : decode prog_6_method_57_code 27 = .ok (.iconst 2, 1) := by decide +kernel
theorem d_Rd_limitNearestCall_28 : decode prog_6_method_57_code 28 = .ok (.if_icmp .ge 7, 3) := by decide +kernel
theorem d_Rd_limitNearestCall_31 : decode prog_6_method_57_code 31 = .ok (.iconst 1, 1) := by decide +kernel
theorem d_Rd_limitNearestCall_32 : decode prog_6_method_57_code 32 = .ok (.goto 4, 3) := by decide +kernel
theorem d_Rd_limitNearestCall_35 : decode prog_6_method_57_code 35 = .ok (.iconst 0, 1) := by decide +kernel
theorem d_Rd_limitNearestCall_36 : decode prog_6_method_57_code 36 = .ok (.ireturn, 1) := by decide +kernel
theorem d_Rd_limitNearestCall_37 : decode prog_6_method_57_code 37 = .ok (.aload_n 1, 1) := by decide +kernel
theorem d_Rd_limitNearestCall_38 : decode prog_6_method_57_code 38 = .ok (.getfield 86, 3) := by decide +kernel
theorem d_Rd_limitNearestCall_41 : decode prog_6_method_57_code 41 = .ok (.bipush 50, 2) := by decide +kernel
theorem d_Rd_limitNearestCall_43 : decode prog_6_method_57_code 43 = .ok (.if_icmp .eq 14, 3) := by decide +kernel
theorem d_Rd_limitNearestCall_46 : decode prog_6_method_57_code 46 = .ok (.aload_n 1, 1) := by decide +kernel
theorem d_Rd_limitNearestCall_47 : decode prog_6_method_57_code 47 = .ok (.getfield 86, 3) := by decide +kernel
theorem d_Rd_limitNearestCall_50 : decode prog_6_method_57_code 50 = .ok (.bipush 36, 2) := by decide +kernel
theorem d_Rd_limitNearestCall_52 : decode prog_6_method_57_code 52 = .ok (.if_icmp .eq 5, 3) := by decide +kernel
theorem d_Rd_limitNearestCall_55 : decode prog_6_method_57_code 55 = .ok (.iconst 0, 1) := by decide +kernel
theorem d_Rd_limitNearestCall_56 : decode prog_6_method_57_code 56 = .ok (.ireturn, 1) := by decide +kernel
theorem d_Rd_limitNearestCall_57 : decode prog_6_method_57_code 57 = .ok (.aload_n 1, 1) := by decide +kernel
theorem d_Rd_limitNearestCall_58 : decode prog_6_method_57_code 58 = .ok (.getfield 144, 3) := by decide +kernel
theorem d_Rd_limitNearestCall_61 : decode prog_6_method_57_code 61 = .ok (.astore_n 1, 1) := by decide +kernel
theorem d_Rd_limitNearestCall_62 : decode prog_6_method_57_code 62 = .ok (.goto (-57), 3) := by decide +kernel
theorem d_Rd_limitNearestCall_65 : decode prog_6_method_57_code 65 = .ok (.iconst 0, 1) := by decide +kernel
theorem d_Rd_limitNearestCall_66 : decode prog_6_method_57_code 66 = .ok (.ireturn, 1) := by decide +kernel
theorem pk_mid {ws wr w0 pl : va_W} (is : List Nat) (k : Nat) (hs : is.map (fun i => ws[i]?) = (wr ++ w0).map some) (hd : ws.drop k = pl) (hp : is.isPerm (List.range k) = true) : ws.Perm ((wr ++ pl) ++ w0) := (pk_perm is k hs hd hp).trans pm_mid
theorem pk_app {ws wr w0 pl wc : va_W} (is : List Nat) (k : Nat) (hs : is.map (fun i => ws[i]?) = (wr ++ w0).map some) (hd : ws.drop k = pl) (hw : w0 ++ pl = wc) (hp : is.isPerm (List.range k) = true) : ws.Perm (wr ++ wc) := by
  subst hw
  have h := pk_perm is k hs hd hp
  rwa [List.append_assoc] at h
theorem pm_eq {a b c ws' : va_W} (h : (a ++ c) ++ b = ws') : ((a ++ b) ++ c).Perm ws' := by
  subst h
  exact pm_mid
def F_Rd_limitNearestCall (fn : Nat) (fd : Nat) (fcf : Nat → FrC) (mode_h0 : Int32) (levels_h0 : Int32) (signs_h0 : Int32) (loops_h0 : Int32) (token_h0 : Int32) (fault_h0 : Int32) (kind_t : Int32) (place_t : Int32) (width_t : Int32) (second_t : Int32) (parts_t : Int32) (innerParts_t : Int32) (innerPlace_t : Int32) (innerWidth_t : Int32) (signs_t : Int32) (waitingBelow_t : Int32) (limited_t : Int32) (targets_t : Int32) (lastBlock_t : Int32) : Option ((Nat → FrC) × Int32 × Int32) :=
  grd (fd < fn) (some ((limG (va_up fcf fd (kind_t, place_t, width_t, second_t, parts_t, innerParts_t, innerPlace_t, innerWidth_t, signs_t, waitingBelow_t, limited_t, targets_t, lastBlock_t)) fd).2, (limG (va_up fcf fd (kind_t, place_t, width_t, second_t, parts_t, innerParts_t, innerPlace_t, innerWidth_t, signs_t, waitingBelow_t, limited_t, targets_t, lastBlock_t)) fd).1, ((limG (va_up fcf fd (kind_t, place_t, width_t, second_t, parts_t, innerParts_t, innerPlace_t, innerWidth_t, signs_t, waitingBelow_t, limited_t, targets_t, lastBlock_t)) fd).2 fd).2.2.2.2.2.2.2.2.2.2.1))
set_option maxHeartbeats 4000000 in
set_option maxRecDepth 100000 in
theorem L_Rd_limit (l : Launch) (D : va_G) (cI cB cJ cS : ClassId) (h0 : Nat) (fad : Nat → Nat) (a_scanner_h0 : Nat) (a_draft_h0 : Nat) (a_waiting_h0 : Nat) (a_functions_h0 : Nat) (a_text_h0 : Nat) (fn : Nat) (fd : Nat) (fcf : Nat → FrC) (mode_h0 : Int32) (levels_h0 : Int32) (signs_h0 : Int32) (loops_h0 : Int32) (token_h0 : Int32) (fault_h0 : Int32) (kind_t : Int32) (place_t : Int32) (width_t : Int32) (second_t : Int32) (parts_t : Int32) (innerParts_t : Int32) (innerPlace_t : Int32) (innerWidth_t : Int32) (signs_t : Int32) (waitingBelow_t : Int32) (limited_t : Int32) (targets_t : Int32) (lastBlock_t : Int32) (WC : va_W) (QR : Option Value → va_W → Prop) (p : Program) (e : Env) (s : State) (m : MethodId) (below : List Frame) (meth : Method) (c : Code) (hr : meth.sig.returnType = some .boolean) (hgd : fd < fn) : ∀ (i : Nat), i < fn → ∀ (cf : Nat → FrC), (∀ ret cf1, limG cf i = (ret, cf1) → zb ret → QR (some (.int ret)) ((h0, .inr (2, [.ref a_scanner_h0, .ref a_draft_h0, .ref a_waiting_h0, .ref a_functions_h0, .ref (fad 0), .ref (fad fd), .ref a_text_h0, .int mode_h0, .int levels_h0, .int signs_h0, .int loops_h0, .int token_h0, .int fault_h0])) :: (fad fd, .inr (0, frv fad fn fd (cf1 fd))) :: fpo fad fn fd cf1)) → J (KxOf p l e { frames := 0, cells := 0, slots := 0, locals := 0 } s m [.ref h0].toArray below meth c D (gT cI cB cJ cS) WC QR 0 0) prog_6_method_57_code 2 R_Rd 5 [(1, .ref (fad i)), (0, .ref h0)] [] ((h0, .inr (2, [.ref a_scanner_h0, .ref a_draft_h0, .ref a_waiting_h0, .ref a_functions_h0, .ref (fad 0), .ref (fad fd), .ref a_text_h0, .int mode_h0, .int levels_h0, .int signs_h0, .int loops_h0, .int token_h0, .int fault_h0])) :: (fad i, .inr (0, frv fad fn i (cf i))) :: fpo fad fn i cf) 0 0 := by
  intro i
  induction i with
  | zero =>
    intro hi cf hQ
    refine j_aload_n d_Rd_limitNearestCall_5 rfl 0 rfl ?_
    refine j_ifnull d_Rd_limitNearestCall_6 ?_
    refine j_aload_n d_Rd_limitNearestCall_9 rfl 0 rfl ?_
    refine j_get ig_Fr rfl 1 rfl 2 (by decide) rfl m_111 rfl d_Rd_limitNearestCall_10 ?_
    refine j_bipush (v := 33) d_Rd_limitNearestCall_13 (by decide) ?_
    refine j_icmp_ne (tgt := 37) d_Rd_limitNearestCall_15 (by decide) (fun c1 => ?_) (fun c1 => ?_)
    · refine j_aload_n d_Rd_limitNearestCall_37 rfl 0 rfl ?_
      refine j_get ig_Fr rfl 1 rfl 2 (by decide) rfl m_111 rfl d_Rd_limitNearestCall_38 ?_
      refine j_bipush (v := 50) d_Rd_limitNearestCall_41 (by decide) ?_
      refine j_icmp_eq (tgt := 57) d_Rd_limitNearestCall_43 (by decide) (fun c2 => ?_) (fun c2 => ?_)
      · replace c2 : (cf 0).1 = 50 ∨ (cf 0).1 = 36 := Or.inl c2
        refine j_aload_n d_Rd_limitNearestCall_57 rfl 0 rfl ?_
        refine j_get ig_Fr rfl 1 rfl 0 (by decide) rfl m_107 rfl d_Rd_limitNearestCall_58 ?_
        refine j_astore_n0 (lv' := [(1, .null), (0, .ref h0)]) frB_0 d_Rd_limitNearestCall_61 rfl (by decide) rfl ?_
        refine j_goto (tgt := 5) d_Rd_limitNearestCall_62 (by decide) ?_
        refine j_aload_nN d_Rd_limitNearestCall_5 rfl 0 rfl ?_
        refine j_ifnullN (tgt := 65) d_Rd_limitNearestCall_6 (by decide) ?_
        refine j_iconst (v := 0) d_Rd_limitNearestCall_65 (by decide) ?_
        refine j_perm (ws' := ((h0, .inr (2, [.ref a_scanner_h0, .ref a_draft_h0, .ref a_waiting_h0, .ref a_functions_h0, .ref (fad 0), .ref (fad fd), .ref a_text_h0, .int mode_h0, .int levels_h0, .int signs_h0, .int loops_h0, .int token_h0, .int fault_h0])) :: (fad fd, .inr (0, frv fad fn fd (cf fd))) :: fpo fad fn fd cf)) (List.Perm.cons _ (fp_ref2 hi hgd)) ?_
        exact j_zretE hr (zb_n zb0) d_Rd_limitNearestCall_66 (hQ 0 cf (limG_down0 c1 c2) zb0)
      · refine j_aload_n d_Rd_limitNearestCall_46 rfl 0 rfl ?_
        refine j_get ig_Fr rfl 1 rfl 2 (by decide) rfl m_111 rfl d_Rd_limitNearestCall_47 ?_
        refine j_bipush (v := 36) d_Rd_limitNearestCall_50 (by decide) ?_
        refine j_icmp_eq (tgt := 57) d_Rd_limitNearestCall_52 (by decide) (fun c3 => ?_) (fun c3 => ?_)
        · replace c2 : (cf 0).1 = 50 ∨ (cf 0).1 = 36 := Or.inr c3
          refine j_aload_n d_Rd_limitNearestCall_57 rfl 0 rfl ?_
          refine j_get ig_Fr rfl 1 rfl 0 (by decide) rfl m_107 rfl d_Rd_limitNearestCall_58 ?_
          refine j_astore_n0 (lv' := [(1, .null), (0, .ref h0)]) frB_0 d_Rd_limitNearestCall_61 rfl (by decide) rfl ?_
          refine j_goto (tgt := 5) d_Rd_limitNearestCall_62 (by decide) ?_
          refine j_aload_nN d_Rd_limitNearestCall_5 rfl 0 rfl ?_
          refine j_ifnullN (tgt := 65) d_Rd_limitNearestCall_6 (by decide) ?_
          refine j_iconst (v := 0) d_Rd_limitNearestCall_65 (by decide) ?_
          refine j_perm (ws' := ((h0, .inr (2, [.ref a_scanner_h0, .ref a_draft_h0, .ref a_waiting_h0, .ref a_functions_h0, .ref (fad 0), .ref (fad fd), .ref a_text_h0, .int mode_h0, .int levels_h0, .int signs_h0, .int loops_h0, .int token_h0, .int fault_h0])) :: (fad fd, .inr (0, frv fad fn fd (cf fd))) :: fpo fad fn fd cf)) (List.Perm.cons _ (fp_ref2 hi hgd)) ?_
          exact j_zretE hr (zb_n zb0) d_Rd_limitNearestCall_66 (hQ 0 cf (limG_down0 c1 c2) zb0)
        · refine j_iconst (v := 0) d_Rd_limitNearestCall_55 (by decide) ?_
          refine j_perm (ws' := ((h0, .inr (2, [.ref a_scanner_h0, .ref a_draft_h0, .ref a_waiting_h0, .ref a_functions_h0, .ref (fad 0), .ref (fad fd), .ref a_text_h0, .int mode_h0, .int levels_h0, .int signs_h0, .int loops_h0, .int token_h0, .int fault_h0])) :: (fad fd, .inr (0, frv fad fn fd (cf fd))) :: fpo fad fn fd cf)) (List.Perm.cons _ (fp_ref2 hi hgd)) ?_
          exact j_zretE hr (zb_n zb0) d_Rd_limitNearestCall_56 (hQ 0 cf (limG_no c1 c2 c3) zb0)
    · refine j_aload_n d_Rd_limitNearestCall_18 rfl 0 rfl ?_
      refine j_iconst (v := 1) d_Rd_limitNearestCall_19 (by decide) ?_
      refine j_put (ws' := ((h0, .inr (2, [.ref a_scanner_h0, .ref a_draft_h0, .ref a_waiting_h0, .ref a_functions_h0, .ref (fad 0), .ref (fad fd), .ref a_text_h0, .int mode_h0, .int levels_h0, .int signs_h0, .int loops_h0, .int token_h0, .int fault_h0])) :: (fad 0, .inr (0, frv fad fn 0 (slim (cf 0) 1))) :: fpo fad fn 0 cf)) ig_Fr tk_Fr nm_Fr rfl 1 rfl 12 (by decide) rfl m_131 rfl (tk_Fr 12 (by decide)) (zb_n zb1) (zb_fit zb1) (Nat.le_of_ble_eq_true rfl) d_Rd_limitNearestCall_20 rfl ?_
      refine j_perm (ws' := ((h0, .inr (2, [.ref a_scanner_h0, .ref a_draft_h0, .ref a_waiting_h0, .ref a_functions_h0, .ref (fad 0), .ref (fad fd), .ref a_text_h0, .int mode_h0, .int levels_h0, .int signs_h0, .int loops_h0, .int token_h0, .int fault_h0])) :: (fad 0, .inr (0, frv fad fn 0 ((va_up cf 0 (slim (cf 0) 1)) 0))) :: fpo fad fn 0 (va_up cf 0 (slim (cf 0) 1)))) (List.Perm.cons _ (fp_lim (c := slim (cf 0) 1))) ?_
      refine j_aload_n d_Rd_limitNearestCall_23 rfl 0 rfl ?_
      refine j_get ig_Fr rfl 1 rfl 6 (by decide) rfl m_119 rfl d_Rd_limitNearestCall_24 ?_
      refine j_iconst (v := 2) d_Rd_limitNearestCall_27 (by decide) ?_
      refine j_icmp_ge (tgt := 35) d_Rd_limitNearestCall_28 (by decide) (fun c2 => ?_) (fun c2 => ?_)
      · refine j_iconst (v := 0) d_Rd_limitNearestCall_35 (by decide) ?_
        refine j_perm (ws' := ((h0, .inr (2, [.ref a_scanner_h0, .ref a_draft_h0, .ref a_waiting_h0, .ref a_functions_h0, .ref (fad 0), .ref (fad fd), .ref a_text_h0, .int mode_h0, .int levels_h0, .int signs_h0, .int loops_h0, .int token_h0, .int fault_h0])) :: (fad fd, .inr (0, frv fad fn fd ((va_up cf 0 (slim (cf 0) 1)) fd))) :: fpo fad fn fd (va_up cf 0 (slim (cf 0) 1)))) (List.Perm.cons _ (fp_ref2 hi hgd)) ?_
        exact j_zretE hr (zb_n zb0) d_Rd_limitNearestCall_36 (hQ 0 (va_up cf 0 (slim (cf 0) 1)) (limG_ge c1 c2) zb0)
      · refine j_iconst (v := 1) d_Rd_limitNearestCall_31 (by decide) ?_
        refine j_goto (tgt := 36) d_Rd_limitNearestCall_32 (by decide) ?_
        refine j_perm (ws' := ((h0, .inr (2, [.ref a_scanner_h0, .ref a_draft_h0, .ref a_waiting_h0, .ref a_functions_h0, .ref (fad 0), .ref (fad fd), .ref a_text_h0, .int mode_h0, .int levels_h0, .int signs_h0, .int loops_h0, .int token_h0, .int fault_h0])) :: (fad fd, .inr (0, frv fad fn fd ((va_up cf 0 (slim (cf 0) 1)) fd))) :: fpo fad fn fd (va_up cf 0 (slim (cf 0) 1)))) (List.Perm.cons _ (fp_ref2 hi hgd)) ?_
        exact j_zretE hr (zb_n zb1) d_Rd_limitNearestCall_36 (hQ 1 (va_up cf 0 (slim (cf 0) 1)) (limG_lt c1 c2) zb1)
  | succ i ih =>
    intro hi cf hQ
    refine j_aload_n d_Rd_limitNearestCall_5 rfl 0 rfl ?_
    refine j_ifnull d_Rd_limitNearestCall_6 ?_
    refine j_aload_n d_Rd_limitNearestCall_9 rfl 0 rfl ?_
    refine j_get ig_Fr rfl 1 rfl 2 (by decide) rfl m_111 rfl d_Rd_limitNearestCall_10 ?_
    refine j_bipush (v := 33) d_Rd_limitNearestCall_13 (by decide) ?_
    refine j_icmp_ne (tgt := 37) d_Rd_limitNearestCall_15 (by decide) (fun c1 => ?_) (fun c1 => ?_)
    · refine j_aload_n d_Rd_limitNearestCall_37 rfl 0 rfl ?_
      refine j_get ig_Fr rfl 1 rfl 2 (by decide) rfl m_111 rfl d_Rd_limitNearestCall_38 ?_
      refine j_bipush (v := 50) d_Rd_limitNearestCall_41 (by decide) ?_
      refine j_icmp_eq (tgt := 57) d_Rd_limitNearestCall_43 (by decide) (fun c2 => ?_) (fun c2 => ?_)
      · replace c2 : (cf (i + 1)).1 = 50 ∨ (cf (i + 1)).1 = 36 := Or.inl c2
        refine j_aload_n d_Rd_limitNearestCall_57 rfl 0 rfl ?_
        refine j_get ig_Fr rfl 1 rfl 0 (by decide) rfl m_107 rfl d_Rd_limitNearestCall_58 ?_
        refine j_astore_nR (lv' := [(1, .ref (fad i)), (0, .ref h0)]) frB_1 d_Rd_limitNearestCall_61 rfl (by decide) rfl ?_
        refine j_goto (tgt := 5) d_Rd_limitNearestCall_62 (by decide) ?_
        refine j_perm (ws' := ((h0, .inr (2, [.ref a_scanner_h0, .ref a_draft_h0, .ref a_waiting_h0, .ref a_functions_h0, .ref (fad 0), .ref (fad fd), .ref a_text_h0, .int mode_h0, .int levels_h0, .int signs_h0, .int loops_h0, .int token_h0, .int fault_h0])) :: (fad i, .inr (0, frv fad fn i (cf i))) :: fpo fad fn i cf)) (List.Perm.cons _ (fp_ref2 hi (show i < fn by omega))) ?_
        exact ih (by omega) cf (fun ret cf1 h1 h2 => hQ ret cf1 ((limG_down c1 c2).trans h1) h2)
      · refine j_aload_n d_Rd_limitNearestCall_46 rfl 0 rfl ?_
        refine j_get ig_Fr rfl 1 rfl 2 (by decide) rfl m_111 rfl d_Rd_limitNearestCall_47 ?_
        refine j_bipush (v := 36) d_Rd_limitNearestCall_50 (by decide) ?_
        refine j_icmp_eq (tgt := 57) d_Rd_limitNearestCall_52 (by decide) (fun c3 => ?_) (fun c3 => ?_)
        · replace c2 : (cf (i + 1)).1 = 50 ∨ (cf (i + 1)).1 = 36 := Or.inr c3
          refine j_aload_n d_Rd_limitNearestCall_57 rfl 0 rfl ?_
          refine j_get ig_Fr rfl 1 rfl 0 (by decide) rfl m_107 rfl d_Rd_limitNearestCall_58 ?_
          refine j_astore_nR (lv' := [(1, .ref (fad i)), (0, .ref h0)]) frB_1 d_Rd_limitNearestCall_61 rfl (by decide) rfl ?_
          refine j_goto (tgt := 5) d_Rd_limitNearestCall_62 (by decide) ?_
          refine j_perm (ws' := ((h0, .inr (2, [.ref a_scanner_h0, .ref a_draft_h0, .ref a_waiting_h0, .ref a_functions_h0, .ref (fad 0), .ref (fad fd), .ref a_text_h0, .int mode_h0, .int levels_h0, .int signs_h0, .int loops_h0, .int token_h0, .int fault_h0])) :: (fad i, .inr (0, frv fad fn i (cf i))) :: fpo fad fn i cf)) (List.Perm.cons _ (fp_ref2 hi (show i < fn by omega))) ?_
          exact ih (by omega) cf (fun ret cf1 h1 h2 => hQ ret cf1 ((limG_down c1 c2).trans h1) h2)
        · refine j_iconst (v := 0) d_Rd_limitNearestCall_55 (by decide) ?_
          refine j_perm (ws' := ((h0, .inr (2, [.ref a_scanner_h0, .ref a_draft_h0, .ref a_waiting_h0, .ref a_functions_h0, .ref (fad 0), .ref (fad fd), .ref a_text_h0, .int mode_h0, .int levels_h0, .int signs_h0, .int loops_h0, .int token_h0, .int fault_h0])) :: (fad fd, .inr (0, frv fad fn fd (cf fd))) :: fpo fad fn fd cf)) (List.Perm.cons _ (fp_ref2 hi hgd)) ?_
          exact j_zretE hr (zb_n zb0) d_Rd_limitNearestCall_56 (hQ 0 cf (limG_no c1 c2 c3) zb0)
    · refine j_aload_n d_Rd_limitNearestCall_18 rfl 0 rfl ?_
      refine j_iconst (v := 1) d_Rd_limitNearestCall_19 (by decide) ?_
      refine j_put (ws' := ((h0, .inr (2, [.ref a_scanner_h0, .ref a_draft_h0, .ref a_waiting_h0, .ref a_functions_h0, .ref (fad 0), .ref (fad fd), .ref a_text_h0, .int mode_h0, .int levels_h0, .int signs_h0, .int loops_h0, .int token_h0, .int fault_h0])) :: (fad (i + 1), .inr (0, frv fad fn (i + 1) (slim (cf (i + 1)) 1))) :: fpo fad fn (i + 1) cf)) ig_Fr tk_Fr nm_Fr rfl 1 rfl 12 (by decide) rfl m_131 rfl (tk_Fr 12 (by decide)) (zb_n zb1) (zb_fit zb1) (Nat.le_of_ble_eq_true rfl) d_Rd_limitNearestCall_20 rfl ?_
      refine j_perm (ws' := ((h0, .inr (2, [.ref a_scanner_h0, .ref a_draft_h0, .ref a_waiting_h0, .ref a_functions_h0, .ref (fad 0), .ref (fad fd), .ref a_text_h0, .int mode_h0, .int levels_h0, .int signs_h0, .int loops_h0, .int token_h0, .int fault_h0])) :: (fad (i + 1), .inr (0, frv fad fn (i + 1) ((va_up cf (i + 1) (slim (cf (i + 1)) 1)) (i + 1)))) :: fpo fad fn (i + 1) (va_up cf (i + 1) (slim (cf (i + 1)) 1)))) (List.Perm.cons _ (fp_lim (c := slim (cf (i + 1)) 1))) ?_
      refine j_aload_n d_Rd_limitNearestCall_23 rfl 0 rfl ?_
      refine j_get ig_Fr rfl 1 rfl 6 (by decide) rfl m_119 rfl d_Rd_limitNearestCall_24 ?_
      refine j_iconst (v := 2) d_Rd_limitNearestCall_27 (by decide) ?_
      refine j_icmp_ge (tgt := 35) d_Rd_limitNearestCall_28 (by decide) (fun c2 => ?_) (fun c2 => ?_)
      · refine j_iconst (v := 0) d_Rd_limitNearestCall_35 (by decide) ?_
        refine j_perm (ws' := ((h0, .inr (2, [.ref a_scanner_h0, .ref a_draft_h0, .ref a_waiting_h0, .ref a_functions_h0, .ref (fad 0), .ref (fad fd), .ref a_text_h0, .int mode_h0, .int levels_h0, .int signs_h0, .int loops_h0, .int token_h0, .int fault_h0])) :: (fad fd, .inr (0, frv fad fn fd ((va_up cf (i + 1) (slim (cf (i + 1)) 1)) fd))) :: fpo fad fn fd (va_up cf (i + 1) (slim (cf (i + 1)) 1)))) (List.Perm.cons _ (fp_ref2 hi hgd)) ?_
        exact j_zretE hr (zb_n zb0) d_Rd_limitNearestCall_36 (hQ 0 (va_up cf (i + 1) (slim (cf (i + 1)) 1)) (limG_ge c1 c2) zb0)
      · refine j_iconst (v := 1) d_Rd_limitNearestCall_31 (by decide) ?_
        refine j_goto (tgt := 36) d_Rd_limitNearestCall_32 (by decide) ?_
        refine j_perm (ws' := ((h0, .inr (2, [.ref a_scanner_h0, .ref a_draft_h0, .ref a_waiting_h0, .ref a_functions_h0, .ref (fad 0), .ref (fad fd), .ref a_text_h0, .int mode_h0, .int levels_h0, .int signs_h0, .int loops_h0, .int token_h0, .int fault_h0])) :: (fad fd, .inr (0, frv fad fn fd ((va_up cf (i + 1) (slim (cf (i + 1)) 1)) fd))) :: fpo fad fn fd (va_up cf (i + 1) (slim (cf (i + 1)) 1)))) (List.Perm.cons _ (fp_ref2 hi hgd)) ?_
        exact j_zretE hr (zb_n zb1) d_Rd_limitNearestCall_36 (hQ 1 (va_up cf (i + 1) (slim (cf (i + 1)) 1)) (limG_lt c1 c2) zb1)
set_option maxHeartbeats 4000000 in
set_option maxRecDepth 100000 in
theorem c_Rd_limitNearestCall (l : Launch) (D : va_G) (cI cB cJ cS : ClassId) (h0 : Nat) (fad : Nat → Nat) (a_scanner_h0 : Nat) (a_draft_h0 : Nat) (a_waiting_h0 : Nat) (a_functions_h0 : Nat) (a_text_h0 : Nat) (fn : Nat) (fd : Nat) (fcf : Nat → FrC) (mode_h0 : Int32) (levels_h0 : Int32) (signs_h0 : Int32) (loops_h0 : Int32) (token_h0 : Int32) (fault_h0 : Int32) (kind_t : Int32) (place_t : Int32) (width_t : Int32) (second_t : Int32) (parts_t : Int32) (innerParts_t : Int32) (innerPlace_t : Int32) (innerWidth_t : Int32) (signs_t : Int32) (waitingBelow_t : Int32) (limited_t : Int32) (targets_t : Int32) (lastBlock_t : Int32) (ocf_p : Nat → FrC) (ret : Int32) (o_lim : Int32) (h : F_Rd_limitNearestCall fn fd fcf mode_h0 levels_h0 signs_h0 loops_h0 token_h0 fault_h0 kind_t place_t width_t second_t parts_t innerParts_t innerPlace_t innerWidth_t signs_t waitingBelow_t limited_t targets_t lastBlock_t = some (ocf_p, ret, o_lim)) : Ct l D (gT cI cB cJ cS) y_Rd_limitNearestCall prog_6_method_57_code 2 (Option.some Jvm.ClassFile.FieldType.boolean) 0 0 0 0 [.ref h0] ((h0, .inr (2, [.ref a_scanner_h0, .ref a_draft_h0, .ref a_waiting_h0, .ref a_functions_h0, .ref (fad 0), .ref (fad fd), .ref a_text_h0, .int mode_h0, .int levels_h0, .int signs_h0, .int loops_h0, .int token_h0, .int fault_h0])) :: ((fad fd), .inr (0, [(frB fad fd), (frA fad fn fd), .int kind_t, .int place_t, .int width_t, .int second_t, .int parts_t, .int innerParts_t, .int innerPlace_t, .int innerWidth_t, .int signs_t, .int waitingBelow_t, .int limited_t, .int targets_t, .int lastBlock_t])) :: fpo fad fn fd fcf) (fun v w => v = some (.int ret) ∧ zb ret ∧ w = ((h0, .inr (2, [.ref a_scanner_h0, .ref a_draft_h0, .ref a_waiting_h0, .ref a_functions_h0, .ref (fad 0), .ref (fad fd), .ref a_text_h0, .int mode_h0, .int levels_h0, .int signs_h0, .int loops_h0, .int token_h0, .int fault_h0])) :: ((fad fd), .inr (0, [(frB fad fd), (frA fad fn fd), .int kind_t, .int place_t, .int width_t, .int second_t, .int parts_t, .int innerParts_t, .int innerPlace_t, .int innerWidth_t, .int signs_t, .int waitingBelow_t, .int o_lim, .int targets_t, .int lastBlock_t])) :: fpo fad fn fd ocf_p)) := by
  refine Ct.mk (by decide) (Nat.le_of_ble_eq_true rfl) ?_
  intro p e s m below meth c hr hnm
  refine j_norm (pc' := 0) (lv' := [(0, .ref h0)]) (st' := []) (ws' := ((h0, .inr (2, [.ref a_scanner_h0, .ref a_draft_h0, .ref a_waiting_h0, .ref a_functions_h0, .ref (fad 0), .ref (fad fd), .ref a_text_h0, .int mode_h0, .int levels_h0, .int signs_h0, .int loops_h0, .int token_h0, .int fault_h0])) :: ((fad fd), .inr (0, [(frB fad fd), (frA fad fn fd), .int kind_t, .int place_t, .int width_t, .int second_t, .int parts_t, .int innerParts_t, .int innerPlace_t, .int innerWidth_t, .int signs_t, .int waitingBelow_t, .int limited_t, .int targets_t, .int lastBlock_t])) :: fpo fad fn fd fcf)) (cl' := 0) (sl' := 0) rfl rfl rfl rfl rfl rfl ?_
  unfold F_Rd_limitNearestCall at h
  replace h := grd_s h
  obtain ⟨hgd, h⟩ := h
  refine j_aload_n d_Rd_limitNearestCall_0 rfl 0 rfl ?_
  refine j_get ig_Rd rfl 0 rfl 5 (by decide) rfl m_174 rfl d_Rd_limitNearestCall_1 ?_
  refine j_astore_n (lv' := [(1, .ref (fad fd)), (0, .ref h0)]) d_Rd_limitNearestCall_4 rfl (by decide) rfl ?_
  refine j_perm (ws' := ((h0, .inr (2, [.ref a_scanner_h0, .ref a_draft_h0, .ref a_waiting_h0, .ref a_functions_h0, .ref (fad 0), .ref (fad fd), .ref a_text_h0, .int mode_h0, .int levels_h0, .int signs_h0, .int loops_h0, .int token_h0, .int fault_h0])) :: (fad fd, .inr (0, frv fad fn fd ((va_up fcf fd (kind_t, place_t, width_t, second_t, parts_t, innerParts_t, innerPlace_t, innerWidth_t, signs_t, waitingBelow_t, limited_t, targets_t, lastBlock_t)) fd))) :: fpo fad fn fd (va_up fcf fd (kind_t, place_t, width_t, second_t, parts_t, innerParts_t, innerPlace_t, innerWidth_t, signs_t, waitingBelow_t, limited_t, targets_t, lastBlock_t)))) (List.Perm.cons _ (fp_lim (c := (kind_t, place_t, width_t, second_t, parts_t, innerParts_t, innerPlace_t, innerWidth_t, signs_t, waitingBelow_t, limited_t, targets_t, lastBlock_t)))) ?_
  refine j_norm (pc' := 5) (st' := []) rfl rfl rfl rfl rfl rfl ?_
  refine L_Rd_limit l D cI cB cJ cS h0 fad a_scanner_h0 a_draft_h0 a_waiting_h0 a_functions_h0 a_text_h0 fn fd fcf mode_h0 levels_h0 signs_h0 loops_h0 token_h0 fault_h0 kind_t place_t width_t second_t parts_t innerParts_t innerPlace_t innerWidth_t signs_t waitingBelow_t limited_t targets_t lastBlock_t _ _ p e s m below meth c hr hgd fd hgd _ (fun r9 cf9 h1 h2 => ?_)
  rw [h1] at h
  replace h := Option.some.inj h
  have h5 := congrArg (fun z => z.1) h
  have h6 := congrArg (fun z => z.2.1) h
  have h7 := congrArg (fun z => z.2.2) h
  dsimp only at h5 h6 h7
  clear h
  subst h5
  subst h6
  subst h7
  refine ⟨rfl, h2, ?_⟩
  have h3 : cf9 fd = slim (kind_t, place_t, width_t, second_t, parts_t, innerParts_t, innerPlace_t, innerWidth_t, signs_t, waitingBelow_t, limited_t, targets_t, lastBlock_t) ((cf9 fd).2.2.2.2.2.2.2.2.2.2.1) := by
    have h4 := limG_same (va_up fcf fd (kind_t, place_t, width_t, second_t, parts_t, innerParts_t, innerPlace_t, innerWidth_t, signs_t, waitingBelow_t, limited_t, targets_t, lastBlock_t)) fd fd
    rw [h1, va_up_self] at h4
    exact h4
  generalize (cf9 fd).2.2.2.2.2.2.2.2.2.2.1 = o9 at h3 ⊢
  rw [h3]
theorem d_Rd_draft_0 : decode prog_6_method_2_code 0 = .ok (.aload_n 0, 1) := by decide +kernel
theorem d_Rd_draft_1 : decode prog_6_method_2_code 1 = .ok (.getfield 23, 3) := by decide +kernel
theorem d_Rd_draft_4 : decode prog_6_method_2_code 4 = .ok (.areturn, 1) := by decide +kernel
set_option maxHeartbeats 4000000 in
set_option maxRecDepth 100000 in
theorem c_Rd_draft (l : Launch) (D : va_G) (cI cB cJ cS : ClassId) (h0 : Nat) (a_scanner_h0 : Nat) (a_draft_h0 : Nat) (a_waiting_h0 : Nat) (a_functions_h0 : Nat) (a_bottom_h0 : Nat) (a_top_h0 : Nat) (a_text_h0 : Nat) (mode_h0 : Int32) (levels_h0 : Int32) (signs_h0 : Int32) (loops_h0 : Int32) (token_h0 : Int32) (fault_h0 : Int32) : Ct l D (gT cI cB cJ cS) y_Rd_draft prog_6_method_2_code 1 (Option.some (Jvm.ClassFile.FieldType.object "EquationText$Nodes")) 0 0 0 0 [.ref h0] [(h0, .inr (2, [.ref a_scanner_h0, .ref a_draft_h0, .ref a_waiting_h0, .ref a_functions_h0, .ref a_bottom_h0, .ref a_top_h0, .ref a_text_h0, .int mode_h0, .int levels_h0, .int signs_h0, .int loops_h0, .int token_h0, .int fault_h0]))] (fun v w => v = some (.ref a_draft_h0) ∧ w = [(h0, .inr (2, [.ref a_scanner_h0, .ref a_draft_h0, .ref a_waiting_h0, .ref a_functions_h0, .ref a_bottom_h0, .ref a_top_h0, .ref a_text_h0, .int mode_h0, .int levels_h0, .int signs_h0, .int loops_h0, .int token_h0, .int fault_h0]))]) := by
  refine Ct.mk (by decide) (Nat.le_of_ble_eq_true rfl) ?_
  intro p e s m below meth c hr hnm
  refine j_norm (pc' := 0) (lv' := [(0, .ref h0)]) (st' := []) (ws' := [(h0, .inr (2, [.ref a_scanner_h0, .ref a_draft_h0, .ref a_waiting_h0, .ref a_functions_h0, .ref a_bottom_h0, .ref a_top_h0, .ref a_text_h0, .int mode_h0, .int levels_h0, .int signs_h0, .int loops_h0, .int token_h0, .int fault_h0]))]) (cl' := 0) (sl' := 0) rfl rfl rfl rfl rfl rfl ?_
  refine j_aload_n d_Rd_draft_0 rfl 0 rfl ?_
  refine j_get ig_Rd rfl 0 rfl 1 (by decide) rfl m_170 rfl d_Rd_draft_1 ?_
  exact j_aret (w := [(h0, .inr (2, [.ref a_scanner_h0, .ref a_draft_h0, .ref a_waiting_h0, .ref a_functions_h0, .ref a_bottom_h0, .ref a_top_h0, .ref a_text_h0, .int mode_h0, .int levels_h0, .int signs_h0, .int loops_h0, .int token_h0, .int fault_h0]))]) hr (by first | exact Or.inl ⟨_, rfl⟩ | exact Or.inr ⟨_, rfl⟩) (by first | exact Or.inl rfl | exact Or.inr ⟨_, rfl⟩) d_Rd_draft_4 [0] rfl (by decide) ⟨rfl, rfl⟩
theorem d_Rd_fault_0 : decode prog_6_method_3_code 0 = .ok (.aload_n 0, 1) := by decide +kernel
theorem d_Rd_fault_1 : decode prog_6_method_3_code 1 = .ok (.getfield 72, 3) := by decide +kernel
theorem d_Rd_fault_4 : decode prog_6_method_3_code 4 = .ok (.ireturn, 1) := by decide +kernel
set_option maxHeartbeats 4000000 in
set_option maxRecDepth 100000 in
theorem c_Rd_fault (l : Launch) (D : va_G) (cI cB cJ cS : ClassId) (h0 : Nat) (a_scanner_h0 : Nat) (a_draft_h0 : Nat) (a_waiting_h0 : Nat) (a_functions_h0 : Nat) (a_bottom_h0 : Nat) (a_top_h0 : Nat) (a_text_h0 : Nat) (mode_h0 : Int32) (levels_h0 : Int32) (signs_h0 : Int32) (loops_h0 : Int32) (token_h0 : Int32) (fault_h0 : Int32) : Ct l D (gT cI cB cJ cS) y_Rd_fault prog_6_method_3_code 1 (Option.some Jvm.ClassFile.FieldType.int) 0 0 0 0 [.ref h0] [(h0, .inr (2, [.ref a_scanner_h0, .ref a_draft_h0, .ref a_waiting_h0, .ref a_functions_h0, .ref a_bottom_h0, .ref a_top_h0, .ref a_text_h0, .int mode_h0, .int levels_h0, .int signs_h0, .int loops_h0, .int token_h0, .int fault_h0]))] (fun v w => v = some (.int fault_h0) ∧ w = [(h0, .inr (2, [.ref a_scanner_h0, .ref a_draft_h0, .ref a_waiting_h0, .ref a_functions_h0, .ref a_bottom_h0, .ref a_top_h0, .ref a_text_h0, .int mode_h0, .int levels_h0, .int signs_h0, .int loops_h0, .int token_h0, .int fault_h0]))]) := by
  refine Ct.mk (by decide) (Nat.le_of_ble_eq_true rfl) ?_
  intro p e s m below meth c hr hnm
  refine j_norm (pc' := 0) (lv' := [(0, .ref h0)]) (st' := []) (ws' := [(h0, .inr (2, [.ref a_scanner_h0, .ref a_draft_h0, .ref a_waiting_h0, .ref a_functions_h0, .ref a_bottom_h0, .ref a_top_h0, .ref a_text_h0, .int mode_h0, .int levels_h0, .int signs_h0, .int loops_h0, .int token_h0, .int fault_h0]))]) (cl' := 0) (sl' := 0) rfl rfl rfl rfl rfl rfl ?_
  refine j_aload_n d_Rd_fault_0 rfl 0 rfl ?_
  refine j_get ig_Rd rfl 0 rfl 12 (by decide) rfl m_181 rfl d_Rd_fault_1 ?_
  exact j_iret (w := [(h0, .inr (2, [.ref a_scanner_h0, .ref a_draft_h0, .ref a_waiting_h0, .ref a_functions_h0, .ref a_bottom_h0, .ref a_top_h0, .ref a_text_h0, .int mode_h0, .int levels_h0, .int signs_h0, .int loops_h0, .int token_h0, .int fault_h0]))]) hr d_Rd_fault_4 [0] rfl (by decide) ⟨rfl, rfl⟩
def F_Rd_begin (fn : Nat) (fd : Nat) (fcf : Nat → FrC) (mode_h0 : Int32) (levels_h0 : Int32) (signs_h0 : Int32) (loops_h0 : Int32) (token_h0 : Int32) (fault_h0 : Int32) (kind_t : Int32) (place_t : Int32) (width_t : Int32) (second_t : Int32) (parts_t : Int32) (innerParts_t : Int32) (innerPlace_t : Int32) (innerWidth_t : Int32) (signs_t : Int32) (waitingBelow_t : Int32) (limited_t : Int32) (targets_t : Int32) (lastBlock_t : Int32) (next_a_scanner_h0 : Int32) (kind_a_scanner_h0 : Int32) (start_a_scanner_h0 : Int32) (width_a_scanner_h0 : Int32) (count_a_draft_h0 : Int32) (count_a_waiting_h0 : Int32) (count_a_functions_h0 : Int32) : Option (Nat × Nat × (Nat → FrC)) :=
  grd (fd < fn) (some (fn, 0, (va_up fcf fd (kind_t, place_t, width_t, second_t, parts_t, innerParts_t, innerPlace_t, innerWidth_t, signs_t, waitingBelow_t, limited_t, targets_t, lastBlock_t))))
theorem d_Rd_begin_0 : decode prog_6_method_5_code 0 = .ok (.aload_n 0, 1) := by decide +kernel
theorem d_Rd_begin_1 : decode prog_6_method_5_code 1 = .ok (.aload_n 1, 1) := by decide +kernel
theorem d_Rd_begin_2 : decode prog_6_method_5_code 2 = .ok (.putfield 52, 3) := by decide +kernel
theorem d_Rd_begin_5 : decode prog_6_method_5_code 5 = .ok (.aload_n 0, 1) := by decide +kernel
theorem d_Rd_begin_6 : decode prog_6_method_5_code 6 = .ok (.getfield 14, 3) := by decide +kernel
theorem d_Rd_begin_9 : decode prog_6_method_5_code 9 = .ok (.aload_n 1, 1) := by decide +kernel
theorem d_Rd_begin_10 : decode prog_6_method_5_code 10 = .ok (.invokevirtual 116, 3) := by decide +kernel
theorem d_Rd_begin_13 : decode prog_6_method_5_code 13 = .ok (.aload_n 0, 1) := by decide +kernel
theorem d_Rd_begin_14 : decode prog_6_method_5_code 14 = .ok (.getfield 23, 3) := by decide +kernel
theorem d_Rd_begin_17 : decode prog_6_method_5_code 17 = .ok (.invokevirtual 117, 3) := by decide +kernel
theorem d_Rd_begin_20 : decode prog_6_method_5_code 20 = .ok (.aload_n 0, 1) := by decide +kernel
theorem d_Rd_begin_21 : decode prog_6_method_5_code 21 = .ok (.getfield 30, 3) := by decide +kernel
theorem d_Rd_begin_24 : decode prog_6_method_5_code 24 = .ok (.invokevirtual 120, 3) := by decide +kernel
theorem d_Rd_begin_27 : decode prog_6_method_5_code 27 = .ok (.aload_n 0, 1) := by decide +kernel
theorem d_Rd_begin_28 : decode prog_6_method_5_code 28 = .ok (.getfield 34, 3) := by decide +kernel
theorem d_Rd_begin_31 : decode prog_6_method_5_code 31 = .ok (.invokevirtual 120, 3) := by decide +kernel
theorem d_Rd_begin_34 : decode prog_6_method_5_code 34 = .ok (.aload_n 0, 1) := by decide +kernel
theorem d_Rd_begin_35 : decode prog_6_method_5_code 35 = .ok (.aload_n 0, 1) := by decide +kernel
theorem d_Rd_begin_36 : decode prog_6_method_5_code 36 = .ok (.getfield 42, 3) := by decide +kernel
theorem d_Rd_begin_39 : decode prog_6_method_5_code 39 = .ok (.putfield 46, 3) := by decide +kernel
theorem d_Rd_begin_42 : decode prog_6_method_5_code 42 = .ok (.aload_n 0, 1) := by decide +kernel
theorem d_Rd_begin_43 : decode prog_6_method_5_code 43 = .ok (.getfield 46, 3) := by decide +kernel
theorem d_Rd_begin_46 : decode prog_6_method_5_code 46 = .ok (.iconst 0, 1) := by decide +kernel
theorem d_Rd_begin_47 : decode prog_6_method_5_code 47 = .ok (.iconst 0, 1) := by decide +kernel
theorem d_Rd_begin_48 : decode prog_6_method_5_code 48 = .ok (.iconst 0, 1) := by decide +kernel
theorem d_Rd_begin_49 : decode prog_6_method_5_code 49 = .ok (.invokevirtual 121, 3) := by decide +kernel
theorem d_Rd_begin_52 : decode prog_6_method_5_code 52 = .ok (.aload_n 0, 1) := by decide +kernel
theorem d_Rd_begin_53 : decode prog_6_method_5_code 53 = .ok (.iconst 0, 1) := by decide +kernel
theorem d_Rd_begin_54 : decode prog_6_method_5_code 54 = .ok (.putfield 56, 3) := by decide +kernel
theorem d_Rd_begin_57 : decode prog_6_method_5_code 57 = .ok (.aload_n 0, 1) := by decide +kernel
theorem d_Rd_begin_58 : decode prog_6_method_5_code 58 = .ok (.iconst 0, 1) := by decide +kernel
theorem d_Rd_begin_59 : decode prog_6_method_5_code 59 = .ok (.putfield 60, 3) := by decide +kernel
theorem d_Rd_begin_62 : decode prog_6_method_5_code 62 = .ok (.aload_n 0, 1) := by decide +kernel
theorem d_Rd_begin_63 : decode prog_6_method_5_code 63 = .ok (.iconst 0, 1) := by decide +kernel
theorem d_Rd_begin_64 : decode prog_6_method_5_code 64 = .ok (.putfield 63, 3) := by decide +kernel
theorem d_Rd_begin_67 : decode prog_6_method_5_code 67 = .ok (.aload_n 0, 1) := by decide +kernel
theorem d_Rd_begin_68 : decode prog_6_method_5_code 68 = .ok (.iconst 0, 1) := by decide +kernel
theorem d_Rd_begin_69 : decode prog_6_method_5_code 69 = .ok (.putfield 66, 3) := by decide +kernel
theorem d_Rd_begin_72 : decode prog_6_method_5_code 72 = .ok (.aload_n 0, 1) := by decide +kernel
theorem d_Rd_begin_73 : decode prog_6_method_5_code 73 = .ok (.iconst (-1), 1) := by decide +kernel
theorem d_Rd_begin_74 : decode prog_6_method_5_code 74 = .ok (.putfield 72, 3) := by decide +kernel
theorem d_Rd_begin_77 : decode prog_6_method_5_code 77 = .ok (.return_, 1) := by decide +kernel
set_option maxHeartbeats 4000000 in
set_option maxRecDepth 100000 in
theorem c_Rd_begin (l : Launch) (D : va_G) (cI cB cJ cS : ClassId) (h0 : Nat) (g1 : Nat) (fad : Nat → Nat) (a_scanner_h0 : Nat) (a_draft_h0 : Nat) (a_waiting_h0 : Nat) (a_functions_h0 : Nat) (a_text_h0 : Nat) (a_text_a_scanner_h0 : Nat) (a_cells_a_draft_h0 : Nat) (a_cells_a_waiting_h0 : Nat) (a_cells_a_functions_h0 : Nat) (fn : Nat) (fd : Nat) (fcf : Nat → FrC) (mode_h0 : Int32) (levels_h0 : Int32) (signs_h0 : Int32) (loops_h0 : Int32) (token_h0 : Int32) (fault_h0 : Int32) (kind_t : Int32) (place_t : Int32) (width_t : Int32) (second_t : Int32) (parts_t : Int32) (innerParts_t : Int32) (innerPlace_t : Int32) (innerWidth_t : Int32) (signs_t : Int32) (waitingBelow_t : Int32) (limited_t : Int32) (targets_t : Int32) (lastBlock_t : Int32) (next_a_scanner_h0 : Int32) (kind_a_scanner_h0 : Int32) (start_a_scanner_h0 : Int32) (width_a_scanner_h0 : Int32) (count_a_draft_h0 : Int32) (count_a_waiting_h0 : Int32) (count_a_functions_h0 : Int32) (on_p : Nat) (od_p : Nat) (ocf_p : Nat → FrC) (h : F_Rd_begin fn fd fcf mode_h0 levels_h0 signs_h0 loops_h0 token_h0 fault_h0 kind_t place_t width_t second_t parts_t innerParts_t innerPlace_t innerWidth_t signs_t waitingBelow_t limited_t targets_t lastBlock_t next_a_scanner_h0 kind_a_scanner_h0 start_a_scanner_h0 width_a_scanner_h0 count_a_draft_h0 count_a_waiting_h0 count_a_functions_h0 = some (on_p, od_p, ocf_p)) : Ct l D (gT cI cB cJ cS) y_Rd_begin prog_6_method_5_code 2 (Option.none : Option Jvm.ClassFile.FieldType) 1 23 0 0 [.ref h0, .ref g1] ((h0, .inr (2, [.ref a_scanner_h0, .ref a_draft_h0, .ref a_waiting_h0, .ref a_functions_h0, .ref (fad 0), .ref (fad fd), .ref a_text_h0, .int mode_h0, .int levels_h0, .int signs_h0, .int loops_h0, .int token_h0, .int fault_h0])) :: ((fad fd), .inr (0, [(frB fad fd), (frA fad fn fd), .int kind_t, .int place_t, .int width_t, .int second_t, .int parts_t, .int innerParts_t, .int innerPlace_t, .int innerWidth_t, .int signs_t, .int waitingBelow_t, .int limited_t, .int targets_t, .int lastBlock_t])) :: (a_scanner_h0, .inr (4, [.ref a_text_a_scanner_h0, .int next_a_scanner_h0, .int kind_a_scanner_h0, .int start_a_scanner_h0, .int width_a_scanner_h0])) :: (a_draft_h0, .inr (1, [.ref a_cells_a_draft_h0, .int count_a_draft_h0])) :: (a_waiting_h0, .inr (5, [.ref a_cells_a_waiting_h0, .int count_a_waiting_h0])) :: (a_functions_h0, .inr (5, [.ref a_cells_a_functions_h0, .int count_a_functions_h0])) :: fpo fad fn fd fcf) (fun v w => ∃ nad : Nat → Nat, v = none ∧ w = ((h0, .inr (2, [.ref a_scanner_h0, .ref a_draft_h0, .ref a_waiting_h0, .ref a_functions_h0, .ref (nad 0), .ref (nad od_p), .ref g1, .int 0, .int 0, .int 0, .int 0, .int token_h0, .int (-1)])) :: ((nad od_p), .inr (0, [(frB nad od_p), (frA nad on_p od_p), .int 0, .int 0, .int 0, .int (-1), .int 0, .int 0, .int 0, .int 0, .int 0, .int 0, .int 0, .int 0, .int 0])) :: (a_scanner_h0, .inr (4, [.ref g1, .int 0, .int kind_a_scanner_h0, .int start_a_scanner_h0, .int width_a_scanner_h0])) :: (a_draft_h0, .inr (1, [.ref a_cells_a_draft_h0, .int 0])) :: (a_waiting_h0, .inr (5, [.ref a_cells_a_waiting_h0, .int 0])) :: (a_functions_h0, .inr (5, [.ref a_cells_a_functions_h0, .int 0])) :: fpo nad on_p od_p ocf_p)) := by
  refine Ct.mk (by decide) (Nat.le_of_ble_eq_true rfl) ?_
  intro p e s m below meth c hr hnm
  refine j_norm (pc' := 0) (lv' := [(0, .ref h0), (1, .ref g1)]) (st' := []) (ws' := ((h0, .inr (2, [.ref a_scanner_h0, .ref a_draft_h0, .ref a_waiting_h0, .ref a_functions_h0, .ref (fad 0), .ref (fad fd), .ref a_text_h0, .int mode_h0, .int levels_h0, .int signs_h0, .int loops_h0, .int token_h0, .int fault_h0])) :: ((fad fd), .inr (0, [(frB fad fd), (frA fad fn fd), .int kind_t, .int place_t, .int width_t, .int second_t, .int parts_t, .int innerParts_t, .int innerPlace_t, .int innerWidth_t, .int signs_t, .int waitingBelow_t, .int limited_t, .int targets_t, .int lastBlock_t])) :: (a_scanner_h0, .inr (4, [.ref a_text_a_scanner_h0, .int next_a_scanner_h0, .int kind_a_scanner_h0, .int start_a_scanner_h0, .int width_a_scanner_h0])) :: (a_draft_h0, .inr (1, [.ref a_cells_a_draft_h0, .int count_a_draft_h0])) :: (a_waiting_h0, .inr (5, [.ref a_cells_a_waiting_h0, .int count_a_waiting_h0])) :: (a_functions_h0, .inr (5, [.ref a_cells_a_functions_h0, .int count_a_functions_h0])) :: fpo fad fn fd fcf)) (cl' := 0) (sl' := 0) rfl rfl rfl rfl rfl rfl ?_
  unfold F_Rd_begin at h
  refine j_aload_n d_Rd_begin_0 rfl 0 rfl ?_
  refine j_aload_n d_Rd_begin_1 rfl 1 rfl ?_
  refine j_put (ws' := ((h0, .inr (2, [.ref a_scanner_h0, .ref a_draft_h0, .ref a_waiting_h0, .ref a_functions_h0, .ref (fad 0), .ref (fad fd), .ref g1, .int mode_h0, .int levels_h0, .int signs_h0, .int loops_h0, .int token_h0, .int fault_h0])) :: ((fad fd), .inr (0, [(frB fad fd), (frA fad fn fd), .int kind_t, .int place_t, .int width_t, .int second_t, .int parts_t, .int innerParts_t, .int innerPlace_t, .int innerWidth_t, .int signs_t, .int waitingBelow_t, .int limited_t, .int targets_t, .int lastBlock_t])) :: (a_scanner_h0, .inr (4, [.ref a_text_a_scanner_h0, .int next_a_scanner_h0, .int kind_a_scanner_h0, .int start_a_scanner_h0, .int width_a_scanner_h0])) :: (a_draft_h0, .inr (1, [.ref a_cells_a_draft_h0, .int count_a_draft_h0])) :: (a_waiting_h0, .inr (5, [.ref a_cells_a_waiting_h0, .int count_a_waiting_h0])) :: (a_functions_h0, .inr (5, [.ref a_cells_a_functions_h0, .int count_a_functions_h0])) :: fpo fad fn fd fcf)) ig_Rd tk_Rd nm_Rd rfl 0 rfl 6 (by decide) rfl m_175 rfl (tk_Rd 6 (by decide)) rfl rfl (Nat.le_of_ble_eq_true rfl) d_Rd_begin_2 rfl ?_
  refine j_aload_n d_Rd_begin_5 rfl 0 rfl ?_
  refine j_get ig_Rd rfl 0 rfl 0 (by decide) rfl m_169 rfl d_Rd_begin_6 ?_
  refine j_aload_n d_Rd_begin_9 rfl 1 rfl ?_
  refine j_callVg (n := 1) (As := [.ref g1]) (rest := []) (wr := ([(h0, .inr (2, [.ref a_scanner_h0, .ref a_draft_h0, .ref a_waiting_h0, .ref a_functions_h0, .ref (fad 0), .ref (fad fd), .ref g1, .int mode_h0, .int levels_h0, .int signs_h0, .int loops_h0, .int token_h0, .int fault_h0])), ((fad fd), .inr (0, [(frB fad fd), (frA fad fn fd), .int kind_t, .int place_t, .int width_t, .int second_t, .int parts_t, .int innerParts_t, .int innerPlace_t, .int innerWidth_t, .int signs_t, .int waitingBelow_t, .int limited_t, .int targets_t, .int lastBlock_t])), (a_draft_h0, .inr (1, [.ref a_cells_a_draft_h0, .int count_a_draft_h0])), (a_waiting_h0, .inr (5, [.ref a_cells_a_waiting_h0, .int count_a_waiting_h0])), (a_functions_h0, .inr (5, [.ref a_cells_a_functions_h0, .int count_a_functions_h0]))] ++ fpo fad fn fd fcf)) (c_Sc_begin l D cI cB cJ cS a_scanner_h0 g1 a_text_a_scanner_h0 next_a_scanner_h0 kind_a_scanner_h0 start_a_scanner_h0 width_a_scanner_h0  ) k_Rd_116 (by decide) ⟨Nat.le_of_ble_eq_true rfl, Nat.le_of_ble_eq_true rfl⟩ rfl 0 rfl (pk_mid (wr := [(h0, .inr (2, [.ref a_scanner_h0, .ref a_draft_h0, .ref a_waiting_h0, .ref a_functions_h0, .ref (fad 0), .ref (fad fd), .ref g1, .int mode_h0, .int levels_h0, .int signs_h0, .int loops_h0, .int token_h0, .int fault_h0])), ((fad fd), .inr (0, [(frB fad fd), (frA fad fn fd), .int kind_t, .int place_t, .int width_t, .int second_t, .int parts_t, .int innerParts_t, .int innerPlace_t, .int innerWidth_t, .int signs_t, .int waitingBelow_t, .int limited_t, .int targets_t, .int lastBlock_t])), (a_draft_h0, .inr (1, [.ref a_cells_a_draft_h0, .int count_a_draft_h0])), (a_waiting_h0, .inr (5, [.ref a_cells_a_waiting_h0, .int count_a_waiting_h0])), (a_functions_h0, .inr (5, [.ref a_cells_a_functions_h0, .int count_a_functions_h0]))]) (w0 := [(a_scanner_h0, .inr (4, [.ref a_text_a_scanner_h0, .int next_a_scanner_h0, .int kind_a_scanner_h0, .int start_a_scanner_h0, .int width_a_scanner_h0]))]) (pl := fpo fad fn fd fcf) [0, 1, 3, 4, 5, 2] 6 rfl rfl (by decide)) rfl rfl (Nat.le_of_ble_eq_true rfl) d_Rd_begin_10 ⟨Nat.le_of_ble_eq_true rfl, Nat.le_of_ble_eq_true rfl⟩ (fun v w hq => ?_)
  obtain ⟨rfl, rfl⟩ := hq
  refine j_perm (ws' := ((h0, .inr (2, [.ref a_scanner_h0, .ref a_draft_h0, .ref a_waiting_h0, .ref a_functions_h0, .ref (fad 0), .ref (fad fd), .ref g1, .int mode_h0, .int levels_h0, .int signs_h0, .int loops_h0, .int token_h0, .int fault_h0])) :: ((fad fd), .inr (0, [(frB fad fd), (frA fad fn fd), .int kind_t, .int place_t, .int width_t, .int second_t, .int parts_t, .int innerParts_t, .int innerPlace_t, .int innerWidth_t, .int signs_t, .int waitingBelow_t, .int limited_t, .int targets_t, .int lastBlock_t])) :: (a_draft_h0, .inr (1, [.ref a_cells_a_draft_h0, .int count_a_draft_h0])) :: (a_waiting_h0, .inr (5, [.ref a_cells_a_waiting_h0, .int count_a_waiting_h0])) :: (a_functions_h0, .inr (5, [.ref a_cells_a_functions_h0, .int count_a_functions_h0])) :: (a_scanner_h0, .inr (4, [.ref g1, .int 0, .int kind_a_scanner_h0, .int start_a_scanner_h0, .int width_a_scanner_h0])) :: fpo fad fn fd fcf)) (pm_eq (a := [(h0, .inr (2, [.ref a_scanner_h0, .ref a_draft_h0, .ref a_waiting_h0, .ref a_functions_h0, .ref (fad 0), .ref (fad fd), .ref g1, .int mode_h0, .int levels_h0, .int signs_h0, .int loops_h0, .int token_h0, .int fault_h0])), ((fad fd), .inr (0, [(frB fad fd), (frA fad fn fd), .int kind_t, .int place_t, .int width_t, .int second_t, .int parts_t, .int innerParts_t, .int innerPlace_t, .int innerWidth_t, .int signs_t, .int waitingBelow_t, .int limited_t, .int targets_t, .int lastBlock_t])), (a_draft_h0, .inr (1, [.ref a_cells_a_draft_h0, .int count_a_draft_h0])), (a_waiting_h0, .inr (5, [.ref a_cells_a_waiting_h0, .int count_a_waiting_h0])), (a_functions_h0, .inr (5, [.ref a_cells_a_functions_h0, .int count_a_functions_h0]))]) (b := fpo fad fn fd fcf) (c := [(a_scanner_h0, .inr (4, [.ref g1, .int 0, .int kind_a_scanner_h0, .int start_a_scanner_h0, .int width_a_scanner_h0]))]) rfl) ?_
  refine j_norm (pc' := 13) (st' := []) (ws' := ((h0, .inr (2, [.ref a_scanner_h0, .ref a_draft_h0, .ref a_waiting_h0, .ref a_functions_h0, .ref (fad 0), .ref (fad fd), .ref g1, .int mode_h0, .int levels_h0, .int signs_h0, .int loops_h0, .int token_h0, .int fault_h0])) :: ((fad fd), .inr (0, [(frB fad fd), (frA fad fn fd), .int kind_t, .int place_t, .int width_t, .int second_t, .int parts_t, .int innerParts_t, .int innerPlace_t, .int innerWidth_t, .int signs_t, .int waitingBelow_t, .int limited_t, .int targets_t, .int lastBlock_t])) :: (a_draft_h0, .inr (1, [.ref a_cells_a_draft_h0, .int count_a_draft_h0])) :: (a_waiting_h0, .inr (5, [.ref a_cells_a_waiting_h0, .int count_a_waiting_h0])) :: (a_functions_h0, .inr (5, [.ref a_cells_a_functions_h0, .int count_a_functions_h0])) :: (a_scanner_h0, .inr (4, [.ref g1, .int 0, .int kind_a_scanner_h0, .int start_a_scanner_h0, .int width_a_scanner_h0])) :: fpo fad fn fd fcf)) (cl' := 0) (sl' := 0) rfl rfl rfl rfl rfl rfl ?_
  refine j_aload_n d_Rd_begin_13 rfl 0 rfl ?_
  refine j_get ig_Rd rfl 0 rfl 1 (by decide) rfl m_170 rfl d_Rd_begin_14 ?_
  refine j_callVg (n := 0) (As := []) (rest := []) (wr := ([(h0, .inr (2, [.ref a_scanner_h0, .ref a_draft_h0, .ref a_waiting_h0, .ref a_functions_h0, .ref (fad 0), .ref (fad fd), .ref g1, .int mode_h0, .int levels_h0, .int signs_h0, .int loops_h0, .int token_h0, .int fault_h0])), ((fad fd), .inr (0, [(frB fad fd), (frA fad fn fd), .int kind_t, .int place_t, .int width_t, .int second_t, .int parts_t, .int innerParts_t, .int innerPlace_t, .int innerWidth_t, .int signs_t, .int waitingBelow_t, .int limited_t, .int targets_t, .int lastBlock_t])), (a_waiting_h0, .inr (5, [.ref a_cells_a_waiting_h0, .int count_a_waiting_h0])), (a_functions_h0, .inr (5, [.ref a_cells_a_functions_h0, .int count_a_functions_h0])), (a_scanner_h0, .inr (4, [.ref g1, .int 0, .int kind_a_scanner_h0, .int start_a_scanner_h0, .int width_a_scanner_h0]))] ++ fpo fad fn fd fcf)) (c_Nd_clear l D cI cB cJ cS a_draft_h0 a_cells_a_draft_h0 count_a_draft_h0  ) k_Rd_117 (by decide) ⟨Nat.le_of_ble_eq_true rfl, Nat.le_of_ble_eq_true rfl⟩ rfl 0 rfl (pk_mid (wr := [(h0, .inr (2, [.ref a_scanner_h0, .ref a_draft_h0, .ref a_waiting_h0, .ref a_functions_h0, .ref (fad 0), .ref (fad fd), .ref g1, .int mode_h0, .int levels_h0, .int signs_h0, .int loops_h0, .int token_h0, .int fault_h0])), ((fad fd), .inr (0, [(frB fad fd), (frA fad fn fd), .int kind_t, .int place_t, .int width_t, .int second_t, .int parts_t, .int innerParts_t, .int innerPlace_t, .int innerWidth_t, .int signs_t, .int waitingBelow_t, .int limited_t, .int targets_t, .int lastBlock_t])), (a_waiting_h0, .inr (5, [.ref a_cells_a_waiting_h0, .int count_a_waiting_h0])), (a_functions_h0, .inr (5, [.ref a_cells_a_functions_h0, .int count_a_functions_h0])), (a_scanner_h0, .inr (4, [.ref g1, .int 0, .int kind_a_scanner_h0, .int start_a_scanner_h0, .int width_a_scanner_h0]))]) (w0 := [(a_draft_h0, .inr (1, [.ref a_cells_a_draft_h0, .int count_a_draft_h0]))]) (pl := fpo fad fn fd fcf) [0, 1, 3, 4, 5, 2] 6 rfl rfl (by decide)) rfl rfl (Nat.le_of_ble_eq_true rfl) d_Rd_begin_17 ⟨Nat.le_of_ble_eq_true rfl, Nat.le_of_ble_eq_true rfl⟩ (fun v w hq => ?_)
  obtain ⟨rfl, rfl⟩ := hq
  refine j_perm (ws' := ((h0, .inr (2, [.ref a_scanner_h0, .ref a_draft_h0, .ref a_waiting_h0, .ref a_functions_h0, .ref (fad 0), .ref (fad fd), .ref g1, .int mode_h0, .int levels_h0, .int signs_h0, .int loops_h0, .int token_h0, .int fault_h0])) :: ((fad fd), .inr (0, [(frB fad fd), (frA fad fn fd), .int kind_t, .int place_t, .int width_t, .int second_t, .int parts_t, .int innerParts_t, .int innerPlace_t, .int innerWidth_t, .int signs_t, .int waitingBelow_t, .int limited_t, .int targets_t, .int lastBlock_t])) :: (a_waiting_h0, .inr (5, [.ref a_cells_a_waiting_h0, .int count_a_waiting_h0])) :: (a_functions_h0, .inr (5, [.ref a_cells_a_functions_h0, .int count_a_functions_h0])) :: (a_scanner_h0, .inr (4, [.ref g1, .int 0, .int kind_a_scanner_h0, .int start_a_scanner_h0, .int width_a_scanner_h0])) :: (a_draft_h0, .inr (1, [.ref a_cells_a_draft_h0, .int 0])) :: fpo fad fn fd fcf)) (pm_eq (a := [(h0, .inr (2, [.ref a_scanner_h0, .ref a_draft_h0, .ref a_waiting_h0, .ref a_functions_h0, .ref (fad 0), .ref (fad fd), .ref g1, .int mode_h0, .int levels_h0, .int signs_h0, .int loops_h0, .int token_h0, .int fault_h0])), ((fad fd), .inr (0, [(frB fad fd), (frA fad fn fd), .int kind_t, .int place_t, .int width_t, .int second_t, .int parts_t, .int innerParts_t, .int innerPlace_t, .int innerWidth_t, .int signs_t, .int waitingBelow_t, .int limited_t, .int targets_t, .int lastBlock_t])), (a_waiting_h0, .inr (5, [.ref a_cells_a_waiting_h0, .int count_a_waiting_h0])), (a_functions_h0, .inr (5, [.ref a_cells_a_functions_h0, .int count_a_functions_h0])), (a_scanner_h0, .inr (4, [.ref g1, .int 0, .int kind_a_scanner_h0, .int start_a_scanner_h0, .int width_a_scanner_h0]))]) (b := fpo fad fn fd fcf) (c := [(a_draft_h0, .inr (1, [.ref a_cells_a_draft_h0, .int 0]))]) rfl) ?_
  refine j_norm (pc' := 20) (st' := []) (ws' := ((h0, .inr (2, [.ref a_scanner_h0, .ref a_draft_h0, .ref a_waiting_h0, .ref a_functions_h0, .ref (fad 0), .ref (fad fd), .ref g1, .int mode_h0, .int levels_h0, .int signs_h0, .int loops_h0, .int token_h0, .int fault_h0])) :: ((fad fd), .inr (0, [(frB fad fd), (frA fad fn fd), .int kind_t, .int place_t, .int width_t, .int second_t, .int parts_t, .int innerParts_t, .int innerPlace_t, .int innerWidth_t, .int signs_t, .int waitingBelow_t, .int limited_t, .int targets_t, .int lastBlock_t])) :: (a_waiting_h0, .inr (5, [.ref a_cells_a_waiting_h0, .int count_a_waiting_h0])) :: (a_functions_h0, .inr (5, [.ref a_cells_a_functions_h0, .int count_a_functions_h0])) :: (a_scanner_h0, .inr (4, [.ref g1, .int 0, .int kind_a_scanner_h0, .int start_a_scanner_h0, .int width_a_scanner_h0])) :: (a_draft_h0, .inr (1, [.ref a_cells_a_draft_h0, .int 0])) :: fpo fad fn fd fcf)) (cl' := 0) (sl' := 0) rfl rfl rfl rfl rfl rfl ?_
  refine j_aload_n d_Rd_begin_20 rfl 0 rfl ?_
  refine j_get ig_Rd rfl 0 rfl 2 (by decide) rfl m_171 rfl d_Rd_begin_21 ?_
  refine j_callVg (n := 0) (As := []) (rest := []) (wr := ([(h0, .inr (2, [.ref a_scanner_h0, .ref a_draft_h0, .ref a_waiting_h0, .ref a_functions_h0, .ref (fad 0), .ref (fad fd), .ref g1, .int mode_h0, .int levels_h0, .int signs_h0, .int loops_h0, .int token_h0, .int fault_h0])), ((fad fd), .inr (0, [(frB fad fd), (frA fad fn fd), .int kind_t, .int place_t, .int width_t, .int second_t, .int parts_t, .int innerParts_t, .int innerPlace_t, .int innerWidth_t, .int signs_t, .int waitingBelow_t, .int limited_t, .int targets_t, .int lastBlock_t])), (a_functions_h0, .inr (5, [.ref a_cells_a_functions_h0, .int count_a_functions_h0])), (a_scanner_h0, .inr (4, [.ref g1, .int 0, .int kind_a_scanner_h0, .int start_a_scanner_h0, .int width_a_scanner_h0])), (a_draft_h0, .inr (1, [.ref a_cells_a_draft_h0, .int 0]))] ++ fpo fad fn fd fcf)) (c_Tk_clear l D cI cB cJ cS a_waiting_h0 a_cells_a_waiting_h0 count_a_waiting_h0  ) k_Rd_120 (by decide) ⟨Nat.le_of_ble_eq_true rfl, Nat.le_of_ble_eq_true rfl⟩ rfl 0 rfl (pk_mid (wr := [(h0, .inr (2, [.ref a_scanner_h0, .ref a_draft_h0, .ref a_waiting_h0, .ref a_functions_h0, .ref (fad 0), .ref (fad fd), .ref g1, .int mode_h0, .int levels_h0, .int signs_h0, .int loops_h0, .int token_h0, .int fault_h0])), ((fad fd), .inr (0, [(frB fad fd), (frA fad fn fd), .int kind_t, .int place_t, .int width_t, .int second_t, .int parts_t, .int innerParts_t, .int innerPlace_t, .int innerWidth_t, .int signs_t, .int waitingBelow_t, .int limited_t, .int targets_t, .int lastBlock_t])), (a_functions_h0, .inr (5, [.ref a_cells_a_functions_h0, .int count_a_functions_h0])), (a_scanner_h0, .inr (4, [.ref g1, .int 0, .int kind_a_scanner_h0, .int start_a_scanner_h0, .int width_a_scanner_h0])), (a_draft_h0, .inr (1, [.ref a_cells_a_draft_h0, .int 0]))]) (w0 := [(a_waiting_h0, .inr (5, [.ref a_cells_a_waiting_h0, .int count_a_waiting_h0]))]) (pl := fpo fad fn fd fcf) [0, 1, 3, 4, 5, 2] 6 rfl rfl (by decide)) rfl rfl (Nat.le_of_ble_eq_true rfl) d_Rd_begin_24 ⟨Nat.le_of_ble_eq_true rfl, Nat.le_of_ble_eq_true rfl⟩ (fun v w hq => ?_)
  obtain ⟨rfl, rfl⟩ := hq
  refine j_perm (ws' := ((h0, .inr (2, [.ref a_scanner_h0, .ref a_draft_h0, .ref a_waiting_h0, .ref a_functions_h0, .ref (fad 0), .ref (fad fd), .ref g1, .int mode_h0, .int levels_h0, .int signs_h0, .int loops_h0, .int token_h0, .int fault_h0])) :: ((fad fd), .inr (0, [(frB fad fd), (frA fad fn fd), .int kind_t, .int place_t, .int width_t, .int second_t, .int parts_t, .int innerParts_t, .int innerPlace_t, .int innerWidth_t, .int signs_t, .int waitingBelow_t, .int limited_t, .int targets_t, .int lastBlock_t])) :: (a_functions_h0, .inr (5, [.ref a_cells_a_functions_h0, .int count_a_functions_h0])) :: (a_scanner_h0, .inr (4, [.ref g1, .int 0, .int kind_a_scanner_h0, .int start_a_scanner_h0, .int width_a_scanner_h0])) :: (a_draft_h0, .inr (1, [.ref a_cells_a_draft_h0, .int 0])) :: (a_waiting_h0, .inr (5, [.ref a_cells_a_waiting_h0, .int 0])) :: fpo fad fn fd fcf)) (pm_eq (a := [(h0, .inr (2, [.ref a_scanner_h0, .ref a_draft_h0, .ref a_waiting_h0, .ref a_functions_h0, .ref (fad 0), .ref (fad fd), .ref g1, .int mode_h0, .int levels_h0, .int signs_h0, .int loops_h0, .int token_h0, .int fault_h0])), ((fad fd), .inr (0, [(frB fad fd), (frA fad fn fd), .int kind_t, .int place_t, .int width_t, .int second_t, .int parts_t, .int innerParts_t, .int innerPlace_t, .int innerWidth_t, .int signs_t, .int waitingBelow_t, .int limited_t, .int targets_t, .int lastBlock_t])), (a_functions_h0, .inr (5, [.ref a_cells_a_functions_h0, .int count_a_functions_h0])), (a_scanner_h0, .inr (4, [.ref g1, .int 0, .int kind_a_scanner_h0, .int start_a_scanner_h0, .int width_a_scanner_h0])), (a_draft_h0, .inr (1, [.ref a_cells_a_draft_h0, .int 0]))]) (b := fpo fad fn fd fcf) (c := [(a_waiting_h0, .inr (5, [.ref a_cells_a_waiting_h0, .int 0]))]) rfl) ?_
  refine j_norm (pc' := 27) (st' := []) (ws' := ((h0, .inr (2, [.ref a_scanner_h0, .ref a_draft_h0, .ref a_waiting_h0, .ref a_functions_h0, .ref (fad 0), .ref (fad fd), .ref g1, .int mode_h0, .int levels_h0, .int signs_h0, .int loops_h0, .int token_h0, .int fault_h0])) :: ((fad fd), .inr (0, [(frB fad fd), (frA fad fn fd), .int kind_t, .int place_t, .int width_t, .int second_t, .int parts_t, .int innerParts_t, .int innerPlace_t, .int innerWidth_t, .int signs_t, .int waitingBelow_t, .int limited_t, .int targets_t, .int lastBlock_t])) :: (a_functions_h0, .inr (5, [.ref a_cells_a_functions_h0, .int count_a_functions_h0])) :: (a_scanner_h0, .inr (4, [.ref g1, .int 0, .int kind_a_scanner_h0, .int start_a_scanner_h0, .int width_a_scanner_h0])) :: (a_draft_h0, .inr (1, [.ref a_cells_a_draft_h0, .int 0])) :: (a_waiting_h0, .inr (5, [.ref a_cells_a_waiting_h0, .int 0])) :: fpo fad fn fd fcf)) (cl' := 0) (sl' := 0) rfl rfl rfl rfl rfl rfl ?_
  refine j_aload_n d_Rd_begin_27 rfl 0 rfl ?_
  refine j_get ig_Rd rfl 0 rfl 3 (by decide) rfl m_172 rfl d_Rd_begin_28 ?_
  refine j_callVg (n := 0) (As := []) (rest := []) (wr := ([(h0, .inr (2, [.ref a_scanner_h0, .ref a_draft_h0, .ref a_waiting_h0, .ref a_functions_h0, .ref (fad 0), .ref (fad fd), .ref g1, .int mode_h0, .int levels_h0, .int signs_h0, .int loops_h0, .int token_h0, .int fault_h0])), ((fad fd), .inr (0, [(frB fad fd), (frA fad fn fd), .int kind_t, .int place_t, .int width_t, .int second_t, .int parts_t, .int innerParts_t, .int innerPlace_t, .int innerWidth_t, .int signs_t, .int waitingBelow_t, .int limited_t, .int targets_t, .int lastBlock_t])), (a_scanner_h0, .inr (4, [.ref g1, .int 0, .int kind_a_scanner_h0, .int start_a_scanner_h0, .int width_a_scanner_h0])), (a_draft_h0, .inr (1, [.ref a_cells_a_draft_h0, .int 0])), (a_waiting_h0, .inr (5, [.ref a_cells_a_waiting_h0, .int 0]))] ++ fpo fad fn fd fcf)) (c_Tk_clear l D cI cB cJ cS a_functions_h0 a_cells_a_functions_h0 count_a_functions_h0  ) k_Rd_120 (by decide) ⟨Nat.le_of_ble_eq_true rfl, Nat.le_of_ble_eq_true rfl⟩ rfl 0 rfl (pk_mid (wr := [(h0, .inr (2, [.ref a_scanner_h0, .ref a_draft_h0, .ref a_waiting_h0, .ref a_functions_h0, .ref (fad 0), .ref (fad fd), .ref g1, .int mode_h0, .int levels_h0, .int signs_h0, .int loops_h0, .int token_h0, .int fault_h0])), ((fad fd), .inr (0, [(frB fad fd), (frA fad fn fd), .int kind_t, .int place_t, .int width_t, .int second_t, .int parts_t, .int innerParts_t, .int innerPlace_t, .int innerWidth_t, .int signs_t, .int waitingBelow_t, .int limited_t, .int targets_t, .int lastBlock_t])), (a_scanner_h0, .inr (4, [.ref g1, .int 0, .int kind_a_scanner_h0, .int start_a_scanner_h0, .int width_a_scanner_h0])), (a_draft_h0, .inr (1, [.ref a_cells_a_draft_h0, .int 0])), (a_waiting_h0, .inr (5, [.ref a_cells_a_waiting_h0, .int 0]))]) (w0 := [(a_functions_h0, .inr (5, [.ref a_cells_a_functions_h0, .int count_a_functions_h0]))]) (pl := fpo fad fn fd fcf) [0, 1, 3, 4, 5, 2] 6 rfl rfl (by decide)) rfl rfl (Nat.le_of_ble_eq_true rfl) d_Rd_begin_31 ⟨Nat.le_of_ble_eq_true rfl, Nat.le_of_ble_eq_true rfl⟩ (fun v w hq => ?_)
  obtain ⟨rfl, rfl⟩ := hq
  refine j_perm (ws' := ((h0, .inr (2, [.ref a_scanner_h0, .ref a_draft_h0, .ref a_waiting_h0, .ref a_functions_h0, .ref (fad 0), .ref (fad fd), .ref g1, .int mode_h0, .int levels_h0, .int signs_h0, .int loops_h0, .int token_h0, .int fault_h0])) :: ((fad fd), .inr (0, [(frB fad fd), (frA fad fn fd), .int kind_t, .int place_t, .int width_t, .int second_t, .int parts_t, .int innerParts_t, .int innerPlace_t, .int innerWidth_t, .int signs_t, .int waitingBelow_t, .int limited_t, .int targets_t, .int lastBlock_t])) :: (a_scanner_h0, .inr (4, [.ref g1, .int 0, .int kind_a_scanner_h0, .int start_a_scanner_h0, .int width_a_scanner_h0])) :: (a_draft_h0, .inr (1, [.ref a_cells_a_draft_h0, .int 0])) :: (a_waiting_h0, .inr (5, [.ref a_cells_a_waiting_h0, .int 0])) :: (a_functions_h0, .inr (5, [.ref a_cells_a_functions_h0, .int 0])) :: fpo fad fn fd fcf)) (pm_eq (a := [(h0, .inr (2, [.ref a_scanner_h0, .ref a_draft_h0, .ref a_waiting_h0, .ref a_functions_h0, .ref (fad 0), .ref (fad fd), .ref g1, .int mode_h0, .int levels_h0, .int signs_h0, .int loops_h0, .int token_h0, .int fault_h0])), ((fad fd), .inr (0, [(frB fad fd), (frA fad fn fd), .int kind_t, .int place_t, .int width_t, .int second_t, .int parts_t, .int innerParts_t, .int innerPlace_t, .int innerWidth_t, .int signs_t, .int waitingBelow_t, .int limited_t, .int targets_t, .int lastBlock_t])), (a_scanner_h0, .inr (4, [.ref g1, .int 0, .int kind_a_scanner_h0, .int start_a_scanner_h0, .int width_a_scanner_h0])), (a_draft_h0, .inr (1, [.ref a_cells_a_draft_h0, .int 0])), (a_waiting_h0, .inr (5, [.ref a_cells_a_waiting_h0, .int 0]))]) (b := fpo fad fn fd fcf) (c := [(a_functions_h0, .inr (5, [.ref a_cells_a_functions_h0, .int 0]))]) rfl) ?_
  refine j_norm (pc' := 34) (st' := []) (ws' := ((h0, .inr (2, [.ref a_scanner_h0, .ref a_draft_h0, .ref a_waiting_h0, .ref a_functions_h0, .ref (fad 0), .ref (fad fd), .ref g1, .int mode_h0, .int levels_h0, .int signs_h0, .int loops_h0, .int token_h0, .int fault_h0])) :: ((fad fd), .inr (0, [(frB fad fd), (frA fad fn fd), .int kind_t, .int place_t, .int width_t, .int second_t, .int parts_t, .int innerParts_t, .int innerPlace_t, .int innerWidth_t, .int signs_t, .int waitingBelow_t, .int limited_t, .int targets_t, .int lastBlock_t])) :: (a_scanner_h0, .inr (4, [.ref g1, .int 0, .int kind_a_scanner_h0, .int start_a_scanner_h0, .int width_a_scanner_h0])) :: (a_draft_h0, .inr (1, [.ref a_cells_a_draft_h0, .int 0])) :: (a_waiting_h0, .inr (5, [.ref a_cells_a_waiting_h0, .int 0])) :: (a_functions_h0, .inr (5, [.ref a_cells_a_functions_h0, .int 0])) :: fpo fad fn fd fcf)) (cl' := 0) (sl' := 0) rfl rfl rfl rfl rfl rfl ?_
  refine j_aload_n d_Rd_begin_34 rfl 0 rfl ?_
  refine j_aload_n d_Rd_begin_35 rfl 0 rfl ?_
  refine j_get ig_Rd rfl 0 rfl 4 (by decide) rfl m_173 rfl d_Rd_begin_36 ?_
  replace h := grd_s h
  obtain ⟨hgd, h⟩ := h
  refine j_put (ws' := ((h0, .inr (2, [.ref a_scanner_h0, .ref a_draft_h0, .ref a_waiting_h0, .ref a_functions_h0, .ref (fad 0), .ref (fad 0), .ref g1, .int mode_h0, .int levels_h0, .int signs_h0, .int loops_h0, .int token_h0, .int fault_h0])) :: ((fad fd), .inr (0, [(frB fad fd), (frA fad fn fd), .int kind_t, .int place_t, .int width_t, .int second_t, .int parts_t, .int innerParts_t, .int innerPlace_t, .int innerWidth_t, .int signs_t, .int waitingBelow_t, .int limited_t, .int targets_t, .int lastBlock_t])) :: (a_scanner_h0, .inr (4, [.ref g1, .int 0, .int kind_a_scanner_h0, .int start_a_scanner_h0, .int width_a_scanner_h0])) :: (a_draft_h0, .inr (1, [.ref a_cells_a_draft_h0, .int 0])) :: (a_waiting_h0, .inr (5, [.ref a_cells_a_waiting_h0, .int 0])) :: (a_functions_h0, .inr (5, [.ref a_cells_a_functions_h0, .int 0])) :: fpo fad fn fd fcf)) ig_Rd tk_Rd nm_Rd rfl 0 rfl 5 (by decide) rfl m_174 rfl (tk_Rd 5 (by decide)) rfl rfl (Nat.le_of_ble_eq_true rfl) d_Rd_begin_39 rfl ?_
  refine j_perm (ws' := ((h0, .inr (2, [.ref a_scanner_h0, .ref a_draft_h0, .ref a_waiting_h0, .ref a_functions_h0, .ref (fad 0), .ref (fad 0), .ref g1, .int mode_h0, .int levels_h0, .int signs_h0, .int loops_h0, .int token_h0, .int fault_h0])) :: (a_scanner_h0, .inr (4, [.ref g1, .int 0, .int kind_a_scanner_h0, .int start_a_scanner_h0, .int width_a_scanner_h0])) :: (a_draft_h0, .inr (1, [.ref a_cells_a_draft_h0, .int 0])) :: (a_waiting_h0, .inr (5, [.ref a_cells_a_waiting_h0, .int 0])) :: (a_functions_h0, .inr (5, [.ref a_cells_a_functions_h0, .int 0])) :: ((fad fd), .inr (0, [(frB fad fd), (frA fad fn fd), .int kind_t, .int place_t, .int width_t, .int second_t, .int parts_t, .int innerParts_t, .int innerPlace_t, .int innerWidth_t, .int signs_t, .int waitingBelow_t, .int limited_t, .int targets_t, .int lastBlock_t])) :: fpo fad fn fd fcf)) (pk_perm (w := [(h0, .inr (2, [.ref a_scanner_h0, .ref a_draft_h0, .ref a_waiting_h0, .ref a_functions_h0, .ref (fad 0), .ref (fad 0), .ref g1, .int mode_h0, .int levels_h0, .int signs_h0, .int loops_h0, .int token_h0, .int fault_h0])), (a_scanner_h0, .inr (4, [.ref g1, .int 0, .int kind_a_scanner_h0, .int start_a_scanner_h0, .int width_a_scanner_h0])), (a_draft_h0, .inr (1, [.ref a_cells_a_draft_h0, .int 0])), (a_waiting_h0, .inr (5, [.ref a_cells_a_waiting_h0, .int 0])), (a_functions_h0, .inr (5, [.ref a_cells_a_functions_h0, .int 0])), ((fad fd), .inr (0, [(frB fad fd), (frA fad fn fd), .int kind_t, .int place_t, .int width_t, .int second_t, .int parts_t, .int innerParts_t, .int innerPlace_t, .int innerWidth_t, .int signs_t, .int waitingBelow_t, .int limited_t, .int targets_t, .int lastBlock_t]))]) [0, 2, 3, 4, 5, 1] 6 rfl rfl (by decide)) ?_
  refine j_perm (ws' := ((h0, .inr (2, [.ref a_scanner_h0, .ref a_draft_h0, .ref a_waiting_h0, .ref a_functions_h0, .ref (fad 0), .ref (fad 0), .ref g1, .int mode_h0, .int levels_h0, .int signs_h0, .int loops_h0, .int token_h0, .int fault_h0])) :: (a_scanner_h0, .inr (4, [.ref g1, .int 0, .int kind_a_scanner_h0, .int start_a_scanner_h0, .int width_a_scanner_h0])) :: (a_draft_h0, .inr (1, [.ref a_cells_a_draft_h0, .int 0])) :: (a_waiting_h0, .inr (5, [.ref a_cells_a_waiting_h0, .int 0])) :: (a_functions_h0, .inr (5, [.ref a_cells_a_functions_h0, .int 0])) :: ((fad 0), .inr (0, [(frB fad 0), (frA fad fn 0), .int ((va_up fcf fd (kind_t, place_t, width_t, second_t, parts_t, innerParts_t, innerPlace_t, innerWidth_t, signs_t, waitingBelow_t, limited_t, targets_t, lastBlock_t) 0).1), .int ((va_up fcf fd (kind_t, place_t, width_t, second_t, parts_t, innerParts_t, innerPlace_t, innerWidth_t, signs_t, waitingBelow_t, limited_t, targets_t, lastBlock_t) 0).2.1), .int ((va_up fcf fd (kind_t, place_t, width_t, second_t, parts_t, innerParts_t, innerPlace_t, innerWidth_t, signs_t, waitingBelow_t, limited_t, targets_t, lastBlock_t) 0).2.2.1), .int ((va_up fcf fd (kind_t, place_t, width_t, second_t, parts_t, innerParts_t, innerPlace_t, innerWidth_t, signs_t, waitingBelow_t, limited_t, targets_t, lastBlock_t) 0).2.2.2.1), .int ((va_up fcf fd (kind_t, place_t, width_t, second_t, parts_t, innerParts_t, innerPlace_t, innerWidth_t, signs_t, waitingBelow_t, limited_t, targets_t, lastBlock_t) 0).2.2.2.2.1), .int ((va_up fcf fd (kind_t, place_t, width_t, second_t, parts_t, innerParts_t, innerPlace_t, innerWidth_t, signs_t, waitingBelow_t, limited_t, targets_t, lastBlock_t) 0).2.2.2.2.2.1), .int ((va_up fcf fd (kind_t, place_t, width_t, second_t, parts_t, innerParts_t, innerPlace_t, innerWidth_t, signs_t, waitingBelow_t, limited_t, targets_t, lastBlock_t) 0).2.2.2.2.2.2.1), .int ((va_up fcf fd (kind_t, place_t, width_t, second_t, parts_t, innerParts_t, innerPlace_t, innerWidth_t, signs_t, waitingBelow_t, limited_t, targets_t, lastBlock_t) 0).2.2.2.2.2.2.2.1), .int ((va_up fcf fd (kind_t, place_t, width_t, second_t, parts_t, innerParts_t, innerPlace_t, innerWidth_t, signs_t, waitingBelow_t, limited_t, targets_t, lastBlock_t) 0).2.2.2.2.2.2.2.2.1), .int ((va_up fcf fd (kind_t, place_t, width_t, second_t, parts_t, innerParts_t, innerPlace_t, innerWidth_t, signs_t, waitingBelow_t, limited_t, targets_t, lastBlock_t) 0).2.2.2.2.2.2.2.2.2.1), .int ((va_up fcf fd (kind_t, place_t, width_t, second_t, parts_t, innerParts_t, innerPlace_t, innerWidth_t, signs_t, waitingBelow_t, limited_t, targets_t, lastBlock_t) 0).2.2.2.2.2.2.2.2.2.2.1), .int ((va_up fcf fd (kind_t, place_t, width_t, second_t, parts_t, innerParts_t, innerPlace_t, innerWidth_t, signs_t, waitingBelow_t, limited_t, targets_t, lastBlock_t) 0).2.2.2.2.2.2.2.2.2.2.2.1), .int ((va_up fcf fd (kind_t, place_t, width_t, second_t, parts_t, innerParts_t, innerPlace_t, innerWidth_t, signs_t, waitingBelow_t, limited_t, targets_t, lastBlock_t) 0).2.2.2.2.2.2.2.2.2.2.2.2)])) :: fpo fad fn 0 (va_up fcf fd (kind_t, place_t, width_t, second_t, parts_t, innerParts_t, innerPlace_t, innerWidth_t, signs_t, waitingBelow_t, limited_t, targets_t, lastBlock_t)))) (List.Perm.cons _ (List.Perm.cons _ (List.Perm.cons _ (List.Perm.cons _ (List.Perm.cons _ (fp_refoc (c := (kind_t, place_t, width_t, second_t, parts_t, innerParts_t, innerPlace_t, innerWidth_t, signs_t, waitingBelow_t, limited_t, targets_t, lastBlock_t)) (x := (va_up fcf fd (kind_t, place_t, width_t, second_t, parts_t, innerParts_t, innerPlace_t, innerWidth_t, signs_t, waitingBelow_t, limited_t, targets_t, lastBlock_t) 0)) (show fd < fn by omega) (show 0 < fn by omega) rfl)))))) ?_
  refine j_aload_n d_Rd_begin_42 rfl 0 rfl ?_
  refine j_get ig_Rd rfl 0 rfl 5 (by decide) rfl m_174 rfl d_Rd_begin_43 ?_
  refine j_iconst (v := 0) d_Rd_begin_46 (by decide) ?_
  refine j_iconst (v := 0) d_Rd_begin_47 (by decide) ?_
  refine j_iconst (v := 0) d_Rd_begin_48 (by decide) ?_
  refine j_callVg (n := 3) (As := [.int 0, .int 0, .int 0]) (rest := []) (wr := ([(h0, .inr (2, [.ref a_scanner_h0, .ref a_draft_h0, .ref a_waiting_h0, .ref a_functions_h0, .ref (fad 0), .ref (fad 0), .ref g1, .int mode_h0, .int levels_h0, .int signs_h0, .int loops_h0, .int token_h0, .int fault_h0])), (a_scanner_h0, .inr (4, [.ref g1, .int 0, .int kind_a_scanner_h0, .int start_a_scanner_h0, .int width_a_scanner_h0])), (a_draft_h0, .inr (1, [.ref a_cells_a_draft_h0, .int 0])), (a_waiting_h0, .inr (5, [.ref a_cells_a_waiting_h0, .int 0])), (a_functions_h0, .inr (5, [.ref a_cells_a_functions_h0, .int 0]))] ++ fpo fad fn 0 (va_up fcf fd (kind_t, place_t, width_t, second_t, parts_t, innerParts_t, innerPlace_t, innerWidth_t, signs_t, waitingBelow_t, limited_t, targets_t, lastBlock_t)))) (c_Fr_begin l D cI cB cJ cS (fad 0) (frB fad 0) (frA fad fn 0) 0 0 0 ((va_up fcf fd (kind_t, place_t, width_t, second_t, parts_t, innerParts_t, innerPlace_t, innerWidth_t, signs_t, waitingBelow_t, limited_t, targets_t, lastBlock_t) 0).1) ((va_up fcf fd (kind_t, place_t, width_t, second_t, parts_t, innerParts_t, innerPlace_t, innerWidth_t, signs_t, waitingBelow_t, limited_t, targets_t, lastBlock_t) 0).2.1) ((va_up fcf fd (kind_t, place_t, width_t, second_t, parts_t, innerParts_t, innerPlace_t, innerWidth_t, signs_t, waitingBelow_t, limited_t, targets_t, lastBlock_t) 0).2.2.1) ((va_up fcf fd (kind_t, place_t, width_t, second_t, parts_t, innerParts_t, innerPlace_t, innerWidth_t, signs_t, waitingBelow_t, limited_t, targets_t, lastBlock_t) 0).2.2.2.1) ((va_up fcf fd (kind_t, place_t, width_t, second_t, parts_t, innerParts_t, innerPlace_t, innerWidth_t, signs_t, waitingBelow_t, limited_t, targets_t, lastBlock_t) 0).2.2.2.2.1) ((va_up fcf fd (kind_t, place_t, width_t, second_t, parts_t, innerParts_t, innerPlace_t, innerWidth_t, signs_t, waitingBelow_t, limited_t, targets_t, lastBlock_t) 0).2.2.2.2.2.1) ((va_up fcf fd (kind_t, place_t, width_t, second_t, parts_t, innerParts_t, innerPlace_t, innerWidth_t, signs_t, waitingBelow_t, limited_t, targets_t, lastBlock_t) 0).2.2.2.2.2.2.1) ((va_up fcf fd (kind_t, place_t, width_t, second_t, parts_t, innerParts_t, innerPlace_t, innerWidth_t, signs_t, waitingBelow_t, limited_t, targets_t, lastBlock_t) 0).2.2.2.2.2.2.2.1) ((va_up fcf fd (kind_t, place_t, width_t, second_t, parts_t, innerParts_t, innerPlace_t, innerWidth_t, signs_t, waitingBelow_t, limited_t, targets_t, lastBlock_t) 0).2.2.2.2.2.2.2.2.1) ((va_up fcf fd (kind_t, place_t, width_t, second_t, parts_t, innerParts_t, innerPlace_t, innerWidth_t, signs_t, waitingBelow_t, limited_t, targets_t, lastBlock_t) 0).2.2.2.2.2.2.2.2.2.1) ((va_up fcf fd (kind_t, place_t, width_t, second_t, parts_t, innerParts_t, innerPlace_t, innerWidth_t, signs_t, waitingBelow_t, limited_t, targets_t, lastBlock_t) 0).2.2.2.2.2.2.2.2.2.2.1) ((va_up fcf fd (kind_t, place_t, width_t, second_t, parts_t, innerParts_t, innerPlace_t, innerWidth_t, signs_t, waitingBelow_t, limited_t, targets_t, lastBlock_t) 0).2.2.2.2.2.2.2.2.2.2.2.1) ((va_up fcf fd (kind_t, place_t, width_t, second_t, parts_t, innerParts_t, innerPlace_t, innerWidth_t, signs_t, waitingBelow_t, limited_t, targets_t, lastBlock_t) 0).2.2.2.2.2.2.2.2.2.2.2.2)  ) k_Rd_121 (by decide) ⟨Nat.le_of_ble_eq_true rfl, Nat.le_of_ble_eq_true rfl⟩ rfl 0 rfl (pk_mid (wr := [(h0, .inr (2, [.ref a_scanner_h0, .ref a_draft_h0, .ref a_waiting_h0, .ref a_functions_h0, .ref (fad 0), .ref (fad 0), .ref g1, .int mode_h0, .int levels_h0, .int signs_h0, .int loops_h0, .int token_h0, .int fault_h0])), (a_scanner_h0, .inr (4, [.ref g1, .int 0, .int kind_a_scanner_h0, .int start_a_scanner_h0, .int width_a_scanner_h0])), (a_draft_h0, .inr (1, [.ref a_cells_a_draft_h0, .int 0])), (a_waiting_h0, .inr (5, [.ref a_cells_a_waiting_h0, .int 0])), (a_functions_h0, .inr (5, [.ref a_cells_a_functions_h0, .int 0]))]) (w0 := [((fad 0), .inr (0, [(frB fad 0), (frA fad fn 0), .int ((va_up fcf fd (kind_t, place_t, width_t, second_t, parts_t, innerParts_t, innerPlace_t, innerWidth_t, signs_t, waitingBelow_t, limited_t, targets_t, lastBlock_t) 0).1), .int ((va_up fcf fd (kind_t, place_t, width_t, second_t, parts_t, innerParts_t, innerPlace_t, innerWidth_t, signs_t, waitingBelow_t, limited_t, targets_t, lastBlock_t) 0).2.1), .int ((va_up fcf fd (kind_t, place_t, width_t, second_t, parts_t, innerParts_t, innerPlace_t, innerWidth_t, signs_t, waitingBelow_t, limited_t, targets_t, lastBlock_t) 0).2.2.1), .int ((va_up fcf fd (kind_t, place_t, width_t, second_t, parts_t, innerParts_t, innerPlace_t, innerWidth_t, signs_t, waitingBelow_t, limited_t, targets_t, lastBlock_t) 0).2.2.2.1), .int ((va_up fcf fd (kind_t, place_t, width_t, second_t, parts_t, innerParts_t, innerPlace_t, innerWidth_t, signs_t, waitingBelow_t, limited_t, targets_t, lastBlock_t) 0).2.2.2.2.1), .int ((va_up fcf fd (kind_t, place_t, width_t, second_t, parts_t, innerParts_t, innerPlace_t, innerWidth_t, signs_t, waitingBelow_t, limited_t, targets_t, lastBlock_t) 0).2.2.2.2.2.1), .int ((va_up fcf fd (kind_t, place_t, width_t, second_t, parts_t, innerParts_t, innerPlace_t, innerWidth_t, signs_t, waitingBelow_t, limited_t, targets_t, lastBlock_t) 0).2.2.2.2.2.2.1), .int ((va_up fcf fd (kind_t, place_t, width_t, second_t, parts_t, innerParts_t, innerPlace_t, innerWidth_t, signs_t, waitingBelow_t, limited_t, targets_t, lastBlock_t) 0).2.2.2.2.2.2.2.1), .int ((va_up fcf fd (kind_t, place_t, width_t, second_t, parts_t, innerParts_t, innerPlace_t, innerWidth_t, signs_t, waitingBelow_t, limited_t, targets_t, lastBlock_t) 0).2.2.2.2.2.2.2.2.1), .int ((va_up fcf fd (kind_t, place_t, width_t, second_t, parts_t, innerParts_t, innerPlace_t, innerWidth_t, signs_t, waitingBelow_t, limited_t, targets_t, lastBlock_t) 0).2.2.2.2.2.2.2.2.2.1), .int ((va_up fcf fd (kind_t, place_t, width_t, second_t, parts_t, innerParts_t, innerPlace_t, innerWidth_t, signs_t, waitingBelow_t, limited_t, targets_t, lastBlock_t) 0).2.2.2.2.2.2.2.2.2.2.1), .int ((va_up fcf fd (kind_t, place_t, width_t, second_t, parts_t, innerParts_t, innerPlace_t, innerWidth_t, signs_t, waitingBelow_t, limited_t, targets_t, lastBlock_t) 0).2.2.2.2.2.2.2.2.2.2.2.1), .int ((va_up fcf fd (kind_t, place_t, width_t, second_t, parts_t, innerParts_t, innerPlace_t, innerWidth_t, signs_t, waitingBelow_t, limited_t, targets_t, lastBlock_t) 0).2.2.2.2.2.2.2.2.2.2.2.2)]))]) (pl := fpo fad fn 0 (va_up fcf fd (kind_t, place_t, width_t, second_t, parts_t, innerParts_t, innerPlace_t, innerWidth_t, signs_t, waitingBelow_t, limited_t, targets_t, lastBlock_t))) [0, 1, 2, 3, 4, 5] 6 rfl rfl (by decide)) rfl rfl (Nat.le_of_ble_eq_true rfl) d_Rd_begin_49 ⟨Nat.le_of_ble_eq_true rfl, Nat.le_of_ble_eq_true rfl⟩ (fun v w hq => ?_)
  obtain ⟨rfl, rfl⟩ := hq
  refine j_perm (ws' := ((h0, .inr (2, [.ref a_scanner_h0, .ref a_draft_h0, .ref a_waiting_h0, .ref a_functions_h0, .ref (fad 0), .ref (fad 0), .ref g1, .int mode_h0, .int levels_h0, .int signs_h0, .int loops_h0, .int token_h0, .int fault_h0])) :: (a_scanner_h0, .inr (4, [.ref g1, .int 0, .int kind_a_scanner_h0, .int start_a_scanner_h0, .int width_a_scanner_h0])) :: (a_draft_h0, .inr (1, [.ref a_cells_a_draft_h0, .int 0])) :: (a_waiting_h0, .inr (5, [.ref a_cells_a_waiting_h0, .int 0])) :: (a_functions_h0, .inr (5, [.ref a_cells_a_functions_h0, .int 0])) :: ((fad 0), .inr (0, [(frB fad 0), (frA fad fn 0), .int 0, .int 0, .int 0, .int (-1), .int 0, .int 0, .int 0, .int 0, .int 0, .int 0, .int 0, .int 0, .int 0])) :: fpo fad fn 0 (va_up fcf fd (kind_t, place_t, width_t, second_t, parts_t, innerParts_t, innerPlace_t, innerWidth_t, signs_t, waitingBelow_t, limited_t, targets_t, lastBlock_t)))) (pm_eq (a := [(h0, .inr (2, [.ref a_scanner_h0, .ref a_draft_h0, .ref a_waiting_h0, .ref a_functions_h0, .ref (fad 0), .ref (fad 0), .ref g1, .int mode_h0, .int levels_h0, .int signs_h0, .int loops_h0, .int token_h0, .int fault_h0])), (a_scanner_h0, .inr (4, [.ref g1, .int 0, .int kind_a_scanner_h0, .int start_a_scanner_h0, .int width_a_scanner_h0])), (a_draft_h0, .inr (1, [.ref a_cells_a_draft_h0, .int 0])), (a_waiting_h0, .inr (5, [.ref a_cells_a_waiting_h0, .int 0])), (a_functions_h0, .inr (5, [.ref a_cells_a_functions_h0, .int 0]))]) (b := fpo fad fn 0 (va_up fcf fd (kind_t, place_t, width_t, second_t, parts_t, innerParts_t, innerPlace_t, innerWidth_t, signs_t, waitingBelow_t, limited_t, targets_t, lastBlock_t))) (c := [((fad 0), .inr (0, [(frB fad 0), (frA fad fn 0), .int 0, .int 0, .int 0, .int (-1), .int 0, .int 0, .int 0, .int 0, .int 0, .int 0, .int 0, .int 0, .int 0]))]) rfl) ?_
  refine j_norm (pc' := 52) (st' := []) (ws' := ((h0, .inr (2, [.ref a_scanner_h0, .ref a_draft_h0, .ref a_waiting_h0, .ref a_functions_h0, .ref (fad 0), .ref (fad 0), .ref g1, .int mode_h0, .int levels_h0, .int signs_h0, .int loops_h0, .int token_h0, .int fault_h0])) :: (a_scanner_h0, .inr (4, [.ref g1, .int 0, .int kind_a_scanner_h0, .int start_a_scanner_h0, .int width_a_scanner_h0])) :: (a_draft_h0, .inr (1, [.ref a_cells_a_draft_h0, .int 0])) :: (a_waiting_h0, .inr (5, [.ref a_cells_a_waiting_h0, .int 0])) :: (a_functions_h0, .inr (5, [.ref a_cells_a_functions_h0, .int 0])) :: ((fad 0), .inr (0, [(frB fad 0), (frA fad fn 0), .int 0, .int 0, .int 0, .int (-1), .int 0, .int 0, .int 0, .int 0, .int 0, .int 0, .int 0, .int 0, .int 0])) :: fpo fad fn 0 (va_up fcf fd (kind_t, place_t, width_t, second_t, parts_t, innerParts_t, innerPlace_t, innerWidth_t, signs_t, waitingBelow_t, limited_t, targets_t, lastBlock_t)))) (cl' := 0) (sl' := 0) rfl rfl rfl rfl rfl rfl ?_
  refine j_aload_n d_Rd_begin_52 rfl 0 rfl ?_
  refine j_iconst (v := 0) d_Rd_begin_53 (by decide) ?_
  refine j_put (ws' := ((h0, .inr (2, [.ref a_scanner_h0, .ref a_draft_h0, .ref a_waiting_h0, .ref a_functions_h0, .ref (fad 0), .ref (fad 0), .ref g1, .int 0, .int levels_h0, .int signs_h0, .int loops_h0, .int token_h0, .int fault_h0])) :: (a_scanner_h0, .inr (4, [.ref g1, .int 0, .int kind_a_scanner_h0, .int start_a_scanner_h0, .int width_a_scanner_h0])) :: (a_draft_h0, .inr (1, [.ref a_cells_a_draft_h0, .int 0])) :: (a_waiting_h0, .inr (5, [.ref a_cells_a_waiting_h0, .int 0])) :: (a_functions_h0, .inr (5, [.ref a_cells_a_functions_h0, .int 0])) :: ((fad 0), .inr (0, [(frB fad 0), (frA fad fn 0), .int 0, .int 0, .int 0, .int (-1), .int 0, .int 0, .int 0, .int 0, .int 0, .int 0, .int 0, .int 0, .int 0])) :: fpo fad fn 0 (va_up fcf fd (kind_t, place_t, width_t, second_t, parts_t, innerParts_t, innerPlace_t, innerWidth_t, signs_t, waitingBelow_t, limited_t, targets_t, lastBlock_t)))) ig_Rd tk_Rd nm_Rd rfl 0 rfl 7 (by decide) rfl m_176 rfl (tk_Rd 7 (by decide)) rfl rfl (Nat.le_of_ble_eq_true rfl) d_Rd_begin_54 rfl ?_
  refine j_aload_n d_Rd_begin_57 rfl 0 rfl ?_
  refine j_iconst (v := 0) d_Rd_begin_58 (by decide) ?_
  refine j_put (ws' := ((h0, .inr (2, [.ref a_scanner_h0, .ref a_draft_h0, .ref a_waiting_h0, .ref a_functions_h0, .ref (fad 0), .ref (fad 0), .ref g1, .int 0, .int 0, .int signs_h0, .int loops_h0, .int token_h0, .int fault_h0])) :: (a_scanner_h0, .inr (4, [.ref g1, .int 0, .int kind_a_scanner_h0, .int start_a_scanner_h0, .int width_a_scanner_h0])) :: (a_draft_h0, .inr (1, [.ref a_cells_a_draft_h0, .int 0])) :: (a_waiting_h0, .inr (5, [.ref a_cells_a_waiting_h0, .int 0])) :: (a_functions_h0, .inr (5, [.ref a_cells_a_functions_h0, .int 0])) :: ((fad 0), .inr (0, [(frB fad 0), (frA fad fn 0), .int 0, .int 0, .int 0, .int (-1), .int 0, .int 0, .int 0, .int 0, .int 0, .int 0, .int 0, .int 0, .int 0])) :: fpo fad fn 0 (va_up fcf fd (kind_t, place_t, width_t, second_t, parts_t, innerParts_t, innerPlace_t, innerWidth_t, signs_t, waitingBelow_t, limited_t, targets_t, lastBlock_t)))) ig_Rd tk_Rd nm_Rd rfl 0 rfl 8 (by decide) rfl m_177 rfl (tk_Rd 8 (by decide)) rfl rfl (Nat.le_of_ble_eq_true rfl) d_Rd_begin_59 rfl ?_
  refine j_aload_n d_Rd_begin_62 rfl 0 rfl ?_
  refine j_iconst (v := 0) d_Rd_begin_63 (by decide) ?_
  refine j_put (ws' := ((h0, .inr (2, [.ref a_scanner_h0, .ref a_draft_h0, .ref a_waiting_h0, .ref a_functions_h0, .ref (fad 0), .ref (fad 0), .ref g1, .int 0, .int 0, .int 0, .int loops_h0, .int token_h0, .int fault_h0])) :: (a_scanner_h0, .inr (4, [.ref g1, .int 0, .int kind_a_scanner_h0, .int start_a_scanner_h0, .int width_a_scanner_h0])) :: (a_draft_h0, .inr (1, [.ref a_cells_a_draft_h0, .int 0])) :: (a_waiting_h0, .inr (5, [.ref a_cells_a_waiting_h0, .int 0])) :: (a_functions_h0, .inr (5, [.ref a_cells_a_functions_h0, .int 0])) :: ((fad 0), .inr (0, [(frB fad 0), (frA fad fn 0), .int 0, .int 0, .int 0, .int (-1), .int 0, .int 0, .int 0, .int 0, .int 0, .int 0, .int 0, .int 0, .int 0])) :: fpo fad fn 0 (va_up fcf fd (kind_t, place_t, width_t, second_t, parts_t, innerParts_t, innerPlace_t, innerWidth_t, signs_t, waitingBelow_t, limited_t, targets_t, lastBlock_t)))) ig_Rd tk_Rd nm_Rd rfl 0 rfl 9 (by decide) rfl m_178 rfl (tk_Rd 9 (by decide)) rfl rfl (Nat.le_of_ble_eq_true rfl) d_Rd_begin_64 rfl ?_
  refine j_aload_n d_Rd_begin_67 rfl 0 rfl ?_
  refine j_iconst (v := 0) d_Rd_begin_68 (by decide) ?_
  refine j_put (ws' := ((h0, .inr (2, [.ref a_scanner_h0, .ref a_draft_h0, .ref a_waiting_h0, .ref a_functions_h0, .ref (fad 0), .ref (fad 0), .ref g1, .int 0, .int 0, .int 0, .int 0, .int token_h0, .int fault_h0])) :: (a_scanner_h0, .inr (4, [.ref g1, .int 0, .int kind_a_scanner_h0, .int start_a_scanner_h0, .int width_a_scanner_h0])) :: (a_draft_h0, .inr (1, [.ref a_cells_a_draft_h0, .int 0])) :: (a_waiting_h0, .inr (5, [.ref a_cells_a_waiting_h0, .int 0])) :: (a_functions_h0, .inr (5, [.ref a_cells_a_functions_h0, .int 0])) :: ((fad 0), .inr (0, [(frB fad 0), (frA fad fn 0), .int 0, .int 0, .int 0, .int (-1), .int 0, .int 0, .int 0, .int 0, .int 0, .int 0, .int 0, .int 0, .int 0])) :: fpo fad fn 0 (va_up fcf fd (kind_t, place_t, width_t, second_t, parts_t, innerParts_t, innerPlace_t, innerWidth_t, signs_t, waitingBelow_t, limited_t, targets_t, lastBlock_t)))) ig_Rd tk_Rd nm_Rd rfl 0 rfl 10 (by decide) rfl m_179 rfl (tk_Rd 10 (by decide)) rfl rfl (Nat.le_of_ble_eq_true rfl) d_Rd_begin_69 rfl ?_
  refine j_aload_n d_Rd_begin_72 rfl 0 rfl ?_
  refine j_iconst (v := (-1)) d_Rd_begin_73 (by decide) ?_
  refine j_put (ws' := ((h0, .inr (2, [.ref a_scanner_h0, .ref a_draft_h0, .ref a_waiting_h0, .ref a_functions_h0, .ref (fad 0), .ref (fad 0), .ref g1, .int 0, .int 0, .int 0, .int 0, .int token_h0, .int (-1)])) :: (a_scanner_h0, .inr (4, [.ref g1, .int 0, .int kind_a_scanner_h0, .int start_a_scanner_h0, .int width_a_scanner_h0])) :: (a_draft_h0, .inr (1, [.ref a_cells_a_draft_h0, .int 0])) :: (a_waiting_h0, .inr (5, [.ref a_cells_a_waiting_h0, .int 0])) :: (a_functions_h0, .inr (5, [.ref a_cells_a_functions_h0, .int 0])) :: ((fad 0), .inr (0, [(frB fad 0), (frA fad fn 0), .int 0, .int 0, .int 0, .int (-1), .int 0, .int 0, .int 0, .int 0, .int 0, .int 0, .int 0, .int 0, .int 0])) :: fpo fad fn 0 (va_up fcf fd (kind_t, place_t, width_t, second_t, parts_t, innerParts_t, innerPlace_t, innerWidth_t, signs_t, waitingBelow_t, limited_t, targets_t, lastBlock_t)))) ig_Rd tk_Rd nm_Rd rfl 0 rfl 12 (by decide) rfl m_181 rfl (tk_Rd 12 (by decide)) rfl rfl (Nat.le_of_ble_eq_true rfl) d_Rd_begin_74 rfl ?_
  replace h := Option.some.inj h
  replace h := Prod.mk.inj h
  obtain ⟨h9, h⟩ := h
  subst h9
  replace h := Prod.mk.inj h
  obtain ⟨h9, h⟩ := h
  subst h9
  subst h
  refine j_subP (w := [(h0, .inr (2, [.ref a_scanner_h0, .ref a_draft_h0, .ref a_waiting_h0, .ref a_functions_h0, .ref (fad 0), .ref (fad 0), .ref g1, .int 0, .int 0, .int 0, .int 0, .int token_h0, .int (-1)])), ((fad 0), .inr (0, [(frB fad 0), (frA fad fn 0), .int 0, .int 0, .int 0, .int (-1), .int 0, .int 0, .int 0, .int 0, .int 0, .int 0, .int 0, .int 0, .int 0])), (a_scanner_h0, .inr (4, [.ref g1, .int 0, .int kind_a_scanner_h0, .int start_a_scanner_h0, .int width_a_scanner_h0])), (a_draft_h0, .inr (1, [.ref a_cells_a_draft_h0, .int 0])), (a_waiting_h0, .inr (5, [.ref a_cells_a_waiting_h0, .int 0])), (a_functions_h0, .inr (5, [.ref a_cells_a_functions_h0, .int 0]))]) (pl := fpo fad fn 0 (va_up fcf fd (kind_t, place_t, width_t, second_t, parts_t, innerParts_t, innerPlace_t, innerWidth_t, signs_t, waitingBelow_t, limited_t, targets_t, lastBlock_t))) (lv' := []) [0, 5, 1, 2, 3, 4] [] 6 rfl rfl (by decide) [] rfl ?_
  exact j_vretE hr d_Rd_begin_77 ⟨fad, rfl, rfl⟩
theorem d_Rd_goOn_0 : decode prog_6_method_6_code 0 = .ok (.aload_n 0, 1) := by decide +kernel
theorem d_Rd_goOn_1 : decode prog_6_method_6_code 1 = .ok (.iload_n 1, 1) := by decide +kernel
theorem d_Rd_goOn_2 : decode prog_6_method_6_code 2 = .ok (.putfield 56, 3) := by decide +kernel
theorem d_Rd_goOn_5 : decode prog_6_method_6_code 5 = .ok (.iconst 1, 1) := by decide +kernel
theorem d_Rd_goOn_6 : decode prog_6_method_6_code 6 = .ok (.ireturn, 1) := by decide +kernel
set_option maxHeartbeats 4000000 in
set_option maxRecDepth 100000 in
theorem c_Rd_goOn (l : Launch) (D : va_G) (cI cB cJ cS : ClassId) (h0 : Nat) (a_scanner_h0 : Nat) (a_draft_h0 : Nat) (a_waiting_h0 : Nat) (a_functions_h0 : Nat) (a_bottom_h0 : Nat) (a_top_h0 : Nat) (a_text_h0 : Nat) (p1 : Int32) (mode_h0 : Int32) (levels_h0 : Int32) (signs_h0 : Int32) (loops_h0 : Int32) (token_h0 : Int32) (fault_h0 : Int32) : Ct l D (gT cI cB cJ cS) y_Rd_goOn prog_6_method_6_code 2 (Option.some Jvm.ClassFile.FieldType.boolean) 0 0 0 0 [.ref h0, .int p1] [(h0, .inr (2, [.ref a_scanner_h0, .ref a_draft_h0, .ref a_waiting_h0, .ref a_functions_h0, .ref a_bottom_h0, .ref a_top_h0, .ref a_text_h0, .int mode_h0, .int levels_h0, .int signs_h0, .int loops_h0, .int token_h0, .int fault_h0]))] (fun v w => v = some (.int 1) ∧ zb 1 ∧ w = [(h0, .inr (2, [.ref a_scanner_h0, .ref a_draft_h0, .ref a_waiting_h0, .ref a_functions_h0, .ref a_bottom_h0, .ref a_top_h0, .ref a_text_h0, .int p1, .int levels_h0, .int signs_h0, .int loops_h0, .int token_h0, .int fault_h0]))]) := by
  refine Ct.mk (by decide) (Nat.le_of_ble_eq_true rfl) ?_
  intro p e s m below meth c hr hnm
  refine j_norm (pc' := 0) (lv' := [(0, .ref h0), (1, .int p1)]) (st' := []) (ws' := [(h0, .inr (2, [.ref a_scanner_h0, .ref a_draft_h0, .ref a_waiting_h0, .ref a_functions_h0, .ref a_bottom_h0, .ref a_top_h0, .ref a_text_h0, .int mode_h0, .int levels_h0, .int signs_h0, .int loops_h0, .int token_h0, .int fault_h0]))]) (cl' := 0) (sl' := 0) rfl rfl rfl rfl rfl rfl ?_
  refine j_aload_n d_Rd_goOn_0 rfl 0 rfl ?_
  refine j_iload_n d_Rd_goOn_1 rfl 1 rfl ?_
  refine j_put (ws' := [(h0, .inr (2, [.ref a_scanner_h0, .ref a_draft_h0, .ref a_waiting_h0, .ref a_functions_h0, .ref a_bottom_h0, .ref a_top_h0, .ref a_text_h0, .int p1, .int levels_h0, .int signs_h0, .int loops_h0, .int token_h0, .int fault_h0]))]) ig_Rd tk_Rd nm_Rd rfl 0 rfl 7 (by decide) rfl m_176 rfl (tk_Rd 7 (by decide)) rfl rfl (Nat.le_of_ble_eq_true rfl) d_Rd_goOn_2 rfl ?_
  refine j_iconst (v := 1) d_Rd_goOn_5 (by decide) ?_
  exact j_zret (w := [(h0, .inr (2, [.ref a_scanner_h0, .ref a_draft_h0, .ref a_waiting_h0, .ref a_functions_h0, .ref a_bottom_h0, .ref a_top_h0, .ref a_text_h0, .int p1, .int levels_h0, .int signs_h0, .int loops_h0, .int token_h0, .int fault_h0]))]) hr (zb_n zb1) d_Rd_goOn_6 [0] rfl (by decide) ⟨rfl, zb1, rfl⟩
noncomputable def F_Rd_addName (p1 : Int32) (mode_h0 : Int32) (levels_h0 : Int32) (signs_h0 : Int32) (loops_h0 : Int32) (token_h0 : Int32) (fault_h0 : Int32) (next_a_scanner_h0 : Int32) (kind_a_scanner_h0 : Int32) (start_a_scanner_h0 : Int32) (width_a_scanner_h0 : Int32) (count_a_draft_h0 : Int32) (n_a_cells_a_draft_h0 : Nat) (b_a_cells_a_draft_h0 : Nat → Int32) : Option ((Int32 × Nat × (Nat → Int32)) × Nat × Nat) :=
  bw (F_Nd_addLeaf 32 start_a_scanner_h0 width_a_scanner_h0 count_a_draft_h0 n_a_cells_a_draft_h0 b_a_cells_a_draft_h0) fun ⟨r3, r4, r5⟩ =>
  (some ((r3, r4, r5), 0, 0))
theorem d_Rd_addName_0 : decode prog_6_method_7_code 0 = .ok (.aload_n 0, 1) := by decide +kernel
theorem d_Rd_addName_1 : decode prog_6_method_7_code 1 = .ok (.getfield 23, 3) := by decide +kernel
theorem d_Rd_addName_4 : decode prog_6_method_7_code 4 = .ok (.bipush 32, 2) := by decide +kernel
theorem d_Rd_addName_6 : decode prog_6_method_7_code 6 = .ok (.aload_n 0, 1) := by decide +kernel
theorem d_Rd_addName_7 : decode prog_6_method_7_code 7 = .ok (.getfield 14, 3) := by decide +kernel
theorem d_Rd_addName_10 : decode prog_6_method_7_code 10 = .ok (.invokevirtual 113, 3) := by decide +kernel
theorem d_Rd_addName_13 : decode prog_6_method_7_code 13 = .ok (.aload_n 0, 1) := by decide +kernel
theorem d_Rd_addName_14 : decode prog_6_method_7_code 14 = .ok (.getfield 14, 3) := by decide +kernel
theorem d_Rd_addName_17 : decode prog_6_method_7_code 17 = .ok (.invokevirtual 124, 3) := by decide +kernel
theorem d_Rd_addName_20 : decode prog_6_method_7_code 20 = .ok (.invokevirtual 127, 3) := by decide +kernel
theorem d_Rd_addName_23 : decode prog_6_method_7_code 23 = .ok (.aload_n 0, 1) := by decide +kernel
theorem d_Rd_addName_24 : decode prog_6_method_7_code 24 = .ok (.iload_n 1, 1) := by decide +kernel
theorem d_Rd_addName_25 : decode prog_6_method_7_code 25 = .ok (.invokevirtual 130, 3) := by decide +kernel
theorem d_Rd_addName_28 : decode prog_6_method_7_code 28 = .ok (.ireturn, 1) := by decide +kernel
set_option maxHeartbeats 4000000 in
set_option maxRecDepth 100000 in
theorem c_Rd_addName (l : Launch) (D : va_G) (cI cB cJ cS : ClassId) (h0 : Nat) (a_scanner_h0 : Nat) (a_draft_h0 : Nat) (a_waiting_h0 : Nat) (a_functions_h0 : Nat) (a_bottom_h0 : Nat) (a_top_h0 : Nat) (a_text_h0 : Nat) (a_text_a_scanner_h0 : Nat) (a_cells_a_draft_h0 : Nat) (p1 : Int32) (mode_h0 : Int32) (levels_h0 : Int32) (signs_h0 : Int32) (loops_h0 : Int32) (token_h0 : Int32) (fault_h0 : Int32) (next_a_scanner_h0 : Int32) (kind_a_scanner_h0 : Int32) (start_a_scanner_h0 : Int32) (width_a_scanner_h0 : Int32) (count_a_draft_h0 : Int32) (n_a_cells_a_draft_h0 : Nat) (b_a_cells_a_draft_h0 : Nat → Int32) (o_2_1 : Int32) (on_nq_2_0 : Nat) (ob_nq_2_0 : Nat → Int32) (mc ms : Nat) (h : F_Rd_addName p1 mode_h0 levels_h0 signs_h0 loops_h0 token_h0 fault_h0 next_a_scanner_h0 kind_a_scanner_h0 start_a_scanner_h0 width_a_scanner_h0 count_a_draft_h0 n_a_cells_a_draft_h0 b_a_cells_a_draft_h0 = some ((o_2_1, on_nq_2_0, ob_nq_2_0), mc, ms)) : Ct l D (gT cI cB cJ cS) y_Rd_addName prog_6_method_7_code 2 (Option.some Jvm.ClassFile.FieldType.boolean) 4 133 mc ms [.ref h0, .int p1] [(h0, .inr (2, [.ref a_scanner_h0, .ref a_draft_h0, .ref a_waiting_h0, .ref a_functions_h0, .ref a_bottom_h0, .ref a_top_h0, .ref a_text_h0, .int mode_h0, .int levels_h0, .int signs_h0, .int loops_h0, .int token_h0, .int fault_h0])), (a_scanner_h0, .inr (4, [.ref a_text_a_scanner_h0, .int next_a_scanner_h0, .int kind_a_scanner_h0, .int start_a_scanner_h0, .int width_a_scanner_h0])), (a_draft_h0, .inr (1, [.ref a_cells_a_draft_h0, .int count_a_draft_h0])), (a_cells_a_draft_h0, .inl (cI, n_a_cells_a_draft_h0, .inl b_a_cells_a_draft_h0))] (fun v w => ∃ nq_2_0 : Nat, v = some (.int 1) ∧ zb 1 ∧ w = [(h0, .inr (2, [.ref a_scanner_h0, .ref a_draft_h0, .ref a_waiting_h0, .ref a_functions_h0, .ref a_bottom_h0, .ref a_top_h0, .ref a_text_h0, .int p1, .int levels_h0, .int signs_h0, .int loops_h0, .int token_h0, .int fault_h0])), (a_scanner_h0, .inr (4, [.ref a_text_a_scanner_h0, .int next_a_scanner_h0, .int kind_a_scanner_h0, .int start_a_scanner_h0, .int width_a_scanner_h0])), (a_draft_h0, .inr (1, [.ref nq_2_0, .int o_2_1])), (nq_2_0, .inl (cI, on_nq_2_0, .inl ob_nq_2_0))]) := by
  refine Ct.mk (by decide) (Nat.le_of_ble_eq_true rfl) ?_
  intro p e s m below meth c hr hnm
  refine j_norm (pc' := 0) (lv' := [(0, .ref h0), (1, .int p1)]) (st' := []) (ws' := [(h0, .inr (2, [.ref a_scanner_h0, .ref a_draft_h0, .ref a_waiting_h0, .ref a_functions_h0, .ref a_bottom_h0, .ref a_top_h0, .ref a_text_h0, .int mode_h0, .int levels_h0, .int signs_h0, .int loops_h0, .int token_h0, .int fault_h0])), (a_scanner_h0, .inr (4, [.ref a_text_a_scanner_h0, .int next_a_scanner_h0, .int kind_a_scanner_h0, .int start_a_scanner_h0, .int width_a_scanner_h0])), (a_draft_h0, .inr (1, [.ref a_cells_a_draft_h0, .int count_a_draft_h0])), (a_cells_a_draft_h0, .inl (cI, n_a_cells_a_draft_h0, .inl b_a_cells_a_draft_h0))]) (cl' := 0) (sl' := 0) rfl rfl rfl rfl rfl rfl ?_
  unfold F_Rd_addName at h
  have hC : 0 + mc ≤ mc := by omega
  have hS : 0 + ms ≤ ms := by omega
  refine j_aload_n d_Rd_addName_0 rfl 0 rfl ?_
  refine j_get ig_Rd rfl 0 rfl 1 (by decide) rfl m_170 rfl d_Rd_addName_1 ?_
  refine j_bipush (v := 32) d_Rd_addName_4 (by decide) ?_
  refine j_aload_n d_Rd_addName_6 rfl 0 rfl ?_
  refine j_get ig_Rd rfl 0 rfl 0 (by decide) rfl m_169 rfl d_Rd_addName_7 ?_
  refine j_callV (n := 0) (As := []) (rest := [.int 32, .ref a_draft_h0]) (wr := [(h0, .inr (2, [.ref a_scanner_h0, .ref a_draft_h0, .ref a_waiting_h0, .ref a_functions_h0, .ref a_bottom_h0, .ref a_top_h0, .ref a_text_h0, .int mode_h0, .int levels_h0, .int signs_h0, .int loops_h0, .int token_h0, .int fault_h0])), (a_draft_h0, .inr (1, [.ref a_cells_a_draft_h0, .int count_a_draft_h0])), (a_cells_a_draft_h0, .inl (cI, n_a_cells_a_draft_h0, .inl b_a_cells_a_draft_h0))]) (c_Sc_start l D cI cB cJ cS a_scanner_h0 a_text_a_scanner_h0 next_a_scanner_h0 kind_a_scanner_h0 start_a_scanner_h0 width_a_scanner_h0  ) k_Rd_113 (by decide) ⟨Nat.le_of_ble_eq_true rfl, Nat.le_of_ble_eq_true rfl⟩ rfl 0 rfl [1] [0, 2, 3] rfl (by decide) rfl (by decide) (by decide) rfl rfl (Nat.le_of_ble_eq_true rfl) d_Rd_addName_10 ⟨show 0 + 0 ≤ mc by omega, show 0 + 0 ≤ ms by omega⟩ (fun v w hq => ?_)
  obtain ⟨rfl, rfl⟩ := hq
  refine j_norm (pc' := 13) (st' := [.int start_a_scanner_h0, .int 32, .ref a_draft_h0]) (ws' := [(h0, .inr (2, [.ref a_scanner_h0, .ref a_draft_h0, .ref a_waiting_h0, .ref a_functions_h0, .ref a_bottom_h0, .ref a_top_h0, .ref a_text_h0, .int mode_h0, .int levels_h0, .int signs_h0, .int loops_h0, .int token_h0, .int fault_h0])), (a_draft_h0, .inr (1, [.ref a_cells_a_draft_h0, .int count_a_draft_h0])), (a_cells_a_draft_h0, .inl (cI, n_a_cells_a_draft_h0, .inl b_a_cells_a_draft_h0)), (a_scanner_h0, .inr (4, [.ref a_text_a_scanner_h0, .int next_a_scanner_h0, .int kind_a_scanner_h0, .int start_a_scanner_h0, .int width_a_scanner_h0]))]) (cl' := 0) (sl' := 0) rfl rfl rfl rfl rfl rfl ?_
  refine j_aload_n d_Rd_addName_13 rfl 0 rfl ?_
  refine j_get ig_Rd rfl 0 rfl 0 (by decide) rfl m_169 rfl d_Rd_addName_14 ?_
  refine j_callV (n := 0) (As := []) (rest := [.int start_a_scanner_h0, .int 32, .ref a_draft_h0]) (wr := [(h0, .inr (2, [.ref a_scanner_h0, .ref a_draft_h0, .ref a_waiting_h0, .ref a_functions_h0, .ref a_bottom_h0, .ref a_top_h0, .ref a_text_h0, .int mode_h0, .int levels_h0, .int signs_h0, .int loops_h0, .int token_h0, .int fault_h0])), (a_draft_h0, .inr (1, [.ref a_cells_a_draft_h0, .int count_a_draft_h0])), (a_cells_a_draft_h0, .inl (cI, n_a_cells_a_draft_h0, .inl b_a_cells_a_draft_h0))]) (c_Sc_width l D cI cB cJ cS a_scanner_h0 a_text_a_scanner_h0 next_a_scanner_h0 kind_a_scanner_h0 start_a_scanner_h0 width_a_scanner_h0  ) k_Rd_124 (by decide) ⟨Nat.le_of_ble_eq_true rfl, Nat.le_of_ble_eq_true rfl⟩ rfl 0 rfl [3] [0, 1, 2] rfl (by decide) rfl (by decide) (by decide) rfl rfl (Nat.le_of_ble_eq_true rfl) d_Rd_addName_17 ⟨show 0 + 0 ≤ mc by omega, show 0 + 0 ≤ ms by omega⟩ (fun v w hq => ?_)
  obtain ⟨rfl, rfl⟩ := hq
  refine j_norm (pc' := 20) (st' := [.int width_a_scanner_h0, .int start_a_scanner_h0, .int 32, .ref a_draft_h0]) (ws' := [(h0, .inr (2, [.ref a_scanner_h0, .ref a_draft_h0, .ref a_waiting_h0, .ref a_functions_h0, .ref a_bottom_h0, .ref a_top_h0, .ref a_text_h0, .int mode_h0, .int levels_h0, .int signs_h0, .int loops_h0, .int token_h0, .int fault_h0])), (a_draft_h0, .inr (1, [.ref a_cells_a_draft_h0, .int count_a_draft_h0])), (a_cells_a_draft_h0, .inl (cI, n_a_cells_a_draft_h0, .inl b_a_cells_a_draft_h0)), (a_scanner_h0, .inr (4, [.ref a_text_a_scanner_h0, .int next_a_scanner_h0, .int kind_a_scanner_h0, .int start_a_scanner_h0, .int width_a_scanner_h0]))]) (cl' := 0) (sl' := 0) rfl rfl rfl rfl rfl rfl ?_
  replace h := bw_s h
  obtain ⟨⟨r3, r4, r5⟩, C7, S8, C9, S10, k11, h, e1, e2⟩ := h
  replace hC : 0 + C7 + C9 ≤ mc := by omega
  replace hS : 0 + S8 + S10 ≤ ms := by omega
  clear e1 e2
  refine j_callV (n := 3) (As := [.int 32, .int start_a_scanner_h0, .int width_a_scanner_h0]) (rest := []) (wr := [(h0, .inr (2, [.ref a_scanner_h0, .ref a_draft_h0, .ref a_waiting_h0, .ref a_functions_h0, .ref a_bottom_h0, .ref a_top_h0, .ref a_text_h0, .int mode_h0, .int levels_h0, .int signs_h0, .int loops_h0, .int token_h0, .int fault_h0])), (a_scanner_h0, .inr (4, [.ref a_text_a_scanner_h0, .int next_a_scanner_h0, .int kind_a_scanner_h0, .int start_a_scanner_h0, .int width_a_scanner_h0]))]) (c_Nd_addLeaf l D cI cB cJ cS a_draft_h0 a_cells_a_draft_h0 32 start_a_scanner_h0 width_a_scanner_h0 count_a_draft_h0 n_a_cells_a_draft_h0 b_a_cells_a_draft_h0  r3 r4 r5 C7 S8 k11) k_Rd_127 (by decide) ⟨Nat.le_of_ble_eq_true rfl, Nat.le_of_ble_eq_true rfl⟩ rfl 0 rfl [1, 2] [0, 3] rfl (by decide) rfl (by decide) (by decide) rfl rfl (Nat.le_of_ble_eq_true rfl) d_Rd_addName_20 ⟨show 0 + C7 ≤ mc by omega, show 0 + S8 ≤ ms by omega⟩ (fun v w hq => ?_)
  obtain ⟨q6, rfl, rfl⟩ := hq
  refine j_norm (pc' := 23) (st' := []) (ws' := [(h0, .inr (2, [.ref a_scanner_h0, .ref a_draft_h0, .ref a_waiting_h0, .ref a_functions_h0, .ref a_bottom_h0, .ref a_top_h0, .ref a_text_h0, .int mode_h0, .int levels_h0, .int signs_h0, .int loops_h0, .int token_h0, .int fault_h0])), (a_scanner_h0, .inr (4, [.ref a_text_a_scanner_h0, .int next_a_scanner_h0, .int kind_a_scanner_h0, .int start_a_scanner_h0, .int width_a_scanner_h0])), (a_draft_h0, .inr (1, [.ref q6, .int r3])), (q6, .inl (cI, r4, .inl r5))]) (cl' := 0 + C7) (sl' := 0 + S8) rfl rfl rfl rfl rfl rfl ?_
  refine j_aload_n d_Rd_addName_23 rfl 0 rfl ?_
  refine j_iload_n d_Rd_addName_24 rfl 1 rfl ?_
  refine j_callV (n := 1) (As := [.int p1]) (rest := []) (wr := [(a_scanner_h0, .inr (4, [.ref a_text_a_scanner_h0, .int next_a_scanner_h0, .int kind_a_scanner_h0, .int start_a_scanner_h0, .int width_a_scanner_h0])), (a_draft_h0, .inr (1, [.ref q6, .int r3])), (q6, .inl (cI, r4, .inl r5))]) (c_Rd_goOn l D cI cB cJ cS h0 a_scanner_h0 a_draft_h0 a_waiting_h0 a_functions_h0 a_bottom_h0 a_top_h0 a_text_h0 p1 mode_h0 levels_h0 signs_h0 loops_h0 token_h0 fault_h0  ) k_Rd_130 (by decide) ⟨Nat.le_of_ble_eq_true rfl, Nat.le_of_ble_eq_true rfl⟩ rfl 0 rfl [0] [1, 2, 3] rfl (by decide) rfl (by decide) (by decide) rfl rfl (Nat.le_of_ble_eq_true rfl) d_Rd_addName_25 ⟨show 0 + C7 + 0 ≤ mc by omega, show 0 + S8 + 0 ≤ ms by omega⟩ (fun v w hq => ?_)
  obtain ⟨rfl, _, rfl⟩ := hq
  refine j_norm (pc' := 28) (st' := [.int 1]) (ws' := [(a_scanner_h0, .inr (4, [.ref a_text_a_scanner_h0, .int next_a_scanner_h0, .int kind_a_scanner_h0, .int start_a_scanner_h0, .int width_a_scanner_h0])), (a_draft_h0, .inr (1, [.ref q6, .int r3])), (q6, .inl (cI, r4, .inl r5)), (h0, .inr (2, [.ref a_scanner_h0, .ref a_draft_h0, .ref a_waiting_h0, .ref a_functions_h0, .ref a_bottom_h0, .ref a_top_h0, .ref a_text_h0, .int p1, .int levels_h0, .int signs_h0, .int loops_h0, .int token_h0, .int fault_h0]))]) (cl' := 0 + C7) (sl' := 0 + S8) rfl rfl rfl rfl rfl rfl ?_
  replace h := lf_s h
  obtain ⟨h, e1, e2⟩ := h
  replace h := Prod.mk.inj h
  obtain ⟨h9, h⟩ := h
  subst h9
  replace h := Prod.mk.inj h
  obtain ⟨h9, h⟩ := h
  subst h9
  subst h
  refine j_widen (cl' := mc) (sl' := ms) (by omega) (by omega) ?_
  exact j_zret (w := [(h0, .inr (2, [.ref a_scanner_h0, .ref a_draft_h0, .ref a_waiting_h0, .ref a_functions_h0, .ref a_bottom_h0, .ref a_top_h0, .ref a_text_h0, .int p1, .int levels_h0, .int signs_h0, .int loops_h0, .int token_h0, .int fault_h0])), (a_scanner_h0, .inr (4, [.ref a_text_a_scanner_h0, .int next_a_scanner_h0, .int kind_a_scanner_h0, .int start_a_scanner_h0, .int width_a_scanner_h0])), (a_draft_h0, .inr (1, [.ref q6, .int r3])), (q6, .inl (cI, r4, .inl r5))]) hr (zb_n zb1) d_Rd_addName_28 [3, 0, 1, 2] rfl (by decide) ⟨q6, rfl, zb1, rfl⟩
noncomputable def F_Rd_push (p1 : Int32) (fn : Nat) (fd : Nat) (fcf : Nat → FrC) (mode_h0 : Int32) (levels_h0 : Int32) (signs_h0 : Int32) (loops_h0 : Int32) (token_h0 : Int32) (fault_h0 : Int32) (kind_t : Int32) (place_t : Int32) (width_t : Int32) (second_t : Int32) (parts_t : Int32) (innerParts_t : Int32) (innerPlace_t : Int32) (innerWidth_t : Int32) (signs_t : Int32) (waitingBelow_t : Int32) (limited_t : Int32) (targets_t : Int32) (lastBlock_t : Int32) (next_a_scanner_h0 : Int32) (kind_a_scanner_h0 : Int32) (start_a_scanner_h0 : Int32) (width_a_scanner_h0 : Int32) (count_a_waiting_h0 : Int32) : Option ((Nat × Nat × (Nat → FrC)) × Nat × Nat) :=
  if fd + 1 < fn then (grd (fd < fn) (some ((fn, fd + 1, (va_up fcf fd (kind_t, place_t, width_t, second_t, parts_t, innerParts_t, innerPlace_t, innerWidth_t, signs_t, waitingBelow_t, limited_t, targets_t, lastBlock_t))), 0, 0)))
  else (al 1 15 (grd (fd < fn) (some ((fn + 1, fd + 1, (va_up fcf fd (kind_t, place_t, width_t, second_t, parts_t, innerParts_t, innerPlace_t, innerWidth_t, signs_t, waitingBelow_t, limited_t, targets_t, lastBlock_t))), 0, 0))))
theorem d_Rd_push_0 : decode prog_6_method_8_code 0 = .ok (.aload_n 0, 1) := by decide +kernel
theorem d_Rd_push_1 : decode prog_6_method_8_code 1 = .ok (.getfield 46, 3) := by decide +kernel
theorem d_Rd_push_4 : decode prog_6_method_8_code 4 = .ok (.getfield 134, 3) := by decide +kernel
theorem d_Rd_push_7 : decode prog_6_method_8_code 7 = .ok (.ifnonnull 21, 3) := by decide +kernel
theorem d_Rd_push_10 : decode prog_6_method_8_code 10 = .ok (.aload_n 0, 1) := by decide +kernel
theorem d_Rd_push_11 : decode prog_6_method_8_code 11 = .ok (.getfield 46, 3) := by decide +kernel
theorem d_Rd_push_14 : decode prog_6_method_8_code 14 = .ok (.new 37, 3) := by decide +kernel
theorem d_Rd_push_17 : decode prog_6_method_8_code 17 = .ok (.dup, 1) := by decide +kernel
theorem d_Rd_push_18 : decode prog_6_method_8_code 18 = .ok (.aload_n 0, 1) := by decide +kernel
theorem d_Rd_push_19 : decode prog_6_method_8_code 19 = .ok (.getfield 46, 3) := by decide +kernel
theorem d_Rd_push_22 : decode prog_6_method_8_code 22 = .ok (.invokespecial 39, 3) := by decide +kernel
theorem d_Rd_push_25 : decode prog_6_method_8_code 25 = .ok (.putfield 134, 3) := by decide +kernel
theorem d_Rd_push_28 : decode prog_6_method_8_code 28 = .ok (.aload_n 0, 1) := by decide +kernel
theorem d_Rd_push_29 : decode prog_6_method_8_code 29 = .ok (.aload_n 0, 1) := by decide +kernel
theorem d_Rd_push_30 : decode prog_6_method_8_code 30 = .ok (.getfield 46, 3) := by decide +kernel
theorem d_Rd_push_33 : decode prog_6_method_8_code 33 = .ok (.getfield 134, 3) := by decide +kernel
theorem d_Rd_push_36 : decode prog_6_method_8_code 36 = .ok (.putfield 46, 3) := by decide +kernel
theorem d_Rd_push_39 : decode prog_6_method_8_code 39 = .ok (.aload_n 0, 1) := by decide +kernel
theorem d_Rd_push_40 : decode prog_6_method_8_code 40 = .ok (.getfield 46, 3) := by decide +kernel
theorem d_Rd_push_43 : decode prog_6_method_8_code 43 = .ok (.iload_n 1, 1) := by decide +kernel
theorem d_Rd_push_44 : decode prog_6_method_8_code 44 = .ok (.aload_n 0, 1) := by decide +kernel
theorem d_Rd_push_45 : decode prog_6_method_8_code 45 = .ok (.getfield 14, 3) := by decide +kernel
theorem d_Rd_push_48 : decode prog_6_method_8_code 48 = .ok (.invokevirtual 113, 3) := by decide +kernel
theorem d_Rd_push_51 : decode prog_6_method_8_code 51 = .ok (.aload_n 0, 1) := by decide +kernel
theorem d_Rd_push_52 : decode prog_6_method_8_code 52 = .ok (.getfield 14, 3) := by decide +kernel
theorem d_Rd_push_55 : decode prog_6_method_8_code 55 = .ok (.invokevirtual 124, 3) := by decide +kernel
theorem d_Rd_push_58 : decode prog_6_method_8_code 58 = .ok (.invokevirtual 121, 3) := by decide +kernel
theorem d_Rd_push_61 : decode prog_6_method_8_code 61 = .ok (.aload_n 0, 1) := by decide +kernel
theorem d_Rd_push_62 : decode prog_6_method_8_code 62 = .ok (.getfield 46, 3) := by decide +kernel
theorem d_Rd_push_65 : decode prog_6_method_8_code 65 = .ok (.aload_n 0, 1) := by decide +kernel
theorem d_Rd_push_66 : decode prog_6_method_8_code 66 = .ok (.getfield 30, 3) := by decide +kernel
theorem d_Rd_push_69 : decode prog_6_method_8_code 69 = .ok (.invokevirtual 137, 3) := by decide +kernel
theorem d_Rd_push_72 : decode prog_6_method_8_code 72 = .ok (.putfield 140, 3) := by decide +kernel
theorem d_Rd_push_75 : decode prog_6_method_8_code 75 = .ok (.aload_n 0, 1) := by decide +kernel
theorem d_Rd_push_76 : decode prog_6_method_8_code 76 = .ok (.getfield 46, 3) := by decide +kernel
theorem d_Rd_push_79 : decode prog_6_method_8_code 79 = .ok (.aload_n 0, 1) := by decide +kernel
theorem d_Rd_push_80 : decode prog_6_method_8_code 80 = .ok (.getfield 63, 3) := by decide +kernel
theorem d_Rd_push_83 : decode prog_6_method_8_code 83 = .ok (.putfield 143, 3) := by decide +kernel
theorem d_Rd_push_86 : decode prog_6_method_8_code 86 = .ok (.aload_n 0, 1) := by decide +kernel
theorem d_Rd_push_87 : decode prog_6_method_8_code 87 = .ok (.iconst 0, 1) := by decide +kernel
theorem d_Rd_push_88 : decode prog_6_method_8_code 88 = .ok (.putfield 63, 3) := by decide +kernel
theorem d_Rd_push_91 : decode prog_6_method_8_code 91 = .ok (.return_, 1) := by decide +kernel
set_option maxHeartbeats 4000000 in
set_option maxRecDepth 100000 in
theorem c_Rd_push (l : Launch) (D : va_G) (cI cB cJ cS : ClassId) (h0 : Nat) (fad : Nat → Nat) (a_scanner_h0 : Nat) (a_draft_h0 : Nat) (a_waiting_h0 : Nat) (a_functions_h0 : Nat) (a_text_h0 : Nat) (a_text_a_scanner_h0 : Nat) (a_cells_a_waiting_h0 : Nat) (p1 : Int32) (fn : Nat) (fd : Nat) (fcf : Nat → FrC) (mode_h0 : Int32) (levels_h0 : Int32) (signs_h0 : Int32) (loops_h0 : Int32) (token_h0 : Int32) (fault_h0 : Int32) (kind_t : Int32) (place_t : Int32) (width_t : Int32) (second_t : Int32) (parts_t : Int32) (innerParts_t : Int32) (innerPlace_t : Int32) (innerWidth_t : Int32) (signs_t : Int32) (waitingBelow_t : Int32) (limited_t : Int32) (targets_t : Int32) (lastBlock_t : Int32) (next_a_scanner_h0 : Int32) (kind_a_scanner_h0 : Int32) (start_a_scanner_h0 : Int32) (width_a_scanner_h0 : Int32) (count_a_waiting_h0 : Int32) (on_p : Nat) (od_p : Nat) (ocf_p : Nat → FrC) (mc ms : Nat) (h : F_Rd_push p1 fn fd fcf mode_h0 levels_h0 signs_h0 loops_h0 token_h0 fault_h0 kind_t place_t width_t second_t parts_t innerParts_t innerPlace_t innerWidth_t signs_t waitingBelow_t limited_t targets_t lastBlock_t next_a_scanner_h0 kind_a_scanner_h0 start_a_scanner_h0 width_a_scanner_h0 count_a_waiting_h0 = some ((on_p, od_p, ocf_p), mc, ms)) : Ct l D (gT cI cB cJ cS) y_Rd_push prog_6_method_8_code 2 (Option.none : Option Jvm.ClassFile.FieldType) 2 41 mc ms [.ref h0, .int p1] ((h0, .inr (2, [.ref a_scanner_h0, .ref a_draft_h0, .ref a_waiting_h0, .ref a_functions_h0, .ref (fad 0), .ref (fad fd), .ref a_text_h0, .int mode_h0, .int levels_h0, .int signs_h0, .int loops_h0, .int token_h0, .int fault_h0])) :: ((fad fd), .inr (0, [(frB fad fd), (frA fad fn fd), .int kind_t, .int place_t, .int width_t, .int second_t, .int parts_t, .int innerParts_t, .int innerPlace_t, .int innerWidth_t, .int signs_t, .int waitingBelow_t, .int limited_t, .int targets_t, .int lastBlock_t])) :: (a_scanner_h0, .inr (4, [.ref a_text_a_scanner_h0, .int next_a_scanner_h0, .int kind_a_scanner_h0, .int start_a_scanner_h0, .int width_a_scanner_h0])) :: (a_waiting_h0, .inr (5, [.ref a_cells_a_waiting_h0, .int count_a_waiting_h0])) :: fpo fad fn fd fcf) (fun v w => ∃ nad : Nat → Nat, v = none ∧ w = ((h0, .inr (2, [.ref a_scanner_h0, .ref a_draft_h0, .ref a_waiting_h0, .ref a_functions_h0, .ref (nad 0), .ref (nad od_p), .ref a_text_h0, .int mode_h0, .int levels_h0, .int 0, .int loops_h0, .int token_h0, .int fault_h0])) :: ((nad od_p), .inr (0, [(frB nad od_p), (frA nad on_p od_p), .int p1, .int start_a_scanner_h0, .int width_a_scanner_h0, .int (-1), .int 0, .int 0, .int start_a_scanner_h0, .int width_a_scanner_h0, .int signs_h0, .int count_a_waiting_h0, .int 0, .int 0, .int 0])) :: (a_scanner_h0, .inr (4, [.ref a_text_a_scanner_h0, .int next_a_scanner_h0, .int kind_a_scanner_h0, .int start_a_scanner_h0, .int width_a_scanner_h0])) :: (a_waiting_h0, .inr (5, [.ref a_cells_a_waiting_h0, .int count_a_waiting_h0])) :: fpo nad on_p od_p ocf_p)) := by
  refine Ct.mk (by decide) (Nat.le_of_ble_eq_true rfl) ?_
  intro p e s m below meth c hr hnm
  refine j_norm (pc' := 0) (lv' := [(0, .ref h0), (1, .int p1)]) (st' := []) (ws' := ((h0, .inr (2, [.ref a_scanner_h0, .ref a_draft_h0, .ref a_waiting_h0, .ref a_functions_h0, .ref (fad 0), .ref (fad fd), .ref a_text_h0, .int mode_h0, .int levels_h0, .int signs_h0, .int loops_h0, .int token_h0, .int fault_h0])) :: ((fad fd), .inr (0, [(frB fad fd), (frA fad fn fd), .int kind_t, .int place_t, .int width_t, .int second_t, .int parts_t, .int innerParts_t, .int innerPlace_t, .int innerWidth_t, .int signs_t, .int waitingBelow_t, .int limited_t, .int targets_t, .int lastBlock_t])) :: (a_scanner_h0, .inr (4, [.ref a_text_a_scanner_h0, .int next_a_scanner_h0, .int kind_a_scanner_h0, .int start_a_scanner_h0, .int width_a_scanner_h0])) :: (a_waiting_h0, .inr (5, [.ref a_cells_a_waiting_h0, .int count_a_waiting_h0])) :: fpo fad fn fd fcf)) (cl' := 0) (sl' := 0) rfl rfl rfl rfl rfl rfl ?_
  unfold F_Rd_push at h
  have hC : 0 + mc ≤ mc := by omega
  have hS : 0 + ms ≤ ms := by omega
  refine j_aload_n d_Rd_push_0 rfl 0 rfl ?_
  refine j_get ig_Rd rfl 0 rfl 5 (by decide) rfl m_174 rfl d_Rd_push_1 ?_
  refine j_get ig_Fr rfl 1 rfl 1 (by decide) rfl m_109 rfl d_Rd_push_4 ?_
  by_cases c1 : fd + 1 < fn
  · replace h := it_t c1 h
    refine j_norm (st' := [.ref (fad (fd + 1))]) (ws' := ((h0, .inr (2, [.ref a_scanner_h0, .ref a_draft_h0, .ref a_waiting_h0, .ref a_functions_h0, .ref (fad 0), .ref (fad fd), .ref a_text_h0, .int mode_h0, .int levels_h0, .int signs_h0, .int loops_h0, .int token_h0, .int fault_h0])) :: ((fad fd), .inr (0, [(frB fad fd), .ref (fad (fd + 1)), .int kind_t, .int place_t, .int width_t, .int second_t, .int parts_t, .int innerParts_t, .int innerPlace_t, .int innerWidth_t, .int signs_t, .int waitingBelow_t, .int limited_t, .int targets_t, .int lastBlock_t])) :: (a_scanner_h0, .inr (4, [.ref a_text_a_scanner_h0, .int next_a_scanner_h0, .int kind_a_scanner_h0, .int start_a_scanner_h0, .int width_a_scanner_h0])) :: (a_waiting_h0, .inr (5, [.ref a_cells_a_waiting_h0, .int count_a_waiting_h0])) :: fpo fad fn fd fcf)) rfl rfl (by rw [frA_t c1]) (by rw [frA_t c1]) rfl rfl ?_
    refine j_ifnonnull (tgt := 28) d_Rd_push_7 (by decide) ?_
    refine j_aload_n d_Rd_push_28 rfl 0 rfl ?_
    refine j_aload_n d_Rd_push_29 rfl 0 rfl ?_
    refine j_get ig_Rd rfl 0 rfl 5 (by decide) rfl m_174 rfl d_Rd_push_30 ?_
    refine j_get ig_Fr rfl 1 rfl 1 (by decide) rfl m_109 rfl d_Rd_push_33 ?_
    replace h := grd_s h
    obtain ⟨hgd, h⟩ := h
    refine j_put (ws' := ((h0, .inr (2, [.ref a_scanner_h0, .ref a_draft_h0, .ref a_waiting_h0, .ref a_functions_h0, .ref (fad 0), .ref (fad (fd + 1)), .ref a_text_h0, .int mode_h0, .int levels_h0, .int signs_h0, .int loops_h0, .int token_h0, .int fault_h0])) :: ((fad fd), .inr (0, [(frB fad fd), .ref (fad (fd + 1)), .int kind_t, .int place_t, .int width_t, .int second_t, .int parts_t, .int innerParts_t, .int innerPlace_t, .int innerWidth_t, .int signs_t, .int waitingBelow_t, .int limited_t, .int targets_t, .int lastBlock_t])) :: (a_scanner_h0, .inr (4, [.ref a_text_a_scanner_h0, .int next_a_scanner_h0, .int kind_a_scanner_h0, .int start_a_scanner_h0, .int width_a_scanner_h0])) :: (a_waiting_h0, .inr (5, [.ref a_cells_a_waiting_h0, .int count_a_waiting_h0])) :: fpo fad fn fd fcf)) ig_Rd tk_Rd nm_Rd rfl 0 rfl 5 (by decide) rfl m_174 rfl (tk_Rd 5 (by decide)) rfl rfl (Nat.le_of_ble_eq_true rfl) d_Rd_push_36 rfl ?_
    refine j_norm (ws' := ((h0, .inr (2, [.ref a_scanner_h0, .ref a_draft_h0, .ref a_waiting_h0, .ref a_functions_h0, .ref (fad 0), .ref (fad (fd + 1)), .ref a_text_h0, .int mode_h0, .int levels_h0, .int signs_h0, .int loops_h0, .int token_h0, .int fault_h0])) :: ((fad fd), .inr (0, [(frB fad fd), (frA fad fn fd), .int kind_t, .int place_t, .int width_t, .int second_t, .int parts_t, .int innerParts_t, .int innerPlace_t, .int innerWidth_t, .int signs_t, .int waitingBelow_t, .int limited_t, .int targets_t, .int lastBlock_t])) :: (a_scanner_h0, .inr (4, [.ref a_text_a_scanner_h0, .int next_a_scanner_h0, .int kind_a_scanner_h0, .int start_a_scanner_h0, .int width_a_scanner_h0])) :: (a_waiting_h0, .inr (5, [.ref a_cells_a_waiting_h0, .int count_a_waiting_h0])) :: fpo fad fn fd fcf)) rfl rfl rfl (by rw [frA_t c1]) rfl rfl ?_
    refine j_perm (ws' := ((h0, .inr (2, [.ref a_scanner_h0, .ref a_draft_h0, .ref a_waiting_h0, .ref a_functions_h0, .ref (fad 0), .ref (fad (fd + 1)), .ref a_text_h0, .int mode_h0, .int levels_h0, .int signs_h0, .int loops_h0, .int token_h0, .int fault_h0])) :: (a_scanner_h0, .inr (4, [.ref a_text_a_scanner_h0, .int next_a_scanner_h0, .int kind_a_scanner_h0, .int start_a_scanner_h0, .int width_a_scanner_h0])) :: (a_waiting_h0, .inr (5, [.ref a_cells_a_waiting_h0, .int count_a_waiting_h0])) :: ((fad fd), .inr (0, [(frB fad fd), (frA fad fn fd), .int kind_t, .int place_t, .int width_t, .int second_t, .int parts_t, .int innerParts_t, .int innerPlace_t, .int innerWidth_t, .int signs_t, .int waitingBelow_t, .int limited_t, .int targets_t, .int lastBlock_t])) :: fpo fad fn fd fcf)) (pk_perm (w := [(h0, .inr (2, [.ref a_scanner_h0, .ref a_draft_h0, .ref a_waiting_h0, .ref a_functions_h0, .ref (fad 0), .ref (fad (fd + 1)), .ref a_text_h0, .int mode_h0, .int levels_h0, .int signs_h0, .int loops_h0, .int token_h0, .int fault_h0])), (a_scanner_h0, .inr (4, [.ref a_text_a_scanner_h0, .int next_a_scanner_h0, .int kind_a_scanner_h0, .int start_a_scanner_h0, .int width_a_scanner_h0])), (a_waiting_h0, .inr (5, [.ref a_cells_a_waiting_h0, .int count_a_waiting_h0])), ((fad fd), .inr (0, [(frB fad fd), (frA fad fn fd), .int kind_t, .int place_t, .int width_t, .int second_t, .int parts_t, .int innerParts_t, .int innerPlace_t, .int innerWidth_t, .int signs_t, .int waitingBelow_t, .int limited_t, .int targets_t, .int lastBlock_t]))]) [0, 2, 3, 1] 4 rfl rfl (by decide)) ?_
    refine j_perm (ws' := ((h0, .inr (2, [.ref a_scanner_h0, .ref a_draft_h0, .ref a_waiting_h0, .ref a_functions_h0, .ref (fad 0), .ref (fad (fd + 1)), .ref a_text_h0, .int mode_h0, .int levels_h0, .int signs_h0, .int loops_h0, .int token_h0, .int fault_h0])) :: (a_scanner_h0, .inr (4, [.ref a_text_a_scanner_h0, .int next_a_scanner_h0, .int kind_a_scanner_h0, .int start_a_scanner_h0, .int width_a_scanner_h0])) :: (a_waiting_h0, .inr (5, [.ref a_cells_a_waiting_h0, .int count_a_waiting_h0])) :: ((fad (fd + 1)), .inr (0, [(frB fad (fd + 1)), (frA fad fn (fd + 1)), .int ((fcf (fd + 1)).1), .int ((fcf (fd + 1)).2.1), .int ((fcf (fd + 1)).2.2.1), .int ((fcf (fd + 1)).2.2.2.1), .int ((fcf (fd + 1)).2.2.2.2.1), .int ((fcf (fd + 1)).2.2.2.2.2.1), .int ((fcf (fd + 1)).2.2.2.2.2.2.1), .int ((fcf (fd + 1)).2.2.2.2.2.2.2.1), .int ((fcf (fd + 1)).2.2.2.2.2.2.2.2.1), .int ((fcf (fd + 1)).2.2.2.2.2.2.2.2.2.1), .int ((fcf (fd + 1)).2.2.2.2.2.2.2.2.2.2.1), .int ((fcf (fd + 1)).2.2.2.2.2.2.2.2.2.2.2.1), .int ((fcf (fd + 1)).2.2.2.2.2.2.2.2.2.2.2.2)])) :: fpo fad fn (fd + 1) (va_up fcf fd (kind_t, place_t, width_t, second_t, parts_t, innerParts_t, innerPlace_t, innerWidth_t, signs_t, waitingBelow_t, limited_t, targets_t, lastBlock_t)))) (List.Perm.cons _ (List.Perm.cons _ (List.Perm.cons _ (fp_refoc (c := (kind_t, place_t, width_t, second_t, parts_t, innerParts_t, innerPlace_t, innerWidth_t, signs_t, waitingBelow_t, limited_t, targets_t, lastBlock_t)) (x := (fcf (fd + 1))) (show fd < fn by omega) (show (fd + 1) < fn by omega) (va_up_ne _ _ (show (fd + 1) ≠ fd by omega)))))) ?_
    refine j_aload_n d_Rd_push_39 rfl 0 rfl ?_
    refine j_get ig_Rd rfl 0 rfl 5 (by decide) rfl m_174 rfl d_Rd_push_40 ?_
    refine j_iload_n d_Rd_push_43 rfl 1 rfl ?_
    refine j_aload_n d_Rd_push_44 rfl 0 rfl ?_
    refine j_get ig_Rd rfl 0 rfl 0 (by decide) rfl m_169 rfl d_Rd_push_45 ?_
    refine j_callVg (n := 0) (As := []) (rest := [.int p1, .ref (fad (fd + 1))]) (wr := ([(h0, .inr (2, [.ref a_scanner_h0, .ref a_draft_h0, .ref a_waiting_h0, .ref a_functions_h0, .ref (fad 0), .ref (fad (fd + 1)), .ref a_text_h0, .int mode_h0, .int levels_h0, .int signs_h0, .int loops_h0, .int token_h0, .int fault_h0])), (a_waiting_h0, .inr (5, [.ref a_cells_a_waiting_h0, .int count_a_waiting_h0])), ((fad (fd + 1)), .inr (0, [(frB fad (fd + 1)), (frA fad fn (fd + 1)), .int ((fcf (fd + 1)).1), .int ((fcf (fd + 1)).2.1), .int ((fcf (fd + 1)).2.2.1), .int ((fcf (fd + 1)).2.2.2.1), .int ((fcf (fd + 1)).2.2.2.2.1), .int ((fcf (fd + 1)).2.2.2.2.2.1), .int ((fcf (fd + 1)).2.2.2.2.2.2.1), .int ((fcf (fd + 1)).2.2.2.2.2.2.2.1), .int ((fcf (fd + 1)).2.2.2.2.2.2.2.2.1), .int ((fcf (fd + 1)).2.2.2.2.2.2.2.2.2.1), .int ((fcf (fd + 1)).2.2.2.2.2.2.2.2.2.2.1), .int ((fcf (fd + 1)).2.2.2.2.2.2.2.2.2.2.2.1), .int ((fcf (fd + 1)).2.2.2.2.2.2.2.2.2.2.2.2)]))] ++ fpo fad fn (fd + 1) (va_up fcf fd (kind_t, place_t, width_t, second_t, parts_t, innerParts_t, innerPlace_t, innerWidth_t, signs_t, waitingBelow_t, limited_t, targets_t, lastBlock_t)))) (c_Sc_start l D cI cB cJ cS a_scanner_h0 a_text_a_scanner_h0 next_a_scanner_h0 kind_a_scanner_h0 start_a_scanner_h0 width_a_scanner_h0  ) k_Rd_113 (by decide) ⟨Nat.le_of_ble_eq_true rfl, Nat.le_of_ble_eq_true rfl⟩ rfl 0 rfl (pk_mid (wr := [(h0, .inr (2, [.ref a_scanner_h0, .ref a_draft_h0, .ref a_waiting_h0, .ref a_functions_h0, .ref (fad 0), .ref (fad (fd + 1)), .ref a_text_h0, .int mode_h0, .int levels_h0, .int signs_h0, .int loops_h0, .int token_h0, .int fault_h0])), (a_waiting_h0, .inr (5, [.ref a_cells_a_waiting_h0, .int count_a_waiting_h0])), ((fad (fd + 1)), .inr (0, [(frB fad (fd + 1)), (frA fad fn (fd + 1)), .int ((fcf (fd + 1)).1), .int ((fcf (fd + 1)).2.1), .int ((fcf (fd + 1)).2.2.1), .int ((fcf (fd + 1)).2.2.2.1), .int ((fcf (fd + 1)).2.2.2.2.1), .int ((fcf (fd + 1)).2.2.2.2.2.1), .int ((fcf (fd + 1)).2.2.2.2.2.2.1), .int ((fcf (fd + 1)).2.2.2.2.2.2.2.1), .int ((fcf (fd + 1)).2.2.2.2.2.2.2.2.1), .int ((fcf (fd + 1)).2.2.2.2.2.2.2.2.2.1), .int ((fcf (fd + 1)).2.2.2.2.2.2.2.2.2.2.1), .int ((fcf (fd + 1)).2.2.2.2.2.2.2.2.2.2.2.1), .int ((fcf (fd + 1)).2.2.2.2.2.2.2.2.2.2.2.2)]))]) (w0 := [(a_scanner_h0, .inr (4, [.ref a_text_a_scanner_h0, .int next_a_scanner_h0, .int kind_a_scanner_h0, .int start_a_scanner_h0, .int width_a_scanner_h0]))]) (pl := fpo fad fn (fd + 1) (va_up fcf fd (kind_t, place_t, width_t, second_t, parts_t, innerParts_t, innerPlace_t, innerWidth_t, signs_t, waitingBelow_t, limited_t, targets_t, lastBlock_t))) [0, 2, 3, 1] 4 rfl rfl (by decide)) rfl rfl (Nat.le_of_ble_eq_true rfl) d_Rd_push_48 ⟨show 0 + 0 ≤ mc by omega, show 0 + 0 ≤ ms by omega⟩ (fun v w hq => ?_)
    obtain ⟨rfl, rfl⟩ := hq
    refine j_perm (ws' := ((h0, .inr (2, [.ref a_scanner_h0, .ref a_draft_h0, .ref a_waiting_h0, .ref a_functions_h0, .ref (fad 0), .ref (fad (fd + 1)), .ref a_text_h0, .int mode_h0, .int levels_h0, .int signs_h0, .int loops_h0, .int token_h0, .int fault_h0])) :: (a_waiting_h0, .inr (5, [.ref a_cells_a_waiting_h0, .int count_a_waiting_h0])) :: ((fad (fd + 1)), .inr (0, [(frB fad (fd + 1)), (frA fad fn (fd + 1)), .int ((fcf (fd + 1)).1), .int ((fcf (fd + 1)).2.1), .int ((fcf (fd + 1)).2.2.1), .int ((fcf (fd + 1)).2.2.2.1), .int ((fcf (fd + 1)).2.2.2.2.1), .int ((fcf (fd + 1)).2.2.2.2.2.1), .int ((fcf (fd + 1)).2.2.2.2.2.2.1), .int ((fcf (fd + 1)).2.2.2.2.2.2.2.1), .int ((fcf (fd + 1)).2.2.2.2.2.2.2.2.1), .int ((fcf (fd + 1)).2.2.2.2.2.2.2.2.2.1), .int ((fcf (fd + 1)).2.2.2.2.2.2.2.2.2.2.1), .int ((fcf (fd + 1)).2.2.2.2.2.2.2.2.2.2.2.1), .int ((fcf (fd + 1)).2.2.2.2.2.2.2.2.2.2.2.2)])) :: (a_scanner_h0, .inr (4, [.ref a_text_a_scanner_h0, .int next_a_scanner_h0, .int kind_a_scanner_h0, .int start_a_scanner_h0, .int width_a_scanner_h0])) :: fpo fad fn (fd + 1) (va_up fcf fd (kind_t, place_t, width_t, second_t, parts_t, innerParts_t, innerPlace_t, innerWidth_t, signs_t, waitingBelow_t, limited_t, targets_t, lastBlock_t)))) (pm_eq (a := [(h0, .inr (2, [.ref a_scanner_h0, .ref a_draft_h0, .ref a_waiting_h0, .ref a_functions_h0, .ref (fad 0), .ref (fad (fd + 1)), .ref a_text_h0, .int mode_h0, .int levels_h0, .int signs_h0, .int loops_h0, .int token_h0, .int fault_h0])), (a_waiting_h0, .inr (5, [.ref a_cells_a_waiting_h0, .int count_a_waiting_h0])), ((fad (fd + 1)), .inr (0, [(frB fad (fd + 1)), (frA fad fn (fd + 1)), .int ((fcf (fd + 1)).1), .int ((fcf (fd + 1)).2.1), .int ((fcf (fd + 1)).2.2.1), .int ((fcf (fd + 1)).2.2.2.1), .int ((fcf (fd + 1)).2.2.2.2.1), .int ((fcf (fd + 1)).2.2.2.2.2.1), .int ((fcf (fd + 1)).2.2.2.2.2.2.1), .int ((fcf (fd + 1)).2.2.2.2.2.2.2.1), .int ((fcf (fd + 1)).2.2.2.2.2.2.2.2.1), .int ((fcf (fd + 1)).2.2.2.2.2.2.2.2.2.1), .int ((fcf (fd + 1)).2.2.2.2.2.2.2.2.2.2.1), .int ((fcf (fd + 1)).2.2.2.2.2.2.2.2.2.2.2.1), .int ((fcf (fd + 1)).2.2.2.2.2.2.2.2.2.2.2.2)]))]) (b := fpo fad fn (fd + 1) (va_up fcf fd (kind_t, place_t, width_t, second_t, parts_t, innerParts_t, innerPlace_t, innerWidth_t, signs_t, waitingBelow_t, limited_t, targets_t, lastBlock_t))) (c := [(a_scanner_h0, .inr (4, [.ref a_text_a_scanner_h0, .int next_a_scanner_h0, .int kind_a_scanner_h0, .int start_a_scanner_h0, .int width_a_scanner_h0]))]) rfl) ?_
    refine j_norm (pc' := 51) (st' := [.int start_a_scanner_h0, .int p1, .ref (fad (fd + 1))]) (ws' := ((h0, .inr (2, [.ref a_scanner_h0, .ref a_draft_h0, .ref a_waiting_h0, .ref a_functions_h0, .ref (fad 0), .ref (fad (fd + 1)), .ref a_text_h0, .int mode_h0, .int levels_h0, .int signs_h0, .int loops_h0, .int token_h0, .int fault_h0])) :: (a_waiting_h0, .inr (5, [.ref a_cells_a_waiting_h0, .int count_a_waiting_h0])) :: ((fad (fd + 1)), .inr (0, [(frB fad (fd + 1)), (frA fad fn (fd + 1)), .int ((fcf (fd + 1)).1), .int ((fcf (fd + 1)).2.1), .int ((fcf (fd + 1)).2.2.1), .int ((fcf (fd + 1)).2.2.2.1), .int ((fcf (fd + 1)).2.2.2.2.1), .int ((fcf (fd + 1)).2.2.2.2.2.1), .int ((fcf (fd + 1)).2.2.2.2.2.2.1), .int ((fcf (fd + 1)).2.2.2.2.2.2.2.1), .int ((fcf (fd + 1)).2.2.2.2.2.2.2.2.1), .int ((fcf (fd + 1)).2.2.2.2.2.2.2.2.2.1), .int ((fcf (fd + 1)).2.2.2.2.2.2.2.2.2.2.1), .int ((fcf (fd + 1)).2.2.2.2.2.2.2.2.2.2.2.1), .int ((fcf (fd + 1)).2.2.2.2.2.2.2.2.2.2.2.2)])) :: (a_scanner_h0, .inr (4, [.ref a_text_a_scanner_h0, .int next_a_scanner_h0, .int kind_a_scanner_h0, .int start_a_scanner_h0, .int width_a_scanner_h0])) :: fpo fad fn (fd + 1) (va_up fcf fd (kind_t, place_t, width_t, second_t, parts_t, innerParts_t, innerPlace_t, innerWidth_t, signs_t, waitingBelow_t, limited_t, targets_t, lastBlock_t)))) (cl' := 0) (sl' := 0) rfl rfl rfl rfl rfl rfl ?_
    refine j_aload_n d_Rd_push_51 rfl 0 rfl ?_
    refine j_get ig_Rd rfl 0 rfl 0 (by decide) rfl m_169 rfl d_Rd_push_52 ?_
    refine j_callVg (n := 0) (As := []) (rest := [.int start_a_scanner_h0, .int p1, .ref (fad (fd + 1))]) (wr := ([(h0, .inr (2, [.ref a_scanner_h0, .ref a_draft_h0, .ref a_waiting_h0, .ref a_functions_h0, .ref (fad 0), .ref (fad (fd + 1)), .ref a_text_h0, .int mode_h0, .int levels_h0, .int signs_h0, .int loops_h0, .int token_h0, .int fault_h0])), (a_waiting_h0, .inr (5, [.ref a_cells_a_waiting_h0, .int count_a_waiting_h0])), ((fad (fd + 1)), .inr (0, [(frB fad (fd + 1)), (frA fad fn (fd + 1)), .int ((fcf (fd + 1)).1), .int ((fcf (fd + 1)).2.1), .int ((fcf (fd + 1)).2.2.1), .int ((fcf (fd + 1)).2.2.2.1), .int ((fcf (fd + 1)).2.2.2.2.1), .int ((fcf (fd + 1)).2.2.2.2.2.1), .int ((fcf (fd + 1)).2.2.2.2.2.2.1), .int ((fcf (fd + 1)).2.2.2.2.2.2.2.1), .int ((fcf (fd + 1)).2.2.2.2.2.2.2.2.1), .int ((fcf (fd + 1)).2.2.2.2.2.2.2.2.2.1), .int ((fcf (fd + 1)).2.2.2.2.2.2.2.2.2.2.1), .int ((fcf (fd + 1)).2.2.2.2.2.2.2.2.2.2.2.1), .int ((fcf (fd + 1)).2.2.2.2.2.2.2.2.2.2.2.2)]))] ++ fpo fad fn (fd + 1) (va_up fcf fd (kind_t, place_t, width_t, second_t, parts_t, innerParts_t, innerPlace_t, innerWidth_t, signs_t, waitingBelow_t, limited_t, targets_t, lastBlock_t)))) (c_Sc_width l D cI cB cJ cS a_scanner_h0 a_text_a_scanner_h0 next_a_scanner_h0 kind_a_scanner_h0 start_a_scanner_h0 width_a_scanner_h0  ) k_Rd_124 (by decide) ⟨Nat.le_of_ble_eq_true rfl, Nat.le_of_ble_eq_true rfl⟩ rfl 0 rfl (pk_mid (wr := [(h0, .inr (2, [.ref a_scanner_h0, .ref a_draft_h0, .ref a_waiting_h0, .ref a_functions_h0, .ref (fad 0), .ref (fad (fd + 1)), .ref a_text_h0, .int mode_h0, .int levels_h0, .int signs_h0, .int loops_h0, .int token_h0, .int fault_h0])), (a_waiting_h0, .inr (5, [.ref a_cells_a_waiting_h0, .int count_a_waiting_h0])), ((fad (fd + 1)), .inr (0, [(frB fad (fd + 1)), (frA fad fn (fd + 1)), .int ((fcf (fd + 1)).1), .int ((fcf (fd + 1)).2.1), .int ((fcf (fd + 1)).2.2.1), .int ((fcf (fd + 1)).2.2.2.1), .int ((fcf (fd + 1)).2.2.2.2.1), .int ((fcf (fd + 1)).2.2.2.2.2.1), .int ((fcf (fd + 1)).2.2.2.2.2.2.1), .int ((fcf (fd + 1)).2.2.2.2.2.2.2.1), .int ((fcf (fd + 1)).2.2.2.2.2.2.2.2.1), .int ((fcf (fd + 1)).2.2.2.2.2.2.2.2.2.1), .int ((fcf (fd + 1)).2.2.2.2.2.2.2.2.2.2.1), .int ((fcf (fd + 1)).2.2.2.2.2.2.2.2.2.2.2.1), .int ((fcf (fd + 1)).2.2.2.2.2.2.2.2.2.2.2.2)]))]) (w0 := [(a_scanner_h0, .inr (4, [.ref a_text_a_scanner_h0, .int next_a_scanner_h0, .int kind_a_scanner_h0, .int start_a_scanner_h0, .int width_a_scanner_h0]))]) (pl := fpo fad fn (fd + 1) (va_up fcf fd (kind_t, place_t, width_t, second_t, parts_t, innerParts_t, innerPlace_t, innerWidth_t, signs_t, waitingBelow_t, limited_t, targets_t, lastBlock_t))) [0, 1, 2, 3] 4 rfl rfl (by decide)) rfl rfl (Nat.le_of_ble_eq_true rfl) d_Rd_push_55 ⟨show 0 + 0 ≤ mc by omega, show 0 + 0 ≤ ms by omega⟩ (fun v w hq => ?_)
    obtain ⟨rfl, rfl⟩ := hq
    refine j_perm (ws' := ((h0, .inr (2, [.ref a_scanner_h0, .ref a_draft_h0, .ref a_waiting_h0, .ref a_functions_h0, .ref (fad 0), .ref (fad (fd + 1)), .ref a_text_h0, .int mode_h0, .int levels_h0, .int signs_h0, .int loops_h0, .int token_h0, .int fault_h0])) :: (a_waiting_h0, .inr (5, [.ref a_cells_a_waiting_h0, .int count_a_waiting_h0])) :: ((fad (fd + 1)), .inr (0, [(frB fad (fd + 1)), (frA fad fn (fd + 1)), .int ((fcf (fd + 1)).1), .int ((fcf (fd + 1)).2.1), .int ((fcf (fd + 1)).2.2.1), .int ((fcf (fd + 1)).2.2.2.1), .int ((fcf (fd + 1)).2.2.2.2.1), .int ((fcf (fd + 1)).2.2.2.2.2.1), .int ((fcf (fd + 1)).2.2.2.2.2.2.1), .int ((fcf (fd + 1)).2.2.2.2.2.2.2.1), .int ((fcf (fd + 1)).2.2.2.2.2.2.2.2.1), .int ((fcf (fd + 1)).2.2.2.2.2.2.2.2.2.1), .int ((fcf (fd + 1)).2.2.2.2.2.2.2.2.2.2.1), .int ((fcf (fd + 1)).2.2.2.2.2.2.2.2.2.2.2.1), .int ((fcf (fd + 1)).2.2.2.2.2.2.2.2.2.2.2.2)])) :: (a_scanner_h0, .inr (4, [.ref a_text_a_scanner_h0, .int next_a_scanner_h0, .int kind_a_scanner_h0, .int start_a_scanner_h0, .int width_a_scanner_h0])) :: fpo fad fn (fd + 1) (va_up fcf fd (kind_t, place_t, width_t, second_t, parts_t, innerParts_t, innerPlace_t, innerWidth_t, signs_t, waitingBelow_t, limited_t, targets_t, lastBlock_t)))) (pm_eq (a := [(h0, .inr (2, [.ref a_scanner_h0, .ref a_draft_h0, .ref a_waiting_h0, .ref a_functions_h0, .ref (fad 0), .ref (fad (fd + 1)), .ref a_text_h0, .int mode_h0, .int levels_h0, .int signs_h0, .int loops_h0, .int token_h0, .int fault_h0])), (a_waiting_h0, .inr (5, [.ref a_cells_a_waiting_h0, .int count_a_waiting_h0])), ((fad (fd + 1)), .inr (0, [(frB fad (fd + 1)), (frA fad fn (fd + 1)), .int ((fcf (fd + 1)).1), .int ((fcf (fd + 1)).2.1), .int ((fcf (fd + 1)).2.2.1), .int ((fcf (fd + 1)).2.2.2.1), .int ((fcf (fd + 1)).2.2.2.2.1), .int ((fcf (fd + 1)).2.2.2.2.2.1), .int ((fcf (fd + 1)).2.2.2.2.2.2.1), .int ((fcf (fd + 1)).2.2.2.2.2.2.2.1), .int ((fcf (fd + 1)).2.2.2.2.2.2.2.2.1), .int ((fcf (fd + 1)).2.2.2.2.2.2.2.2.2.1), .int ((fcf (fd + 1)).2.2.2.2.2.2.2.2.2.2.1), .int ((fcf (fd + 1)).2.2.2.2.2.2.2.2.2.2.2.1), .int ((fcf (fd + 1)).2.2.2.2.2.2.2.2.2.2.2.2)]))]) (b := fpo fad fn (fd + 1) (va_up fcf fd (kind_t, place_t, width_t, second_t, parts_t, innerParts_t, innerPlace_t, innerWidth_t, signs_t, waitingBelow_t, limited_t, targets_t, lastBlock_t))) (c := [(a_scanner_h0, .inr (4, [.ref a_text_a_scanner_h0, .int next_a_scanner_h0, .int kind_a_scanner_h0, .int start_a_scanner_h0, .int width_a_scanner_h0]))]) rfl) ?_
    refine j_norm (pc' := 58) (st' := [.int width_a_scanner_h0, .int start_a_scanner_h0, .int p1, .ref (fad (fd + 1))]) (ws' := ((h0, .inr (2, [.ref a_scanner_h0, .ref a_draft_h0, .ref a_waiting_h0, .ref a_functions_h0, .ref (fad 0), .ref (fad (fd + 1)), .ref a_text_h0, .int mode_h0, .int levels_h0, .int signs_h0, .int loops_h0, .int token_h0, .int fault_h0])) :: (a_waiting_h0, .inr (5, [.ref a_cells_a_waiting_h0, .int count_a_waiting_h0])) :: ((fad (fd + 1)), .inr (0, [(frB fad (fd + 1)), (frA fad fn (fd + 1)), .int ((fcf (fd + 1)).1), .int ((fcf (fd + 1)).2.1), .int ((fcf (fd + 1)).2.2.1), .int ((fcf (fd + 1)).2.2.2.1), .int ((fcf (fd + 1)).2.2.2.2.1), .int ((fcf (fd + 1)).2.2.2.2.2.1), .int ((fcf (fd + 1)).2.2.2.2.2.2.1), .int ((fcf (fd + 1)).2.2.2.2.2.2.2.1), .int ((fcf (fd + 1)).2.2.2.2.2.2.2.2.1), .int ((fcf (fd + 1)).2.2.2.2.2.2.2.2.2.1), .int ((fcf (fd + 1)).2.2.2.2.2.2.2.2.2.2.1), .int ((fcf (fd + 1)).2.2.2.2.2.2.2.2.2.2.2.1), .int ((fcf (fd + 1)).2.2.2.2.2.2.2.2.2.2.2.2)])) :: (a_scanner_h0, .inr (4, [.ref a_text_a_scanner_h0, .int next_a_scanner_h0, .int kind_a_scanner_h0, .int start_a_scanner_h0, .int width_a_scanner_h0])) :: fpo fad fn (fd + 1) (va_up fcf fd (kind_t, place_t, width_t, second_t, parts_t, innerParts_t, innerPlace_t, innerWidth_t, signs_t, waitingBelow_t, limited_t, targets_t, lastBlock_t)))) (cl' := 0) (sl' := 0) rfl rfl rfl rfl rfl rfl ?_
    refine j_callVg (n := 3) (As := [.int p1, .int start_a_scanner_h0, .int width_a_scanner_h0]) (rest := []) (wr := ([(h0, .inr (2, [.ref a_scanner_h0, .ref a_draft_h0, .ref a_waiting_h0, .ref a_functions_h0, .ref (fad 0), .ref (fad (fd + 1)), .ref a_text_h0, .int mode_h0, .int levels_h0, .int signs_h0, .int loops_h0, .int token_h0, .int fault_h0])), (a_waiting_h0, .inr (5, [.ref a_cells_a_waiting_h0, .int count_a_waiting_h0])), (a_scanner_h0, .inr (4, [.ref a_text_a_scanner_h0, .int next_a_scanner_h0, .int kind_a_scanner_h0, .int start_a_scanner_h0, .int width_a_scanner_h0]))] ++ fpo fad fn (fd + 1) (va_up fcf fd (kind_t, place_t, width_t, second_t, parts_t, innerParts_t, innerPlace_t, innerWidth_t, signs_t, waitingBelow_t, limited_t, targets_t, lastBlock_t)))) (c_Fr_begin l D cI cB cJ cS (fad (fd + 1)) (frB fad (fd + 1)) (frA fad fn (fd + 1)) p1 start_a_scanner_h0 width_a_scanner_h0 ((fcf (fd + 1)).1) ((fcf (fd + 1)).2.1) ((fcf (fd + 1)).2.2.1) ((fcf (fd + 1)).2.2.2.1) ((fcf (fd + 1)).2.2.2.2.1) ((fcf (fd + 1)).2.2.2.2.2.1) ((fcf (fd + 1)).2.2.2.2.2.2.1) ((fcf (fd + 1)).2.2.2.2.2.2.2.1) ((fcf (fd + 1)).2.2.2.2.2.2.2.2.1) ((fcf (fd + 1)).2.2.2.2.2.2.2.2.2.1) ((fcf (fd + 1)).2.2.2.2.2.2.2.2.2.2.1) ((fcf (fd + 1)).2.2.2.2.2.2.2.2.2.2.2.1) ((fcf (fd + 1)).2.2.2.2.2.2.2.2.2.2.2.2)  ) k_Rd_121 (by decide) ⟨Nat.le_of_ble_eq_true rfl, Nat.le_of_ble_eq_true rfl⟩ rfl 0 rfl (pk_mid (wr := [(h0, .inr (2, [.ref a_scanner_h0, .ref a_draft_h0, .ref a_waiting_h0, .ref a_functions_h0, .ref (fad 0), .ref (fad (fd + 1)), .ref a_text_h0, .int mode_h0, .int levels_h0, .int signs_h0, .int loops_h0, .int token_h0, .int fault_h0])), (a_waiting_h0, .inr (5, [.ref a_cells_a_waiting_h0, .int count_a_waiting_h0])), (a_scanner_h0, .inr (4, [.ref a_text_a_scanner_h0, .int next_a_scanner_h0, .int kind_a_scanner_h0, .int start_a_scanner_h0, .int width_a_scanner_h0]))]) (w0 := [((fad (fd + 1)), .inr (0, [(frB fad (fd + 1)), (frA fad fn (fd + 1)), .int ((fcf (fd + 1)).1), .int ((fcf (fd + 1)).2.1), .int ((fcf (fd + 1)).2.2.1), .int ((fcf (fd + 1)).2.2.2.1), .int ((fcf (fd + 1)).2.2.2.2.1), .int ((fcf (fd + 1)).2.2.2.2.2.1), .int ((fcf (fd + 1)).2.2.2.2.2.2.1), .int ((fcf (fd + 1)).2.2.2.2.2.2.2.1), .int ((fcf (fd + 1)).2.2.2.2.2.2.2.2.1), .int ((fcf (fd + 1)).2.2.2.2.2.2.2.2.2.1), .int ((fcf (fd + 1)).2.2.2.2.2.2.2.2.2.2.1), .int ((fcf (fd + 1)).2.2.2.2.2.2.2.2.2.2.2.1), .int ((fcf (fd + 1)).2.2.2.2.2.2.2.2.2.2.2.2)]))]) (pl := fpo fad fn (fd + 1) (va_up fcf fd (kind_t, place_t, width_t, second_t, parts_t, innerParts_t, innerPlace_t, innerWidth_t, signs_t, waitingBelow_t, limited_t, targets_t, lastBlock_t))) [0, 1, 3, 2] 4 rfl rfl (by decide)) rfl rfl (Nat.le_of_ble_eq_true rfl) d_Rd_push_58 ⟨show 0 + 0 ≤ mc by omega, show 0 + 0 ≤ ms by omega⟩ (fun v w hq => ?_)
    obtain ⟨rfl, rfl⟩ := hq
    refine j_perm (ws' := ((h0, .inr (2, [.ref a_scanner_h0, .ref a_draft_h0, .ref a_waiting_h0, .ref a_functions_h0, .ref (fad 0), .ref (fad (fd + 1)), .ref a_text_h0, .int mode_h0, .int levels_h0, .int signs_h0, .int loops_h0, .int token_h0, .int fault_h0])) :: (a_waiting_h0, .inr (5, [.ref a_cells_a_waiting_h0, .int count_a_waiting_h0])) :: (a_scanner_h0, .inr (4, [.ref a_text_a_scanner_h0, .int next_a_scanner_h0, .int kind_a_scanner_h0, .int start_a_scanner_h0, .int width_a_scanner_h0])) :: ((fad (fd + 1)), .inr (0, [(frB fad (fd + 1)), (frA fad fn (fd + 1)), .int p1, .int start_a_scanner_h0, .int width_a_scanner_h0, .int (-1), .int 0, .int 0, .int start_a_scanner_h0, .int width_a_scanner_h0, .int 0, .int 0, .int 0, .int 0, .int 0])) :: fpo fad fn (fd + 1) (va_up fcf fd (kind_t, place_t, width_t, second_t, parts_t, innerParts_t, innerPlace_t, innerWidth_t, signs_t, waitingBelow_t, limited_t, targets_t, lastBlock_t)))) (pm_eq (a := [(h0, .inr (2, [.ref a_scanner_h0, .ref a_draft_h0, .ref a_waiting_h0, .ref a_functions_h0, .ref (fad 0), .ref (fad (fd + 1)), .ref a_text_h0, .int mode_h0, .int levels_h0, .int signs_h0, .int loops_h0, .int token_h0, .int fault_h0])), (a_waiting_h0, .inr (5, [.ref a_cells_a_waiting_h0, .int count_a_waiting_h0])), (a_scanner_h0, .inr (4, [.ref a_text_a_scanner_h0, .int next_a_scanner_h0, .int kind_a_scanner_h0, .int start_a_scanner_h0, .int width_a_scanner_h0]))]) (b := fpo fad fn (fd + 1) (va_up fcf fd (kind_t, place_t, width_t, second_t, parts_t, innerParts_t, innerPlace_t, innerWidth_t, signs_t, waitingBelow_t, limited_t, targets_t, lastBlock_t))) (c := [((fad (fd + 1)), .inr (0, [(frB fad (fd + 1)), (frA fad fn (fd + 1)), .int p1, .int start_a_scanner_h0, .int width_a_scanner_h0, .int (-1), .int 0, .int 0, .int start_a_scanner_h0, .int width_a_scanner_h0, .int 0, .int 0, .int 0, .int 0, .int 0]))]) rfl) ?_
    refine j_norm (pc' := 61) (st' := []) (ws' := ((h0, .inr (2, [.ref a_scanner_h0, .ref a_draft_h0, .ref a_waiting_h0, .ref a_functions_h0, .ref (fad 0), .ref (fad (fd + 1)), .ref a_text_h0, .int mode_h0, .int levels_h0, .int signs_h0, .int loops_h0, .int token_h0, .int fault_h0])) :: (a_waiting_h0, .inr (5, [.ref a_cells_a_waiting_h0, .int count_a_waiting_h0])) :: (a_scanner_h0, .inr (4, [.ref a_text_a_scanner_h0, .int next_a_scanner_h0, .int kind_a_scanner_h0, .int start_a_scanner_h0, .int width_a_scanner_h0])) :: ((fad (fd + 1)), .inr (0, [(frB fad (fd + 1)), (frA fad fn (fd + 1)), .int p1, .int start_a_scanner_h0, .int width_a_scanner_h0, .int (-1), .int 0, .int 0, .int start_a_scanner_h0, .int width_a_scanner_h0, .int 0, .int 0, .int 0, .int 0, .int 0])) :: fpo fad fn (fd + 1) (va_up fcf fd (kind_t, place_t, width_t, second_t, parts_t, innerParts_t, innerPlace_t, innerWidth_t, signs_t, waitingBelow_t, limited_t, targets_t, lastBlock_t)))) (cl' := 0) (sl' := 0) rfl rfl rfl rfl rfl rfl ?_
    refine j_aload_n d_Rd_push_61 rfl 0 rfl ?_
    refine j_get ig_Rd rfl 0 rfl 5 (by decide) rfl m_174 rfl d_Rd_push_62 ?_
    refine j_aload_n d_Rd_push_65 rfl 0 rfl ?_
    refine j_get ig_Rd rfl 0 rfl 2 (by decide) rfl m_171 rfl d_Rd_push_66 ?_
    refine j_callVg (n := 0) (As := []) (rest := [.ref (fad (fd + 1))]) (wr := ([(h0, .inr (2, [.ref a_scanner_h0, .ref a_draft_h0, .ref a_waiting_h0, .ref a_functions_h0, .ref (fad 0), .ref (fad (fd + 1)), .ref a_text_h0, .int mode_h0, .int levels_h0, .int signs_h0, .int loops_h0, .int token_h0, .int fault_h0])), (a_scanner_h0, .inr (4, [.ref a_text_a_scanner_h0, .int next_a_scanner_h0, .int kind_a_scanner_h0, .int start_a_scanner_h0, .int width_a_scanner_h0])), ((fad (fd + 1)), .inr (0, [(frB fad (fd + 1)), (frA fad fn (fd + 1)), .int p1, .int start_a_scanner_h0, .int width_a_scanner_h0, .int (-1), .int 0, .int 0, .int start_a_scanner_h0, .int width_a_scanner_h0, .int 0, .int 0, .int 0, .int 0, .int 0]))] ++ fpo fad fn (fd + 1) (va_up fcf fd (kind_t, place_t, width_t, second_t, parts_t, innerParts_t, innerPlace_t, innerWidth_t, signs_t, waitingBelow_t, limited_t, targets_t, lastBlock_t)))) (c_Tk_count l D cI cB cJ cS a_waiting_h0 a_cells_a_waiting_h0 count_a_waiting_h0  ) k_Rd_137 (by decide) ⟨Nat.le_of_ble_eq_true rfl, Nat.le_of_ble_eq_true rfl⟩ rfl 0 rfl (pk_mid (wr := [(h0, .inr (2, [.ref a_scanner_h0, .ref a_draft_h0, .ref a_waiting_h0, .ref a_functions_h0, .ref (fad 0), .ref (fad (fd + 1)), .ref a_text_h0, .int mode_h0, .int levels_h0, .int signs_h0, .int loops_h0, .int token_h0, .int fault_h0])), (a_scanner_h0, .inr (4, [.ref a_text_a_scanner_h0, .int next_a_scanner_h0, .int kind_a_scanner_h0, .int start_a_scanner_h0, .int width_a_scanner_h0])), ((fad (fd + 1)), .inr (0, [(frB fad (fd + 1)), (frA fad fn (fd + 1)), .int p1, .int start_a_scanner_h0, .int width_a_scanner_h0, .int (-1), .int 0, .int 0, .int start_a_scanner_h0, .int width_a_scanner_h0, .int 0, .int 0, .int 0, .int 0, .int 0]))]) (w0 := [(a_waiting_h0, .inr (5, [.ref a_cells_a_waiting_h0, .int count_a_waiting_h0]))]) (pl := fpo fad fn (fd + 1) (va_up fcf fd (kind_t, place_t, width_t, second_t, parts_t, innerParts_t, innerPlace_t, innerWidth_t, signs_t, waitingBelow_t, limited_t, targets_t, lastBlock_t))) [0, 2, 3, 1] 4 rfl rfl (by decide)) rfl rfl (Nat.le_of_ble_eq_true rfl) d_Rd_push_69 ⟨show 0 + 0 ≤ mc by omega, show 0 + 0 ≤ ms by omega⟩ (fun v w hq => ?_)
    obtain ⟨rfl, rfl⟩ := hq
    refine j_perm (ws' := ((h0, .inr (2, [.ref a_scanner_h0, .ref a_draft_h0, .ref a_waiting_h0, .ref a_functions_h0, .ref (fad 0), .ref (fad (fd + 1)), .ref a_text_h0, .int mode_h0, .int levels_h0, .int signs_h0, .int loops_h0, .int token_h0, .int fault_h0])) :: (a_scanner_h0, .inr (4, [.ref a_text_a_scanner_h0, .int next_a_scanner_h0, .int kind_a_scanner_h0, .int start_a_scanner_h0, .int width_a_scanner_h0])) :: ((fad (fd + 1)), .inr (0, [(frB fad (fd + 1)), (frA fad fn (fd + 1)), .int p1, .int start_a_scanner_h0, .int width_a_scanner_h0, .int (-1), .int 0, .int 0, .int start_a_scanner_h0, .int width_a_scanner_h0, .int 0, .int 0, .int 0, .int 0, .int 0])) :: (a_waiting_h0, .inr (5, [.ref a_cells_a_waiting_h0, .int count_a_waiting_h0])) :: fpo fad fn (fd + 1) (va_up fcf fd (kind_t, place_t, width_t, second_t, parts_t, innerParts_t, innerPlace_t, innerWidth_t, signs_t, waitingBelow_t, limited_t, targets_t, lastBlock_t)))) (pm_eq (a := [(h0, .inr (2, [.ref a_scanner_h0, .ref a_draft_h0, .ref a_waiting_h0, .ref a_functions_h0, .ref (fad 0), .ref (fad (fd + 1)), .ref a_text_h0, .int mode_h0, .int levels_h0, .int signs_h0, .int loops_h0, .int token_h0, .int fault_h0])), (a_scanner_h0, .inr (4, [.ref a_text_a_scanner_h0, .int next_a_scanner_h0, .int kind_a_scanner_h0, .int start_a_scanner_h0, .int width_a_scanner_h0])), ((fad (fd + 1)), .inr (0, [(frB fad (fd + 1)), (frA fad fn (fd + 1)), .int p1, .int start_a_scanner_h0, .int width_a_scanner_h0, .int (-1), .int 0, .int 0, .int start_a_scanner_h0, .int width_a_scanner_h0, .int 0, .int 0, .int 0, .int 0, .int 0]))]) (b := fpo fad fn (fd + 1) (va_up fcf fd (kind_t, place_t, width_t, second_t, parts_t, innerParts_t, innerPlace_t, innerWidth_t, signs_t, waitingBelow_t, limited_t, targets_t, lastBlock_t))) (c := [(a_waiting_h0, .inr (5, [.ref a_cells_a_waiting_h0, .int count_a_waiting_h0]))]) rfl) ?_
    refine j_norm (pc' := 72) (st' := [.int count_a_waiting_h0, .ref (fad (fd + 1))]) (ws' := ((h0, .inr (2, [.ref a_scanner_h0, .ref a_draft_h0, .ref a_waiting_h0, .ref a_functions_h0, .ref (fad 0), .ref (fad (fd + 1)), .ref a_text_h0, .int mode_h0, .int levels_h0, .int signs_h0, .int loops_h0, .int token_h0, .int fault_h0])) :: (a_scanner_h0, .inr (4, [.ref a_text_a_scanner_h0, .int next_a_scanner_h0, .int kind_a_scanner_h0, .int start_a_scanner_h0, .int width_a_scanner_h0])) :: ((fad (fd + 1)), .inr (0, [(frB fad (fd + 1)), (frA fad fn (fd + 1)), .int p1, .int start_a_scanner_h0, .int width_a_scanner_h0, .int (-1), .int 0, .int 0, .int start_a_scanner_h0, .int width_a_scanner_h0, .int 0, .int 0, .int 0, .int 0, .int 0])) :: (a_waiting_h0, .inr (5, [.ref a_cells_a_waiting_h0, .int count_a_waiting_h0])) :: fpo fad fn (fd + 1) (va_up fcf fd (kind_t, place_t, width_t, second_t, parts_t, innerParts_t, innerPlace_t, innerWidth_t, signs_t, waitingBelow_t, limited_t, targets_t, lastBlock_t)))) (cl' := 0) (sl' := 0) rfl rfl rfl rfl rfl rfl ?_
    refine j_put (ws' := ((h0, .inr (2, [.ref a_scanner_h0, .ref a_draft_h0, .ref a_waiting_h0, .ref a_functions_h0, .ref (fad 0), .ref (fad (fd + 1)), .ref a_text_h0, .int mode_h0, .int levels_h0, .int signs_h0, .int loops_h0, .int token_h0, .int fault_h0])) :: (a_scanner_h0, .inr (4, [.ref a_text_a_scanner_h0, .int next_a_scanner_h0, .int kind_a_scanner_h0, .int start_a_scanner_h0, .int width_a_scanner_h0])) :: ((fad (fd + 1)), .inr (0, [(frB fad (fd + 1)), (frA fad fn (fd + 1)), .int p1, .int start_a_scanner_h0, .int width_a_scanner_h0, .int (-1), .int 0, .int 0, .int start_a_scanner_h0, .int width_a_scanner_h0, .int 0, .int count_a_waiting_h0, .int 0, .int 0, .int 0])) :: (a_waiting_h0, .inr (5, [.ref a_cells_a_waiting_h0, .int count_a_waiting_h0])) :: fpo fad fn (fd + 1) (va_up fcf fd (kind_t, place_t, width_t, second_t, parts_t, innerParts_t, innerPlace_t, innerWidth_t, signs_t, waitingBelow_t, limited_t, targets_t, lastBlock_t)))) ig_Fr tk_Fr nm_Fr rfl 2 rfl 11 (by decide) rfl m_129 rfl (tk_Fr 11 (by decide)) rfl rfl (Nat.le_of_ble_eq_true rfl) d_Rd_push_72 rfl ?_
    refine j_aload_n d_Rd_push_75 rfl 0 rfl ?_
    refine j_get ig_Rd rfl 0 rfl 5 (by decide) rfl m_174 rfl d_Rd_push_76 ?_
    refine j_aload_n d_Rd_push_79 rfl 0 rfl ?_
    refine j_get ig_Rd rfl 0 rfl 9 (by decide) rfl m_178 rfl d_Rd_push_80 ?_
    refine j_put (ws' := ((h0, .inr (2, [.ref a_scanner_h0, .ref a_draft_h0, .ref a_waiting_h0, .ref a_functions_h0, .ref (fad 0), .ref (fad (fd + 1)), .ref a_text_h0, .int mode_h0, .int levels_h0, .int signs_h0, .int loops_h0, .int token_h0, .int fault_h0])) :: (a_scanner_h0, .inr (4, [.ref a_text_a_scanner_h0, .int next_a_scanner_h0, .int kind_a_scanner_h0, .int start_a_scanner_h0, .int width_a_scanner_h0])) :: ((fad (fd + 1)), .inr (0, [(frB fad (fd + 1)), (frA fad fn (fd + 1)), .int p1, .int start_a_scanner_h0, .int width_a_scanner_h0, .int (-1), .int 0, .int 0, .int start_a_scanner_h0, .int width_a_scanner_h0, .int signs_h0, .int count_a_waiting_h0, .int 0, .int 0, .int 0])) :: (a_waiting_h0, .inr (5, [.ref a_cells_a_waiting_h0, .int count_a_waiting_h0])) :: fpo fad fn (fd + 1) (va_up fcf fd (kind_t, place_t, width_t, second_t, parts_t, innerParts_t, innerPlace_t, innerWidth_t, signs_t, waitingBelow_t, limited_t, targets_t, lastBlock_t)))) ig_Fr tk_Fr nm_Fr rfl 2 rfl 10 (by decide) rfl m_127 rfl (tk_Fr 10 (by decide)) rfl rfl (Nat.le_of_ble_eq_true rfl) d_Rd_push_83 rfl ?_
    refine j_aload_n d_Rd_push_86 rfl 0 rfl ?_
    refine j_iconst (v := 0) d_Rd_push_87 (by decide) ?_
    refine j_put (ws' := ((h0, .inr (2, [.ref a_scanner_h0, .ref a_draft_h0, .ref a_waiting_h0, .ref a_functions_h0, .ref (fad 0), .ref (fad (fd + 1)), .ref a_text_h0, .int mode_h0, .int levels_h0, .int 0, .int loops_h0, .int token_h0, .int fault_h0])) :: (a_scanner_h0, .inr (4, [.ref a_text_a_scanner_h0, .int next_a_scanner_h0, .int kind_a_scanner_h0, .int start_a_scanner_h0, .int width_a_scanner_h0])) :: ((fad (fd + 1)), .inr (0, [(frB fad (fd + 1)), (frA fad fn (fd + 1)), .int p1, .int start_a_scanner_h0, .int width_a_scanner_h0, .int (-1), .int 0, .int 0, .int start_a_scanner_h0, .int width_a_scanner_h0, .int signs_h0, .int count_a_waiting_h0, .int 0, .int 0, .int 0])) :: (a_waiting_h0, .inr (5, [.ref a_cells_a_waiting_h0, .int count_a_waiting_h0])) :: fpo fad fn (fd + 1) (va_up fcf fd (kind_t, place_t, width_t, second_t, parts_t, innerParts_t, innerPlace_t, innerWidth_t, signs_t, waitingBelow_t, limited_t, targets_t, lastBlock_t)))) ig_Rd tk_Rd nm_Rd rfl 0 rfl 9 (by decide) rfl m_178 rfl (tk_Rd 9 (by decide)) rfl rfl (Nat.le_of_ble_eq_true rfl) d_Rd_push_88 rfl ?_
    replace h := lf_s h
    obtain ⟨h, e1, e2⟩ := h
    replace h := Prod.mk.inj h
    obtain ⟨h9, h⟩ := h
    subst h9
    replace h := Prod.mk.inj h
    obtain ⟨h9, h⟩ := h
    subst h9
    subst h
    refine j_widen (cl' := mc) (sl' := ms) (by omega) (by omega) ?_
    refine j_subP (w := [(h0, .inr (2, [.ref a_scanner_h0, .ref a_draft_h0, .ref a_waiting_h0, .ref a_functions_h0, .ref (fad 0), .ref (fad (fd + 1)), .ref a_text_h0, .int mode_h0, .int levels_h0, .int 0, .int loops_h0, .int token_h0, .int fault_h0])), ((fad (fd + 1)), .inr (0, [(frB fad (fd + 1)), (frA fad fn (fd + 1)), .int p1, .int start_a_scanner_h0, .int width_a_scanner_h0, .int (-1), .int 0, .int 0, .int start_a_scanner_h0, .int width_a_scanner_h0, .int signs_h0, .int count_a_waiting_h0, .int 0, .int 0, .int 0])), (a_scanner_h0, .inr (4, [.ref a_text_a_scanner_h0, .int next_a_scanner_h0, .int kind_a_scanner_h0, .int start_a_scanner_h0, .int width_a_scanner_h0])), (a_waiting_h0, .inr (5, [.ref a_cells_a_waiting_h0, .int count_a_waiting_h0]))]) (pl := fpo fad fn (fd + 1) (va_up fcf fd (kind_t, place_t, width_t, second_t, parts_t, innerParts_t, innerPlace_t, innerWidth_t, signs_t, waitingBelow_t, limited_t, targets_t, lastBlock_t))) (lv' := []) [0, 2, 1, 3] [] 4 rfl rfl (by decide) [] rfl ?_
    exact j_vretE hr d_Rd_push_91 ⟨fad, rfl, rfl⟩
  · replace h := it_f c1 h
    refine j_norm (st' := [.null]) (ws' := ((h0, .inr (2, [.ref a_scanner_h0, .ref a_draft_h0, .ref a_waiting_h0, .ref a_functions_h0, .ref (fad 0), .ref (fad fd), .ref a_text_h0, .int mode_h0, .int levels_h0, .int signs_h0, .int loops_h0, .int token_h0, .int fault_h0])) :: ((fad fd), .inr (0, [(frB fad fd), .null, .int kind_t, .int place_t, .int width_t, .int second_t, .int parts_t, .int innerParts_t, .int innerPlace_t, .int innerWidth_t, .int signs_t, .int waitingBelow_t, .int limited_t, .int targets_t, .int lastBlock_t])) :: (a_scanner_h0, .inr (4, [.ref a_text_a_scanner_h0, .int next_a_scanner_h0, .int kind_a_scanner_h0, .int start_a_scanner_h0, .int width_a_scanner_h0])) :: (a_waiting_h0, .inr (5, [.ref a_cells_a_waiting_h0, .int count_a_waiting_h0])) :: fpo fad fn fd fcf)) rfl rfl (by rw [frA_f c1]) (by rw [frA_f c1]) rfl rfl ?_
    refine j_ifnonnullN d_Rd_push_7 ?_
    refine j_aload_n d_Rd_push_10 rfl 0 rfl ?_
    refine j_get ig_Rd rfl 0 rfl 5 (by decide) rfl m_174 rfl d_Rd_push_11 ?_
    replace h := al_s h
    obtain ⟨C7, S8, h, e1, e2⟩ := h
    replace hC : 0 + 1 + C7 ≤ mc := by omega
    replace hS : 0 + 15 + S8 ≤ ms := by omega
    clear e1 e2
    refine j_new (ci := 0) (fs := [.null, .null, .int 0, .int 0, .int 0, .int 0, .int 0, .int 0, .int 0, .int 0, .int 0, .int 0, .int 0, .int 0, .int 0]) ig_Fr tk_Fr m_100 m_101 m_7 rfl df_Fr (show 0 + 1 ≤ mc by omega) (show 0 + 15 ≤ ms by omega) d_Rd_push_14 (fun q6 => ?_)
    refine j_perm (ws' := ((h0, .inr (2, [.ref a_scanner_h0, .ref a_draft_h0, .ref a_waiting_h0, .ref a_functions_h0, .ref (fad 0), .ref (fad fd), .ref a_text_h0, .int mode_h0, .int levels_h0, .int signs_h0, .int loops_h0, .int token_h0, .int fault_h0])) :: ((fad fd), .inr (0, [(frB fad fd), .null, .int kind_t, .int place_t, .int width_t, .int second_t, .int parts_t, .int innerParts_t, .int innerPlace_t, .int innerWidth_t, .int signs_t, .int waitingBelow_t, .int limited_t, .int targets_t, .int lastBlock_t])) :: (a_scanner_h0, .inr (4, [.ref a_text_a_scanner_h0, .int next_a_scanner_h0, .int kind_a_scanner_h0, .int start_a_scanner_h0, .int width_a_scanner_h0])) :: (a_waiting_h0, .inr (5, [.ref a_cells_a_waiting_h0, .int count_a_waiting_h0])) :: (q6, .inr (0, [.null, .null, .int 0, .int 0, .int 0, .int 0, .int 0, .int 0, .int 0, .int 0, .int 0, .int 0, .int 0, .int 0, .int 0])) :: fpo fad fn fd fcf)) (pm_eq (a := [(h0, .inr (2, [.ref a_scanner_h0, .ref a_draft_h0, .ref a_waiting_h0, .ref a_functions_h0, .ref (fad 0), .ref (fad fd), .ref a_text_h0, .int mode_h0, .int levels_h0, .int signs_h0, .int loops_h0, .int token_h0, .int fault_h0])), ((fad fd), .inr (0, [(frB fad fd), .null, .int kind_t, .int place_t, .int width_t, .int second_t, .int parts_t, .int innerParts_t, .int innerPlace_t, .int innerWidth_t, .int signs_t, .int waitingBelow_t, .int limited_t, .int targets_t, .int lastBlock_t])), (a_scanner_h0, .inr (4, [.ref a_text_a_scanner_h0, .int next_a_scanner_h0, .int kind_a_scanner_h0, .int start_a_scanner_h0, .int width_a_scanner_h0])), (a_waiting_h0, .inr (5, [.ref a_cells_a_waiting_h0, .int count_a_waiting_h0]))]) (b := fpo fad fn fd fcf) (c := [(q6, .inr (0, [.null, .null, .int 0, .int 0, .int 0, .int 0, .int 0, .int 0, .int 0, .int 0, .int 0, .int 0, .int 0, .int 0, .int 0]))]) rfl) ?_
    refine j_norm (pc' := 17) (st' := [.ref q6, .ref (fad fd)]) (ws' := ((h0, .inr (2, [.ref a_scanner_h0, .ref a_draft_h0, .ref a_waiting_h0, .ref a_functions_h0, .ref (fad 0), .ref (fad fd), .ref a_text_h0, .int mode_h0, .int levels_h0, .int signs_h0, .int loops_h0, .int token_h0, .int fault_h0])) :: ((fad fd), .inr (0, [(frB fad fd), .null, .int kind_t, .int place_t, .int width_t, .int second_t, .int parts_t, .int innerParts_t, .int innerPlace_t, .int innerWidth_t, .int signs_t, .int waitingBelow_t, .int limited_t, .int targets_t, .int lastBlock_t])) :: (a_scanner_h0, .inr (4, [.ref a_text_a_scanner_h0, .int next_a_scanner_h0, .int kind_a_scanner_h0, .int start_a_scanner_h0, .int width_a_scanner_h0])) :: (a_waiting_h0, .inr (5, [.ref a_cells_a_waiting_h0, .int count_a_waiting_h0])) :: (q6, .inr (0, [.null, .null, .int 0, .int 0, .int 0, .int 0, .int 0, .int 0, .int 0, .int 0, .int 0, .int 0, .int 0, .int 0, .int 0])) :: fpo fad fn fd fcf)) (cl' := 0 + 1) (sl' := 0 + 15) rfl rfl rfl rfl rfl rfl ?_
    refine j_dup rfl d_Rd_push_17 ?_
    refine j_aload_n d_Rd_push_18 rfl 0 rfl ?_
    refine j_get ig_Rd rfl 0 rfl 5 (by decide) rfl m_174 rfl d_Rd_push_19 ?_
    refine j_callIg (n := 1) (As := [.ref (fad fd)]) (rest := [.ref q6, .ref (fad fd)]) (wr := ([(h0, .inr (2, [.ref a_scanner_h0, .ref a_draft_h0, .ref a_waiting_h0, .ref a_functions_h0, .ref (fad 0), .ref (fad fd), .ref a_text_h0, .int mode_h0, .int levels_h0, .int signs_h0, .int loops_h0, .int token_h0, .int fault_h0])), ((fad fd), .inr (0, [(frB fad fd), .null, .int kind_t, .int place_t, .int width_t, .int second_t, .int parts_t, .int innerParts_t, .int innerPlace_t, .int innerWidth_t, .int signs_t, .int waitingBelow_t, .int limited_t, .int targets_t, .int lastBlock_t])), (a_scanner_h0, .inr (4, [.ref a_text_a_scanner_h0, .int next_a_scanner_h0, .int kind_a_scanner_h0, .int start_a_scanner_h0, .int width_a_scanner_h0])), (a_waiting_h0, .inr (5, [.ref a_cells_a_waiting_h0, .int count_a_waiting_h0]))] ++ fpo fad fn fd fcf)) (c_Fr_init l D cI cB cJ cS q6 (fad fd)  ) m_102 m_103 m_7 mc_Fr_init rfl (by decide) ⟨Nat.le_of_ble_eq_true rfl, Nat.le_of_ble_eq_true rfl⟩ (pk_mid (wr := [(h0, .inr (2, [.ref a_scanner_h0, .ref a_draft_h0, .ref a_waiting_h0, .ref a_functions_h0, .ref (fad 0), .ref (fad fd), .ref a_text_h0, .int mode_h0, .int levels_h0, .int signs_h0, .int loops_h0, .int token_h0, .int fault_h0])), ((fad fd), .inr (0, [(frB fad fd), .null, .int kind_t, .int place_t, .int width_t, .int second_t, .int parts_t, .int innerParts_t, .int innerPlace_t, .int innerWidth_t, .int signs_t, .int waitingBelow_t, .int limited_t, .int targets_t, .int lastBlock_t])), (a_scanner_h0, .inr (4, [.ref a_text_a_scanner_h0, .int next_a_scanner_h0, .int kind_a_scanner_h0, .int start_a_scanner_h0, .int width_a_scanner_h0])), (a_waiting_h0, .inr (5, [.ref a_cells_a_waiting_h0, .int count_a_waiting_h0]))]) (w0 := [(q6, .inr (0, [.null, .null, .int 0, .int 0, .int 0, .int 0, .int 0, .int 0, .int 0, .int 0, .int 0, .int 0, .int 0, .int 0, .int 0]))]) (pl := fpo fad fn fd fcf) [0, 1, 2, 3, 4] 5 rfl rfl (by decide)) rfl rfl (Nat.le_of_ble_eq_true rfl) d_Rd_push_22 ⟨show 0 + 1 + 0 ≤ mc by omega, show 0 + 15 + 0 ≤ ms by omega⟩ (fun v w hq => ?_)
    obtain ⟨rfl, rfl⟩ := hq
    refine j_perm (ws' := ((h0, .inr (2, [.ref a_scanner_h0, .ref a_draft_h0, .ref a_waiting_h0, .ref a_functions_h0, .ref (fad 0), .ref (fad fd), .ref a_text_h0, .int mode_h0, .int levels_h0, .int signs_h0, .int loops_h0, .int token_h0, .int fault_h0])) :: ((fad fd), .inr (0, [(frB fad fd), .null, .int kind_t, .int place_t, .int width_t, .int second_t, .int parts_t, .int innerParts_t, .int innerPlace_t, .int innerWidth_t, .int signs_t, .int waitingBelow_t, .int limited_t, .int targets_t, .int lastBlock_t])) :: (a_scanner_h0, .inr (4, [.ref a_text_a_scanner_h0, .int next_a_scanner_h0, .int kind_a_scanner_h0, .int start_a_scanner_h0, .int width_a_scanner_h0])) :: (a_waiting_h0, .inr (5, [.ref a_cells_a_waiting_h0, .int count_a_waiting_h0])) :: (q6, .inr (0, [.ref (fad fd), .null, .int 0, .int 0, .int 0, .int (-1), .int 0, .int 0, .int 0, .int 0, .int 0, .int 0, .int 0, .int 0, .int 0])) :: fpo fad fn fd fcf)) (pm_eq (a := [(h0, .inr (2, [.ref a_scanner_h0, .ref a_draft_h0, .ref a_waiting_h0, .ref a_functions_h0, .ref (fad 0), .ref (fad fd), .ref a_text_h0, .int mode_h0, .int levels_h0, .int signs_h0, .int loops_h0, .int token_h0, .int fault_h0])), ((fad fd), .inr (0, [(frB fad fd), .null, .int kind_t, .int place_t, .int width_t, .int second_t, .int parts_t, .int innerParts_t, .int innerPlace_t, .int innerWidth_t, .int signs_t, .int waitingBelow_t, .int limited_t, .int targets_t, .int lastBlock_t])), (a_scanner_h0, .inr (4, [.ref a_text_a_scanner_h0, .int next_a_scanner_h0, .int kind_a_scanner_h0, .int start_a_scanner_h0, .int width_a_scanner_h0])), (a_waiting_h0, .inr (5, [.ref a_cells_a_waiting_h0, .int count_a_waiting_h0]))]) (b := fpo fad fn fd fcf) (c := [(q6, .inr (0, [.ref (fad fd), .null, .int 0, .int 0, .int 0, .int (-1), .int 0, .int 0, .int 0, .int 0, .int 0, .int 0, .int 0, .int 0, .int 0]))]) rfl) ?_
    refine j_norm (pc' := 25) (st' := [.ref q6, .ref (fad fd)]) (ws' := ((h0, .inr (2, [.ref a_scanner_h0, .ref a_draft_h0, .ref a_waiting_h0, .ref a_functions_h0, .ref (fad 0), .ref (fad fd), .ref a_text_h0, .int mode_h0, .int levels_h0, .int signs_h0, .int loops_h0, .int token_h0, .int fault_h0])) :: ((fad fd), .inr (0, [(frB fad fd), .null, .int kind_t, .int place_t, .int width_t, .int second_t, .int parts_t, .int innerParts_t, .int innerPlace_t, .int innerWidth_t, .int signs_t, .int waitingBelow_t, .int limited_t, .int targets_t, .int lastBlock_t])) :: (a_scanner_h0, .inr (4, [.ref a_text_a_scanner_h0, .int next_a_scanner_h0, .int kind_a_scanner_h0, .int start_a_scanner_h0, .int width_a_scanner_h0])) :: (a_waiting_h0, .inr (5, [.ref a_cells_a_waiting_h0, .int count_a_waiting_h0])) :: (q6, .inr (0, [.ref (fad fd), .null, .int 0, .int 0, .int 0, .int (-1), .int 0, .int 0, .int 0, .int 0, .int 0, .int 0, .int 0, .int 0, .int 0])) :: fpo fad fn fd fcf)) (cl' := 0 + 1) (sl' := 0 + 15) rfl rfl rfl rfl rfl rfl ?_
    refine j_put (ws' := ((h0, .inr (2, [.ref a_scanner_h0, .ref a_draft_h0, .ref a_waiting_h0, .ref a_functions_h0, .ref (fad 0), .ref (fad fd), .ref a_text_h0, .int mode_h0, .int levels_h0, .int signs_h0, .int loops_h0, .int token_h0, .int fault_h0])) :: ((fad fd), .inr (0, [(frB fad fd), .ref q6, .int kind_t, .int place_t, .int width_t, .int second_t, .int parts_t, .int innerParts_t, .int innerPlace_t, .int innerWidth_t, .int signs_t, .int waitingBelow_t, .int limited_t, .int targets_t, .int lastBlock_t])) :: (a_scanner_h0, .inr (4, [.ref a_text_a_scanner_h0, .int next_a_scanner_h0, .int kind_a_scanner_h0, .int start_a_scanner_h0, .int width_a_scanner_h0])) :: (a_waiting_h0, .inr (5, [.ref a_cells_a_waiting_h0, .int count_a_waiting_h0])) :: (q6, .inr (0, [.ref (fad fd), .null, .int 0, .int 0, .int 0, .int (-1), .int 0, .int 0, .int 0, .int 0, .int 0, .int 0, .int 0, .int 0, .int 0])) :: fpo fad fn fd fcf)) ig_Fr tk_Fr nm_Fr rfl 1 rfl 1 (by decide) rfl m_109 rfl (tk_Fr 1 (by decide)) rfl rfl (Nat.le_of_ble_eq_true rfl) d_Rd_push_25 rfl ?_
    refine j_aload_n d_Rd_push_28 rfl 0 rfl ?_
    refine j_aload_n d_Rd_push_29 rfl 0 rfl ?_
    refine j_get ig_Rd rfl 0 rfl 5 (by decide) rfl m_174 rfl d_Rd_push_30 ?_
    refine j_get ig_Fr rfl 1 rfl 1 (by decide) rfl m_109 rfl d_Rd_push_33 ?_
    replace h := grd_s h
    obtain ⟨hgd, h⟩ := h
    refine j_put (ws' := ((h0, .inr (2, [.ref a_scanner_h0, .ref a_draft_h0, .ref a_waiting_h0, .ref a_functions_h0, .ref (fad 0), .ref q6, .ref a_text_h0, .int mode_h0, .int levels_h0, .int signs_h0, .int loops_h0, .int token_h0, .int fault_h0])) :: ((fad fd), .inr (0, [(frB fad fd), .ref q6, .int kind_t, .int place_t, .int width_t, .int second_t, .int parts_t, .int innerParts_t, .int innerPlace_t, .int innerWidth_t, .int signs_t, .int waitingBelow_t, .int limited_t, .int targets_t, .int lastBlock_t])) :: (a_scanner_h0, .inr (4, [.ref a_text_a_scanner_h0, .int next_a_scanner_h0, .int kind_a_scanner_h0, .int start_a_scanner_h0, .int width_a_scanner_h0])) :: (a_waiting_h0, .inr (5, [.ref a_cells_a_waiting_h0, .int count_a_waiting_h0])) :: (q6, .inr (0, [.ref (fad fd), .null, .int 0, .int 0, .int 0, .int (-1), .int 0, .int 0, .int 0, .int 0, .int 0, .int 0, .int 0, .int 0, .int 0])) :: fpo fad fn fd fcf)) ig_Rd tk_Rd nm_Rd rfl 0 rfl 5 (by decide) rfl m_174 rfl (tk_Rd 5 (by decide)) rfl rfl (Nat.le_of_ble_eq_true rfl) d_Rd_push_36 rfl ?_
    refine j_perm (ws' := ((h0, .inr (2, [.ref a_scanner_h0, .ref a_draft_h0, .ref a_waiting_h0, .ref a_functions_h0, .ref (fad 0), .ref q6, .ref a_text_h0, .int mode_h0, .int levels_h0, .int signs_h0, .int loops_h0, .int token_h0, .int fault_h0])) :: (a_scanner_h0, .inr (4, [.ref a_text_a_scanner_h0, .int next_a_scanner_h0, .int kind_a_scanner_h0, .int start_a_scanner_h0, .int width_a_scanner_h0])) :: (a_waiting_h0, .inr (5, [.ref a_cells_a_waiting_h0, .int count_a_waiting_h0])) :: ((fad fd), .inr (0, [(frB fad fd), .ref q6, .int kind_t, .int place_t, .int width_t, .int second_t, .int parts_t, .int innerParts_t, .int innerPlace_t, .int innerWidth_t, .int signs_t, .int waitingBelow_t, .int limited_t, .int targets_t, .int lastBlock_t])) :: (q6, .inr (0, [.ref (fad fd), .null, .int 0, .int 0, .int 0, .int (-1), .int 0, .int 0, .int 0, .int 0, .int 0, .int 0, .int 0, .int 0, .int 0])) :: fpo fad fn fd fcf)) (pk_perm (w := [(h0, .inr (2, [.ref a_scanner_h0, .ref a_draft_h0, .ref a_waiting_h0, .ref a_functions_h0, .ref (fad 0), .ref q6, .ref a_text_h0, .int mode_h0, .int levels_h0, .int signs_h0, .int loops_h0, .int token_h0, .int fault_h0])), (a_scanner_h0, .inr (4, [.ref a_text_a_scanner_h0, .int next_a_scanner_h0, .int kind_a_scanner_h0, .int start_a_scanner_h0, .int width_a_scanner_h0])), (a_waiting_h0, .inr (5, [.ref a_cells_a_waiting_h0, .int count_a_waiting_h0])), ((fad fd), .inr (0, [(frB fad fd), .ref q6, .int kind_t, .int place_t, .int width_t, .int second_t, .int parts_t, .int innerParts_t, .int innerPlace_t, .int innerWidth_t, .int signs_t, .int waitingBelow_t, .int limited_t, .int targets_t, .int lastBlock_t])), (q6, .inr (0, [.ref (fad fd), .null, .int 0, .int 0, .int 0, .int (-1), .int 0, .int 0, .int 0, .int 0, .int 0, .int 0, .int 0, .int 0, .int 0]))]) [0, 2, 3, 1, 4] 5 rfl rfl (by decide)) ?_
    obtain ⟨a10, ea10⟩ : ∃ z, z = va_up fad fn q6 := ⟨_, rfl⟩
    refine j_perm (ws' := ((h0, .inr (2, [.ref a_scanner_h0, .ref a_draft_h0, .ref a_waiting_h0, .ref a_functions_h0, .ref (a10 0), .ref (a10 (fd + 1)), .ref a_text_h0, .int mode_h0, .int levels_h0, .int signs_h0, .int loops_h0, .int token_h0, .int fault_h0])) :: (a_scanner_h0, .inr (4, [.ref a_text_a_scanner_h0, .int next_a_scanner_h0, .int kind_a_scanner_h0, .int start_a_scanner_h0, .int width_a_scanner_h0])) :: (a_waiting_h0, .inr (5, [.ref a_cells_a_waiting_h0, .int count_a_waiting_h0])) :: ((a10 (fd + 1)), .inr (0, [(frB a10 (fd + 1)), (frA a10 (fn + 1) (fd + 1)), .int 0, .int 0, .int 0, .int (-1), .int 0, .int 0, .int 0, .int 0, .int 0, .int 0, .int 0, .int 0, .int 0])) :: fpo a10 (fn + 1) (fd + 1) (va_up fcf fd (kind_t, place_t, width_t, second_t, parts_t, innerParts_t, innerPlace_t, innerWidth_t, signs_t, waitingBelow_t, limited_t, targets_t, lastBlock_t)))) (by rw [fq_0 ea10 (show fd < fn by omega) (show fd + 1 = fn by omega), fq_1 ea10 (show fd < fn by omega) (show fd + 1 = fn by omega), fq_B ea10 (show fd < fn by omega) (show fd + 1 = fn by omega), fq_A ea10 (show fd < fn by omega) (show fd + 1 = fn by omega)]; exact List.Perm.cons _ (List.Perm.cons _ (List.Perm.cons _ (fq_perm (c := (kind_t, place_t, width_t, second_t, parts_t, innerParts_t, innerPlace_t, innerWidth_t, signs_t, waitingBelow_t, limited_t, targets_t, lastBlock_t)) ea10 (show fd < fn by omega) (show fd + 1 = fn by omega))))) ?_
    refine j_aload_n d_Rd_push_39 rfl 0 rfl ?_
    refine j_get ig_Rd rfl 0 rfl 5 (by decide) rfl m_174 rfl d_Rd_push_40 ?_
    refine j_iload_n d_Rd_push_43 rfl 1 rfl ?_
    refine j_aload_n d_Rd_push_44 rfl 0 rfl ?_
    refine j_get ig_Rd rfl 0 rfl 0 (by decide) rfl m_169 rfl d_Rd_push_45 ?_
    refine j_callVg (n := 0) (As := []) (rest := [.int p1, .ref (a10 (fd + 1))]) (wr := ([(h0, .inr (2, [.ref a_scanner_h0, .ref a_draft_h0, .ref a_waiting_h0, .ref a_functions_h0, .ref (a10 0), .ref (a10 (fd + 1)), .ref a_text_h0, .int mode_h0, .int levels_h0, .int signs_h0, .int loops_h0, .int token_h0, .int fault_h0])), (a_waiting_h0, .inr (5, [.ref a_cells_a_waiting_h0, .int count_a_waiting_h0])), ((a10 (fd + 1)), .inr (0, [(frB a10 (fd + 1)), (frA a10 (fn + 1) (fd + 1)), .int 0, .int 0, .int 0, .int (-1), .int 0, .int 0, .int 0, .int 0, .int 0, .int 0, .int 0, .int 0, .int 0]))] ++ fpo a10 (fn + 1) (fd + 1) (va_up fcf fd (kind_t, place_t, width_t, second_t, parts_t, innerParts_t, innerPlace_t, innerWidth_t, signs_t, waitingBelow_t, limited_t, targets_t, lastBlock_t)))) (c_Sc_start l D cI cB cJ cS a_scanner_h0 a_text_a_scanner_h0 next_a_scanner_h0 kind_a_scanner_h0 start_a_scanner_h0 width_a_scanner_h0  ) k_Rd_113 (by decide) ⟨Nat.le_of_ble_eq_true rfl, Nat.le_of_ble_eq_true rfl⟩ rfl 0 rfl (pk_mid (wr := [(h0, .inr (2, [.ref a_scanner_h0, .ref a_draft_h0, .ref a_waiting_h0, .ref a_functions_h0, .ref (a10 0), .ref (a10 (fd + 1)), .ref a_text_h0, .int mode_h0, .int levels_h0, .int signs_h0, .int loops_h0, .int token_h0, .int fault_h0])), (a_waiting_h0, .inr (5, [.ref a_cells_a_waiting_h0, .int count_a_waiting_h0])), ((a10 (fd + 1)), .inr (0, [(frB a10 (fd + 1)), (frA a10 (fn + 1) (fd + 1)), .int 0, .int 0, .int 0, .int (-1), .int 0, .int 0, .int 0, .int 0, .int 0, .int 0, .int 0, .int 0, .int 0]))]) (w0 := [(a_scanner_h0, .inr (4, [.ref a_text_a_scanner_h0, .int next_a_scanner_h0, .int kind_a_scanner_h0, .int start_a_scanner_h0, .int width_a_scanner_h0]))]) (pl := fpo a10 (fn + 1) (fd + 1) (va_up fcf fd (kind_t, place_t, width_t, second_t, parts_t, innerParts_t, innerPlace_t, innerWidth_t, signs_t, waitingBelow_t, limited_t, targets_t, lastBlock_t))) [0, 2, 3, 1] 4 rfl rfl (by decide)) rfl rfl (Nat.le_of_ble_eq_true rfl) d_Rd_push_48 ⟨show 0 + 1 + 0 ≤ mc by omega, show 0 + 15 + 0 ≤ ms by omega⟩ (fun v w hq => ?_)
    obtain ⟨rfl, rfl⟩ := hq
    refine j_perm (ws' := ((h0, .inr (2, [.ref a_scanner_h0, .ref a_draft_h0, .ref a_waiting_h0, .ref a_functions_h0, .ref (a10 0), .ref (a10 (fd + 1)), .ref a_text_h0, .int mode_h0, .int levels_h0, .int signs_h0, .int loops_h0, .int token_h0, .int fault_h0])) :: (a_waiting_h0, .inr (5, [.ref a_cells_a_waiting_h0, .int count_a_waiting_h0])) :: ((a10 (fd + 1)), .inr (0, [(frB a10 (fd + 1)), (frA a10 (fn + 1) (fd + 1)), .int 0, .int 0, .int 0, .int (-1), .int 0, .int 0, .int 0, .int 0, .int 0, .int 0, .int 0, .int 0, .int 0])) :: (a_scanner_h0, .inr (4, [.ref a_text_a_scanner_h0, .int next_a_scanner_h0, .int kind_a_scanner_h0, .int start_a_scanner_h0, .int width_a_scanner_h0])) :: fpo a10 (fn + 1) (fd + 1) (va_up fcf fd (kind_t, place_t, width_t, second_t, parts_t, innerParts_t, innerPlace_t, innerWidth_t, signs_t, waitingBelow_t, limited_t, targets_t, lastBlock_t)))) (pm_eq (a := [(h0, .inr (2, [.ref a_scanner_h0, .ref a_draft_h0, .ref a_waiting_h0, .ref a_functions_h0, .ref (a10 0), .ref (a10 (fd + 1)), .ref a_text_h0, .int mode_h0, .int levels_h0, .int signs_h0, .int loops_h0, .int token_h0, .int fault_h0])), (a_waiting_h0, .inr (5, [.ref a_cells_a_waiting_h0, .int count_a_waiting_h0])), ((a10 (fd + 1)), .inr (0, [(frB a10 (fd + 1)), (frA a10 (fn + 1) (fd + 1)), .int 0, .int 0, .int 0, .int (-1), .int 0, .int 0, .int 0, .int 0, .int 0, .int 0, .int 0, .int 0, .int 0]))]) (b := fpo a10 (fn + 1) (fd + 1) (va_up fcf fd (kind_t, place_t, width_t, second_t, parts_t, innerParts_t, innerPlace_t, innerWidth_t, signs_t, waitingBelow_t, limited_t, targets_t, lastBlock_t))) (c := [(a_scanner_h0, .inr (4, [.ref a_text_a_scanner_h0, .int next_a_scanner_h0, .int kind_a_scanner_h0, .int start_a_scanner_h0, .int width_a_scanner_h0]))]) rfl) ?_
    refine j_norm (pc' := 51) (st' := [.int start_a_scanner_h0, .int p1, .ref (a10 (fd + 1))]) (ws' := ((h0, .inr (2, [.ref a_scanner_h0, .ref a_draft_h0, .ref a_waiting_h0, .ref a_functions_h0, .ref (a10 0), .ref (a10 (fd + 1)), .ref a_text_h0, .int mode_h0, .int levels_h0, .int signs_h0, .int loops_h0, .int token_h0, .int fault_h0])) :: (a_waiting_h0, .inr (5, [.ref a_cells_a_waiting_h0, .int count_a_waiting_h0])) :: ((a10 (fd + 1)), .inr (0, [(frB a10 (fd + 1)), (frA a10 (fn + 1) (fd + 1)), .int 0, .int 0, .int 0, .int (-1), .int 0, .int 0, .int 0, .int 0, .int 0, .int 0, .int 0, .int 0, .int 0])) :: (a_scanner_h0, .inr (4, [.ref a_text_a_scanner_h0, .int next_a_scanner_h0, .int kind_a_scanner_h0, .int start_a_scanner_h0, .int width_a_scanner_h0])) :: fpo a10 (fn + 1) (fd + 1) (va_up fcf fd (kind_t, place_t, width_t, second_t, parts_t, innerParts_t, innerPlace_t, innerWidth_t, signs_t, waitingBelow_t, limited_t, targets_t, lastBlock_t)))) (cl' := 0 + 1) (sl' := 0 + 15) rfl rfl rfl rfl rfl rfl ?_
    refine j_aload_n d_Rd_push_51 rfl 0 rfl ?_
    refine j_get ig_Rd rfl 0 rfl 0 (by decide) rfl m_169 rfl d_Rd_push_52 ?_
    refine j_callVg (n := 0) (As := []) (rest := [.int start_a_scanner_h0, .int p1, .ref (a10 (fd + 1))]) (wr := ([(h0, .inr (2, [.ref a_scanner_h0, .ref a_draft_h0, .ref a_waiting_h0, .ref a_functions_h0, .ref (a10 0), .ref (a10 (fd + 1)), .ref a_text_h0, .int mode_h0, .int levels_h0, .int signs_h0, .int loops_h0, .int token_h0, .int fault_h0])), (a_waiting_h0, .inr (5, [.ref a_cells_a_waiting_h0, .int count_a_waiting_h0])), ((a10 (fd + 1)), .inr (0, [(frB a10 (fd + 1)), (frA a10 (fn + 1) (fd + 1)), .int 0, .int 0, .int 0, .int (-1), .int 0, .int 0, .int 0, .int 0, .int 0, .int 0, .int 0, .int 0, .int 0]))] ++ fpo a10 (fn + 1) (fd + 1) (va_up fcf fd (kind_t, place_t, width_t, second_t, parts_t, innerParts_t, innerPlace_t, innerWidth_t, signs_t, waitingBelow_t, limited_t, targets_t, lastBlock_t)))) (c_Sc_width l D cI cB cJ cS a_scanner_h0 a_text_a_scanner_h0 next_a_scanner_h0 kind_a_scanner_h0 start_a_scanner_h0 width_a_scanner_h0  ) k_Rd_124 (by decide) ⟨Nat.le_of_ble_eq_true rfl, Nat.le_of_ble_eq_true rfl⟩ rfl 0 rfl (pk_mid (wr := [(h0, .inr (2, [.ref a_scanner_h0, .ref a_draft_h0, .ref a_waiting_h0, .ref a_functions_h0, .ref (a10 0), .ref (a10 (fd + 1)), .ref a_text_h0, .int mode_h0, .int levels_h0, .int signs_h0, .int loops_h0, .int token_h0, .int fault_h0])), (a_waiting_h0, .inr (5, [.ref a_cells_a_waiting_h0, .int count_a_waiting_h0])), ((a10 (fd + 1)), .inr (0, [(frB a10 (fd + 1)), (frA a10 (fn + 1) (fd + 1)), .int 0, .int 0, .int 0, .int (-1), .int 0, .int 0, .int 0, .int 0, .int 0, .int 0, .int 0, .int 0, .int 0]))]) (w0 := [(a_scanner_h0, .inr (4, [.ref a_text_a_scanner_h0, .int next_a_scanner_h0, .int kind_a_scanner_h0, .int start_a_scanner_h0, .int width_a_scanner_h0]))]) (pl := fpo a10 (fn + 1) (fd + 1) (va_up fcf fd (kind_t, place_t, width_t, second_t, parts_t, innerParts_t, innerPlace_t, innerWidth_t, signs_t, waitingBelow_t, limited_t, targets_t, lastBlock_t))) [0, 1, 2, 3] 4 rfl rfl (by decide)) rfl rfl (Nat.le_of_ble_eq_true rfl) d_Rd_push_55 ⟨show 0 + 1 + 0 ≤ mc by omega, show 0 + 15 + 0 ≤ ms by omega⟩ (fun v w hq => ?_)
    obtain ⟨rfl, rfl⟩ := hq
    refine j_perm (ws' := ((h0, .inr (2, [.ref a_scanner_h0, .ref a_draft_h0, .ref a_waiting_h0, .ref a_functions_h0, .ref (a10 0), .ref (a10 (fd + 1)), .ref a_text_h0, .int mode_h0, .int levels_h0, .int signs_h0, .int loops_h0, .int token_h0, .int fault_h0])) :: (a_waiting_h0, .inr (5, [.ref a_cells_a_waiting_h0, .int count_a_waiting_h0])) :: ((a10 (fd + 1)), .inr (0, [(frB a10 (fd + 1)), (frA a10 (fn + 1) (fd + 1)), .int 0, .int 0, .int 0, .int (-1), .int 0, .int 0, .int 0, .int 0, .int 0, .int 0, .int 0, .int 0, .int 0])) :: (a_scanner_h0, .inr (4, [.ref a_text_a_scanner_h0, .int next_a_scanner_h0, .int kind_a_scanner_h0, .int start_a_scanner_h0, .int width_a_scanner_h0])) :: fpo a10 (fn + 1) (fd + 1) (va_up fcf fd (kind_t, place_t, width_t, second_t, parts_t, innerParts_t, innerPlace_t, innerWidth_t, signs_t, waitingBelow_t, limited_t, targets_t, lastBlock_t)))) (pm_eq (a := [(h0, .inr (2, [.ref a_scanner_h0, .ref a_draft_h0, .ref a_waiting_h0, .ref a_functions_h0, .ref (a10 0), .ref (a10 (fd + 1)), .ref a_text_h0, .int mode_h0, .int levels_h0, .int signs_h0, .int loops_h0, .int token_h0, .int fault_h0])), (a_waiting_h0, .inr (5, [.ref a_cells_a_waiting_h0, .int count_a_waiting_h0])), ((a10 (fd + 1)), .inr (0, [(frB a10 (fd + 1)), (frA a10 (fn + 1) (fd + 1)), .int 0, .int 0, .int 0, .int (-1), .int 0, .int 0, .int 0, .int 0, .int 0, .int 0, .int 0, .int 0, .int 0]))]) (b := fpo a10 (fn + 1) (fd + 1) (va_up fcf fd (kind_t, place_t, width_t, second_t, parts_t, innerParts_t, innerPlace_t, innerWidth_t, signs_t, waitingBelow_t, limited_t, targets_t, lastBlock_t))) (c := [(a_scanner_h0, .inr (4, [.ref a_text_a_scanner_h0, .int next_a_scanner_h0, .int kind_a_scanner_h0, .int start_a_scanner_h0, .int width_a_scanner_h0]))]) rfl) ?_
    refine j_norm (pc' := 58) (st' := [.int width_a_scanner_h0, .int start_a_scanner_h0, .int p1, .ref (a10 (fd + 1))]) (ws' := ((h0, .inr (2, [.ref a_scanner_h0, .ref a_draft_h0, .ref a_waiting_h0, .ref a_functions_h0, .ref (a10 0), .ref (a10 (fd + 1)), .ref a_text_h0, .int mode_h0, .int levels_h0, .int signs_h0, .int loops_h0, .int token_h0, .int fault_h0])) :: (a_waiting_h0, .inr (5, [.ref a_cells_a_waiting_h0, .int count_a_waiting_h0])) :: ((a10 (fd + 1)), .inr (0, [(frB a10 (fd + 1)), (frA a10 (fn + 1) (fd + 1)), .int 0, .int 0, .int 0, .int (-1), .int 0, .int 0, .int 0, .int 0, .int 0, .int 0, .int 0, .int 0, .int 0])) :: (a_scanner_h0, .inr (4, [.ref a_text_a_scanner_h0, .int next_a_scanner_h0, .int kind_a_scanner_h0, .int start_a_scanner_h0, .int width_a_scanner_h0])) :: fpo a10 (fn + 1) (fd + 1) (va_up fcf fd (kind_t, place_t, width_t, second_t, parts_t, innerParts_t, innerPlace_t, innerWidth_t, signs_t, waitingBelow_t, limited_t, targets_t, lastBlock_t)))) (cl' := 0 + 1) (sl' := 0 + 15) rfl rfl rfl rfl rfl rfl ?_
    refine j_callVg (n := 3) (As := [.int p1, .int start_a_scanner_h0, .int width_a_scanner_h0]) (rest := []) (wr := ([(h0, .inr (2, [.ref a_scanner_h0, .ref a_draft_h0, .ref a_waiting_h0, .ref a_functions_h0, .ref (a10 0), .ref (a10 (fd + 1)), .ref a_text_h0, .int mode_h0, .int levels_h0, .int signs_h0, .int loops_h0, .int token_h0, .int fault_h0])), (a_waiting_h0, .inr (5, [.ref a_cells_a_waiting_h0, .int count_a_waiting_h0])), (a_scanner_h0, .inr (4, [.ref a_text_a_scanner_h0, .int next_a_scanner_h0, .int kind_a_scanner_h0, .int start_a_scanner_h0, .int width_a_scanner_h0]))] ++ fpo a10 (fn + 1) (fd + 1) (va_up fcf fd (kind_t, place_t, width_t, second_t, parts_t, innerParts_t, innerPlace_t, innerWidth_t, signs_t, waitingBelow_t, limited_t, targets_t, lastBlock_t)))) (c_Fr_begin l D cI cB cJ cS (a10 (fd + 1)) (frB a10 (fd + 1)) (frA a10 (fn + 1) (fd + 1)) p1 start_a_scanner_h0 width_a_scanner_h0 0 0 0 (-1) 0 0 0 0 0 0 0 0 0  ) k_Rd_121 (by decide) ⟨Nat.le_of_ble_eq_true rfl, Nat.le_of_ble_eq_true rfl⟩ rfl 0 rfl (pk_mid (wr := [(h0, .inr (2, [.ref a_scanner_h0, .ref a_draft_h0, .ref a_waiting_h0, .ref a_functions_h0, .ref (a10 0), .ref (a10 (fd + 1)), .ref a_text_h0, .int mode_h0, .int levels_h0, .int signs_h0, .int loops_h0, .int token_h0, .int fault_h0])), (a_waiting_h0, .inr (5, [.ref a_cells_a_waiting_h0, .int count_a_waiting_h0])), (a_scanner_h0, .inr (4, [.ref a_text_a_scanner_h0, .int next_a_scanner_h0, .int kind_a_scanner_h0, .int start_a_scanner_h0, .int width_a_scanner_h0]))]) (w0 := [((a10 (fd + 1)), .inr (0, [(frB a10 (fd + 1)), (frA a10 (fn + 1) (fd + 1)), .int 0, .int 0, .int 0, .int (-1), .int 0, .int 0, .int 0, .int 0, .int 0, .int 0, .int 0, .int 0, .int 0]))]) (pl := fpo a10 (fn + 1) (fd + 1) (va_up fcf fd (kind_t, place_t, width_t, second_t, parts_t, innerParts_t, innerPlace_t, innerWidth_t, signs_t, waitingBelow_t, limited_t, targets_t, lastBlock_t))) [0, 1, 3, 2] 4 rfl rfl (by decide)) rfl rfl (Nat.le_of_ble_eq_true rfl) d_Rd_push_58 ⟨show 0 + 1 + 0 ≤ mc by omega, show 0 + 15 + 0 ≤ ms by omega⟩ (fun v w hq => ?_)
    obtain ⟨rfl, rfl⟩ := hq
    refine j_perm (ws' := ((h0, .inr (2, [.ref a_scanner_h0, .ref a_draft_h0, .ref a_waiting_h0, .ref a_functions_h0, .ref (a10 0), .ref (a10 (fd + 1)), .ref a_text_h0, .int mode_h0, .int levels_h0, .int signs_h0, .int loops_h0, .int token_h0, .int fault_h0])) :: (a_waiting_h0, .inr (5, [.ref a_cells_a_waiting_h0, .int count_a_waiting_h0])) :: (a_scanner_h0, .inr (4, [.ref a_text_a_scanner_h0, .int next_a_scanner_h0, .int kind_a_scanner_h0, .int start_a_scanner_h0, .int width_a_scanner_h0])) :: ((a10 (fd + 1)), .inr (0, [(frB a10 (fd + 1)), (frA a10 (fn + 1) (fd + 1)), .int p1, .int start_a_scanner_h0, .int width_a_scanner_h0, .int (-1), .int 0, .int 0, .int start_a_scanner_h0, .int width_a_scanner_h0, .int 0, .int 0, .int 0, .int 0, .int 0])) :: fpo a10 (fn + 1) (fd + 1) (va_up fcf fd (kind_t, place_t, width_t, second_t, parts_t, innerParts_t, innerPlace_t, innerWidth_t, signs_t, waitingBelow_t, limited_t, targets_t, lastBlock_t)))) (pm_eq (a := [(h0, .inr (2, [.ref a_scanner_h0, .ref a_draft_h0, .ref a_waiting_h0, .ref a_functions_h0, .ref (a10 0), .ref (a10 (fd + 1)), .ref a_text_h0, .int mode_h0, .int levels_h0, .int signs_h0, .int loops_h0, .int token_h0, .int fault_h0])), (a_waiting_h0, .inr (5, [.ref a_cells_a_waiting_h0, .int count_a_waiting_h0])), (a_scanner_h0, .inr (4, [.ref a_text_a_scanner_h0, .int next_a_scanner_h0, .int kind_a_scanner_h0, .int start_a_scanner_h0, .int width_a_scanner_h0]))]) (b := fpo a10 (fn + 1) (fd + 1) (va_up fcf fd (kind_t, place_t, width_t, second_t, parts_t, innerParts_t, innerPlace_t, innerWidth_t, signs_t, waitingBelow_t, limited_t, targets_t, lastBlock_t))) (c := [((a10 (fd + 1)), .inr (0, [(frB a10 (fd + 1)), (frA a10 (fn + 1) (fd + 1)), .int p1, .int start_a_scanner_h0, .int width_a_scanner_h0, .int (-1), .int 0, .int 0, .int start_a_scanner_h0, .int width_a_scanner_h0, .int 0, .int 0, .int 0, .int 0, .int 0]))]) rfl) ?_
    refine j_norm (pc' := 61) (st' := []) (ws' := ((h0, .inr (2, [.ref a_scanner_h0, .ref a_draft_h0, .ref a_waiting_h0, .ref a_functions_h0, .ref (a10 0), .ref (a10 (fd + 1)), .ref a_text_h0, .int mode_h0, .int levels_h0, .int signs_h0, .int loops_h0, .int token_h0, .int fault_h0])) :: (a_waiting_h0, .inr (5, [.ref a_cells_a_waiting_h0, .int count_a_waiting_h0])) :: (a_scanner_h0, .inr (4, [.ref a_text_a_scanner_h0, .int next_a_scanner_h0, .int kind_a_scanner_h0, .int start_a_scanner_h0, .int width_a_scanner_h0])) :: ((a10 (fd + 1)), .inr (0, [(frB a10 (fd + 1)), (frA a10 (fn + 1) (fd + 1)), .int p1, .int start_a_scanner_h0, .int width_a_scanner_h0, .int (-1), .int 0, .int 0, .int start_a_scanner_h0, .int width_a_scanner_h0, .int 0, .int 0, .int 0, .int 0, .int 0])) :: fpo a10 (fn + 1) (fd + 1) (va_up fcf fd (kind_t, place_t, width_t, second_t, parts_t, innerParts_t, innerPlace_t, innerWidth_t, signs_t, waitingBelow_t, limited_t, targets_t, lastBlock_t)))) (cl' := 0 + 1) (sl' := 0 + 15) rfl rfl rfl rfl rfl rfl ?_
    refine j_aload_n d_Rd_push_61 rfl 0 rfl ?_
    refine j_get ig_Rd rfl 0 rfl 5 (by decide) rfl m_174 rfl d_Rd_push_62 ?_
    refine j_aload_n d_Rd_push_65 rfl 0 rfl ?_
    refine j_get ig_Rd rfl 0 rfl 2 (by decide) rfl m_171 rfl d_Rd_push_66 ?_
    refine j_callVg (n := 0) (As := []) (rest := [.ref (a10 (fd + 1))]) (wr := ([(h0, .inr (2, [.ref a_scanner_h0, .ref a_draft_h0, .ref a_waiting_h0, .ref a_functions_h0, .ref (a10 0), .ref (a10 (fd + 1)), .ref a_text_h0, .int mode_h0, .int levels_h0, .int signs_h0, .int loops_h0, .int token_h0, .int fault_h0])), (a_scanner_h0, .inr (4, [.ref a_text_a_scanner_h0, .int next_a_scanner_h0, .int kind_a_scanner_h0, .int start_a_scanner_h0, .int width_a_scanner_h0])), ((a10 (fd + 1)), .inr (0, [(frB a10 (fd + 1)), (frA a10 (fn + 1) (fd + 1)), .int p1, .int start_a_scanner_h0, .int width_a_scanner_h0, .int (-1), .int 0, .int 0, .int start_a_scanner_h0, .int width_a_scanner_h0, .int 0, .int 0, .int 0, .int 0, .int 0]))] ++ fpo a10 (fn + 1) (fd + 1) (va_up fcf fd (kind_t, place_t, width_t, second_t, parts_t, innerParts_t, innerPlace_t, innerWidth_t, signs_t, waitingBelow_t, limited_t, targets_t, lastBlock_t)))) (c_Tk_count l D cI cB cJ cS a_waiting_h0 a_cells_a_waiting_h0 count_a_waiting_h0  ) k_Rd_137 (by decide) ⟨Nat.le_of_ble_eq_true rfl, Nat.le_of_ble_eq_true rfl⟩ rfl 0 rfl (pk_mid (wr := [(h0, .inr (2, [.ref a_scanner_h0, .ref a_draft_h0, .ref a_waiting_h0, .ref a_functions_h0, .ref (a10 0), .ref (a10 (fd + 1)), .ref a_text_h0, .int mode_h0, .int levels_h0, .int signs_h0, .int loops_h0, .int token_h0, .int fault_h0])), (a_scanner_h0, .inr (4, [.ref a_text_a_scanner_h0, .int next_a_scanner_h0, .int kind_a_scanner_h0, .int start_a_scanner_h0, .int width_a_scanner_h0])), ((a10 (fd + 1)), .inr (0, [(frB a10 (fd + 1)), (frA a10 (fn + 1) (fd + 1)), .int p1, .int start_a_scanner_h0, .int width_a_scanner_h0, .int (-1), .int 0, .int 0, .int start_a_scanner_h0, .int width_a_scanner_h0, .int 0, .int 0, .int 0, .int 0, .int 0]))]) (w0 := [(a_waiting_h0, .inr (5, [.ref a_cells_a_waiting_h0, .int count_a_waiting_h0]))]) (pl := fpo a10 (fn + 1) (fd + 1) (va_up fcf fd (kind_t, place_t, width_t, second_t, parts_t, innerParts_t, innerPlace_t, innerWidth_t, signs_t, waitingBelow_t, limited_t, targets_t, lastBlock_t))) [0, 2, 3, 1] 4 rfl rfl (by decide)) rfl rfl (Nat.le_of_ble_eq_true rfl) d_Rd_push_69 ⟨show 0 + 1 + 0 ≤ mc by omega, show 0 + 15 + 0 ≤ ms by omega⟩ (fun v w hq => ?_)
    obtain ⟨rfl, rfl⟩ := hq
    refine j_perm (ws' := ((h0, .inr (2, [.ref a_scanner_h0, .ref a_draft_h0, .ref a_waiting_h0, .ref a_functions_h0, .ref (a10 0), .ref (a10 (fd + 1)), .ref a_text_h0, .int mode_h0, .int levels_h0, .int signs_h0, .int loops_h0, .int token_h0, .int fault_h0])) :: (a_scanner_h0, .inr (4, [.ref a_text_a_scanner_h0, .int next_a_scanner_h0, .int kind_a_scanner_h0, .int start_a_scanner_h0, .int width_a_scanner_h0])) :: ((a10 (fd + 1)), .inr (0, [(frB a10 (fd + 1)), (frA a10 (fn + 1) (fd + 1)), .int p1, .int start_a_scanner_h0, .int width_a_scanner_h0, .int (-1), .int 0, .int 0, .int start_a_scanner_h0, .int width_a_scanner_h0, .int 0, .int 0, .int 0, .int 0, .int 0])) :: (a_waiting_h0, .inr (5, [.ref a_cells_a_waiting_h0, .int count_a_waiting_h0])) :: fpo a10 (fn + 1) (fd + 1) (va_up fcf fd (kind_t, place_t, width_t, second_t, parts_t, innerParts_t, innerPlace_t, innerWidth_t, signs_t, waitingBelow_t, limited_t, targets_t, lastBlock_t)))) (pm_eq (a := [(h0, .inr (2, [.ref a_scanner_h0, .ref a_draft_h0, .ref a_waiting_h0, .ref a_functions_h0, .ref (a10 0), .ref (a10 (fd + 1)), .ref a_text_h0, .int mode_h0, .int levels_h0, .int signs_h0, .int loops_h0, .int token_h0, .int fault_h0])), (a_scanner_h0, .inr (4, [.ref a_text_a_scanner_h0, .int next_a_scanner_h0, .int kind_a_scanner_h0, .int start_a_scanner_h0, .int width_a_scanner_h0])), ((a10 (fd + 1)), .inr (0, [(frB a10 (fd + 1)), (frA a10 (fn + 1) (fd + 1)), .int p1, .int start_a_scanner_h0, .int width_a_scanner_h0, .int (-1), .int 0, .int 0, .int start_a_scanner_h0, .int width_a_scanner_h0, .int 0, .int 0, .int 0, .int 0, .int 0]))]) (b := fpo a10 (fn + 1) (fd + 1) (va_up fcf fd (kind_t, place_t, width_t, second_t, parts_t, innerParts_t, innerPlace_t, innerWidth_t, signs_t, waitingBelow_t, limited_t, targets_t, lastBlock_t))) (c := [(a_waiting_h0, .inr (5, [.ref a_cells_a_waiting_h0, .int count_a_waiting_h0]))]) rfl) ?_
    refine j_norm (pc' := 72) (st' := [.int count_a_waiting_h0, .ref (a10 (fd + 1))]) (ws' := ((h0, .inr (2, [.ref a_scanner_h0, .ref a_draft_h0, .ref a_waiting_h0, .ref a_functions_h0, .ref (a10 0), .ref (a10 (fd + 1)), .ref a_text_h0, .int mode_h0, .int levels_h0, .int signs_h0, .int loops_h0, .int token_h0, .int fault_h0])) :: (a_scanner_h0, .inr (4, [.ref a_text_a_scanner_h0, .int next_a_scanner_h0, .int kind_a_scanner_h0, .int start_a_scanner_h0, .int width_a_scanner_h0])) :: ((a10 (fd + 1)), .inr (0, [(frB a10 (fd + 1)), (frA a10 (fn + 1) (fd + 1)), .int p1, .int start_a_scanner_h0, .int width_a_scanner_h0, .int (-1), .int 0, .int 0, .int start_a_scanner_h0, .int width_a_scanner_h0, .int 0, .int 0, .int 0, .int 0, .int 0])) :: (a_waiting_h0, .inr (5, [.ref a_cells_a_waiting_h0, .int count_a_waiting_h0])) :: fpo a10 (fn + 1) (fd + 1) (va_up fcf fd (kind_t, place_t, width_t, second_t, parts_t, innerParts_t, innerPlace_t, innerWidth_t, signs_t, waitingBelow_t, limited_t, targets_t, lastBlock_t)))) (cl' := 0 + 1) (sl' := 0 + 15) rfl rfl rfl rfl rfl rfl ?_
    refine j_put (ws' := ((h0, .inr (2, [.ref a_scanner_h0, .ref a_draft_h0, .ref a_waiting_h0, .ref a_functions_h0, .ref (a10 0), .ref (a10 (fd + 1)), .ref a_text_h0, .int mode_h0, .int levels_h0, .int signs_h0, .int loops_h0, .int token_h0, .int fault_h0])) :: (a_scanner_h0, .inr (4, [.ref a_text_a_scanner_h0, .int next_a_scanner_h0, .int kind_a_scanner_h0, .int start_a_scanner_h0, .int width_a_scanner_h0])) :: ((a10 (fd + 1)), .inr (0, [(frB a10 (fd + 1)), (frA a10 (fn + 1) (fd + 1)), .int p1, .int start_a_scanner_h0, .int width_a_scanner_h0, .int (-1), .int 0, .int 0, .int start_a_scanner_h0, .int width_a_scanner_h0, .int 0, .int count_a_waiting_h0, .int 0, .int 0, .int 0])) :: (a_waiting_h0, .inr (5, [.ref a_cells_a_waiting_h0, .int count_a_waiting_h0])) :: fpo a10 (fn + 1) (fd + 1) (va_up fcf fd (kind_t, place_t, width_t, second_t, parts_t, innerParts_t, innerPlace_t, innerWidth_t, signs_t, waitingBelow_t, limited_t, targets_t, lastBlock_t)))) ig_Fr tk_Fr nm_Fr rfl 2 rfl 11 (by decide) rfl m_129 rfl (tk_Fr 11 (by decide)) rfl rfl (Nat.le_of_ble_eq_true rfl) d_Rd_push_72 rfl ?_
    refine j_aload_n d_Rd_push_75 rfl 0 rfl ?_
    refine j_get ig_Rd rfl 0 rfl 5 (by decide) rfl m_174 rfl d_Rd_push_76 ?_
    refine j_aload_n d_Rd_push_79 rfl 0 rfl ?_
    refine j_get ig_Rd rfl 0 rfl 9 (by decide) rfl m_178 rfl d_Rd_push_80 ?_
    refine j_put (ws' := ((h0, .inr (2, [.ref a_scanner_h0, .ref a_draft_h0, .ref a_waiting_h0, .ref a_functions_h0, .ref (a10 0), .ref (a10 (fd + 1)), .ref a_text_h0, .int mode_h0, .int levels_h0, .int signs_h0, .int loops_h0, .int token_h0, .int fault_h0])) :: (a_scanner_h0, .inr (4, [.ref a_text_a_scanner_h0, .int next_a_scanner_h0, .int kind_a_scanner_h0, .int start_a_scanner_h0, .int width_a_scanner_h0])) :: ((a10 (fd + 1)), .inr (0, [(frB a10 (fd + 1)), (frA a10 (fn + 1) (fd + 1)), .int p1, .int start_a_scanner_h0, .int width_a_scanner_h0, .int (-1), .int 0, .int 0, .int start_a_scanner_h0, .int width_a_scanner_h0, .int signs_h0, .int count_a_waiting_h0, .int 0, .int 0, .int 0])) :: (a_waiting_h0, .inr (5, [.ref a_cells_a_waiting_h0, .int count_a_waiting_h0])) :: fpo a10 (fn + 1) (fd + 1) (va_up fcf fd (kind_t, place_t, width_t, second_t, parts_t, innerParts_t, innerPlace_t, innerWidth_t, signs_t, waitingBelow_t, limited_t, targets_t, lastBlock_t)))) ig_Fr tk_Fr nm_Fr rfl 2 rfl 10 (by decide) rfl m_127 rfl (tk_Fr 10 (by decide)) rfl rfl (Nat.le_of_ble_eq_true rfl) d_Rd_push_83 rfl ?_
    refine j_aload_n d_Rd_push_86 rfl 0 rfl ?_
    refine j_iconst (v := 0) d_Rd_push_87 (by decide) ?_
    refine j_put (ws' := ((h0, .inr (2, [.ref a_scanner_h0, .ref a_draft_h0, .ref a_waiting_h0, .ref a_functions_h0, .ref (a10 0), .ref (a10 (fd + 1)), .ref a_text_h0, .int mode_h0, .int levels_h0, .int 0, .int loops_h0, .int token_h0, .int fault_h0])) :: (a_scanner_h0, .inr (4, [.ref a_text_a_scanner_h0, .int next_a_scanner_h0, .int kind_a_scanner_h0, .int start_a_scanner_h0, .int width_a_scanner_h0])) :: ((a10 (fd + 1)), .inr (0, [(frB a10 (fd + 1)), (frA a10 (fn + 1) (fd + 1)), .int p1, .int start_a_scanner_h0, .int width_a_scanner_h0, .int (-1), .int 0, .int 0, .int start_a_scanner_h0, .int width_a_scanner_h0, .int signs_h0, .int count_a_waiting_h0, .int 0, .int 0, .int 0])) :: (a_waiting_h0, .inr (5, [.ref a_cells_a_waiting_h0, .int count_a_waiting_h0])) :: fpo a10 (fn + 1) (fd + 1) (va_up fcf fd (kind_t, place_t, width_t, second_t, parts_t, innerParts_t, innerPlace_t, innerWidth_t, signs_t, waitingBelow_t, limited_t, targets_t, lastBlock_t)))) ig_Rd tk_Rd nm_Rd rfl 0 rfl 9 (by decide) rfl m_178 rfl (tk_Rd 9 (by decide)) rfl rfl (Nat.le_of_ble_eq_true rfl) d_Rd_push_88 rfl ?_
    replace h := lf_s h
    obtain ⟨h, e1, e2⟩ := h
    replace h := Prod.mk.inj h
    obtain ⟨h9, h⟩ := h
    subst h9
    replace h := Prod.mk.inj h
    obtain ⟨h9, h⟩ := h
    subst h9
    subst h
    refine j_widen (cl' := mc) (sl' := ms) (by omega) (by omega) ?_
    refine j_subP (w := [(h0, .inr (2, [.ref a_scanner_h0, .ref a_draft_h0, .ref a_waiting_h0, .ref a_functions_h0, .ref (a10 0), .ref (a10 (fd + 1)), .ref a_text_h0, .int mode_h0, .int levels_h0, .int 0, .int loops_h0, .int token_h0, .int fault_h0])), ((a10 (fd + 1)), .inr (0, [(frB a10 (fd + 1)), (frA a10 (fn + 1) (fd + 1)), .int p1, .int start_a_scanner_h0, .int width_a_scanner_h0, .int (-1), .int 0, .int 0, .int start_a_scanner_h0, .int width_a_scanner_h0, .int signs_h0, .int count_a_waiting_h0, .int 0, .int 0, .int 0])), (a_scanner_h0, .inr (4, [.ref a_text_a_scanner_h0, .int next_a_scanner_h0, .int kind_a_scanner_h0, .int start_a_scanner_h0, .int width_a_scanner_h0])), (a_waiting_h0, .inr (5, [.ref a_cells_a_waiting_h0, .int count_a_waiting_h0]))]) (pl := fpo a10 (fn + 1) (fd + 1) (va_up fcf fd (kind_t, place_t, width_t, second_t, parts_t, innerParts_t, innerPlace_t, innerWidth_t, signs_t, waitingBelow_t, limited_t, targets_t, lastBlock_t))) (lv' := []) [0, 2, 1, 3] [] 4 rfl rfl (by decide) [] rfl ?_
    exact j_vretE hr d_Rd_push_91 ⟨a10, rfl, rfl⟩
def F_Rd_pop (fn : Nat) (fd : Nat) (fcf : Nat → FrC) (mode_h0 : Int32) (levels_h0 : Int32) (signs_h0 : Int32) (loops_h0 : Int32) (token_h0 : Int32) (fault_h0 : Int32) (kind_t : Int32) (place_t : Int32) (width_t : Int32) (second_t : Int32) (parts_t : Int32) (innerParts_t : Int32) (innerPlace_t : Int32) (innerWidth_t : Int32) (signs_t : Int32) (waitingBelow_t : Int32) (limited_t : Int32) (targets_t : Int32) (lastBlock_t : Int32) : Option (Nat × Nat × (Nat → FrC) × Int32 × Int32 × Int32 × Int32 × Int32 × Int32 × Int32 × Int32 × Int32 × Int32 × Int32 × Int32 × Int32) :=
  if fd = 0 then (some (fn, fd, fcf, kind_t, place_t, width_t, second_t, parts_t, innerParts_t, innerPlace_t, innerWidth_t, signs_t, waitingBelow_t, limited_t, targets_t, lastBlock_t))
  else (grd (fd < fn) (some (fn, fd - 1, (va_up fcf fd (kind_t, place_t, width_t, second_t, parts_t, innerParts_t, innerPlace_t, innerWidth_t, signs_t, waitingBelow_t, limited_t, targets_t, lastBlock_t)), (fcf (fd - 1)).1, (fcf (fd - 1)).2.1, (fcf (fd - 1)).2.2.1, (fcf (fd - 1)).2.2.2.1, (fcf (fd - 1)).2.2.2.2.1, (fcf (fd - 1)).2.2.2.2.2.1, (fcf (fd - 1)).2.2.2.2.2.2.1, (fcf (fd - 1)).2.2.2.2.2.2.2.1, (fcf (fd - 1)).2.2.2.2.2.2.2.2.1, (fcf (fd - 1)).2.2.2.2.2.2.2.2.2.1, (fcf (fd - 1)).2.2.2.2.2.2.2.2.2.2.1, (fcf (fd - 1)).2.2.2.2.2.2.2.2.2.2.2.1, (fcf (fd - 1)).2.2.2.2.2.2.2.2.2.2.2.2)))
theorem d_Rd_pop_0 : decode prog_6_method_9_code 0 = .ok (.aload_n 0, 1) := by decide +kernel
theorem d_Rd_pop_1 : decode prog_6_method_9_code 1 = .ok (.aload_n 0, 1) := by decide +kernel
theorem d_Rd_pop_2 : decode prog_6_method_9_code 2 = .ok (.getfield 46, 3) := by decide +kernel
theorem d_Rd_pop_5 : decode prog_6_method_9_code 5 = .ok (.getfield 143, 3) := by decide +kernel
theorem d_Rd_pop_8 : decode prog_6_method_9_code 8 = .ok (.putfield 63, 3) := by decide +kernel
theorem d_Rd_pop_11 : decode prog_6_method_9_code 11 = .ok (.aload_n 0, 1) := by decide +kernel
theorem d_Rd_pop_12 : decode prog_6_method_9_code 12 = .ok (.getfield 46, 3) := by decide +kernel
theorem d_Rd_pop_15 : decode prog_6_method_9_code 15 = .ok (.getfield 144, 3) := by decide +kernel
theorem d_Rd_pop_18 : decode prog_6_method_9_code 18 = .ok (.ifnull 14, 3) := by decide +kernel
theorem d_Rd_pop_21 : decode prog_6_method_9_code 21 = .ok (.aload_n 0, 1) := by decide +kernel
theorem d_Rd_pop_22 : decode prog_6_method_9_code 22 = .ok (.aload_n 0, 1) := by decide +kernel
theorem d_Rd_pop_23 : decode prog_6_method_9_code 23 = .ok (.getfield 46, 3) := by decide +kernel
theorem d_Rd_pop_26 : decode prog_6_method_9_code 26 = .ok (.getfield 144, 3) := by decide +kernel
theorem d_Rd_pop_29 : decode prog_6_method_9_code 29 = .ok (.putfield 46, 3) := by decide +kernel
theorem d_Rd_pop_32 : decode prog_6_method_9_code 32 = .ok (.return_, 1) := by decide +kernel
set_option maxHeartbeats 4000000 in
set_option maxRecDepth 100000 in
theorem c_Rd_pop (l : Launch) (D : va_G) (cI cB cJ cS : ClassId) (h0 : Nat) (fad : Nat → Nat) (a_scanner_h0 : Nat) (a_draft_h0 : Nat) (a_waiting_h0 : Nat) (a_functions_h0 : Nat) (a_text_h0 : Nat) (fn : Nat) (fd : Nat) (fcf : Nat → FrC) (mode_h0 : Int32) (levels_h0 : Int32) (signs_h0 : Int32) (loops_h0 : Int32) (token_h0 : Int32) (fault_h0 : Int32) (kind_t : Int32) (place_t : Int32) (width_t : Int32) (second_t : Int32) (parts_t : Int32) (innerParts_t : Int32) (innerPlace_t : Int32) (innerWidth_t : Int32) (signs_t : Int32) (waitingBelow_t : Int32) (limited_t : Int32) (targets_t : Int32) (lastBlock_t : Int32) (on_p : Nat) (od_p : Nat) (ocf_p : Nat → FrC) (o_1_2 : Int32) (o_1_3 : Int32) (o_1_4 : Int32) (o_1_5 : Int32) (o_1_6 : Int32) (o_1_7 : Int32) (o_1_8 : Int32) (o_1_9 : Int32) (o_1_10 : Int32) (o_1_11 : Int32) (o_1_12 : Int32) (o_1_13 : Int32) (o_1_14 : Int32) (h : F_Rd_pop fn fd fcf mode_h0 levels_h0 signs_h0 loops_h0 token_h0 fault_h0 kind_t place_t width_t second_t parts_t innerParts_t innerPlace_t innerWidth_t signs_t waitingBelow_t limited_t targets_t lastBlock_t = some (on_p, od_p, ocf_p, o_1_2, o_1_3, o_1_4, o_1_5, o_1_6, o_1_7, o_1_8, o_1_9, o_1_10, o_1_11, o_1_12, o_1_13, o_1_14)) : Ct l D (gT cI cB cJ cS) y_Rd_pop prog_6_method_9_code 1 (Option.none : Option Jvm.ClassFile.FieldType) 0 0 0 0 [.ref h0] ((h0, .inr (2, [.ref a_scanner_h0, .ref a_draft_h0, .ref a_waiting_h0, .ref a_functions_h0, .ref (fad 0), .ref (fad fd), .ref a_text_h0, .int mode_h0, .int levels_h0, .int signs_h0, .int loops_h0, .int token_h0, .int fault_h0])) :: ((fad fd), .inr (0, [(frB fad fd), (frA fad fn fd), .int kind_t, .int place_t, .int width_t, .int second_t, .int parts_t, .int innerParts_t, .int innerPlace_t, .int innerWidth_t, .int signs_t, .int waitingBelow_t, .int limited_t, .int targets_t, .int lastBlock_t])) :: fpo fad fn fd fcf) (fun v w => ∃ nad : Nat → Nat, v = none ∧ w = ((h0, .inr (2, [.ref a_scanner_h0, .ref a_draft_h0, .ref a_waiting_h0, .ref a_functions_h0, .ref (nad 0), .ref (nad od_p), .ref a_text_h0, .int mode_h0, .int levels_h0, .int signs_t, .int loops_h0, .int token_h0, .int fault_h0])) :: ((nad od_p), .inr (0, [(frB nad od_p), (frA nad on_p od_p), .int o_1_2, .int o_1_3, .int o_1_4, .int o_1_5, .int o_1_6, .int o_1_7, .int o_1_8, .int o_1_9, .int o_1_10, .int o_1_11, .int o_1_12, .int o_1_13, .int o_1_14])) :: fpo nad on_p od_p ocf_p)) := by
  refine Ct.mk (by decide) (Nat.le_of_ble_eq_true rfl) ?_
  intro p e s m below meth c hr hnm
  refine j_norm (pc' := 0) (lv' := [(0, .ref h0)]) (st' := []) (ws' := ((h0, .inr (2, [.ref a_scanner_h0, .ref a_draft_h0, .ref a_waiting_h0, .ref a_functions_h0, .ref (fad 0), .ref (fad fd), .ref a_text_h0, .int mode_h0, .int levels_h0, .int signs_h0, .int loops_h0, .int token_h0, .int fault_h0])) :: ((fad fd), .inr (0, [(frB fad fd), (frA fad fn fd), .int kind_t, .int place_t, .int width_t, .int second_t, .int parts_t, .int innerParts_t, .int innerPlace_t, .int innerWidth_t, .int signs_t, .int waitingBelow_t, .int limited_t, .int targets_t, .int lastBlock_t])) :: fpo fad fn fd fcf)) (cl' := 0) (sl' := 0) rfl rfl rfl rfl rfl rfl ?_
  unfold F_Rd_pop at h
  refine j_aload_n d_Rd_pop_0 rfl 0 rfl ?_
  refine j_aload_n d_Rd_pop_1 rfl 0 rfl ?_
  refine j_get ig_Rd rfl 0 rfl 5 (by decide) rfl m_174 rfl d_Rd_pop_2 ?_
  refine j_get ig_Fr rfl 1 rfl 10 (by decide) rfl m_127 rfl d_Rd_pop_5 ?_
  refine j_put (ws' := ((h0, .inr (2, [.ref a_scanner_h0, .ref a_draft_h0, .ref a_waiting_h0, .ref a_functions_h0, .ref (fad 0), .ref (fad fd), .ref a_text_h0, .int mode_h0, .int levels_h0, .int signs_t, .int loops_h0, .int token_h0, .int fault_h0])) :: ((fad fd), .inr (0, [(frB fad fd), (frA fad fn fd), .int kind_t, .int place_t, .int width_t, .int second_t, .int parts_t, .int innerParts_t, .int innerPlace_t, .int innerWidth_t, .int signs_t, .int waitingBelow_t, .int limited_t, .int targets_t, .int lastBlock_t])) :: fpo fad fn fd fcf)) ig_Rd tk_Rd nm_Rd rfl 0 rfl 9 (by decide) rfl m_178 rfl (tk_Rd 9 (by decide)) rfl rfl (Nat.le_of_ble_eq_true rfl) d_Rd_pop_8 rfl ?_
  refine j_aload_n d_Rd_pop_11 rfl 0 rfl ?_
  refine j_get ig_Rd rfl 0 rfl 5 (by decide) rfl m_174 rfl d_Rd_pop_12 ?_
  refine j_get ig_Fr rfl 1 rfl 0 (by decide) rfl m_107 rfl d_Rd_pop_15 ?_
  by_cases c1 : fd = 0
  · replace h := it_t c1 h
    refine j_norm (st' := [.null]) (ws' := ((h0, .inr (2, [.ref a_scanner_h0, .ref a_draft_h0, .ref a_waiting_h0, .ref a_functions_h0, .ref (fad 0), .ref (fad fd), .ref a_text_h0, .int mode_h0, .int levels_h0, .int signs_t, .int loops_h0, .int token_h0, .int fault_h0])) :: ((fad fd), .inr (0, [.null, (frA fad fn fd), .int kind_t, .int place_t, .int width_t, .int second_t, .int parts_t, .int innerParts_t, .int innerPlace_t, .int innerWidth_t, .int signs_t, .int waitingBelow_t, .int limited_t, .int targets_t, .int lastBlock_t])) :: fpo fad fn fd fcf)) rfl rfl (by rw [frB_z c1]) (by rw [frB_z c1]) rfl rfl ?_
    refine j_ifnullN (tgt := 32) d_Rd_pop_18 (by decide) ?_
    refine j_norm (ws' := ((h0, .inr (2, [.ref a_scanner_h0, .ref a_draft_h0, .ref a_waiting_h0, .ref a_functions_h0, .ref (fad 0), .ref (fad fd), .ref a_text_h0, .int mode_h0, .int levels_h0, .int signs_t, .int loops_h0, .int token_h0, .int fault_h0])) :: ((fad fd), .inr (0, [(frB fad fd), (frA fad fn fd), .int kind_t, .int place_t, .int width_t, .int second_t, .int parts_t, .int innerParts_t, .int innerPlace_t, .int innerWidth_t, .int signs_t, .int waitingBelow_t, .int limited_t, .int targets_t, .int lastBlock_t])) :: fpo fad fn fd fcf)) rfl rfl rfl (by rw [frB_z c1]) rfl rfl ?_
    replace h := Option.some.inj h
    replace h := Prod.mk.inj h
    obtain ⟨h9, h⟩ := h
    subst h9
    replace h := Prod.mk.inj h
    obtain ⟨h9, h⟩ := h
    subst h9
    replace h := Prod.mk.inj h
    obtain ⟨h9, h⟩ := h
    subst h9
    replace h := Prod.mk.inj h
    obtain ⟨h9, h⟩ := h
    subst h9
    replace h := Prod.mk.inj h
    obtain ⟨h9, h⟩ := h
    subst h9
    replace h := Prod.mk.inj h
    obtain ⟨h9, h⟩ := h
    subst h9
    replace h := Prod.mk.inj h
    obtain ⟨h9, h⟩ := h
    subst h9
    replace h := Prod.mk.inj h
    obtain ⟨h9, h⟩ := h
    subst h9
    replace h := Prod.mk.inj h
    obtain ⟨h9, h⟩ := h
    subst h9
    replace h := Prod.mk.inj h
    obtain ⟨h9, h⟩ := h
    subst h9
    replace h := Prod.mk.inj h
    obtain ⟨h9, h⟩ := h
    subst h9
    replace h := Prod.mk.inj h
    obtain ⟨h9, h⟩ := h
    subst h9
    replace h := Prod.mk.inj h
    obtain ⟨h9, h⟩ := h
    subst h9
    replace h := Prod.mk.inj h
    obtain ⟨h9, h⟩ := h
    subst h9
    replace h := Prod.mk.inj h
    obtain ⟨h9, h⟩ := h
    subst h9
    subst h
    refine j_subP (w := [(h0, .inr (2, [.ref a_scanner_h0, .ref a_draft_h0, .ref a_waiting_h0, .ref a_functions_h0, .ref (fad 0), .ref (fad fd), .ref a_text_h0, .int mode_h0, .int levels_h0, .int signs_t, .int loops_h0, .int token_h0, .int fault_h0])), ((fad fd), .inr (0, [(frB fad fd), (frA fad fn fd), .int kind_t, .int place_t, .int width_t, .int second_t, .int parts_t, .int innerParts_t, .int innerPlace_t, .int innerWidth_t, .int signs_t, .int waitingBelow_t, .int limited_t, .int targets_t, .int lastBlock_t]))]) (pl := fpo fad fn fd fcf) (lv' := []) [0, 1] [] 2 rfl rfl (by decide) [] rfl ?_
    exact j_vretE hr d_Rd_pop_32 ⟨fad, rfl, rfl⟩
  · replace h := it_f c1 h
    refine j_norm (st' := [.ref (fad (fd - 1))]) (ws' := ((h0, .inr (2, [.ref a_scanner_h0, .ref a_draft_h0, .ref a_waiting_h0, .ref a_functions_h0, .ref (fad 0), .ref (fad fd), .ref a_text_h0, .int mode_h0, .int levels_h0, .int signs_t, .int loops_h0, .int token_h0, .int fault_h0])) :: ((fad fd), .inr (0, [.ref (fad (fd - 1)), (frA fad fn fd), .int kind_t, .int place_t, .int width_t, .int second_t, .int parts_t, .int innerParts_t, .int innerPlace_t, .int innerWidth_t, .int signs_t, .int waitingBelow_t, .int limited_t, .int targets_t, .int lastBlock_t])) :: fpo fad fn fd fcf)) rfl rfl (by rw [frB_s c1]) (by rw [frB_s c1]) rfl rfl ?_
    refine j_ifnull d_Rd_pop_18 ?_
    refine j_aload_n d_Rd_pop_21 rfl 0 rfl ?_
    refine j_aload_n d_Rd_pop_22 rfl 0 rfl ?_
    refine j_get ig_Rd rfl 0 rfl 5 (by decide) rfl m_174 rfl d_Rd_pop_23 ?_
    refine j_get ig_Fr rfl 1 rfl 0 (by decide) rfl m_107 rfl d_Rd_pop_26 ?_
    replace h := grd_s h
    obtain ⟨hgd, h⟩ := h
    refine j_put (ws' := ((h0, .inr (2, [.ref a_scanner_h0, .ref a_draft_h0, .ref a_waiting_h0, .ref a_functions_h0, .ref (fad 0), .ref (fad (fd - 1)), .ref a_text_h0, .int mode_h0, .int levels_h0, .int signs_t, .int loops_h0, .int token_h0, .int fault_h0])) :: ((fad fd), .inr (0, [.ref (fad (fd - 1)), (frA fad fn fd), .int kind_t, .int place_t, .int width_t, .int second_t, .int parts_t, .int innerParts_t, .int innerPlace_t, .int innerWidth_t, .int signs_t, .int waitingBelow_t, .int limited_t, .int targets_t, .int lastBlock_t])) :: fpo fad fn fd fcf)) ig_Rd tk_Rd nm_Rd rfl 0 rfl 5 (by decide) rfl m_174 rfl (tk_Rd 5 (by decide)) rfl rfl (Nat.le_of_ble_eq_true rfl) d_Rd_pop_29 rfl ?_
    refine j_norm (ws' := ((h0, .inr (2, [.ref a_scanner_h0, .ref a_draft_h0, .ref a_waiting_h0, .ref a_functions_h0, .ref (fad 0), .ref (fad (fd - 1)), .ref a_text_h0, .int mode_h0, .int levels_h0, .int signs_t, .int loops_h0, .int token_h0, .int fault_h0])) :: ((fad fd), .inr (0, [(frB fad fd), (frA fad fn fd), .int kind_t, .int place_t, .int width_t, .int second_t, .int parts_t, .int innerParts_t, .int innerPlace_t, .int innerWidth_t, .int signs_t, .int waitingBelow_t, .int limited_t, .int targets_t, .int lastBlock_t])) :: fpo fad fn fd fcf)) rfl rfl rfl (by rw [frB_s c1]) rfl rfl ?_
    refine j_perm (ws' := ((h0, .inr (2, [.ref a_scanner_h0, .ref a_draft_h0, .ref a_waiting_h0, .ref a_functions_h0, .ref (fad 0), .ref (fad (fd - 1)), .ref a_text_h0, .int mode_h0, .int levels_h0, .int signs_t, .int loops_h0, .int token_h0, .int fault_h0])) :: ((fad fd), .inr (0, [(frB fad fd), (frA fad fn fd), .int kind_t, .int place_t, .int width_t, .int second_t, .int parts_t, .int innerParts_t, .int innerPlace_t, .int innerWidth_t, .int signs_t, .int waitingBelow_t, .int limited_t, .int targets_t, .int lastBlock_t])) :: fpo fad fn fd fcf)) (pk_perm (w := [(h0, .inr (2, [.ref a_scanner_h0, .ref a_draft_h0, .ref a_waiting_h0, .ref a_functions_h0, .ref (fad 0), .ref (fad (fd - 1)), .ref a_text_h0, .int mode_h0, .int levels_h0, .int signs_t, .int loops_h0, .int token_h0, .int fault_h0])), ((fad fd), .inr (0, [(frB fad fd), (frA fad fn fd), .int kind_t, .int place_t, .int width_t, .int second_t, .int parts_t, .int innerParts_t, .int innerPlace_t, .int innerWidth_t, .int signs_t, .int waitingBelow_t, .int limited_t, .int targets_t, .int lastBlock_t]))]) [0, 1] 2 rfl rfl (by decide)) ?_
    refine j_perm (ws' := ((h0, .inr (2, [.ref a_scanner_h0, .ref a_draft_h0, .ref a_waiting_h0, .ref a_functions_h0, .ref (fad 0), .ref (fad (fd - 1)), .ref a_text_h0, .int mode_h0, .int levels_h0, .int signs_t, .int loops_h0, .int token_h0, .int fault_h0])) :: ((fad (fd - 1)), .inr (0, [(frB fad (fd - 1)), (frA fad fn (fd - 1)), .int ((fcf (fd - 1)).1), .int ((fcf (fd - 1)).2.1), .int ((fcf (fd - 1)).2.2.1), .int ((fcf (fd - 1)).2.2.2.1), .int ((fcf (fd - 1)).2.2.2.2.1), .int ((fcf (fd - 1)).2.2.2.2.2.1), .int ((fcf (fd - 1)).2.2.2.2.2.2.1), .int ((fcf (fd - 1)).2.2.2.2.2.2.2.1), .int ((fcf (fd - 1)).2.2.2.2.2.2.2.2.1), .int ((fcf (fd - 1)).2.2.2.2.2.2.2.2.2.1), .int ((fcf (fd - 1)).2.2.2.2.2.2.2.2.2.2.1), .int ((fcf (fd - 1)).2.2.2.2.2.2.2.2.2.2.2.1), .int ((fcf (fd - 1)).2.2.2.2.2.2.2.2.2.2.2.2)])) :: fpo fad fn (fd - 1) (va_up fcf fd (kind_t, place_t, width_t, second_t, parts_t, innerParts_t, innerPlace_t, innerWidth_t, signs_t, waitingBelow_t, limited_t, targets_t, lastBlock_t)))) (List.Perm.cons _ (fp_refoc (c := (kind_t, place_t, width_t, second_t, parts_t, innerParts_t, innerPlace_t, innerWidth_t, signs_t, waitingBelow_t, limited_t, targets_t, lastBlock_t)) (x := (fcf (fd - 1))) (show fd < fn by omega) (show (fd - 1) < fn by omega) (va_up_ne _ _ (show (fd - 1) ≠ fd by omega)))) ?_
    replace h := Option.some.inj h
    replace h := Prod.mk.inj h
    obtain ⟨h9, h⟩ := h
    subst h9
    replace h := Prod.mk.inj h
    obtain ⟨h9, h⟩ := h
    subst h9
    replace h := Prod.mk.inj h
    obtain ⟨h9, h⟩ := h
    subst h9
    replace h := Prod.mk.inj h
    obtain ⟨h9, h⟩ := h
    subst h9
    replace h := Prod.mk.inj h
    obtain ⟨h9, h⟩ := h
    subst h9
    replace h := Prod.mk.inj h
    obtain ⟨h9, h⟩ := h
    subst h9
    replace h := Prod.mk.inj h
    obtain ⟨h9, h⟩ := h
    subst h9
    replace h := Prod.mk.inj h
    obtain ⟨h9, h⟩ := h
    subst h9
    replace h := Prod.mk.inj h
    obtain ⟨h9, h⟩ := h
    subst h9
    replace h := Prod.mk.inj h
    obtain ⟨h9, h⟩ := h
    subst h9
    replace h := Prod.mk.inj h
    obtain ⟨h9, h⟩ := h
    subst h9
    replace h := Prod.mk.inj h
    obtain ⟨h9, h⟩ := h
    subst h9
    replace h := Prod.mk.inj h
    obtain ⟨h9, h⟩ := h
    subst h9
    replace h := Prod.mk.inj h
    obtain ⟨h9, h⟩ := h
    subst h9
    replace h := Prod.mk.inj h
    obtain ⟨h9, h⟩ := h
    subst h9
    subst h
    refine j_subP (w := [(h0, .inr (2, [.ref a_scanner_h0, .ref a_draft_h0, .ref a_waiting_h0, .ref a_functions_h0, .ref (fad 0), .ref (fad (fd - 1)), .ref a_text_h0, .int mode_h0, .int levels_h0, .int signs_t, .int loops_h0, .int token_h0, .int fault_h0])), ((fad (fd - 1)), .inr (0, [(frB fad (fd - 1)), (frA fad fn (fd - 1)), .int ((fcf (fd - 1)).1), .int ((fcf (fd - 1)).2.1), .int ((fcf (fd - 1)).2.2.1), .int ((fcf (fd - 1)).2.2.2.1), .int ((fcf (fd - 1)).2.2.2.2.1), .int ((fcf (fd - 1)).2.2.2.2.2.1), .int ((fcf (fd - 1)).2.2.2.2.2.2.1), .int ((fcf (fd - 1)).2.2.2.2.2.2.2.1), .int ((fcf (fd - 1)).2.2.2.2.2.2.2.2.1), .int ((fcf (fd - 1)).2.2.2.2.2.2.2.2.2.1), .int ((fcf (fd - 1)).2.2.2.2.2.2.2.2.2.2.1), .int ((fcf (fd - 1)).2.2.2.2.2.2.2.2.2.2.2.1), .int ((fcf (fd - 1)).2.2.2.2.2.2.2.2.2.2.2.2)]))]) (pl := fpo fad fn (fd - 1) (va_up fcf fd (kind_t, place_t, width_t, second_t, parts_t, innerParts_t, innerPlace_t, innerWidth_t, signs_t, waitingBelow_t, limited_t, targets_t, lastBlock_t))) (lv' := []) [0, 1] [] 2 rfl rfl (by decide) [] rfl ?_
    exact j_vretE hr d_Rd_pop_32 ⟨fad, rfl, rfl⟩
def F_Rd_goDeeper (mode_h0 : Int32) (levels_h0 : Int32) (signs_h0 : Int32) (loops_h0 : Int32) (token_h0 : Int32) (fault_h0 : Int32) : (Int32 × Int32) :=
  if levels_h0 < 60 then (1, levels_h0 + 1)
  else (0, levels_h0)
theorem d_Rd_goDeeper_0 : decode prog_6_method_10_code 0 = .ok (.aload_n 0, 1) := by decide +kernel
theorem d_Rd_goDeeper_1 : decode prog_6_method_10_code 1 = .ok (.getfield 60, 3) := by decide +kernel
theorem d_Rd_goDeeper_4 : decode prog_6_method_10_code 4 = .ok (.bipush 60, 2) := by decide +kernel
theorem d_Rd_goDeeper_6 : decode prog_6_method_10_code 6 = .ok (.if_icmp .lt 5, 3) := by decide +kernel
theorem d_Rd_goDeeper_9 : decode prog_6_method_10_code 9 = .ok (.iconst 0, 1) := by decide +kernel
theorem d_Rd_goDeeper_10 : decode prog_6_method_10_code 10 = .ok (.ireturn, 1) := by decide +kernel
theorem d_Rd_goDeeper_11 : decode prog_6_method_10_code 11 = .ok (.aload_n 0, 1) := by decide +kernel
theorem d_Rd_goDeeper_12 : decode prog_6_method_10_code 12 = .ok (.dup, 1) := by decide +kernel
theorem d_Rd_goDeeper_13 : decode prog_6_method_10_code 13 = .ok (.getfield 60, 3) := by decide +kernel
theorem d_Rd_goDeeper_16 : decode prog_6_method_10_code 16 = .ok (.iconst 1, 1) := by decide +kernel
theorem d_Rd_goDeeper_17 : decode prog_6_method_10_code 17 = .ok (.iadd, 1) := by decide +kernel
theorem d_Rd_goDeeper_18 : decode prog_6_method_10_code 18 = .ok (.putfield 60, 3) := by decide +kernel
theorem d_Rd_goDeeper_21 : decode prog_6_method_10_code 21 = .ok (.iconst 1, 1) := by decide +kernel
theorem d_Rd_goDeeper_22 : decode prog_6_method_10_code 22 = .ok (.ireturn, 1) := by decide +kernel
set_option maxHeartbeats 4000000 in
set_option maxRecDepth 100000 in
theorem c_Rd_goDeeper (l : Launch) (D : va_G) (cI cB cJ cS : ClassId) (h0 : Nat) (a_scanner_h0 : Nat) (a_draft_h0 : Nat) (a_waiting_h0 : Nat) (a_functions_h0 : Nat) (a_bottom_h0 : Nat) (a_top_h0 : Nat) (a_text_h0 : Nat) (mode_h0 : Int32) (levels_h0 : Int32) (signs_h0 : Int32) (loops_h0 : Int32) (token_h0 : Int32) (fault_h0 : Int32) (ret : Int32) (o_0_8 : Int32) (h : F_Rd_goDeeper mode_h0 levels_h0 signs_h0 loops_h0 token_h0 fault_h0 = (ret, o_0_8)) : Ct l D (gT cI cB cJ cS) y_Rd_goDeeper prog_6_method_10_code 1 (Option.some Jvm.ClassFile.FieldType.boolean) 0 0 0 0 [.ref h0] [(h0, .inr (2, [.ref a_scanner_h0, .ref a_draft_h0, .ref a_waiting_h0, .ref a_functions_h0, .ref a_bottom_h0, .ref a_top_h0, .ref a_text_h0, .int mode_h0, .int levels_h0, .int signs_h0, .int loops_h0, .int token_h0, .int fault_h0]))] (fun v w => v = some (.int ret) ∧ zb ret ∧ w = [(h0, .inr (2, [.ref a_scanner_h0, .ref a_draft_h0, .ref a_waiting_h0, .ref a_functions_h0, .ref a_bottom_h0, .ref a_top_h0, .ref a_text_h0, .int mode_h0, .int o_0_8, .int signs_h0, .int loops_h0, .int token_h0, .int fault_h0]))]) := by
  refine Ct.mk (by decide) (Nat.le_of_ble_eq_true rfl) ?_
  intro p e s m below meth c hr hnm
  refine j_norm (pc' := 0) (lv' := [(0, .ref h0)]) (st' := []) (ws' := [(h0, .inr (2, [.ref a_scanner_h0, .ref a_draft_h0, .ref a_waiting_h0, .ref a_functions_h0, .ref a_bottom_h0, .ref a_top_h0, .ref a_text_h0, .int mode_h0, .int levels_h0, .int signs_h0, .int loops_h0, .int token_h0, .int fault_h0]))]) (cl' := 0) (sl' := 0) rfl rfl rfl rfl rfl rfl ?_
  unfold F_Rd_goDeeper at h
  refine j_aload_n d_Rd_goDeeper_0 rfl 0 rfl ?_
  refine j_get ig_Rd rfl 0 rfl 8 (by decide) rfl m_177 rfl d_Rd_goDeeper_1 ?_
  refine j_bipush (v := 60) d_Rd_goDeeper_4 (by decide) ?_
  refine j_icmp_lt (tgt := 11) d_Rd_goDeeper_6 (by decide) (fun c1 => ?_) (fun c1 => ?_)
  · replace h := it_t c1 h
    refine j_aload_n d_Rd_goDeeper_11 rfl 0 rfl ?_
    refine j_dup rfl d_Rd_goDeeper_12 ?_
    refine j_get ig_Rd rfl 0 rfl 8 (by decide) rfl m_177 rfl d_Rd_goDeeper_13 ?_
    refine j_iconst (v := 1) d_Rd_goDeeper_16 (by decide) ?_
    refine j_iadd d_Rd_goDeeper_17 ?_
    refine j_put (ws' := [(h0, .inr (2, [.ref a_scanner_h0, .ref a_draft_h0, .ref a_waiting_h0, .ref a_functions_h0, .ref a_bottom_h0, .ref a_top_h0, .ref a_text_h0, .int mode_h0, .int (levels_h0 + 1), .int signs_h0, .int loops_h0, .int token_h0, .int fault_h0]))]) ig_Rd tk_Rd nm_Rd rfl 0 rfl 8 (by decide) rfl m_177 rfl (tk_Rd 8 (by decide)) rfl rfl (Nat.le_of_ble_eq_true rfl) d_Rd_goDeeper_18 rfl ?_
    refine j_iconst (v := 1) d_Rd_goDeeper_21 (by decide) ?_
    replace h := Prod.mk.inj h
    obtain ⟨h9, h⟩ := h
    subst h9
    subst h
    exact j_zret (w := [(h0, .inr (2, [.ref a_scanner_h0, .ref a_draft_h0, .ref a_waiting_h0, .ref a_functions_h0, .ref a_bottom_h0, .ref a_top_h0, .ref a_text_h0, .int mode_h0, .int (levels_h0 + 1), .int signs_h0, .int loops_h0, .int token_h0, .int fault_h0]))]) hr (zb_n zb1) d_Rd_goDeeper_22 [0] rfl (by decide) ⟨rfl, zb1, rfl⟩
  · replace h := it_f c1 h
    refine j_iconst (v := 0) d_Rd_goDeeper_9 (by decide) ?_
    replace h := Prod.mk.inj h
    obtain ⟨h9, h⟩ := h
    subst h9
    subst h
    exact j_zret (w := [(h0, .inr (2, [.ref a_scanner_h0, .ref a_draft_h0, .ref a_waiting_h0, .ref a_functions_h0, .ref a_bottom_h0, .ref a_top_h0, .ref a_text_h0, .int mode_h0, .int levels_h0, .int signs_h0, .int loops_h0, .int token_h0, .int fault_h0]))]) hr (zb_n zb0) d_Rd_goDeeper_10 [0] rfl (by decide) ⟨rfl, zb0, rfl⟩
def F_Rd_settleStart_82 (mode_h0 : Int32) (token_h0 : Int32) (t0_82 : Int32) (f1_8_82 : Int32) (f1_9_82 : Int32) : (Int32 × Int32 × Int32 × Int32) :=
    if token_h0 = 41 then (mode_h0, f1_8_82, f1_9_82, t0_82)
    else if token_h0 = 93 then (mode_h0, f1_8_82, f1_9_82, t0_82)
    else if token_h0 = 58 then (mode_h0, f1_8_82, f1_9_82, t0_82)
    else if t0_82 = 0 then (31, f1_8_82, f1_9_82, t0_82)
    else if token_h0 = 126 then (mode_h0, f1_8_82, f1_9_82, t0_82)
    else (31, f1_8_82, f1_9_82, t0_82)
def F_Rd_settleStart_50 (mode_h0 : Int32) (token_h0 : Int32) (targets_a_top_h0 : Int32) (f1_8_50 : Int32) (f1_9_50 : Int32) : (Int32 × Int32 × Int32 × Int32) :=
    if targets_a_top_h0 = 0 then (F_Rd_settleStart_82 mode_h0 token_h0   0 f1_8_50 f1_9_50)
    else if token_h0 = 2 then (F_Rd_settleStart_82 mode_h0 token_h0   1 f1_8_50 f1_9_50)
    else if token_h0 = 126 then (F_Rd_settleStart_82 mode_h0 token_h0   1 f1_8_50 f1_9_50)
    else (F_Rd_settleStart_82 mode_h0 token_h0   0 f1_8_50 f1_9_50)
def F_Rd_settleStart (mode_h0 : Int32) (levels_h0 : Int32) (signs_h0 : Int32) (loops_h0 : Int32) (token_h0 : Int32) (fault_h0 : Int32) (kind_a_top_h0 : Int32) (place_a_top_h0 : Int32) (width_a_top_h0 : Int32) (second_a_top_h0 : Int32) (parts_a_top_h0 : Int32) (innerParts_a_top_h0 : Int32) (innerPlace_a_top_h0 : Int32) (innerWidth_a_top_h0 : Int32) (signs_a_top_h0 : Int32) (waitingBelow_a_top_h0 : Int32) (limited_a_top_h0 : Int32) (targets_a_top_h0 : Int32) (lastBlock_a_top_h0 : Int32) (next_a_scanner_h0 : Int32) (kind_a_scanner_h0 : Int32) (start_a_scanner_h0 : Int32) (width_a_scanner_h0 : Int32) : (Int32 × Int32 × Int32 × Int32) :=
  if kind_a_top_h0 = 36 then (if innerParts_a_top_h0 = 0 then (F_Rd_settleStart_50 mode_h0 token_h0 targets_a_top_h0   start_a_scanner_h0 width_a_scanner_h0)
    else (F_Rd_settleStart_50 mode_h0 token_h0 targets_a_top_h0   innerPlace_a_top_h0 innerWidth_a_top_h0))
  else (F_Rd_settleStart_50 mode_h0 token_h0 targets_a_top_h0   innerPlace_a_top_h0 innerWidth_a_top_h0)
theorem d_Rd_settleStart_0 : decode prog_6_method_12_code 0 = .ok (.aload_n 0, 1) := by decide +kernel
theorem d_Rd_settleStart_1 : decode prog_6_method_12_code 1 = .ok (.getfield 46, 3) := by decide +kernel
theorem d_Rd_settleStart_4 : decode prog_6_method_12_code 4 = .ok (.getfield 86, 3) := by decide +kernel
theorem d_Rd_settleStart_7 : decode prog_6_method_12_code 7 = .ok (.bipush 36, 2) := by decide +kernel
theorem d_Rd_settleStart_9 : decode prog_6_method_12_code 9 = .ok (.if_icmp .ne 41, 3) := by decide +kernel
theorem d_Rd_settleStart_12 : decode prog_6_method_12_code 12 = .ok (.aload_n 0, 1) := by decide +kernel
theorem d_Rd_settleStart_13 : decode prog_6_method_12_code 13 = .ok (.getfield 46, 3) := by decide +kernel
theorem d_Rd_settleStart_16 : decode prog_6_method_12_code 16 = .ok (.getfield 90, 3) := by decide +kernel
theorem d_Rd_settleStart_19 : decode prog_6_method_12_code 19 = .ok (.ifCond .ne 31, 3) := by decide +kernel
theorem d_Rd_settleStart_22 : decode prog_6_method_12_code 22 = .ok (.aload_n 0, 1) := by decide +kernel
theorem d_Rd_settleStart_23 : decode prog_6_method_12_code 23 = .ok (.getfield 46, 3) := by decide +kernel
theorem d_Rd_settleStart_26 : decode prog_6_method_12_code 26 = .ok (.aload_n 0, 1) := by decide +kernel
theorem d_Rd_settleStart_27 : decode prog_6_method_12_code 27 = .ok (.getfield 14, 3) := by decide +kernel
theorem d_Rd_settleStart_30 : decode prog_6_method_12_code 30 = .ok (.invokevirtual 113, 3) := by decide +kernel
theorem d_Rd_settleStart_33 : decode prog_6_method_12_code 33 = .ok (.putfield 174, 3) := by decide +kernel
theorem d_Rd_settleStart_36 : decode prog_6_method_12_code 36 = .ok (.aload_n 0, 1) := by decide +kernel
theorem d_Rd_settleStart_37 : decode prog_6_method_12_code 37 = .ok (.getfield 46, 3) := by decide +kernel
theorem d_Rd_settleStart_40 : decode prog_6_method_12_code 40 = .ok (.aload_n 0, 1) := by decide +kernel
theorem d_Rd_settleStart_41 : decode prog_6_method_12_code 41 = .ok (.getfield 14, 3) := by decide +kernel
theorem d_Rd_settleStart_44 : decode prog_6_method_12_code 44 = .ok (.invokevirtual 124, 3) := by decide +kernel
theorem d_Rd_settleStart_47 : decode prog_6_method_12_code 47 = .ok (.putfield 177, 3) := by decide +kernel
theorem d_Rd_settleStart_50 : decode prog_6_method_12_code 50 = .ok (.aload_n 0, 1) := by decide +kernel
theorem d_Rd_settleStart_51 : decode prog_6_method_12_code 51 = .ok (.getfield 46, 3) := by decide +kernel
theorem d_Rd_settleStart_54 : decode prog_6_method_12_code 54 = .ok (.getfield 160, 3) := by decide +kernel
theorem d_Rd_settleStart_57 : decode prog_6_method_12_code 57 = .ok (.ifCond .eq 24, 3) := by decide +kernel
theorem d_Rd_settleStart_60 : decode prog_6_method_12_code 60 = .ok (.aload_n 0, 1) := by decide +kernel
theorem d_Rd_settleStart_61 : decode prog_6_method_12_code 61 = .ok (.getfield 69, 3) := by decide +kernel
theorem d_Rd_settleStart_64 : decode prog_6_method_12_code 64 = .ok (.iconst 2, 1) := by decide +kernel
theorem d_Rd_settleStart_65 : decode prog_6_method_12_code 65 = .ok (.if_icmp .eq 12, 3) := by decide +kernel
theorem d_Rd_settleStart_68 : decode prog_6_method_12_code 68 = .ok (.aload_n 0, 1) := by decide +kernel
theorem d_Rd_settleStart_69 : decode prog_6_method_12_code 69 = .ok (.getfield 69, 3) := by decide +kernel
theorem d_Rd_settleStart_72 : decode prog_6_method_12_code 72 = .ok (.bipush 126, 2) := by decide +kernel
theorem d_Rd_settleStart_74 : decode prog_6_method_12_code 74 = .ok (.if_icmp .ne 7, 3) := by decide +kernel
theorem d_Rd_settleStart_77 : decode prog_6_method_12_code 77 = .ok (.iconst 1, 1) := by decide +kernel
theorem d_Rd_settleStart_78 : decode prog_6_method_12_code 78 = .ok (.goto 4, 3) := by decide +kernel
theorem d_Rd_settleStart_81 : decode prog_6_method_12_code 81 = .ok (.iconst 0, 1) := by decide +kernel
theorem d_Rd_settleStart_82 : decode prog_6_method_12_code 82 = .ok (.istore_n 1, 1) := by decide +kernel
theorem d_Rd_settleStart_83 : decode prog_6_method_12_code 83 = .ok (.aload_n 0, 1) := by decide +kernel
theorem d_Rd_settleStart_84 : decode prog_6_method_12_code 84 = .ok (.getfield 46, 3) := by decide +kernel
theorem d_Rd_settleStart_87 : decode prog_6_method_12_code 87 = .ok (.iload_n 1, 1) := by decide +kernel
theorem d_Rd_settleStart_88 : decode prog_6_method_12_code 88 = .ok (.putfield 160, 3) := by decide +kernel
theorem d_Rd_settleStart_91 : decode prog_6_method_12_code 91 = .ok (.aload_n 0, 1) := by decide +kernel
theorem d_Rd_settleStart_92 : decode prog_6_method_12_code 92 = .ok (.getfield 69, 3) := by decide +kernel
theorem d_Rd_settleStart_95 : decode prog_6_method_12_code 95 = .ok (.bipush 41, 2) := by decide +kernel
theorem d_Rd_settleStart_97 : decode prog_6_method_12_code 97 = .ok (.if_icmp .eq 40, 3) := by decide +kernel
theorem d_Rd_settleStart_100 : decode prog_6_method_12_code 100 = .ok (.aload_n 0, 1) := by decide +kernel
theorem d_Rd_settleStart_101 : decode prog_6_method_12_code 101 = .ok (.getfield 69, 3) := by decide +kernel
theorem d_Rd_settleStart_104 : decode prog_6_method_12_code 104 = .ok (.bipush 93, 2) := by decide +kernel
theorem d_Rd_settleStart_106 : decode prog_6_method_12_code 106 = .ok (.if_icmp .eq 31, 3) := by decide +kernel
theorem d_Rd_settleStart_109 : decode prog_6_method_12_code 109 = .ok (.aload_n 0, 1) := by decide +kernel
theorem d_Rd_settleStart_110 : decode prog_6_method_12_code 110 = .ok (.getfield 69, 3) := by decide +kernel
theorem d_Rd_settleStart_113 : decode prog_6_method_12_code 113 = .ok (.bipush 58, 2) := by decide +kernel
theorem d_Rd_settleStart_115 : decode prog_6_method_12_code 115 = .ok (.if_icmp .eq 22, 3) := by decide +kernel
theorem d_Rd_settleStart_118 : decode prog_6_method_12_code 118 = .ok (.iload_n 1, 1) := by decide +kernel
theorem d_Rd_settleStart_119 : decode prog_6_method_12_code 119 = .ok (.ifCond .eq 12, 3) := by decide +kernel
theorem d_Rd_settleStart_122 : decode prog_6_method_12_code 122 = .ok (.aload_n 0, 1) := by decide +kernel
theorem d_Rd_settleStart_123 : decode prog_6_method_12_code 123 = .ok (.getfield 69, 3) := by decide +kernel
theorem d_Rd_settleStart_126 : decode prog_6_method_12_code 126 = .ok (.bipush 126, 2) := by decide +kernel
theorem d_Rd_settleStart_128 : decode prog_6_method_12_code 128 = .ok (.if_icmp .eq 9, 3) := by decide +kernel
theorem d_Rd_settleStart_131 : decode prog_6_method_12_code 131 = .ok (.aload_n 0, 1) := by decide +kernel
theorem d_Rd_settleStart_132 : decode prog_6_method_12_code 132 = .ok (.bipush 31, 2) := by decide +kernel
theorem d_Rd_settleStart_134 : decode prog_6_method_12_code 134 = .ok (.putfield 56, 3) := by decide +kernel
theorem d_Rd_settleStart_137 : decode prog_6_method_12_code 137 = .ok (.return_, 1) := by decide +kernel
set_option maxHeartbeats 4000000 in
set_option maxRecDepth 100000 in
theorem L_Rd_settleStart_82 (l : Launch) (D : va_G) (cI cB cJ cS : ClassId) (h0 : Nat) (a_scanner_h0 : Nat) (a_draft_h0 : Nat) (a_waiting_h0 : Nat) (a_functions_h0 : Nat) (a_bottom_h0 : Nat) (a_top_h0 : Nat) (a_text_h0 : Nat) (V_below_a_top_h0 : Value) (V_above_a_top_h0 : Value) (a_text_a_scanner_h0 : Nat) (mode_h0 : Int32) (levels_h0 : Int32) (signs_h0 : Int32) (loops_h0 : Int32) (token_h0 : Int32) (fault_h0 : Int32) (kind_a_top_h0 : Int32) (place_a_top_h0 : Int32) (width_a_top_h0 : Int32) (second_a_top_h0 : Int32) (parts_a_top_h0 : Int32) (innerParts_a_top_h0 : Int32) (innerPlace_a_top_h0 : Int32) (innerWidth_a_top_h0 : Int32) (signs_a_top_h0 : Int32) (waitingBelow_a_top_h0 : Int32) (limited_a_top_h0 : Int32) (targets_a_top_h0 : Int32) (lastBlock_a_top_h0 : Int32) (next_a_scanner_h0 : Int32) (kind_a_scanner_h0 : Int32) (start_a_scanner_h0 : Int32) (width_a_scanner_h0 : Int32) (o_0_7 : Int32) (o_1_8 : Int32) (o_1_9 : Int32) (o_1_13 : Int32) (p : Program) (e : Env) (s : State) (m : MethodId) (below : List Frame) (meth : Method) (c : Code) (hr : meth.sig.returnType = (Option.none : Option Jvm.ClassFile.FieldType)) (hnm : meth.name = y_Rd_settleStart.name) : ∀ (t0_82 : Int32) (f1_8_82 : Int32) (f1_9_82 : Int32) (hz_t0_82 : zb t0_82), F_Rd_settleStart_82 mode_h0 token_h0   t0_82 f1_8_82 f1_9_82 = (o_0_7, o_1_8, o_1_9, o_1_13) → J (KxOf p l e { frames := 1, cells := 0, slots := 0, locals := 20 } s m [.ref h0].toArray below meth c D (gT cI cB cJ cS) [(h0, .inr (2, [.ref a_scanner_h0, .ref a_draft_h0, .ref a_waiting_h0, .ref a_functions_h0, .ref a_bottom_h0, .ref a_top_h0, .ref a_text_h0, .int mode_h0, .int levels_h0, .int signs_h0, .int loops_h0, .int token_h0, .int fault_h0])), (a_top_h0, .inr (0, [V_below_a_top_h0, V_above_a_top_h0, .int kind_a_top_h0, .int place_a_top_h0, .int width_a_top_h0, .int second_a_top_h0, .int parts_a_top_h0, .int innerParts_a_top_h0, .int innerPlace_a_top_h0, .int innerWidth_a_top_h0, .int signs_a_top_h0, .int waitingBelow_a_top_h0, .int limited_a_top_h0, .int targets_a_top_h0, .int lastBlock_a_top_h0])), (a_scanner_h0, .inr (4, [.ref a_text_a_scanner_h0, .int next_a_scanner_h0, .int kind_a_scanner_h0, .int start_a_scanner_h0, .int width_a_scanner_h0]))] (fun v w => v = none ∧ w = [(h0, .inr (2, [.ref a_scanner_h0, .ref a_draft_h0, .ref a_waiting_h0, .ref a_functions_h0, .ref a_bottom_h0, .ref a_top_h0, .ref a_text_h0, .int o_0_7, .int levels_h0, .int signs_h0, .int loops_h0, .int token_h0, .int fault_h0])), (a_top_h0, .inr (0, [V_below_a_top_h0, V_above_a_top_h0, .int kind_a_top_h0, .int place_a_top_h0, .int width_a_top_h0, .int second_a_top_h0, .int parts_a_top_h0, .int innerParts_a_top_h0, .int o_1_8, .int o_1_9, .int signs_a_top_h0, .int waitingBelow_a_top_h0, .int limited_a_top_h0, .int o_1_13, .int lastBlock_a_top_h0])), (a_scanner_h0, .inr (4, [.ref a_text_a_scanner_h0, .int next_a_scanner_h0, .int kind_a_scanner_h0, .int start_a_scanner_h0, .int width_a_scanner_h0]))]) 0 0) prog_6_method_12_code 2 R_Rd 82 [(0, .ref h0)] [.int t0_82] [(h0, .inr (2, [.ref a_scanner_h0, .ref a_draft_h0, .ref a_waiting_h0, .ref a_functions_h0, .ref a_bottom_h0, .ref a_top_h0, .ref a_text_h0, .int mode_h0, .int levels_h0, .int signs_h0, .int loops_h0, .int token_h0, .int fault_h0])), (a_top_h0, .inr (0, [V_below_a_top_h0, V_above_a_top_h0, .int kind_a_top_h0, .int place_a_top_h0, .int width_a_top_h0, .int second_a_top_h0, .int parts_a_top_h0, .int innerParts_a_top_h0, .int f1_8_82, .int f1_9_82, .int signs_a_top_h0, .int waitingBelow_a_top_h0, .int limited_a_top_h0, .int targets_a_top_h0, .int lastBlock_a_top_h0])), (a_scanner_h0, .inr (4, [.ref a_text_a_scanner_h0, .int next_a_scanner_h0, .int kind_a_scanner_h0, .int start_a_scanner_h0, .int width_a_scanner_h0]))] 0 0 := by
  intro t0_82 f1_8_82 f1_9_82 hz_t0_82 h
  unfold F_Rd_settleStart_82 at h
  refine j_istore_n (lv' := [(1, .int t0_82), (0, .ref h0)]) d_Rd_settleStart_82 rfl (by decide) rfl ?_
  refine j_aload_n d_Rd_settleStart_83 rfl 1 rfl ?_
  refine j_get ig_Rd rfl 0 rfl 5 (by decide) rfl m_174 rfl d_Rd_settleStart_84 ?_
  refine j_iload_n d_Rd_settleStart_87 rfl 0 rfl ?_
  refine j_put (ws' := [(h0, .inr (2, [.ref a_scanner_h0, .ref a_draft_h0, .ref a_waiting_h0, .ref a_functions_h0, .ref a_bottom_h0, .ref a_top_h0, .ref a_text_h0, .int mode_h0, .int levels_h0, .int signs_h0, .int loops_h0, .int token_h0, .int fault_h0])), (a_top_h0, .inr (0, [V_below_a_top_h0, V_above_a_top_h0, .int kind_a_top_h0, .int place_a_top_h0, .int width_a_top_h0, .int second_a_top_h0, .int parts_a_top_h0, .int innerParts_a_top_h0, .int f1_8_82, .int f1_9_82, .int signs_a_top_h0, .int waitingBelow_a_top_h0, .int limited_a_top_h0, .int t0_82, .int lastBlock_a_top_h0])), (a_scanner_h0, .inr (4, [.ref a_text_a_scanner_h0, .int next_a_scanner_h0, .int kind_a_scanner_h0, .int start_a_scanner_h0, .int width_a_scanner_h0]))]) ig_Fr tk_Fr nm_Fr rfl 1 rfl 13 (by decide) rfl m_133 rfl (tk_Fr 13 (by decide)) (zb_n hz_t0_82) (zb_fit hz_t0_82) (Nat.le_of_ble_eq_true rfl) d_Rd_settleStart_88 rfl ?_
  refine j_aload_n d_Rd_settleStart_91 rfl 1 rfl ?_
  refine j_get ig_Rd rfl 0 rfl 11 (by decide) rfl m_180 rfl d_Rd_settleStart_92 ?_
  refine j_bipush (v := 41) d_Rd_settleStart_95 (by decide) ?_
  refine j_icmp_eq (tgt := 137) d_Rd_settleStart_97 (by decide) (fun c1 => ?_) (fun c1 => ?_)
  · replace h := it_t c1 h
    replace h := Prod.mk.inj h
    obtain ⟨h9, h⟩ := h
    subst h9
    replace h := Prod.mk.inj h
    obtain ⟨h9, h⟩ := h
    subst h9
    replace h := Prod.mk.inj h
    obtain ⟨h9, h⟩ := h
    subst h9
    subst h
    exact j_vret (w := [(h0, .inr (2, [.ref a_scanner_h0, .ref a_draft_h0, .ref a_waiting_h0, .ref a_functions_h0, .ref a_bottom_h0, .ref a_top_h0, .ref a_text_h0, .int mode_h0, .int levels_h0, .int signs_h0, .int loops_h0, .int token_h0, .int fault_h0])), (a_top_h0, .inr (0, [V_below_a_top_h0, V_above_a_top_h0, .int kind_a_top_h0, .int place_a_top_h0, .int width_a_top_h0, .int second_a_top_h0, .int parts_a_top_h0, .int innerParts_a_top_h0, .int f1_8_82, .int f1_9_82, .int signs_a_top_h0, .int waitingBelow_a_top_h0, .int limited_a_top_h0, .int t0_82, .int lastBlock_a_top_h0])), (a_scanner_h0, .inr (4, [.ref a_text_a_scanner_h0, .int next_a_scanner_h0, .int kind_a_scanner_h0, .int start_a_scanner_h0, .int width_a_scanner_h0]))]) hr d_Rd_settleStart_137 [0, 1, 2] rfl (by decide) ⟨rfl, rfl⟩
  · replace h := it_f c1 h
    refine j_aload_n d_Rd_settleStart_100 rfl 1 rfl ?_
    refine j_get ig_Rd rfl 0 rfl 11 (by decide) rfl m_180 rfl d_Rd_settleStart_101 ?_
    refine j_bipush (v := 93) d_Rd_settleStart_104 (by decide) ?_
    refine j_icmp_eq (tgt := 137) d_Rd_settleStart_106 (by decide) (fun c2 => ?_) (fun c2 => ?_)
    · replace h := it_t c2 h
      replace h := Prod.mk.inj h
      obtain ⟨h9, h⟩ := h
      subst h9
      replace h := Prod.mk.inj h
      obtain ⟨h9, h⟩ := h
      subst h9
      replace h := Prod.mk.inj h
      obtain ⟨h9, h⟩ := h
      subst h9
      subst h
      exact j_vret (w := [(h0, .inr (2, [.ref a_scanner_h0, .ref a_draft_h0, .ref a_waiting_h0, .ref a_functions_h0, .ref a_bottom_h0, .ref a_top_h0, .ref a_text_h0, .int mode_h0, .int levels_h0, .int signs_h0, .int loops_h0, .int token_h0, .int fault_h0])), (a_top_h0, .inr (0, [V_below_a_top_h0, V_above_a_top_h0, .int kind_a_top_h0, .int place_a_top_h0, .int width_a_top_h0, .int second_a_top_h0, .int parts_a_top_h0, .int innerParts_a_top_h0, .int f1_8_82, .int f1_9_82, .int signs_a_top_h0, .int waitingBelow_a_top_h0, .int limited_a_top_h0, .int t0_82, .int lastBlock_a_top_h0])), (a_scanner_h0, .inr (4, [.ref a_text_a_scanner_h0, .int next_a_scanner_h0, .int kind_a_scanner_h0, .int start_a_scanner_h0, .int width_a_scanner_h0]))]) hr d_Rd_settleStart_137 [0, 1, 2] rfl (by decide) ⟨rfl, rfl⟩
    · replace h := it_f c2 h
      refine j_aload_n d_Rd_settleStart_109 rfl 1 rfl ?_
      refine j_get ig_Rd rfl 0 rfl 11 (by decide) rfl m_180 rfl d_Rd_settleStart_110 ?_
      refine j_bipush (v := 58) d_Rd_settleStart_113 (by decide) ?_
      refine j_icmp_eq (tgt := 137) d_Rd_settleStart_115 (by decide) (fun c3 => ?_) (fun c3 => ?_)
      · replace h := it_t c3 h
        replace h := Prod.mk.inj h
        obtain ⟨h9, h⟩ := h
        subst h9
        replace h := Prod.mk.inj h
        obtain ⟨h9, h⟩ := h
        subst h9
        replace h := Prod.mk.inj h
        obtain ⟨h9, h⟩ := h
        subst h9
        subst h
        exact j_vret (w := [(h0, .inr (2, [.ref a_scanner_h0, .ref a_draft_h0, .ref a_waiting_h0, .ref a_functions_h0, .ref a_bottom_h0, .ref a_top_h0, .ref a_text_h0, .int mode_h0, .int levels_h0, .int signs_h0, .int loops_h0, .int token_h0, .int fault_h0])), (a_top_h0, .inr (0, [V_below_a_top_h0, V_above_a_top_h0, .int kind_a_top_h0, .int place_a_top_h0, .int width_a_top_h0, .int second_a_top_h0, .int parts_a_top_h0, .int innerParts_a_top_h0, .int f1_8_82, .int f1_9_82, .int signs_a_top_h0, .int waitingBelow_a_top_h0, .int limited_a_top_h0, .int t0_82, .int lastBlock_a_top_h0])), (a_scanner_h0, .inr (4, [.ref a_text_a_scanner_h0, .int next_a_scanner_h0, .int kind_a_scanner_h0, .int start_a_scanner_h0, .int width_a_scanner_h0]))]) hr d_Rd_settleStart_137 [0, 1, 2] rfl (by decide) ⟨rfl, rfl⟩
      · replace h := it_f c3 h
        refine j_iload_n d_Rd_settleStart_118 rfl 0 rfl ?_
        refine j_if_eq (tgt := 131) d_Rd_settleStart_119 (by decide) (fun c4 => ?_) (fun c4 => ?_)
        · replace h := it_t c4 h
          refine j_aload_n d_Rd_settleStart_131 rfl 1 rfl ?_
          refine j_bipush (v := 31) d_Rd_settleStart_132 (by decide) ?_
          refine j_put (ws' := [(h0, .inr (2, [.ref a_scanner_h0, .ref a_draft_h0, .ref a_waiting_h0, .ref a_functions_h0, .ref a_bottom_h0, .ref a_top_h0, .ref a_text_h0, .int 31, .int levels_h0, .int signs_h0, .int loops_h0, .int token_h0, .int fault_h0])), (a_top_h0, .inr (0, [V_below_a_top_h0, V_above_a_top_h0, .int kind_a_top_h0, .int place_a_top_h0, .int width_a_top_h0, .int second_a_top_h0, .int parts_a_top_h0, .int innerParts_a_top_h0, .int f1_8_82, .int f1_9_82, .int signs_a_top_h0, .int waitingBelow_a_top_h0, .int limited_a_top_h0, .int t0_82, .int lastBlock_a_top_h0])), (a_scanner_h0, .inr (4, [.ref a_text_a_scanner_h0, .int next_a_scanner_h0, .int kind_a_scanner_h0, .int start_a_scanner_h0, .int width_a_scanner_h0]))]) ig_Rd tk_Rd nm_Rd rfl 0 rfl 7 (by decide) rfl m_176 rfl (tk_Rd 7 (by decide)) rfl rfl (Nat.le_of_ble_eq_true rfl) d_Rd_settleStart_134 rfl ?_
          replace h := Prod.mk.inj h
          obtain ⟨h9, h⟩ := h
          subst h9
          replace h := Prod.mk.inj h
          obtain ⟨h9, h⟩ := h
          subst h9
          replace h := Prod.mk.inj h
          obtain ⟨h9, h⟩ := h
          subst h9
          subst h
          exact j_vret (w := [(h0, .inr (2, [.ref a_scanner_h0, .ref a_draft_h0, .ref a_waiting_h0, .ref a_functions_h0, .ref a_bottom_h0, .ref a_top_h0, .ref a_text_h0, .int 31, .int levels_h0, .int signs_h0, .int loops_h0, .int token_h0, .int fault_h0])), (a_top_h0, .inr (0, [V_below_a_top_h0, V_above_a_top_h0, .int kind_a_top_h0, .int place_a_top_h0, .int width_a_top_h0, .int second_a_top_h0, .int parts_a_top_h0, .int innerParts_a_top_h0, .int f1_8_82, .int f1_9_82, .int signs_a_top_h0, .int waitingBelow_a_top_h0, .int limited_a_top_h0, .int t0_82, .int lastBlock_a_top_h0])), (a_scanner_h0, .inr (4, [.ref a_text_a_scanner_h0, .int next_a_scanner_h0, .int kind_a_scanner_h0, .int start_a_scanner_h0, .int width_a_scanner_h0]))]) hr d_Rd_settleStart_137 [0, 1, 2] rfl (by decide) ⟨rfl, rfl⟩
        · replace h := it_f c4 h
          refine j_aload_n d_Rd_settleStart_122 rfl 1 rfl ?_
          refine j_get ig_Rd rfl 0 rfl 11 (by decide) rfl m_180 rfl d_Rd_settleStart_123 ?_
          refine j_bipush (v := 126) d_Rd_settleStart_126 (by decide) ?_
          refine j_icmp_eq (tgt := 137) d_Rd_settleStart_128 (by decide) (fun c5 => ?_) (fun c5 => ?_)
          · replace h := it_t c5 h
            replace h := Prod.mk.inj h
            obtain ⟨h9, h⟩ := h
            subst h9
            replace h := Prod.mk.inj h
            obtain ⟨h9, h⟩ := h
            subst h9
            replace h := Prod.mk.inj h
            obtain ⟨h9, h⟩ := h
            subst h9
            subst h
            exact j_vret (w := [(h0, .inr (2, [.ref a_scanner_h0, .ref a_draft_h0, .ref a_waiting_h0, .ref a_functions_h0, .ref a_bottom_h0, .ref a_top_h0, .ref a_text_h0, .int mode_h0, .int levels_h0, .int signs_h0, .int loops_h0, .int token_h0, .int fault_h0])), (a_top_h0, .inr (0, [V_below_a_top_h0, V_above_a_top_h0, .int kind_a_top_h0, .int place_a_top_h0, .int width_a_top_h0, .int second_a_top_h0, .int parts_a_top_h0, .int innerParts_a_top_h0, .int f1_8_82, .int f1_9_82, .int signs_a_top_h0, .int waitingBelow_a_top_h0, .int limited_a_top_h0, .int t0_82, .int lastBlock_a_top_h0])), (a_scanner_h0, .inr (4, [.ref a_text_a_scanner_h0, .int next_a_scanner_h0, .int kind_a_scanner_h0, .int start_a_scanner_h0, .int width_a_scanner_h0]))]) hr d_Rd_settleStart_137 [0, 1, 2] rfl (by decide) ⟨rfl, rfl⟩
          · replace h := it_f c5 h
            refine j_aload_n d_Rd_settleStart_131 rfl 1 rfl ?_
            refine j_bipush (v := 31) d_Rd_settleStart_132 (by decide) ?_
            refine j_put (ws' := [(h0, .inr (2, [.ref a_scanner_h0, .ref a_draft_h0, .ref a_waiting_h0, .ref a_functions_h0, .ref a_bottom_h0, .ref a_top_h0, .ref a_text_h0, .int 31, .int levels_h0, .int signs_h0, .int loops_h0, .int token_h0, .int fault_h0])), (a_top_h0, .inr (0, [V_below_a_top_h0, V_above_a_top_h0, .int kind_a_top_h0, .int place_a_top_h0, .int width_a_top_h0, .int second_a_top_h0, .int parts_a_top_h0, .int innerParts_a_top_h0, .int f1_8_82, .int f1_9_82, .int signs_a_top_h0, .int waitingBelow_a_top_h0, .int limited_a_top_h0, .int t0_82, .int lastBlock_a_top_h0])), (a_scanner_h0, .inr (4, [.ref a_text_a_scanner_h0, .int next_a_scanner_h0, .int kind_a_scanner_h0, .int start_a_scanner_h0, .int width_a_scanner_h0]))]) ig_Rd tk_Rd nm_Rd rfl 0 rfl 7 (by decide) rfl m_176 rfl (tk_Rd 7 (by decide)) rfl rfl (Nat.le_of_ble_eq_true rfl) d_Rd_settleStart_134 rfl ?_
            replace h := Prod.mk.inj h
            obtain ⟨h9, h⟩ := h
            subst h9
            replace h := Prod.mk.inj h
            obtain ⟨h9, h⟩ := h
            subst h9
            replace h := Prod.mk.inj h
            obtain ⟨h9, h⟩ := h
            subst h9
            subst h
            exact j_vret (w := [(h0, .inr (2, [.ref a_scanner_h0, .ref a_draft_h0, .ref a_waiting_h0, .ref a_functions_h0, .ref a_bottom_h0, .ref a_top_h0, .ref a_text_h0, .int 31, .int levels_h0, .int signs_h0, .int loops_h0, .int token_h0, .int fault_h0])), (a_top_h0, .inr (0, [V_below_a_top_h0, V_above_a_top_h0, .int kind_a_top_h0, .int place_a_top_h0, .int width_a_top_h0, .int second_a_top_h0, .int parts_a_top_h0, .int innerParts_a_top_h0, .int f1_8_82, .int f1_9_82, .int signs_a_top_h0, .int waitingBelow_a_top_h0, .int limited_a_top_h0, .int t0_82, .int lastBlock_a_top_h0])), (a_scanner_h0, .inr (4, [.ref a_text_a_scanner_h0, .int next_a_scanner_h0, .int kind_a_scanner_h0, .int start_a_scanner_h0, .int width_a_scanner_h0]))]) hr d_Rd_settleStart_137 [0, 1, 2] rfl (by decide) ⟨rfl, rfl⟩
set_option maxHeartbeats 4000000 in
set_option maxRecDepth 100000 in
theorem L_Rd_settleStart_50 (l : Launch) (D : va_G) (cI cB cJ cS : ClassId) (h0 : Nat) (a_scanner_h0 : Nat) (a_draft_h0 : Nat) (a_waiting_h0 : Nat) (a_functions_h0 : Nat) (a_bottom_h0 : Nat) (a_top_h0 : Nat) (a_text_h0 : Nat) (V_below_a_top_h0 : Value) (V_above_a_top_h0 : Value) (a_text_a_scanner_h0 : Nat) (mode_h0 : Int32) (levels_h0 : Int32) (signs_h0 : Int32) (loops_h0 : Int32) (token_h0 : Int32) (fault_h0 : Int32) (kind_a_top_h0 : Int32) (place_a_top_h0 : Int32) (width_a_top_h0 : Int32) (second_a_top_h0 : Int32) (parts_a_top_h0 : Int32) (innerParts_a_top_h0 : Int32) (innerPlace_a_top_h0 : Int32) (innerWidth_a_top_h0 : Int32) (signs_a_top_h0 : Int32) (waitingBelow_a_top_h0 : Int32) (limited_a_top_h0 : Int32) (targets_a_top_h0 : Int32) (lastBlock_a_top_h0 : Int32) (next_a_scanner_h0 : Int32) (kind_a_scanner_h0 : Int32) (start_a_scanner_h0 : Int32) (width_a_scanner_h0 : Int32) (o_0_7 : Int32) (o_1_8 : Int32) (o_1_9 : Int32) (o_1_13 : Int32) (p : Program) (e : Env) (s : State) (m : MethodId) (below : List Frame) (meth : Method) (c : Code) (hr : meth.sig.returnType = (Option.none : Option Jvm.ClassFile.FieldType)) (hnm : meth.name = y_Rd_settleStart.name) : ∀ (f1_8_50 : Int32) (f1_9_50 : Int32), F_Rd_settleStart_50 mode_h0 token_h0 targets_a_top_h0   f1_8_50 f1_9_50 = (o_0_7, o_1_8, o_1_9, o_1_13) → J (KxOf p l e { frames := 1, cells := 0, slots := 0, locals := 20 } s m [.ref h0].toArray below meth c D (gT cI cB cJ cS) [(h0, .inr (2, [.ref a_scanner_h0, .ref a_draft_h0, .ref a_waiting_h0, .ref a_functions_h0, .ref a_bottom_h0, .ref a_top_h0, .ref a_text_h0, .int mode_h0, .int levels_h0, .int signs_h0, .int loops_h0, .int token_h0, .int fault_h0])), (a_top_h0, .inr (0, [V_below_a_top_h0, V_above_a_top_h0, .int kind_a_top_h0, .int place_a_top_h0, .int width_a_top_h0, .int second_a_top_h0, .int parts_a_top_h0, .int innerParts_a_top_h0, .int innerPlace_a_top_h0, .int innerWidth_a_top_h0, .int signs_a_top_h0, .int waitingBelow_a_top_h0, .int limited_a_top_h0, .int targets_a_top_h0, .int lastBlock_a_top_h0])), (a_scanner_h0, .inr (4, [.ref a_text_a_scanner_h0, .int next_a_scanner_h0, .int kind_a_scanner_h0, .int start_a_scanner_h0, .int width_a_scanner_h0]))] (fun v w => v = none ∧ w = [(h0, .inr (2, [.ref a_scanner_h0, .ref a_draft_h0, .ref a_waiting_h0, .ref a_functions_h0, .ref a_bottom_h0, .ref a_top_h0, .ref a_text_h0, .int o_0_7, .int levels_h0, .int signs_h0, .int loops_h0, .int token_h0, .int fault_h0])), (a_top_h0, .inr (0, [V_below_a_top_h0, V_above_a_top_h0, .int kind_a_top_h0, .int place_a_top_h0, .int width_a_top_h0, .int second_a_top_h0, .int parts_a_top_h0, .int innerParts_a_top_h0, .int o_1_8, .int o_1_9, .int signs_a_top_h0, .int waitingBelow_a_top_h0, .int limited_a_top_h0, .int o_1_13, .int lastBlock_a_top_h0])), (a_scanner_h0, .inr (4, [.ref a_text_a_scanner_h0, .int next_a_scanner_h0, .int kind_a_scanner_h0, .int start_a_scanner_h0, .int width_a_scanner_h0]))]) 0 0) prog_6_method_12_code 2 R_Rd 50 [(0, .ref h0)] [] [(h0, .inr (2, [.ref a_scanner_h0, .ref a_draft_h0, .ref a_waiting_h0, .ref a_functions_h0, .ref a_bottom_h0, .ref a_top_h0, .ref a_text_h0, .int mode_h0, .int levels_h0, .int signs_h0, .int loops_h0, .int token_h0, .int fault_h0])), (a_top_h0, .inr (0, [V_below_a_top_h0, V_above_a_top_h0, .int kind_a_top_h0, .int place_a_top_h0, .int width_a_top_h0, .int second_a_top_h0, .int parts_a_top_h0, .int innerParts_a_top_h0, .int f1_8_50, .int f1_9_50, .int signs_a_top_h0, .int waitingBelow_a_top_h0, .int limited_a_top_h0, .int targets_a_top_h0, .int lastBlock_a_top_h0])), (a_scanner_h0, .inr (4, [.ref a_text_a_scanner_h0, .int next_a_scanner_h0, .int kind_a_scanner_h0, .int start_a_scanner_h0, .int width_a_scanner_h0]))] 0 0 := by
  intro f1_8_50 f1_9_50 h
  unfold F_Rd_settleStart_50 at h
  refine j_aload_n d_Rd_settleStart_50 rfl 0 rfl ?_
  refine j_get ig_Rd rfl 0 rfl 5 (by decide) rfl m_174 rfl d_Rd_settleStart_51 ?_
  refine j_get ig_Fr rfl 1 rfl 13 (by decide) rfl m_133 rfl d_Rd_settleStart_54 ?_
  refine j_if_eq (tgt := 81) d_Rd_settleStart_57 (by decide) (fun c6 => ?_) (fun c6 => ?_)
  · replace h := it_t c6 h
    refine j_iconst (v := 0) d_Rd_settleStart_81 (by decide) ?_
    refine j_sub (w := [(h0, .inr (2, [.ref a_scanner_h0, .ref a_draft_h0, .ref a_waiting_h0, .ref a_functions_h0, .ref a_bottom_h0, .ref a_top_h0, .ref a_text_h0, .int mode_h0, .int levels_h0, .int signs_h0, .int loops_h0, .int token_h0, .int fault_h0])), (a_top_h0, .inr (0, [V_below_a_top_h0, V_above_a_top_h0, .int kind_a_top_h0, .int place_a_top_h0, .int width_a_top_h0, .int second_a_top_h0, .int parts_a_top_h0, .int innerParts_a_top_h0, .int f1_8_50, .int f1_9_50, .int signs_a_top_h0, .int waitingBelow_a_top_h0, .int limited_a_top_h0, .int targets_a_top_h0, .int lastBlock_a_top_h0])), (a_scanner_h0, .inr (4, [.ref a_text_a_scanner_h0, .int next_a_scanner_h0, .int kind_a_scanner_h0, .int start_a_scanner_h0, .int width_a_scanner_h0]))]) (lv' := [(0, .ref h0)]) [0, 1, 2] rfl (by decide) [0] rfl ?_
    exact L_Rd_settleStart_82 l D cI cB cJ cS h0 a_scanner_h0 a_draft_h0 a_waiting_h0 a_functions_h0 a_bottom_h0 a_top_h0 a_text_h0 V_below_a_top_h0 V_above_a_top_h0 a_text_a_scanner_h0 mode_h0 levels_h0 signs_h0 loops_h0 token_h0 fault_h0 kind_a_top_h0 place_a_top_h0 width_a_top_h0 second_a_top_h0 parts_a_top_h0 innerParts_a_top_h0 innerPlace_a_top_h0 innerWidth_a_top_h0 signs_a_top_h0 waitingBelow_a_top_h0 limited_a_top_h0 targets_a_top_h0 lastBlock_a_top_h0 next_a_scanner_h0 kind_a_scanner_h0 start_a_scanner_h0 width_a_scanner_h0 o_0_7 o_1_8 o_1_9 o_1_13 p e s m below meth c hr hnm 0 f1_8_50 f1_9_50 zb0 h
  · replace h := it_f c6 h
    refine j_aload_n d_Rd_settleStart_60 rfl 0 rfl ?_
    refine j_get ig_Rd rfl 0 rfl 11 (by decide) rfl m_180 rfl d_Rd_settleStart_61 ?_
    refine j_iconst (v := 2) d_Rd_settleStart_64 (by decide) ?_
    refine j_icmp_eq (tgt := 77) d_Rd_settleStart_65 (by decide) (fun c7 => ?_) (fun c7 => ?_)
    · replace h := it_t c7 h
      refine j_iconst (v := 1) d_Rd_settleStart_77 (by decide) ?_
      refine j_goto (tgt := 82) d_Rd_settleStart_78 (by decide) ?_
      refine j_sub (w := [(h0, .inr (2, [.ref a_scanner_h0, .ref a_draft_h0, .ref a_waiting_h0, .ref a_functions_h0, .ref a_bottom_h0, .ref a_top_h0, .ref a_text_h0, .int mode_h0, .int levels_h0, .int signs_h0, .int loops_h0, .int token_h0, .int fault_h0])), (a_top_h0, .inr (0, [V_below_a_top_h0, V_above_a_top_h0, .int kind_a_top_h0, .int place_a_top_h0, .int width_a_top_h0, .int second_a_top_h0, .int parts_a_top_h0, .int innerParts_a_top_h0, .int f1_8_50, .int f1_9_50, .int signs_a_top_h0, .int waitingBelow_a_top_h0, .int limited_a_top_h0, .int targets_a_top_h0, .int lastBlock_a_top_h0])), (a_scanner_h0, .inr (4, [.ref a_text_a_scanner_h0, .int next_a_scanner_h0, .int kind_a_scanner_h0, .int start_a_scanner_h0, .int width_a_scanner_h0]))]) (lv' := [(0, .ref h0)]) [0, 1, 2] rfl (by decide) [0] rfl ?_
      exact L_Rd_settleStart_82 l D cI cB cJ cS h0 a_scanner_h0 a_draft_h0 a_waiting_h0 a_functions_h0 a_bottom_h0 a_top_h0 a_text_h0 V_below_a_top_h0 V_above_a_top_h0 a_text_a_scanner_h0 mode_h0 levels_h0 signs_h0 loops_h0 token_h0 fault_h0 kind_a_top_h0 place_a_top_h0 width_a_top_h0 second_a_top_h0 parts_a_top_h0 innerParts_a_top_h0 innerPlace_a_top_h0 innerWidth_a_top_h0 signs_a_top_h0 waitingBelow_a_top_h0 limited_a_top_h0 targets_a_top_h0 lastBlock_a_top_h0 next_a_scanner_h0 kind_a_scanner_h0 start_a_scanner_h0 width_a_scanner_h0 o_0_7 o_1_8 o_1_9 o_1_13 p e s m below meth c hr hnm 1 f1_8_50 f1_9_50 zb1 h
    · replace h := it_f c7 h
      refine j_aload_n d_Rd_settleStart_68 rfl 0 rfl ?_
      refine j_get ig_Rd rfl 0 rfl 11 (by decide) rfl m_180 rfl d_Rd_settleStart_69 ?_
      refine j_bipush (v := 126) d_Rd_settleStart_72 (by decide) ?_
      refine j_icmp_ne (tgt := 81) d_Rd_settleStart_74 (by decide) (fun c8 => ?_) (fun c8 => ?_)
      · replace h := it_f c8 h
        refine j_iconst (v := 0) d_Rd_settleStart_81 (by decide) ?_
        refine j_sub (w := [(h0, .inr (2, [.ref a_scanner_h0, .ref a_draft_h0, .ref a_waiting_h0, .ref a_functions_h0, .ref a_bottom_h0, .ref a_top_h0, .ref a_text_h0, .int mode_h0, .int levels_h0, .int signs_h0, .int loops_h0, .int token_h0, .int fault_h0])), (a_top_h0, .inr (0, [V_below_a_top_h0, V_above_a_top_h0, .int kind_a_top_h0, .int place_a_top_h0, .int width_a_top_h0, .int second_a_top_h0, .int parts_a_top_h0, .int innerParts_a_top_h0, .int f1_8_50, .int f1_9_50, .int signs_a_top_h0, .int waitingBelow_a_top_h0, .int limited_a_top_h0, .int targets_a_top_h0, .int lastBlock_a_top_h0])), (a_scanner_h0, .inr (4, [.ref a_text_a_scanner_h0, .int next_a_scanner_h0, .int kind_a_scanner_h0, .int start_a_scanner_h0, .int width_a_scanner_h0]))]) (lv' := [(0, .ref h0)]) [0, 1, 2] rfl (by decide) [0] rfl ?_
        exact L_Rd_settleStart_82 l D cI cB cJ cS h0 a_scanner_h0 a_draft_h0 a_waiting_h0 a_functions_h0 a_bottom_h0 a_top_h0 a_text_h0 V_below_a_top_h0 V_above_a_top_h0 a_text_a_scanner_h0 mode_h0 levels_h0 signs_h0 loops_h0 token_h0 fault_h0 kind_a_top_h0 place_a_top_h0 width_a_top_h0 second_a_top_h0 parts_a_top_h0 innerParts_a_top_h0 innerPlace_a_top_h0 innerWidth_a_top_h0 signs_a_top_h0 waitingBelow_a_top_h0 limited_a_top_h0 targets_a_top_h0 lastBlock_a_top_h0 next_a_scanner_h0 kind_a_scanner_h0 start_a_scanner_h0 width_a_scanner_h0 o_0_7 o_1_8 o_1_9 o_1_13 p e s m below meth c hr hnm 0 f1_8_50 f1_9_50 zb0 h
      · replace h := it_t c8 h
        refine j_iconst (v := 1) d_Rd_settleStart_77 (by decide) ?_
        refine j_goto (tgt := 82) d_Rd_settleStart_78 (by decide) ?_
        refine j_sub (w := [(h0, .inr (2, [.ref a_scanner_h0, .ref a_draft_h0, .ref a_waiting_h0, .ref a_functions_h0, .ref a_bottom_h0, .ref a_top_h0, .ref a_text_h0, .int mode_h0, .int levels_h0, .int signs_h0, .int loops_h0, .int token_h0, .int fault_h0])), (a_top_h0, .inr (0, [V_below_a_top_h0, V_above_a_top_h0, .int kind_a_top_h0, .int place_a_top_h0, .int width_a_top_h0, .int second_a_top_h0, .int parts_a_top_h0, .int innerParts_a_top_h0, .int f1_8_50, .int f1_9_50, .int signs_a_top_h0, .int waitingBelow_a_top_h0, .int limited_a_top_h0, .int targets_a_top_h0, .int lastBlock_a_top_h0])), (a_scanner_h0, .inr (4, [.ref a_text_a_scanner_h0, .int next_a_scanner_h0, .int kind_a_scanner_h0, .int start_a_scanner_h0, .int width_a_scanner_h0]))]) (lv' := [(0, .ref h0)]) [0, 1, 2] rfl (by decide) [0] rfl ?_
        exact L_Rd_settleStart_82 l D cI cB cJ cS h0 a_scanner_h0 a_draft_h0 a_waiting_h0 a_functions_h0 a_bottom_h0 a_top_h0 a_text_h0 V_below_a_top_h0 V_above_a_top_h0 a_text_a_scanner_h0 mode_h0 levels_h0 signs_h0 loops_h0 token_h0 fault_h0 kind_a_top_h0 place_a_top_h0 width_a_top_h0 second_a_top_h0 parts_a_top_h0 innerParts_a_top_h0 innerPlace_a_top_h0 innerWidth_a_top_h0 signs_a_top_h0 waitingBelow_a_top_h0 limited_a_top_h0 targets_a_top_h0 lastBlock_a_top_h0 next_a_scanner_h0 kind_a_scanner_h0 start_a_scanner_h0 width_a_scanner_h0 o_0_7 o_1_8 o_1_9 o_1_13 p e s m below meth c hr hnm 1 f1_8_50 f1_9_50 zb1 h
set_option maxHeartbeats 4000000 in
set_option maxRecDepth 100000 in
theorem c_Rd_settleStart (l : Launch) (D : va_G) (cI cB cJ cS : ClassId) (h0 : Nat) (a_scanner_h0 : Nat) (a_draft_h0 : Nat) (a_waiting_h0 : Nat) (a_functions_h0 : Nat) (a_bottom_h0 : Nat) (a_top_h0 : Nat) (a_text_h0 : Nat) (V_below_a_top_h0 : Value) (V_above_a_top_h0 : Value) (a_text_a_scanner_h0 : Nat) (mode_h0 : Int32) (levels_h0 : Int32) (signs_h0 : Int32) (loops_h0 : Int32) (token_h0 : Int32) (fault_h0 : Int32) (kind_a_top_h0 : Int32) (place_a_top_h0 : Int32) (width_a_top_h0 : Int32) (second_a_top_h0 : Int32) (parts_a_top_h0 : Int32) (innerParts_a_top_h0 : Int32) (innerPlace_a_top_h0 : Int32) (innerWidth_a_top_h0 : Int32) (signs_a_top_h0 : Int32) (waitingBelow_a_top_h0 : Int32) (limited_a_top_h0 : Int32) (targets_a_top_h0 : Int32) (lastBlock_a_top_h0 : Int32) (next_a_scanner_h0 : Int32) (kind_a_scanner_h0 : Int32) (start_a_scanner_h0 : Int32) (width_a_scanner_h0 : Int32) (o_0_7 : Int32) (o_1_8 : Int32) (o_1_9 : Int32) (o_1_13 : Int32) (h : F_Rd_settleStart mode_h0 levels_h0 signs_h0 loops_h0 token_h0 fault_h0 kind_a_top_h0 place_a_top_h0 width_a_top_h0 second_a_top_h0 parts_a_top_h0 innerParts_a_top_h0 innerPlace_a_top_h0 innerWidth_a_top_h0 signs_a_top_h0 waitingBelow_a_top_h0 limited_a_top_h0 targets_a_top_h0 lastBlock_a_top_h0 next_a_scanner_h0 kind_a_scanner_h0 start_a_scanner_h0 width_a_scanner_h0 = (o_0_7, o_1_8, o_1_9, o_1_13)) : Ct l D (gT cI cB cJ cS) y_Rd_settleStart prog_6_method_12_code 2 (Option.none : Option Jvm.ClassFile.FieldType) 1 20 0 0 [.ref h0] [(h0, .inr (2, [.ref a_scanner_h0, .ref a_draft_h0, .ref a_waiting_h0, .ref a_functions_h0, .ref a_bottom_h0, .ref a_top_h0, .ref a_text_h0, .int mode_h0, .int levels_h0, .int signs_h0, .int loops_h0, .int token_h0, .int fault_h0])), (a_top_h0, .inr (0, [V_below_a_top_h0, V_above_a_top_h0, .int kind_a_top_h0, .int place_a_top_h0, .int width_a_top_h0, .int second_a_top_h0, .int parts_a_top_h0, .int innerParts_a_top_h0, .int innerPlace_a_top_h0, .int innerWidth_a_top_h0, .int signs_a_top_h0, .int waitingBelow_a_top_h0, .int limited_a_top_h0, .int targets_a_top_h0, .int lastBlock_a_top_h0])), (a_scanner_h0, .inr (4, [.ref a_text_a_scanner_h0, .int next_a_scanner_h0, .int kind_a_scanner_h0, .int start_a_scanner_h0, .int width_a_scanner_h0]))] (fun v w => v = none ∧ w = [(h0, .inr (2, [.ref a_scanner_h0, .ref a_draft_h0, .ref a_waiting_h0, .ref a_functions_h0, .ref a_bottom_h0, .ref a_top_h0, .ref a_text_h0, .int o_0_7, .int levels_h0, .int signs_h0, .int loops_h0, .int token_h0, .int fault_h0])), (a_top_h0, .inr (0, [V_below_a_top_h0, V_above_a_top_h0, .int kind_a_top_h0, .int place_a_top_h0, .int width_a_top_h0, .int second_a_top_h0, .int parts_a_top_h0, .int innerParts_a_top_h0, .int o_1_8, .int o_1_9, .int signs_a_top_h0, .int waitingBelow_a_top_h0, .int limited_a_top_h0, .int o_1_13, .int lastBlock_a_top_h0])), (a_scanner_h0, .inr (4, [.ref a_text_a_scanner_h0, .int next_a_scanner_h0, .int kind_a_scanner_h0, .int start_a_scanner_h0, .int width_a_scanner_h0]))]) := by
  refine Ct.mk (by decide) (Nat.le_of_ble_eq_true rfl) ?_
  intro p e s m below meth c hr hnm
  refine j_norm (pc' := 0) (lv' := [(0, .ref h0)]) (st' := []) (ws' := [(h0, .inr (2, [.ref a_scanner_h0, .ref a_draft_h0, .ref a_waiting_h0, .ref a_functions_h0, .ref a_bottom_h0, .ref a_top_h0, .ref a_text_h0, .int mode_h0, .int levels_h0, .int signs_h0, .int loops_h0, .int token_h0, .int fault_h0])), (a_top_h0, .inr (0, [V_below_a_top_h0, V_above_a_top_h0, .int kind_a_top_h0, .int place_a_top_h0, .int width_a_top_h0, .int second_a_top_h0, .int parts_a_top_h0, .int innerParts_a_top_h0, .int innerPlace_a_top_h0, .int innerWidth_a_top_h0, .int signs_a_top_h0, .int waitingBelow_a_top_h0, .int limited_a_top_h0, .int targets_a_top_h0, .int lastBlock_a_top_h0])), (a_scanner_h0, .inr (4, [.ref a_text_a_scanner_h0, .int next_a_scanner_h0, .int kind_a_scanner_h0, .int start_a_scanner_h0, .int width_a_scanner_h0]))]) (cl' := 0) (sl' := 0) rfl rfl rfl rfl rfl rfl ?_
  unfold F_Rd_settleStart at h
  refine j_aload_n d_Rd_settleStart_0 rfl 0 rfl ?_
  refine j_get ig_Rd rfl 0 rfl 5 (by decide) rfl m_174 rfl d_Rd_settleStart_1 ?_
  refine j_get ig_Fr rfl 1 rfl 2 (by decide) rfl m_111 rfl d_Rd_settleStart_4 ?_
  refine j_bipush (v := 36) d_Rd_settleStart_7 (by decide) ?_
  refine j_icmp_ne (tgt := 50) d_Rd_settleStart_9 (by decide) (fun c9 => ?_) (fun c9 => ?_)
  · replace h := it_f c9 h
    refine j_sub (w := [(h0, .inr (2, [.ref a_scanner_h0, .ref a_draft_h0, .ref a_waiting_h0, .ref a_functions_h0, .ref a_bottom_h0, .ref a_top_h0, .ref a_text_h0, .int mode_h0, .int levels_h0, .int signs_h0, .int loops_h0, .int token_h0, .int fault_h0])), (a_top_h0, .inr (0, [V_below_a_top_h0, V_above_a_top_h0, .int kind_a_top_h0, .int place_a_top_h0, .int width_a_top_h0, .int second_a_top_h0, .int parts_a_top_h0, .int innerParts_a_top_h0, .int innerPlace_a_top_h0, .int innerWidth_a_top_h0, .int signs_a_top_h0, .int waitingBelow_a_top_h0, .int limited_a_top_h0, .int targets_a_top_h0, .int lastBlock_a_top_h0])), (a_scanner_h0, .inr (4, [.ref a_text_a_scanner_h0, .int next_a_scanner_h0, .int kind_a_scanner_h0, .int start_a_scanner_h0, .int width_a_scanner_h0]))]) (lv' := [(0, .ref h0)]) [0, 1, 2] rfl (by decide) [0] rfl ?_
    exact L_Rd_settleStart_50 l D cI cB cJ cS h0 a_scanner_h0 a_draft_h0 a_waiting_h0 a_functions_h0 a_bottom_h0 a_top_h0 a_text_h0 V_below_a_top_h0 V_above_a_top_h0 a_text_a_scanner_h0 mode_h0 levels_h0 signs_h0 loops_h0 token_h0 fault_h0 kind_a_top_h0 place_a_top_h0 width_a_top_h0 second_a_top_h0 parts_a_top_h0 innerParts_a_top_h0 innerPlace_a_top_h0 innerWidth_a_top_h0 signs_a_top_h0 waitingBelow_a_top_h0 limited_a_top_h0 targets_a_top_h0 lastBlock_a_top_h0 next_a_scanner_h0 kind_a_scanner_h0 start_a_scanner_h0 width_a_scanner_h0 o_0_7 o_1_8 o_1_9 o_1_13 p e s m below meth c hr hnm innerPlace_a_top_h0 innerWidth_a_top_h0 h
  · replace h := it_t c9 h
    refine j_aload_n d_Rd_settleStart_12 rfl 0 rfl ?_
    refine j_get ig_Rd rfl 0 rfl 5 (by decide) rfl m_174 rfl d_Rd_settleStart_13 ?_
    refine j_get ig_Fr rfl 1 rfl 7 (by decide) rfl m_121 rfl d_Rd_settleStart_16 ?_
    refine j_if_ne (tgt := 50) d_Rd_settleStart_19 (by decide) (fun c10 => ?_) (fun c10 => ?_)
    · replace h := it_f c10 h
      refine j_sub (w := [(h0, .inr (2, [.ref a_scanner_h0, .ref a_draft_h0, .ref a_waiting_h0, .ref a_functions_h0, .ref a_bottom_h0, .ref a_top_h0, .ref a_text_h0, .int mode_h0, .int levels_h0, .int signs_h0, .int loops_h0, .int token_h0, .int fault_h0])), (a_top_h0, .inr (0, [V_below_a_top_h0, V_above_a_top_h0, .int kind_a_top_h0, .int place_a_top_h0, .int width_a_top_h0, .int second_a_top_h0, .int parts_a_top_h0, .int innerParts_a_top_h0, .int innerPlace_a_top_h0, .int innerWidth_a_top_h0, .int signs_a_top_h0, .int waitingBelow_a_top_h0, .int limited_a_top_h0, .int targets_a_top_h0, .int lastBlock_a_top_h0])), (a_scanner_h0, .inr (4, [.ref a_text_a_scanner_h0, .int next_a_scanner_h0, .int kind_a_scanner_h0, .int start_a_scanner_h0, .int width_a_scanner_h0]))]) (lv' := [(0, .ref h0)]) [0, 1, 2] rfl (by decide) [0] rfl ?_
      exact L_Rd_settleStart_50 l D cI cB cJ cS h0 a_scanner_h0 a_draft_h0 a_waiting_h0 a_functions_h0 a_bottom_h0 a_top_h0 a_text_h0 V_below_a_top_h0 V_above_a_top_h0 a_text_a_scanner_h0 mode_h0 levels_h0 signs_h0 loops_h0 token_h0 fault_h0 kind_a_top_h0 place_a_top_h0 width_a_top_h0 second_a_top_h0 parts_a_top_h0 innerParts_a_top_h0 innerPlace_a_top_h0 innerWidth_a_top_h0 signs_a_top_h0 waitingBelow_a_top_h0 limited_a_top_h0 targets_a_top_h0 lastBlock_a_top_h0 next_a_scanner_h0 kind_a_scanner_h0 start_a_scanner_h0 width_a_scanner_h0 o_0_7 o_1_8 o_1_9 o_1_13 p e s m below meth c hr hnm innerPlace_a_top_h0 innerWidth_a_top_h0 h
    · replace h := it_t c10 h
      refine j_aload_n d_Rd_settleStart_22 rfl 0 rfl ?_
      refine j_get ig_Rd rfl 0 rfl 5 (by decide) rfl m_174 rfl d_Rd_settleStart_23 ?_
      refine j_aload_n d_Rd_settleStart_26 rfl 0 rfl ?_
      refine j_get ig_Rd rfl 0 rfl 0 (by decide) rfl m_169 rfl d_Rd_settleStart_27 ?_
      refine j_callV (n := 0) (As := []) (rest := [.ref a_top_h0]) (wr := [(h0, .inr (2, [.ref a_scanner_h0, .ref a_draft_h0, .ref a_waiting_h0, .ref a_functions_h0, .ref a_bottom_h0, .ref a_top_h0, .ref a_text_h0, .int mode_h0, .int levels_h0, .int signs_h0, .int loops_h0, .int token_h0, .int fault_h0])), (a_top_h0, .inr (0, [V_below_a_top_h0, V_above_a_top_h0, .int kind_a_top_h0, .int place_a_top_h0, .int width_a_top_h0, .int second_a_top_h0, .int parts_a_top_h0, .int innerParts_a_top_h0, .int innerPlace_a_top_h0, .int innerWidth_a_top_h0, .int signs_a_top_h0, .int waitingBelow_a_top_h0, .int limited_a_top_h0, .int targets_a_top_h0, .int lastBlock_a_top_h0]))]) (c_Sc_start l D cI cB cJ cS a_scanner_h0 a_text_a_scanner_h0 next_a_scanner_h0 kind_a_scanner_h0 start_a_scanner_h0 width_a_scanner_h0  ) k_Rd_113 (by decide) ⟨Nat.le_of_ble_eq_true rfl, Nat.le_of_ble_eq_true rfl⟩ rfl 0 rfl [2] [0, 1] rfl (by decide) rfl (by decide) (by decide) rfl rfl (Nat.le_of_ble_eq_true rfl) d_Rd_settleStart_30 ⟨Nat.le_of_ble_eq_true rfl, Nat.le_of_ble_eq_true rfl⟩ (fun v w hq => ?_)
      obtain ⟨rfl, rfl⟩ := hq
      refine j_norm (pc' := 33) (st' := [.int start_a_scanner_h0, .ref a_top_h0]) (ws' := [(h0, .inr (2, [.ref a_scanner_h0, .ref a_draft_h0, .ref a_waiting_h0, .ref a_functions_h0, .ref a_bottom_h0, .ref a_top_h0, .ref a_text_h0, .int mode_h0, .int levels_h0, .int signs_h0, .int loops_h0, .int token_h0, .int fault_h0])), (a_top_h0, .inr (0, [V_below_a_top_h0, V_above_a_top_h0, .int kind_a_top_h0, .int place_a_top_h0, .int width_a_top_h0, .int second_a_top_h0, .int parts_a_top_h0, .int innerParts_a_top_h0, .int innerPlace_a_top_h0, .int innerWidth_a_top_h0, .int signs_a_top_h0, .int waitingBelow_a_top_h0, .int limited_a_top_h0, .int targets_a_top_h0, .int lastBlock_a_top_h0])), (a_scanner_h0, .inr (4, [.ref a_text_a_scanner_h0, .int next_a_scanner_h0, .int kind_a_scanner_h0, .int start_a_scanner_h0, .int width_a_scanner_h0]))]) (cl' := 0) (sl' := 0) rfl rfl rfl rfl rfl rfl ?_
      refine j_put (ws' := [(h0, .inr (2, [.ref a_scanner_h0, .ref a_draft_h0, .ref a_waiting_h0, .ref a_functions_h0, .ref a_bottom_h0, .ref a_top_h0, .ref a_text_h0, .int mode_h0, .int levels_h0, .int signs_h0, .int loops_h0, .int token_h0, .int fault_h0])), (a_top_h0, .inr (0, [V_below_a_top_h0, V_above_a_top_h0, .int kind_a_top_h0, .int place_a_top_h0, .int width_a_top_h0, .int second_a_top_h0, .int parts_a_top_h0, .int innerParts_a_top_h0, .int start_a_scanner_h0, .int innerWidth_a_top_h0, .int signs_a_top_h0, .int waitingBelow_a_top_h0, .int limited_a_top_h0, .int targets_a_top_h0, .int lastBlock_a_top_h0])), (a_scanner_h0, .inr (4, [.ref a_text_a_scanner_h0, .int next_a_scanner_h0, .int kind_a_scanner_h0, .int start_a_scanner_h0, .int width_a_scanner_h0]))]) ig_Fr tk_Fr nm_Fr rfl 1 rfl 8 (by decide) rfl m_123 rfl (tk_Fr 8 (by decide)) rfl rfl (Nat.le_of_ble_eq_true rfl) d_Rd_settleStart_33 rfl ?_
      refine j_aload_n d_Rd_settleStart_36 rfl 0 rfl ?_
      refine j_get ig_Rd rfl 0 rfl 5 (by decide) rfl m_174 rfl d_Rd_settleStart_37 ?_
      refine j_aload_n d_Rd_settleStart_40 rfl 0 rfl ?_
      refine j_get ig_Rd rfl 0 rfl 0 (by decide) rfl m_169 rfl d_Rd_settleStart_41 ?_
      refine j_callV (n := 0) (As := []) (rest := [.ref a_top_h0]) (wr := [(h0, .inr (2, [.ref a_scanner_h0, .ref a_draft_h0, .ref a_waiting_h0, .ref a_functions_h0, .ref a_bottom_h0, .ref a_top_h0, .ref a_text_h0, .int mode_h0, .int levels_h0, .int signs_h0, .int loops_h0, .int token_h0, .int fault_h0])), (a_top_h0, .inr (0, [V_below_a_top_h0, V_above_a_top_h0, .int kind_a_top_h0, .int place_a_top_h0, .int width_a_top_h0, .int second_a_top_h0, .int parts_a_top_h0, .int innerParts_a_top_h0, .int start_a_scanner_h0, .int innerWidth_a_top_h0, .int signs_a_top_h0, .int waitingBelow_a_top_h0, .int limited_a_top_h0, .int targets_a_top_h0, .int lastBlock_a_top_h0]))]) (c_Sc_width l D cI cB cJ cS a_scanner_h0 a_text_a_scanner_h0 next_a_scanner_h0 kind_a_scanner_h0 start_a_scanner_h0 width_a_scanner_h0  ) k_Rd_124 (by decide) ⟨Nat.le_of_ble_eq_true rfl, Nat.le_of_ble_eq_true rfl⟩ rfl 0 rfl [2] [0, 1] rfl (by decide) rfl (by decide) (by decide) rfl rfl (Nat.le_of_ble_eq_true rfl) d_Rd_settleStart_44 ⟨Nat.le_of_ble_eq_true rfl, Nat.le_of_ble_eq_true rfl⟩ (fun v w hq => ?_)
      obtain ⟨rfl, rfl⟩ := hq
      refine j_norm (pc' := 47) (st' := [.int width_a_scanner_h0, .ref a_top_h0]) (ws' := [(h0, .inr (2, [.ref a_scanner_h0, .ref a_draft_h0, .ref a_waiting_h0, .ref a_functions_h0, .ref a_bottom_h0, .ref a_top_h0, .ref a_text_h0, .int mode_h0, .int levels_h0, .int signs_h0, .int loops_h0, .int token_h0, .int fault_h0])), (a_top_h0, .inr (0, [V_below_a_top_h0, V_above_a_top_h0, .int kind_a_top_h0, .int place_a_top_h0, .int width_a_top_h0, .int second_a_top_h0, .int parts_a_top_h0, .int innerParts_a_top_h0, .int start_a_scanner_h0, .int innerWidth_a_top_h0, .int signs_a_top_h0, .int waitingBelow_a_top_h0, .int limited_a_top_h0, .int targets_a_top_h0, .int lastBlock_a_top_h0])), (a_scanner_h0, .inr (4, [.ref a_text_a_scanner_h0, .int next_a_scanner_h0, .int kind_a_scanner_h0, .int start_a_scanner_h0, .int width_a_scanner_h0]))]) (cl' := 0) (sl' := 0) rfl rfl rfl rfl rfl rfl ?_
      refine j_put (ws' := [(h0, .inr (2, [.ref a_scanner_h0, .ref a_draft_h0, .ref a_waiting_h0, .ref a_functions_h0, .ref a_bottom_h0, .ref a_top_h0, .ref a_text_h0, .int mode_h0, .int levels_h0, .int signs_h0, .int loops_h0, .int token_h0, .int fault_h0])), (a_top_h0, .inr (0, [V_below_a_top_h0, V_above_a_top_h0, .int kind_a_top_h0, .int place_a_top_h0, .int width_a_top_h0, .int second_a_top_h0, .int parts_a_top_h0, .int innerParts_a_top_h0, .int start_a_scanner_h0, .int width_a_scanner_h0, .int signs_a_top_h0, .int waitingBelow_a_top_h0, .int limited_a_top_h0, .int targets_a_top_h0, .int lastBlock_a_top_h0])), (a_scanner_h0, .inr (4, [.ref a_text_a_scanner_h0, .int next_a_scanner_h0, .int kind_a_scanner_h0, .int start_a_scanner_h0, .int width_a_scanner_h0]))]) ig_Fr tk_Fr nm_Fr rfl 1 rfl 9 (by decide) rfl m_125 rfl (tk_Fr 9 (by decide)) rfl rfl (Nat.le_of_ble_eq_true rfl) d_Rd_settleStart_47 rfl ?_
      refine j_sub (w := [(h0, .inr (2, [.ref a_scanner_h0, .ref a_draft_h0, .ref a_waiting_h0, .ref a_functions_h0, .ref a_bottom_h0, .ref a_top_h0, .ref a_text_h0, .int mode_h0, .int levels_h0, .int signs_h0, .int loops_h0, .int token_h0, .int fault_h0])), (a_top_h0, .inr (0, [V_below_a_top_h0, V_above_a_top_h0, .int kind_a_top_h0, .int place_a_top_h0, .int width_a_top_h0, .int second_a_top_h0, .int parts_a_top_h0, .int innerParts_a_top_h0, .int start_a_scanner_h0, .int width_a_scanner_h0, .int signs_a_top_h0, .int waitingBelow_a_top_h0, .int limited_a_top_h0, .int targets_a_top_h0, .int lastBlock_a_top_h0])), (a_scanner_h0, .inr (4, [.ref a_text_a_scanner_h0, .int next_a_scanner_h0, .int kind_a_scanner_h0, .int start_a_scanner_h0, .int width_a_scanner_h0]))]) (lv' := [(0, .ref h0)]) [0, 1, 2] rfl (by decide) [0] rfl ?_
      exact L_Rd_settleStart_50 l D cI cB cJ cS h0 a_scanner_h0 a_draft_h0 a_waiting_h0 a_functions_h0 a_bottom_h0 a_top_h0 a_text_h0 V_below_a_top_h0 V_above_a_top_h0 a_text_a_scanner_h0 mode_h0 levels_h0 signs_h0 loops_h0 token_h0 fault_h0 kind_a_top_h0 place_a_top_h0 width_a_top_h0 second_a_top_h0 parts_a_top_h0 innerParts_a_top_h0 innerPlace_a_top_h0 innerWidth_a_top_h0 signs_a_top_h0 waitingBelow_a_top_h0 limited_a_top_h0 targets_a_top_h0 lastBlock_a_top_h0 next_a_scanner_h0 kind_a_scanner_h0 start_a_scanner_h0 width_a_scanner_h0 o_0_7 o_1_8 o_1_9 o_1_13 p e s m below meth c hr hnm start_a_scanner_h0 width_a_scanner_h0 h
def F_Rd_isLoop (p1 : Int32) : (Int32) :=
  if p1 = 12 then 1
  else if p1 = 13 then 1
  else 0
theorem d_Rd_isLoop_0 : decode prog_6_method_16_code 0 = .ok (.iload_n 0, 1) := by decide +kernel
theorem d_Rd_isLoop_1 : decode prog_6_method_16_code 1 = .ok (.bipush 12, 2) := by decide +kernel
theorem d_Rd_isLoop_3 : decode prog_6_method_16_code 3 = .ok (.if_icmp .eq 9, 3) := by decide +kernel
theorem d_Rd_isLoop_6 : decode prog_6_method_16_code 6 = .ok (.iload_n 0, 1) := by decide +kernel
theorem d_Rd_isLoop_7 : decode prog_6_method_16_code 7 = .ok (.bipush 13, 2) := by decide +kernel
theorem d_Rd_isLoop_9 : decode prog_6_method_16_code 9 = .ok (.if_icmp .ne 7, 3) := by decide +kernel
theorem d_Rd_isLoop_12 : decode prog_6_method_16_code 12 = .ok (.iconst 1, 1) := by decide +kernel
theorem d_Rd_isLoop_13 : decode prog_6_method_16_code 13 = .ok (.goto 4, 3) := by decide +kernel
theorem d_Rd_isLoop_16 : decode prog_6_method_16_code 16 = .ok (.iconst 0, 1) := by decide +kernel
theorem d_Rd_isLoop_17 : decode prog_6_method_16_code 17 = .ok (.ireturn, 1) := by decide +kernel
set_option maxHeartbeats 4000000 in
set_option maxRecDepth 100000 in
theorem c_Rd_isLoop (l : Launch) (D : va_G) (cI cB cJ cS : ClassId) (p1 : Int32) (ret : Int32) (h : F_Rd_isLoop p1 = ret) : Ct l D (gT cI cB cJ cS) y_Rd_isLoop prog_6_method_16_code 1 (Option.some Jvm.ClassFile.FieldType.boolean) 0 0 0 0 [.int p1] [] (fun v w => v = some (.int ret) ∧ zb ret ∧ w = []) := by
  refine Ct.mk (by decide) (Nat.le_of_ble_eq_true rfl) ?_
  intro p e s m below meth c hr hnm
  refine j_norm (pc' := 0) (lv' := [(0, .int p1)]) (st' := []) (ws' := []) (cl' := 0) (sl' := 0) rfl rfl rfl rfl rfl rfl ?_
  unfold F_Rd_isLoop at h
  refine j_iload_n d_Rd_isLoop_0 rfl 0 rfl ?_
  refine j_bipush (v := 12) d_Rd_isLoop_1 (by decide) ?_
  refine j_icmp_eq (tgt := 12) d_Rd_isLoop_3 (by decide) (fun c1 => ?_) (fun c1 => ?_)
  · replace h := it_t c1 h
    refine j_iconst (v := 1) d_Rd_isLoop_12 (by decide) ?_
    refine j_goto (tgt := 17) d_Rd_isLoop_13 (by decide) ?_
    subst h
    exact j_zret (w := []) hr (zb_n zb1) d_Rd_isLoop_17 [] rfl (by decide) ⟨rfl, zb1, rfl⟩
  · replace h := it_f c1 h
    refine j_iload_n d_Rd_isLoop_6 rfl 0 rfl ?_
    refine j_bipush (v := 13) d_Rd_isLoop_7 (by decide) ?_
    refine j_icmp_ne (tgt := 16) d_Rd_isLoop_9 (by decide) (fun c2 => ?_) (fun c2 => ?_)
    · replace h := it_f c2 h
      refine j_iconst (v := 0) d_Rd_isLoop_16 (by decide) ?_
      subst h
      exact j_zret (w := []) hr (zb_n zb0) d_Rd_isLoop_17 [] rfl (by decide) ⟨rfl, zb0, rfl⟩
    · replace h := it_t c2 h
      refine j_iconst (v := 1) d_Rd_isLoop_12 (by decide) ?_
      refine j_goto (tgt := 17) d_Rd_isLoop_13 (by decide) ?_
      subst h
      exact j_zret (w := []) hr (zb_n zb1) d_Rd_isLoop_17 [] rfl (by decide) ⟨rfl, zb1, rfl⟩
theorem d_Rd_beginBlock_0 : decode prog_6_method_18_code 0 = .ok (.aload_n 0, 1) := by decide +kernel
theorem d_Rd_beginBlock_1 : decode prog_6_method_18_code 1 = .ok (.getfield 46, 3) := by decide +kernel
theorem d_Rd_beginBlock_4 : decode prog_6_method_18_code 4 = .ok (.iconst 0, 1) := by decide +kernel
theorem d_Rd_beginBlock_5 : decode prog_6_method_18_code 5 = .ok (.putfield 90, 3) := by decide +kernel
theorem d_Rd_beginBlock_8 : decode prog_6_method_18_code 8 = .ok (.aload_n 0, 1) := by decide +kernel
theorem d_Rd_beginBlock_9 : decode prog_6_method_18_code 9 = .ok (.getfield 46, 3) := by decide +kernel
theorem d_Rd_beginBlock_12 : decode prog_6_method_18_code 12 = .ok (.aload_n 0, 1) := by decide +kernel
theorem d_Rd_beginBlock_13 : decode prog_6_method_18_code 13 = .ok (.getfield 14, 3) := by decide +kernel
theorem d_Rd_beginBlock_16 : decode prog_6_method_18_code 16 = .ok (.invokevirtual 113, 3) := by decide +kernel
theorem d_Rd_beginBlock_19 : decode prog_6_method_18_code 19 = .ok (.putfield 174, 3) := by decide +kernel
theorem d_Rd_beginBlock_22 : decode prog_6_method_18_code 22 = .ok (.return_, 1) := by decide +kernel
set_option maxHeartbeats 4000000 in
set_option maxRecDepth 100000 in
theorem c_Rd_beginBlock (l : Launch) (D : va_G) (cI cB cJ cS : ClassId) (h0 : Nat) (a_scanner_h0 : Nat) (a_draft_h0 : Nat) (a_waiting_h0 : Nat) (a_functions_h0 : Nat) (a_bottom_h0 : Nat) (a_top_h0 : Nat) (a_text_h0 : Nat) (V_below_a_top_h0 : Value) (V_above_a_top_h0 : Value) (a_text_a_scanner_h0 : Nat) (mode_h0 : Int32) (levels_h0 : Int32) (signs_h0 : Int32) (loops_h0 : Int32) (token_h0 : Int32) (fault_h0 : Int32) (kind_a_top_h0 : Int32) (place_a_top_h0 : Int32) (width_a_top_h0 : Int32) (second_a_top_h0 : Int32) (parts_a_top_h0 : Int32) (innerParts_a_top_h0 : Int32) (innerPlace_a_top_h0 : Int32) (innerWidth_a_top_h0 : Int32) (signs_a_top_h0 : Int32) (waitingBelow_a_top_h0 : Int32) (limited_a_top_h0 : Int32) (targets_a_top_h0 : Int32) (lastBlock_a_top_h0 : Int32) (next_a_scanner_h0 : Int32) (kind_a_scanner_h0 : Int32) (start_a_scanner_h0 : Int32) (width_a_scanner_h0 : Int32) : Ct l D (gT cI cB cJ cS) y_Rd_beginBlock prog_6_method_18_code 1 (Option.none : Option Jvm.ClassFile.FieldType) 1 20 0 0 [.ref h0] [(h0, .inr (2, [.ref a_scanner_h0, .ref a_draft_h0, .ref a_waiting_h0, .ref a_functions_h0, .ref a_bottom_h0, .ref a_top_h0, .ref a_text_h0, .int mode_h0, .int levels_h0, .int signs_h0, .int loops_h0, .int token_h0, .int fault_h0])), (a_top_h0, .inr (0, [V_below_a_top_h0, V_above_a_top_h0, .int kind_a_top_h0, .int place_a_top_h0, .int width_a_top_h0, .int second_a_top_h0, .int parts_a_top_h0, .int innerParts_a_top_h0, .int innerPlace_a_top_h0, .int innerWidth_a_top_h0, .int signs_a_top_h0, .int waitingBelow_a_top_h0, .int limited_a_top_h0, .int targets_a_top_h0, .int lastBlock_a_top_h0])), (a_scanner_h0, .inr (4, [.ref a_text_a_scanner_h0, .int next_a_scanner_h0, .int kind_a_scanner_h0, .int start_a_scanner_h0, .int width_a_scanner_h0]))] (fun v w => v = none ∧ w = [(h0, .inr (2, [.ref a_scanner_h0, .ref a_draft_h0, .ref a_waiting_h0, .ref a_functions_h0, .ref a_bottom_h0, .ref a_top_h0, .ref a_text_h0, .int mode_h0, .int levels_h0, .int signs_h0, .int loops_h0, .int token_h0, .int fault_h0])), (a_top_h0, .inr (0, [V_below_a_top_h0, V_above_a_top_h0, .int kind_a_top_h0, .int place_a_top_h0, .int width_a_top_h0, .int second_a_top_h0, .int parts_a_top_h0, .int 0, .int start_a_scanner_h0, .int innerWidth_a_top_h0, .int signs_a_top_h0, .int waitingBelow_a_top_h0, .int limited_a_top_h0, .int targets_a_top_h0, .int lastBlock_a_top_h0])), (a_scanner_h0, .inr (4, [.ref a_text_a_scanner_h0, .int next_a_scanner_h0, .int kind_a_scanner_h0, .int start_a_scanner_h0, .int width_a_scanner_h0]))]) := by
  refine Ct.mk (by decide) (Nat.le_of_ble_eq_true rfl) ?_
  intro p e s m below meth c hr hnm
  refine j_norm (pc' := 0) (lv' := [(0, .ref h0)]) (st' := []) (ws' := [(h0, .inr (2, [.ref a_scanner_h0, .ref a_draft_h0, .ref a_waiting_h0, .ref a_functions_h0, .ref a_bottom_h0, .ref a_top_h0, .ref a_text_h0, .int mode_h0, .int levels_h0, .int signs_h0, .int loops_h0, .int token_h0, .int fault_h0])), (a_top_h0, .inr (0, [V_below_a_top_h0, V_above_a_top_h0, .int kind_a_top_h0, .int place_a_top_h0, .int width_a_top_h0, .int second_a_top_h0, .int parts_a_top_h0, .int innerParts_a_top_h0, .int innerPlace_a_top_h0, .int innerWidth_a_top_h0, .int signs_a_top_h0, .int waitingBelow_a_top_h0, .int limited_a_top_h0, .int targets_a_top_h0, .int lastBlock_a_top_h0])), (a_scanner_h0, .inr (4, [.ref a_text_a_scanner_h0, .int next_a_scanner_h0, .int kind_a_scanner_h0, .int start_a_scanner_h0, .int width_a_scanner_h0]))]) (cl' := 0) (sl' := 0) rfl rfl rfl rfl rfl rfl ?_
  refine j_aload_n d_Rd_beginBlock_0 rfl 0 rfl ?_
  refine j_get ig_Rd rfl 0 rfl 5 (by decide) rfl m_174 rfl d_Rd_beginBlock_1 ?_
  refine j_iconst (v := 0) d_Rd_beginBlock_4 (by decide) ?_
  refine j_put (ws' := [(h0, .inr (2, [.ref a_scanner_h0, .ref a_draft_h0, .ref a_waiting_h0, .ref a_functions_h0, .ref a_bottom_h0, .ref a_top_h0, .ref a_text_h0, .int mode_h0, .int levels_h0, .int signs_h0, .int loops_h0, .int token_h0, .int fault_h0])), (a_top_h0, .inr (0, [V_below_a_top_h0, V_above_a_top_h0, .int kind_a_top_h0, .int place_a_top_h0, .int width_a_top_h0, .int second_a_top_h0, .int parts_a_top_h0, .int 0, .int innerPlace_a_top_h0, .int innerWidth_a_top_h0, .int signs_a_top_h0, .int waitingBelow_a_top_h0, .int limited_a_top_h0, .int targets_a_top_h0, .int lastBlock_a_top_h0])), (a_scanner_h0, .inr (4, [.ref a_text_a_scanner_h0, .int next_a_scanner_h0, .int kind_a_scanner_h0, .int start_a_scanner_h0, .int width_a_scanner_h0]))]) ig_Fr tk_Fr nm_Fr rfl 1 rfl 7 (by decide) rfl m_121 rfl (tk_Fr 7 (by decide)) rfl rfl (Nat.le_of_ble_eq_true rfl) d_Rd_beginBlock_5 rfl ?_
  refine j_aload_n d_Rd_beginBlock_8 rfl 0 rfl ?_
  refine j_get ig_Rd rfl 0 rfl 5 (by decide) rfl m_174 rfl d_Rd_beginBlock_9 ?_
  refine j_aload_n d_Rd_beginBlock_12 rfl 0 rfl ?_
  refine j_get ig_Rd rfl 0 rfl 0 (by decide) rfl m_169 rfl d_Rd_beginBlock_13 ?_
  refine j_callV (n := 0) (As := []) (rest := [.ref a_top_h0]) (wr := [(h0, .inr (2, [.ref a_scanner_h0, .ref a_draft_h0, .ref a_waiting_h0, .ref a_functions_h0, .ref a_bottom_h0, .ref a_top_h0, .ref a_text_h0, .int mode_h0, .int levels_h0, .int signs_h0, .int loops_h0, .int token_h0, .int fault_h0])), (a_top_h0, .inr (0, [V_below_a_top_h0, V_above_a_top_h0, .int kind_a_top_h0, .int place_a_top_h0, .int width_a_top_h0, .int second_a_top_h0, .int parts_a_top_h0, .int 0, .int innerPlace_a_top_h0, .int innerWidth_a_top_h0, .int signs_a_top_h0, .int waitingBelow_a_top_h0, .int limited_a_top_h0, .int targets_a_top_h0, .int lastBlock_a_top_h0]))]) (c_Sc_start l D cI cB cJ cS a_scanner_h0 a_text_a_scanner_h0 next_a_scanner_h0 kind_a_scanner_h0 start_a_scanner_h0 width_a_scanner_h0  ) k_Rd_113 (by decide) ⟨Nat.le_of_ble_eq_true rfl, Nat.le_of_ble_eq_true rfl⟩ rfl 0 rfl [2] [0, 1] rfl (by decide) rfl (by decide) (by decide) rfl rfl (Nat.le_of_ble_eq_true rfl) d_Rd_beginBlock_16 ⟨Nat.le_of_ble_eq_true rfl, Nat.le_of_ble_eq_true rfl⟩ (fun v w hq => ?_)
  obtain ⟨rfl, rfl⟩ := hq
  refine j_norm (pc' := 19) (st' := [.int start_a_scanner_h0, .ref a_top_h0]) (ws' := [(h0, .inr (2, [.ref a_scanner_h0, .ref a_draft_h0, .ref a_waiting_h0, .ref a_functions_h0, .ref a_bottom_h0, .ref a_top_h0, .ref a_text_h0, .int mode_h0, .int levels_h0, .int signs_h0, .int loops_h0, .int token_h0, .int fault_h0])), (a_top_h0, .inr (0, [V_below_a_top_h0, V_above_a_top_h0, .int kind_a_top_h0, .int place_a_top_h0, .int width_a_top_h0, .int second_a_top_h0, .int parts_a_top_h0, .int 0, .int innerPlace_a_top_h0, .int innerWidth_a_top_h0, .int signs_a_top_h0, .int waitingBelow_a_top_h0, .int limited_a_top_h0, .int targets_a_top_h0, .int lastBlock_a_top_h0])), (a_scanner_h0, .inr (4, [.ref a_text_a_scanner_h0, .int next_a_scanner_h0, .int kind_a_scanner_h0, .int start_a_scanner_h0, .int width_a_scanner_h0]))]) (cl' := 0) (sl' := 0) rfl rfl rfl rfl rfl rfl ?_
  refine j_put (ws' := [(h0, .inr (2, [.ref a_scanner_h0, .ref a_draft_h0, .ref a_waiting_h0, .ref a_functions_h0, .ref a_bottom_h0, .ref a_top_h0, .ref a_text_h0, .int mode_h0, .int levels_h0, .int signs_h0, .int loops_h0, .int token_h0, .int fault_h0])), (a_top_h0, .inr (0, [V_below_a_top_h0, V_above_a_top_h0, .int kind_a_top_h0, .int place_a_top_h0, .int width_a_top_h0, .int second_a_top_h0, .int parts_a_top_h0, .int 0, .int start_a_scanner_h0, .int innerWidth_a_top_h0, .int signs_a_top_h0, .int waitingBelow_a_top_h0, .int limited_a_top_h0, .int targets_a_top_h0, .int lastBlock_a_top_h0])), (a_scanner_h0, .inr (4, [.ref a_text_a_scanner_h0, .int next_a_scanner_h0, .int kind_a_scanner_h0, .int start_a_scanner_h0, .int width_a_scanner_h0]))]) ig_Fr tk_Fr nm_Fr rfl 1 rfl 8 (by decide) rfl m_123 rfl (tk_Fr 8 (by decide)) rfl rfl (Nat.le_of_ble_eq_true rfl) d_Rd_beginBlock_19 rfl ?_
  exact j_vret (w := [(h0, .inr (2, [.ref a_scanner_h0, .ref a_draft_h0, .ref a_waiting_h0, .ref a_functions_h0, .ref a_bottom_h0, .ref a_top_h0, .ref a_text_h0, .int mode_h0, .int levels_h0, .int signs_h0, .int loops_h0, .int token_h0, .int fault_h0])), (a_top_h0, .inr (0, [V_below_a_top_h0, V_above_a_top_h0, .int kind_a_top_h0, .int place_a_top_h0, .int width_a_top_h0, .int second_a_top_h0, .int parts_a_top_h0, .int 0, .int start_a_scanner_h0, .int innerWidth_a_top_h0, .int signs_a_top_h0, .int waitingBelow_a_top_h0, .int limited_a_top_h0, .int targets_a_top_h0, .int lastBlock_a_top_h0])), (a_scanner_h0, .inr (4, [.ref a_text_a_scanner_h0, .int next_a_scanner_h0, .int kind_a_scanner_h0, .int start_a_scanner_h0, .int width_a_scanner_h0]))]) hr d_Rd_beginBlock_22 [0, 1, 2] rfl (by decide) ⟨rfl, rfl⟩
noncomputable def F_Rd_endBlock (mode_h0 : Int32) (levels_h0 : Int32) (signs_h0 : Int32) (loops_h0 : Int32) (token_h0 : Int32) (fault_h0 : Int32) (kind_a_top_h0 : Int32) (place_a_top_h0 : Int32) (width_a_top_h0 : Int32) (second_a_top_h0 : Int32) (parts_a_top_h0 : Int32) (innerParts_a_top_h0 : Int32) (innerPlace_a_top_h0 : Int32) (innerWidth_a_top_h0 : Int32) (signs_a_top_h0 : Int32) (waitingBelow_a_top_h0 : Int32) (limited_a_top_h0 : Int32) (targets_a_top_h0 : Int32) (lastBlock_a_top_h0 : Int32) (count_a_draft_h0 : Int32) (n_a_cells_a_draft_h0 : Nat) (b_a_cells_a_draft_h0 : Nat → Int32) : Option ((Int32 × Nat × (Nat → Int32)) × Nat × Nat) :=
  bw (F_Nd_add 3 innerPlace_a_top_h0 (-1) innerParts_a_top_h0 0 count_a_draft_h0 n_a_cells_a_draft_h0 b_a_cells_a_draft_h0) fun ⟨r1, r2, r3⟩ =>
  (some ((r1, r2, r3), 0, 0))
theorem d_Rd_endBlock_0 : decode prog_6_method_19_code 0 = .ok (.aload_n 0, 1) := by decide +kernel
theorem d_Rd_endBlock_1 : decode prog_6_method_19_code 1 = .ok (.getfield 23, 3) := by decide +kernel
theorem d_Rd_endBlock_4 : decode prog_6_method_19_code 4 = .ok (.iconst 3, 1) := by decide +kernel
theorem d_Rd_endBlock_5 : decode prog_6_method_19_code 5 = .ok (.aload_n 0, 1) := by decide +kernel
theorem d_Rd_endBlock_6 : decode prog_6_method_19_code 6 = .ok (.getfield 46, 3) := by decide +kernel
theorem d_Rd_endBlock_9 : decode prog_6_method_19_code 9 = .ok (.getfield 174, 3) := by decide +kernel
theorem d_Rd_endBlock_12 : decode prog_6_method_19_code 12 = .ok (.iconst (-1), 1) := by decide +kernel
theorem d_Rd_endBlock_13 : decode prog_6_method_19_code 13 = .ok (.aload_n 0, 1) := by decide +kernel
theorem d_Rd_endBlock_14 : decode prog_6_method_19_code 14 = .ok (.getfield 46, 3) := by decide +kernel
theorem d_Rd_endBlock_17 : decode prog_6_method_19_code 17 = .ok (.getfield 90, 3) := by decide +kernel
theorem d_Rd_endBlock_20 : decode prog_6_method_19_code 20 = .ok (.iconst 0, 1) := by decide +kernel
theorem d_Rd_endBlock_21 : decode prog_6_method_19_code 21 = .ok (.invokevirtual 93, 3) := by decide +kernel
theorem d_Rd_endBlock_24 : decode prog_6_method_19_code 24 = .ok (.aload_n 0, 1) := by decide +kernel
theorem d_Rd_endBlock_25 : decode prog_6_method_19_code 25 = .ok (.getfield 46, 3) := by decide +kernel
theorem d_Rd_endBlock_28 : decode prog_6_method_19_code 28 = .ok (.dup, 1) := by decide +kernel
theorem d_Rd_endBlock_29 : decode prog_6_method_19_code 29 = .ok (.getfield 224, 3) := by decide +kernel
theorem d_Rd_endBlock_32 : decode prog_6_method_19_code 32 = .ok (.iconst 1, 1) := by decide +kernel
theorem d_Rd_endBlock_33 : decode prog_6_method_19_code 33 = .ok (.iadd, 1) := by decide +kernel
theorem d_Rd_endBlock_34 : decode prog_6_method_19_code 34 = .ok (.putfield 224, 3) := by decide +kernel
theorem d_Rd_endBlock_37 : decode prog_6_method_19_code 37 = .ok (.return_, 1) := by decide +kernel
set_option maxHeartbeats 4000000 in
set_option maxRecDepth 100000 in
theorem c_Rd_endBlock (l : Launch) (D : va_G) (cI cB cJ cS : ClassId) (h0 : Nat) (a_scanner_h0 : Nat) (a_draft_h0 : Nat) (a_waiting_h0 : Nat) (a_functions_h0 : Nat) (a_bottom_h0 : Nat) (a_top_h0 : Nat) (a_text_h0 : Nat) (V_below_a_top_h0 : Value) (V_above_a_top_h0 : Value) (a_cells_a_draft_h0 : Nat) (mode_h0 : Int32) (levels_h0 : Int32) (signs_h0 : Int32) (loops_h0 : Int32) (token_h0 : Int32) (fault_h0 : Int32) (kind_a_top_h0 : Int32) (place_a_top_h0 : Int32) (width_a_top_h0 : Int32) (second_a_top_h0 : Int32) (parts_a_top_h0 : Int32) (innerParts_a_top_h0 : Int32) (innerPlace_a_top_h0 : Int32) (innerWidth_a_top_h0 : Int32) (signs_a_top_h0 : Int32) (waitingBelow_a_top_h0 : Int32) (limited_a_top_h0 : Int32) (targets_a_top_h0 : Int32) (lastBlock_a_top_h0 : Int32) (count_a_draft_h0 : Int32) (n_a_cells_a_draft_h0 : Nat) (b_a_cells_a_draft_h0 : Nat → Int32) (o_2_1 : Int32) (on_nq_2_0 : Nat) (ob_nq_2_0 : Nat → Int32) (mc ms : Nat) (h : F_Rd_endBlock mode_h0 levels_h0 signs_h0 loops_h0 token_h0 fault_h0 kind_a_top_h0 place_a_top_h0 width_a_top_h0 second_a_top_h0 parts_a_top_h0 innerParts_a_top_h0 innerPlace_a_top_h0 innerWidth_a_top_h0 signs_a_top_h0 waitingBelow_a_top_h0 limited_a_top_h0 targets_a_top_h0 lastBlock_a_top_h0 count_a_draft_h0 n_a_cells_a_draft_h0 b_a_cells_a_draft_h0 = some ((o_2_1, on_nq_2_0, ob_nq_2_0), mc, ms)) : Ct l D (gT cI cB cJ cS) y_Rd_endBlock prog_6_method_19_code 1 (Option.none : Option Jvm.ClassFile.FieldType) 3 110 mc ms [.ref h0] [(h0, .inr (2, [.ref a_scanner_h0, .ref a_draft_h0, .ref a_waiting_h0, .ref a_functions_h0, .ref a_bottom_h0, .ref a_top_h0, .ref a_text_h0, .int mode_h0, .int levels_h0, .int signs_h0, .int loops_h0, .int token_h0, .int fault_h0])), (a_top_h0, .inr (0, [V_below_a_top_h0, V_above_a_top_h0, .int kind_a_top_h0, .int place_a_top_h0, .int width_a_top_h0, .int second_a_top_h0, .int parts_a_top_h0, .int innerParts_a_top_h0, .int innerPlace_a_top_h0, .int innerWidth_a_top_h0, .int signs_a_top_h0, .int waitingBelow_a_top_h0, .int limited_a_top_h0, .int targets_a_top_h0, .int lastBlock_a_top_h0])), (a_draft_h0, .inr (1, [.ref a_cells_a_draft_h0, .int count_a_draft_h0])), (a_cells_a_draft_h0, .inl (cI, n_a_cells_a_draft_h0, .inl b_a_cells_a_draft_h0))] (fun v w => ∃ nq_2_0 : Nat, v = none ∧ w = [(h0, .inr (2, [.ref a_scanner_h0, .ref a_draft_h0, .ref a_waiting_h0, .ref a_functions_h0, .ref a_bottom_h0, .ref a_top_h0, .ref a_text_h0, .int mode_h0, .int levels_h0, .int signs_h0, .int loops_h0, .int token_h0, .int fault_h0])), (a_top_h0, .inr (0, [V_below_a_top_h0, V_above_a_top_h0, .int kind_a_top_h0, .int place_a_top_h0, .int width_a_top_h0, .int second_a_top_h0, .int (parts_a_top_h0 + 1), .int innerParts_a_top_h0, .int innerPlace_a_top_h0, .int innerWidth_a_top_h0, .int signs_a_top_h0, .int waitingBelow_a_top_h0, .int limited_a_top_h0, .int targets_a_top_h0, .int lastBlock_a_top_h0])), (a_draft_h0, .inr (1, [.ref nq_2_0, .int o_2_1])), (nq_2_0, .inl (cI, on_nq_2_0, .inl ob_nq_2_0))]) := by
  refine Ct.mk (by decide) (Nat.le_of_ble_eq_true rfl) ?_
  intro p e s m below meth c hr hnm
  refine j_norm (pc' := 0) (lv' := [(0, .ref h0)]) (st' := []) (ws' := [(h0, .inr (2, [.ref a_scanner_h0, .ref a_draft_h0, .ref a_waiting_h0, .ref a_functions_h0, .ref a_bottom_h0, .ref a_top_h0, .ref a_text_h0, .int mode_h0, .int levels_h0, .int signs_h0, .int loops_h0, .int token_h0, .int fault_h0])), (a_top_h0, .inr (0, [V_below_a_top_h0, V_above_a_top_h0, .int kind_a_top_h0, .int place_a_top_h0, .int width_a_top_h0, .int second_a_top_h0, .int parts_a_top_h0, .int innerParts_a_top_h0, .int innerPlace_a_top_h0, .int innerWidth_a_top_h0, .int signs_a_top_h0, .int waitingBelow_a_top_h0, .int limited_a_top_h0, .int targets_a_top_h0, .int lastBlock_a_top_h0])), (a_draft_h0, .inr (1, [.ref a_cells_a_draft_h0, .int count_a_draft_h0])), (a_cells_a_draft_h0, .inl (cI, n_a_cells_a_draft_h0, .inl b_a_cells_a_draft_h0))]) (cl' := 0) (sl' := 0) rfl rfl rfl rfl rfl rfl ?_
  unfold F_Rd_endBlock at h
  have hC : 0 + mc ≤ mc := by omega
  have hS : 0 + ms ≤ ms := by omega
  refine j_aload_n d_Rd_endBlock_0 rfl 0 rfl ?_
  refine j_get ig_Rd rfl 0 rfl 1 (by decide) rfl m_170 rfl d_Rd_endBlock_1 ?_
  refine j_iconst (v := 3) d_Rd_endBlock_4 (by decide) ?_
  refine j_aload_n d_Rd_endBlock_5 rfl 0 rfl ?_
  refine j_get ig_Rd rfl 0 rfl 5 (by decide) rfl m_174 rfl d_Rd_endBlock_6 ?_
  refine j_get ig_Fr rfl 1 rfl 8 (by decide) rfl m_123 rfl d_Rd_endBlock_9 ?_
  refine j_iconst (v := (-1)) d_Rd_endBlock_12 (by decide) ?_
  refine j_aload_n d_Rd_endBlock_13 rfl 0 rfl ?_
  refine j_get ig_Rd rfl 0 rfl 5 (by decide) rfl m_174 rfl d_Rd_endBlock_14 ?_
  refine j_get ig_Fr rfl 1 rfl 7 (by decide) rfl m_121 rfl d_Rd_endBlock_17 ?_
  refine j_iconst (v := 0) d_Rd_endBlock_20 (by decide) ?_
  replace h := bw_s h
  obtain ⟨⟨r1, r2, r3⟩, C5, S6, C7, S8, k9, h, e1, e2⟩ := h
  replace hC : 0 + C5 + C7 ≤ mc := by omega
  replace hS : 0 + S6 + S8 ≤ ms := by omega
  clear e1 e2
  refine j_callV (n := 5) (As := [.int 3, .int innerPlace_a_top_h0, .int (-1), .int innerParts_a_top_h0, .int 0]) (rest := []) (wr := [(h0, .inr (2, [.ref a_scanner_h0, .ref a_draft_h0, .ref a_waiting_h0, .ref a_functions_h0, .ref a_bottom_h0, .ref a_top_h0, .ref a_text_h0, .int mode_h0, .int levels_h0, .int signs_h0, .int loops_h0, .int token_h0, .int fault_h0])), (a_top_h0, .inr (0, [V_below_a_top_h0, V_above_a_top_h0, .int kind_a_top_h0, .int place_a_top_h0, .int width_a_top_h0, .int second_a_top_h0, .int parts_a_top_h0, .int innerParts_a_top_h0, .int innerPlace_a_top_h0, .int innerWidth_a_top_h0, .int signs_a_top_h0, .int waitingBelow_a_top_h0, .int limited_a_top_h0, .int targets_a_top_h0, .int lastBlock_a_top_h0]))]) (c_Nd_add l D cI cB cJ cS a_draft_h0 a_cells_a_draft_h0 3 innerPlace_a_top_h0 (-1) innerParts_a_top_h0 0 count_a_draft_h0 n_a_cells_a_draft_h0 b_a_cells_a_draft_h0  r1 r2 r3 C5 S6 k9) k_Rd_93 (by decide) ⟨Nat.le_of_ble_eq_true rfl, Nat.le_of_ble_eq_true rfl⟩ rfl 0 rfl [2, 3] [0, 1] rfl (by decide) rfl (by decide) (by decide) rfl rfl (Nat.le_of_ble_eq_true rfl) d_Rd_endBlock_21 ⟨show 0 + C5 ≤ mc by omega, show 0 + S6 ≤ ms by omega⟩ (fun v w hq => ?_)
  obtain ⟨q4, rfl, rfl⟩ := hq
  refine j_norm (pc' := 24) (st' := []) (ws' := [(h0, .inr (2, [.ref a_scanner_h0, .ref a_draft_h0, .ref a_waiting_h0, .ref a_functions_h0, .ref a_bottom_h0, .ref a_top_h0, .ref a_text_h0, .int mode_h0, .int levels_h0, .int signs_h0, .int loops_h0, .int token_h0, .int fault_h0])), (a_top_h0, .inr (0, [V_below_a_top_h0, V_above_a_top_h0, .int kind_a_top_h0, .int place_a_top_h0, .int width_a_top_h0, .int second_a_top_h0, .int parts_a_top_h0, .int innerParts_a_top_h0, .int innerPlace_a_top_h0, .int innerWidth_a_top_h0, .int signs_a_top_h0, .int waitingBelow_a_top_h0, .int limited_a_top_h0, .int targets_a_top_h0, .int lastBlock_a_top_h0])), (a_draft_h0, .inr (1, [.ref q4, .int r1])), (q4, .inl (cI, r2, .inl r3))]) (cl' := 0 + C5) (sl' := 0 + S6) rfl rfl rfl rfl rfl rfl ?_
  refine j_aload_n d_Rd_endBlock_24 rfl 0 rfl ?_
  refine j_get ig_Rd rfl 0 rfl 5 (by decide) rfl m_174 rfl d_Rd_endBlock_25 ?_
  refine j_dup rfl d_Rd_endBlock_28 ?_
  refine j_get ig_Fr rfl 1 rfl 6 (by decide) rfl m_119 rfl d_Rd_endBlock_29 ?_
  refine j_iconst (v := 1) d_Rd_endBlock_32 (by decide) ?_
  refine j_iadd d_Rd_endBlock_33 ?_
  refine j_put (ws' := [(h0, .inr (2, [.ref a_scanner_h0, .ref a_draft_h0, .ref a_waiting_h0, .ref a_functions_h0, .ref a_bottom_h0, .ref a_top_h0, .ref a_text_h0, .int mode_h0, .int levels_h0, .int signs_h0, .int loops_h0, .int token_h0, .int fault_h0])), (a_top_h0, .inr (0, [V_below_a_top_h0, V_above_a_top_h0, .int kind_a_top_h0, .int place_a_top_h0, .int width_a_top_h0, .int second_a_top_h0, .int (parts_a_top_h0 + 1), .int innerParts_a_top_h0, .int innerPlace_a_top_h0, .int innerWidth_a_top_h0, .int signs_a_top_h0, .int waitingBelow_a_top_h0, .int limited_a_top_h0, .int targets_a_top_h0, .int lastBlock_a_top_h0])), (a_draft_h0, .inr (1, [.ref q4, .int r1])), (q4, .inl (cI, r2, .inl r3))]) ig_Fr tk_Fr nm_Fr rfl 1 rfl 6 (by decide) rfl m_119 rfl (tk_Fr 6 (by decide)) rfl rfl (Nat.le_of_ble_eq_true rfl) d_Rd_endBlock_34 rfl ?_
  replace h := lf_s h
  obtain ⟨h, e1, e2⟩ := h
  replace h := Prod.mk.inj h
  obtain ⟨h9, h⟩ := h
  subst h9
  replace h := Prod.mk.inj h
  obtain ⟨h9, h⟩ := h
  subst h9
  subst h
  refine j_widen (cl' := mc) (sl' := ms) (by omega) (by omega) ?_
  exact j_vret (w := [(h0, .inr (2, [.ref a_scanner_h0, .ref a_draft_h0, .ref a_waiting_h0, .ref a_functions_h0, .ref a_bottom_h0, .ref a_top_h0, .ref a_text_h0, .int mode_h0, .int levels_h0, .int signs_h0, .int loops_h0, .int token_h0, .int fault_h0])), (a_top_h0, .inr (0, [V_below_a_top_h0, V_above_a_top_h0, .int kind_a_top_h0, .int place_a_top_h0, .int width_a_top_h0, .int second_a_top_h0, .int (parts_a_top_h0 + 1), .int innerParts_a_top_h0, .int innerPlace_a_top_h0, .int innerWidth_a_top_h0, .int signs_a_top_h0, .int waitingBelow_a_top_h0, .int limited_a_top_h0, .int targets_a_top_h0, .int lastBlock_a_top_h0])), (a_draft_h0, .inr (1, [.ref q4, .int r1])), (q4, .inl (cI, r2, .inl r3))]) hr d_Rd_endBlock_37 [0, 1, 2, 3] rfl (by decide) ⟨q4, rfl, rfl⟩
noncomputable def F_Rd_addWord (p1 : Int32) (mode_h0 : Int32) (levels_h0 : Int32) (signs_h0 : Int32) (loops_h0 : Int32) (token_h0 : Int32) (fault_h0 : Int32) (next_a_scanner_h0 : Int32) (kind_a_scanner_h0 : Int32) (start_a_scanner_h0 : Int32) (width_a_scanner_h0 : Int32) (count_a_draft_h0 : Int32) (n_a_cells_a_draft_h0 : Nat) (b_a_cells_a_draft_h0 : Nat → Int32) : Option ((Int32 × Nat × (Nat → Int32)) × Nat × Nat) :=
  bw (F_Nd_addLeaf p1 start_a_scanner_h0 width_a_scanner_h0 count_a_draft_h0 n_a_cells_a_draft_h0 b_a_cells_a_draft_h0) fun ⟨r3, r4, r5⟩ =>
  (some ((r3, r4, r5), 0, 0))
theorem d_Rd_addWord_0 : decode prog_6_method_21_code 0 = .ok (.aload_n 0, 1) := by decide +kernel
theorem d_Rd_addWord_1 : decode prog_6_method_21_code 1 = .ok (.getfield 23, 3) := by decide +kernel
theorem d_Rd_addWord_4 : decode prog_6_method_21_code 4 = .ok (.iload_n 1, 1) := by decide +kernel
theorem d_Rd_addWord_5 : decode prog_6_method_21_code 5 = .ok (.aload_n 0, 1) := by decide +kernel
theorem d_Rd_addWord_6 : decode prog_6_method_21_code 6 = .ok (.getfield 14, 3) := by decide +kernel
theorem d_Rd_addWord_9 : decode prog_6_method_21_code 9 = .ok (.invokevirtual 113, 3) := by decide +kernel
theorem d_Rd_addWord_12 : decode prog_6_method_21_code 12 = .ok (.aload_n 0, 1) := by decide +kernel
theorem d_Rd_addWord_13 : decode prog_6_method_21_code 13 = .ok (.getfield 14, 3) := by decide +kernel
theorem d_Rd_addWord_16 : decode prog_6_method_21_code 16 = .ok (.invokevirtual 124, 3) := by decide +kernel
theorem d_Rd_addWord_19 : decode prog_6_method_21_code 19 = .ok (.invokevirtual 127, 3) := by decide +kernel
theorem d_Rd_addWord_22 : decode prog_6_method_21_code 22 = .ok (.aload_n 0, 1) := by decide +kernel
theorem d_Rd_addWord_23 : decode prog_6_method_21_code 23 = .ok (.iconst 1, 1) := by decide +kernel
theorem d_Rd_addWord_24 : decode prog_6_method_21_code 24 = .ok (.invokevirtual 130, 3) := by decide +kernel
theorem d_Rd_addWord_27 : decode prog_6_method_21_code 27 = .ok (.ireturn, 1) := by decide +kernel
set_option maxHeartbeats 4000000 in
set_option maxRecDepth 100000 in
theorem c_Rd_addWord (l : Launch) (D : va_G) (cI cB cJ cS : ClassId) (h0 : Nat) (a_scanner_h0 : Nat) (a_draft_h0 : Nat) (a_waiting_h0 : Nat) (a_functions_h0 : Nat) (a_bottom_h0 : Nat) (a_top_h0 : Nat) (a_text_h0 : Nat) (a_text_a_scanner_h0 : Nat) (a_cells_a_draft_h0 : Nat) (p1 : Int32) (mode_h0 : Int32) (levels_h0 : Int32) (signs_h0 : Int32) (loops_h0 : Int32) (token_h0 : Int32) (fault_h0 : Int32) (next_a_scanner_h0 : Int32) (kind_a_scanner_h0 : Int32) (start_a_scanner_h0 : Int32) (width_a_scanner_h0 : Int32) (count_a_draft_h0 : Int32) (n_a_cells_a_draft_h0 : Nat) (b_a_cells_a_draft_h0 : Nat → Int32) (o_2_1 : Int32) (on_nq_2_0 : Nat) (ob_nq_2_0 : Nat → Int32) (mc ms : Nat) (h : F_Rd_addWord p1 mode_h0 levels_h0 signs_h0 loops_h0 token_h0 fault_h0 next_a_scanner_h0 kind_a_scanner_h0 start_a_scanner_h0 width_a_scanner_h0 count_a_draft_h0 n_a_cells_a_draft_h0 b_a_cells_a_draft_h0 = some ((o_2_1, on_nq_2_0, ob_nq_2_0), mc, ms)) : Ct l D (gT cI cB cJ cS) y_Rd_addWord prog_6_method_21_code 2 (Option.some Jvm.ClassFile.FieldType.boolean) 4 133 mc ms [.ref h0, .int p1] [(h0, .inr (2, [.ref a_scanner_h0, .ref a_draft_h0, .ref a_waiting_h0, .ref a_functions_h0, .ref a_bottom_h0, .ref a_top_h0, .ref a_text_h0, .int mode_h0, .int levels_h0, .int signs_h0, .int loops_h0, .int token_h0, .int fault_h0])), (a_scanner_h0, .inr (4, [.ref a_text_a_scanner_h0, .int next_a_scanner_h0, .int kind_a_scanner_h0, .int start_a_scanner_h0, .int width_a_scanner_h0])), (a_draft_h0, .inr (1, [.ref a_cells_a_draft_h0, .int count_a_draft_h0])), (a_cells_a_draft_h0, .inl (cI, n_a_cells_a_draft_h0, .inl b_a_cells_a_draft_h0))] (fun v w => ∃ nq_2_0 : Nat, v = some (.int 1) ∧ zb 1 ∧ w = [(h0, .inr (2, [.ref a_scanner_h0, .ref a_draft_h0, .ref a_waiting_h0, .ref a_functions_h0, .ref a_bottom_h0, .ref a_top_h0, .ref a_text_h0, .int 1, .int levels_h0, .int signs_h0, .int loops_h0, .int token_h0, .int fault_h0])), (a_scanner_h0, .inr (4, [.ref a_text_a_scanner_h0, .int next_a_scanner_h0, .int kind_a_scanner_h0, .int start_a_scanner_h0, .int width_a_scanner_h0])), (a_draft_h0, .inr (1, [.ref nq_2_0, .int o_2_1])), (nq_2_0, .inl (cI, on_nq_2_0, .inl ob_nq_2_0))]) := by
  refine Ct.mk (by decide) (Nat.le_of_ble_eq_true rfl) ?_
  intro p e s m below meth c hr hnm
  refine j_norm (pc' := 0) (lv' := [(0, .ref h0), (1, .int p1)]) (st' := []) (ws' := [(h0, .inr (2, [.ref a_scanner_h0, .ref a_draft_h0, .ref a_waiting_h0, .ref a_functions_h0, .ref a_bottom_h0, .ref a_top_h0, .ref a_text_h0, .int mode_h0, .int levels_h0, .int signs_h0, .int loops_h0, .int token_h0, .int fault_h0])), (a_scanner_h0, .inr (4, [.ref a_text_a_scanner_h0, .int next_a_scanner_h0, .int kind_a_scanner_h0, .int start_a_scanner_h0, .int width_a_scanner_h0])), (a_draft_h0, .inr (1, [.ref a_cells_a_draft_h0, .int count_a_draft_h0])), (a_cells_a_draft_h0, .inl (cI, n_a_cells_a_draft_h0, .inl b_a_cells_a_draft_h0))]) (cl' := 0) (sl' := 0) rfl rfl rfl rfl rfl rfl ?_
  unfold F_Rd_addWord at h
  have hC : 0 + mc ≤ mc := by omega
  have hS : 0 + ms ≤ ms := by omega
  refine j_aload_n d_Rd_addWord_0 rfl 0 rfl ?_
  refine j_get ig_Rd rfl 0 rfl 1 (by decide) rfl m_170 rfl d_Rd_addWord_1 ?_
  refine j_iload_n d_Rd_addWord_4 rfl 1 rfl ?_
  refine j_aload_n d_Rd_addWord_5 rfl 0 rfl ?_
  refine j_get ig_Rd rfl 0 rfl 0 (by decide) rfl m_169 rfl d_Rd_addWord_6 ?_
  refine j_callV (n := 0) (As := []) (rest := [.int p1, .ref a_draft_h0]) (wr := [(h0, .inr (2, [.ref a_scanner_h0, .ref a_draft_h0, .ref a_waiting_h0, .ref a_functions_h0, .ref a_bottom_h0, .ref a_top_h0, .ref a_text_h0, .int mode_h0, .int levels_h0, .int signs_h0, .int loops_h0, .int token_h0, .int fault_h0])), (a_draft_h0, .inr (1, [.ref a_cells_a_draft_h0, .int count_a_draft_h0])), (a_cells_a_draft_h0, .inl (cI, n_a_cells_a_draft_h0, .inl b_a_cells_a_draft_h0))]) (c_Sc_start l D cI cB cJ cS a_scanner_h0 a_text_a_scanner_h0 next_a_scanner_h0 kind_a_scanner_h0 start_a_scanner_h0 width_a_scanner_h0  ) k_Rd_113 (by decide) ⟨Nat.le_of_ble_eq_true rfl, Nat.le_of_ble_eq_true rfl⟩ rfl 0 rfl [1] [0, 2, 3] rfl (by decide) rfl (by decide) (by decide) rfl rfl (Nat.le_of_ble_eq_true rfl) d_Rd_addWord_9 ⟨show 0 + 0 ≤ mc by omega, show 0 + 0 ≤ ms by omega⟩ (fun v w hq => ?_)
  obtain ⟨rfl, rfl⟩ := hq
  refine j_norm (pc' := 12) (st' := [.int start_a_scanner_h0, .int p1, .ref a_draft_h0]) (ws' := [(h0, .inr (2, [.ref a_scanner_h0, .ref a_draft_h0, .ref a_waiting_h0, .ref a_functions_h0, .ref a_bottom_h0, .ref a_top_h0, .ref a_text_h0, .int mode_h0, .int levels_h0, .int signs_h0, .int loops_h0, .int token_h0, .int fault_h0])), (a_draft_h0, .inr (1, [.ref a_cells_a_draft_h0, .int count_a_draft_h0])), (a_cells_a_draft_h0, .inl (cI, n_a_cells_a_draft_h0, .inl b_a_cells_a_draft_h0)), (a_scanner_h0, .inr (4, [.ref a_text_a_scanner_h0, .int next_a_scanner_h0, .int kind_a_scanner_h0, .int start_a_scanner_h0, .int width_a_scanner_h0]))]) (cl' := 0) (sl' := 0) rfl rfl rfl rfl rfl rfl ?_
  refine j_aload_n d_Rd_addWord_12 rfl 0 rfl ?_
  refine j_get ig_Rd rfl 0 rfl 0 (by decide) rfl m_169 rfl d_Rd_addWord_13 ?_
  refine j_callV (n := 0) (As := []) (rest := [.int start_a_scanner_h0, .int p1, .ref a_draft_h0]) (wr := [(h0, .inr (2, [.ref a_scanner_h0, .ref a_draft_h0, .ref a_waiting_h0, .ref a_functions_h0, .ref a_bottom_h0, .ref a_top_h0, .ref a_text_h0, .int mode_h0, .int levels_h0, .int signs_h0, .int loops_h0, .int token_h0, .int fault_h0])), (a_draft_h0, .inr (1, [.ref a_cells_a_draft_h0, .int count_a_draft_h0])), (a_cells_a_draft_h0, .inl (cI, n_a_cells_a_draft_h0, .inl b_a_cells_a_draft_h0))]) (c_Sc_width l D cI cB cJ cS a_scanner_h0 a_text_a_scanner_h0 next_a_scanner_h0 kind_a_scanner_h0 start_a_scanner_h0 width_a_scanner_h0  ) k_Rd_124 (by decide) ⟨Nat.le_of_ble_eq_true rfl, Nat.le_of_ble_eq_true rfl⟩ rfl 0 rfl [3] [0, 1, 2] rfl (by decide) rfl (by decide) (by decide) rfl rfl (Nat.le_of_ble_eq_true rfl) d_Rd_addWord_16 ⟨show 0 + 0 ≤ mc by omega, show 0 + 0 ≤ ms by omega⟩ (fun v w hq => ?_)
  obtain ⟨rfl, rfl⟩ := hq
  refine j_norm (pc' := 19) (st' := [.int width_a_scanner_h0, .int start_a_scanner_h0, .int p1, .ref a_draft_h0]) (ws' := [(h0, .inr (2, [.ref a_scanner_h0, .ref a_draft_h0, .ref a_waiting_h0, .ref a_functions_h0, .ref a_bottom_h0, .ref a_top_h0, .ref a_text_h0, .int mode_h0, .int levels_h0, .int signs_h0, .int loops_h0, .int token_h0, .int fault_h0])), (a_draft_h0, .inr (1, [.ref a_cells_a_draft_h0, .int count_a_draft_h0])), (a_cells_a_draft_h0, .inl (cI, n_a_cells_a_draft_h0, .inl b_a_cells_a_draft_h0)), (a_scanner_h0, .inr (4, [.ref a_text_a_scanner_h0, .int next_a_scanner_h0, .int kind_a_scanner_h0, .int start_a_scanner_h0, .int width_a_scanner_h0]))]) (cl' := 0) (sl' := 0) rfl rfl rfl rfl rfl rfl ?_
  replace h := bw_s h
  obtain ⟨⟨r3, r4, r5⟩, C7, S8, C9, S10, k11, h, e1, e2⟩ := h
  replace hC : 0 + C7 + C9 ≤ mc := by omega
  replace hS : 0 + S8 + S10 ≤ ms := by omega
  clear e1 e2
  refine j_callV (n := 3) (As := [.int p1, .int start_a_scanner_h0, .int width_a_scanner_h0]) (rest := []) (wr := [(h0, .inr (2, [.ref a_scanner_h0, .ref a_draft_h0, .ref a_waiting_h0, .ref a_functions_h0, .ref a_bottom_h0, .ref a_top_h0, .ref a_text_h0, .int mode_h0, .int levels_h0, .int signs_h0, .int loops_h0, .int token_h0, .int fault_h0])), (a_scanner_h0, .inr (4, [.ref a_text_a_scanner_h0, .int next_a_scanner_h0, .int kind_a_scanner_h0, .int start_a_scanner_h0, .int width_a_scanner_h0]))]) (c_Nd_addLeaf l D cI cB cJ cS a_draft_h0 a_cells_a_draft_h0 p1 start_a_scanner_h0 width_a_scanner_h0 count_a_draft_h0 n_a_cells_a_draft_h0 b_a_cells_a_draft_h0  r3 r4 r5 C7 S8 k11) k_Rd_127 (by decide) ⟨Nat.le_of_ble_eq_true rfl, Nat.le_of_ble_eq_true rfl⟩ rfl 0 rfl [1, 2] [0, 3] rfl (by decide) rfl (by decide) (by decide) rfl rfl (Nat.le_of_ble_eq_true rfl) d_Rd_addWord_19 ⟨show 0 + C7 ≤ mc by omega, show 0 + S8 ≤ ms by omega⟩ (fun v w hq => ?_)
  obtain ⟨q6, rfl, rfl⟩ := hq
  refine j_norm (pc' := 22) (st' := []) (ws' := [(h0, .inr (2, [.ref a_scanner_h0, .ref a_draft_h0, .ref a_waiting_h0, .ref a_functions_h0, .ref a_bottom_h0, .ref a_top_h0, .ref a_text_h0, .int mode_h0, .int levels_h0, .int signs_h0, .int loops_h0, .int token_h0, .int fault_h0])), (a_scanner_h0, .inr (4, [.ref a_text_a_scanner_h0, .int next_a_scanner_h0, .int kind_a_scanner_h0, .int start_a_scanner_h0, .int width_a_scanner_h0])), (a_draft_h0, .inr (1, [.ref q6, .int r3])), (q6, .inl (cI, r4, .inl r5))]) (cl' := 0 + C7) (sl' := 0 + S8) rfl rfl rfl rfl rfl rfl ?_
  refine j_aload_n d_Rd_addWord_22 rfl 0 rfl ?_
  refine j_iconst (v := 1) d_Rd_addWord_23 (by decide) ?_
  refine j_callV (n := 1) (As := [.int 1]) (rest := []) (wr := [(a_scanner_h0, .inr (4, [.ref a_text_a_scanner_h0, .int next_a_scanner_h0, .int kind_a_scanner_h0, .int start_a_scanner_h0, .int width_a_scanner_h0])), (a_draft_h0, .inr (1, [.ref q6, .int r3])), (q6, .inl (cI, r4, .inl r5))]) (c_Rd_goOn l D cI cB cJ cS h0 a_scanner_h0 a_draft_h0 a_waiting_h0 a_functions_h0 a_bottom_h0 a_top_h0 a_text_h0 1 mode_h0 levels_h0 signs_h0 loops_h0 token_h0 fault_h0  ) k_Rd_130 (by decide) ⟨Nat.le_of_ble_eq_true rfl, Nat.le_of_ble_eq_true rfl⟩ rfl 0 rfl [0] [1, 2, 3] rfl (by decide) rfl (by decide) (by decide) rfl rfl (Nat.le_of_ble_eq_true rfl) d_Rd_addWord_24 ⟨show 0 + C7 + 0 ≤ mc by omega, show 0 + S8 + 0 ≤ ms by omega⟩ (fun v w hq => ?_)
  obtain ⟨rfl, _, rfl⟩ := hq
  refine j_norm (pc' := 27) (st' := [.int 1]) (ws' := [(a_scanner_h0, .inr (4, [.ref a_text_a_scanner_h0, .int next_a_scanner_h0, .int kind_a_scanner_h0, .int start_a_scanner_h0, .int width_a_scanner_h0])), (a_draft_h0, .inr (1, [.ref q6, .int r3])), (q6, .inl (cI, r4, .inl r5)), (h0, .inr (2, [.ref a_scanner_h0, .ref a_draft_h0, .ref a_waiting_h0, .ref a_functions_h0, .ref a_bottom_h0, .ref a_top_h0, .ref a_text_h0, .int 1, .int levels_h0, .int signs_h0, .int loops_h0, .int token_h0, .int fault_h0]))]) (cl' := 0 + C7) (sl' := 0 + S8) rfl rfl rfl rfl rfl rfl ?_
  replace h := lf_s h
  obtain ⟨h, e1, e2⟩ := h
  replace h := Prod.mk.inj h
  obtain ⟨h9, h⟩ := h
  subst h9
  replace h := Prod.mk.inj h
  obtain ⟨h9, h⟩ := h
  subst h9
  subst h
  refine j_widen (cl' := mc) (sl' := ms) (by omega) (by omega) ?_
  exact j_zret (w := [(h0, .inr (2, [.ref a_scanner_h0, .ref a_draft_h0, .ref a_waiting_h0, .ref a_functions_h0, .ref a_bottom_h0, .ref a_top_h0, .ref a_text_h0, .int 1, .int levels_h0, .int signs_h0, .int loops_h0, .int token_h0, .int fault_h0])), (a_scanner_h0, .inr (4, [.ref a_text_a_scanner_h0, .int next_a_scanner_h0, .int kind_a_scanner_h0, .int start_a_scanner_h0, .int width_a_scanner_h0])), (a_draft_h0, .inr (1, [.ref q6, .int r3])), (q6, .inl (cI, r4, .inl r5))]) hr (zb_n zb1) d_Rd_addWord_27 [3, 0, 1, 2] rfl (by decide) ⟨q6, rfl, zb1, rfl⟩
