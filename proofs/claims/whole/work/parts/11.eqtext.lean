set_option maxRecDepth 20000 in
theorem m_242 : Cond.fieldLink R_Eq 33 R_Eq "tape" "LEquationText$Row;" ∈ gG := gG_in (List.mem_append_right _ (List.mem_of_getElem? (i := 242) (by decide +kernel))) rfl
set_option maxRecDepth 20000 in
theorem m_272 : Cond.constant R_Eq 54 65516 ∈ gG := gG_in (List.mem_append_right _ (List.mem_of_getElem? (i := 272) (by decide +kernel))) rfl
set_option maxRecDepth 20000 in
theorem mc_Rw_size : Cond.code y_Rw_size prog_7_method_2_code 1 (Option.some Jvm.ClassFile.FieldType.int) ∈ gG := gG_in (List.mem_append_right _ (List.mem_of_getElem? (i := 271) rfl)) rfl
set_option maxRecDepth 20000 in
theorem m_268 : Cond.methodLink R_Eq 50 y_Rw_size ∈ gG := gG_in (List.mem_append_right _ (List.mem_of_getElem? (i := 268) (by decide +kernel))) rfl
set_option maxRecDepth 20000 in
theorem m_269 : Cond.instanceMethod y_Rw_size ∈ gG := gG_in (List.mem_append_right _ (List.mem_of_getElem? (i := 269) (by decide +kernel))) rfl
set_option maxRecDepth 20000 in
theorem m_270 : Cond.selects R_Rw y_Rw_size y_Rw_size ∈ gG := gG_in (List.mem_append_right _ (List.mem_of_getElem? (i := 270) (by decide +kernel))) rfl
set_option maxRecDepth 20000 in
theorem mc_Rw_addFour : Cond.code y_Rw_addFour prog_7_method_5_code 3 (Option.none : Option Jvm.ClassFile.FieldType) ∈ gG := gG_in (List.mem_append_right _ (List.mem_of_getElem? (i := 276) rfl)) rfl
set_option maxRecDepth 20000 in
theorem m_273 : Cond.methodLink R_Eq 55 y_Rw_addFour ∈ gG := gG_in (List.mem_append_right _ (List.mem_of_getElem? (i := 273) (by decide +kernel))) rfl
set_option maxRecDepth 20000 in
theorem m_274 : Cond.instanceMethod y_Rw_addFour ∈ gG := gG_in (List.mem_append_right _ (List.mem_of_getElem? (i := 274) (by decide +kernel))) rfl
set_option maxRecDepth 20000 in
theorem m_275 : Cond.selects R_Rw y_Rw_addFour y_Rw_addFour ∈ gG := gG_in (List.mem_append_right _ (List.mem_of_getElem? (i := 275) (by decide +kernel))) rfl
set_option maxRecDepth 20000 in
theorem m_246 : Cond.fieldLink R_Eq 46 R_Eq "fault" "I" ∈ gG := gG_in (List.mem_append_right _ (List.mem_of_getElem? (i := 246) (by decide +kernel))) rfl
set_option maxRecDepth 20000 in
theorem m_241 : Cond.fieldLink R_Eq 26 R_Eq "tree" "LEquationText$Nodes;" ∈ gG := gG_in (List.mem_append_right _ (List.mem_of_getElem? (i := 241) (by decide +kernel))) rfl
set_option maxRecDepth 20000 in
theorem mc_Nd_count : Cond.code y_Nd_count prog_4_method_2_code 1 (Option.some Jvm.ClassFile.FieldType.int) ∈ gG := gG_in (List.mem_append_right _ (List.mem_of_getElem? (i := 747) rfl)) rfl
set_option maxRecDepth 20000 in
theorem m_830 : Cond.methodLink R_Eq 83 y_Nd_count ∈ gG := gG_in (List.mem_append_right _ (List.mem_of_getElem? (i := 830) (by decide +kernel))) rfl
set_option maxRecDepth 20000 in
theorem m_745 : Cond.instanceMethod y_Nd_count ∈ gG := gG_in (List.mem_append_right _ (List.mem_of_getElem? (i := 745) (by decide +kernel))) rfl
set_option maxRecDepth 20000 in
theorem m_746 : Cond.selects R_Nd y_Nd_count y_Nd_count ∈ gG := gG_in (List.mem_append_right _ (List.mem_of_getElem? (i := 746) (by decide +kernel))) rfl
set_option maxRecDepth 20000 in
theorem m_835 : Cond.methodLink R_Eq 86 y_Nd_get ∈ gG := gG_in (List.mem_append_right _ (List.mem_of_getElem? (i := 835) (by decide +kernel))) rfl
set_option maxRecDepth 20000 in
theorem m_840 : Cond.methodLink R_Eq 90 y_Nd_after ∈ gG := gG_in (List.mem_append_right _ (List.mem_of_getElem? (i := 840) (by decide +kernel))) rfl
set_option maxRecDepth 20000 in
theorem m_243 : Cond.fieldLink R_Eq 37 R_Eq "source" "LEquationText$Row;" ∈ gG := gG_in (List.mem_append_right _ (List.mem_of_getElem? (i := 243) (by decide +kernel))) rfl
set_option maxRecDepth 20000 in
theorem m_849 : Cond.methodLink R_Eq 97 y_Rw_at ∈ gG := gG_in (List.mem_append_right _ (List.mem_of_getElem? (i := 849) (by decide +kernel))) rfl
set_option maxRecDepth 20000 in
theorem mc_Nd_tokenPlace : Cond.code y_Nd_tokenPlace prog_4_method_7_code 2 (Option.some Jvm.ClassFile.FieldType.int) ∈ gG := gG_in (List.mem_append_right _ (List.mem_of_getElem? (i := 848) rfl)) rfl
set_option maxRecDepth 20000 in
theorem m_845 : Cond.methodLink R_Eq 94 y_Nd_tokenPlace ∈ gG := gG_in (List.mem_append_right _ (List.mem_of_getElem? (i := 845) (by decide +kernel))) rfl
set_option maxRecDepth 20000 in
theorem m_846 : Cond.instanceMethod y_Nd_tokenPlace ∈ gG := gG_in (List.mem_append_right _ (List.mem_of_getElem? (i := 846) (by decide +kernel))) rfl
set_option maxRecDepth 20000 in
theorem m_847 : Cond.selects R_Nd y_Nd_tokenPlace y_Nd_tokenPlace ∈ gG := gG_in (List.mem_append_right _ (List.mem_of_getElem? (i := 847) (by decide +kernel))) rfl
set_option maxRecDepth 20000 in
theorem m_240 : Cond.fieldLink R_Eq 19 R_Eq "writer" "LEquationText$Writer;" ∈ gG := gG_in (List.mem_append_right _ (List.mem_of_getElem? (i := 240) (by decide +kernel))) rfl
set_option maxRecDepth 20000 in
theorem m_245 : Cond.fieldLink R_Eq 43 R_Eq "spareForm" "LEquationText$Row;" ∈ gG := gG_in (List.mem_append_right _ (List.mem_of_getElem? (i := 245) (by decide +kernel))) rfl
set_option maxRecDepth 20000 in
theorem m_244 : Cond.fieldLink R_Eq 40 R_Eq "form" "LEquationText$Row;" ∈ gG := gG_in (List.mem_append_right _ (List.mem_of_getElem? (i := 244) (by decide +kernel))) rfl
set_option maxRecDepth 20000 in
theorem mc_Rw_become : Cond.code y_Rw_become prog_7_method_7_code 3 (Option.none : Option Jvm.ClassFile.FieldType) ∈ gG := gG_in (List.mem_append_right _ (List.mem_of_getElem? (i := 972) rfl)) rfl
set_option maxRecDepth 20000 in
theorem m_969 : Cond.methodLink R_Eq 104 y_Rw_become ∈ gG := gG_in (List.mem_append_right _ (List.mem_of_getElem? (i := 969) (by decide +kernel))) rfl
set_option maxRecDepth 20000 in
theorem m_970 : Cond.instanceMethod y_Rw_become ∈ gG := gG_in (List.mem_append_right _ (List.mem_of_getElem? (i := 970) (by decide +kernel))) rfl
set_option maxRecDepth 20000 in
theorem m_971 : Cond.selects R_Rw y_Rw_become y_Rw_become ∈ gG := gG_in (List.mem_append_right _ (List.mem_of_getElem? (i := 971) (by decide +kernel))) rfl
set_option maxRecDepth 20000 in
theorem m_105 : Cond.methodLink R_Fr 3 y_JO_init ∈ gG := gG_in (List.mem_append_right _ (List.mem_of_getElem? (i := 105) (by decide +kernel))) rfl
set_option maxRecDepth 20000 in
theorem m_108 : Cond.fieldLink R_Fr 9 R_Fr "above" "LEquationText$Frame;" ∈ gG := gG_in (List.mem_append_right _ (List.mem_of_getElem? (i := 108) (by decide +kernel))) rfl
set_option maxRecDepth 20000 in
theorem m_110 : Cond.fieldLink R_Fr 17 R_Fr "kind" "I" ∈ gG := gG_in (List.mem_append_right _ (List.mem_of_getElem? (i := 110) (by decide +kernel))) rfl
set_option maxRecDepth 20000 in
theorem m_112 : Cond.fieldLink R_Fr 21 R_Fr "place" "I" ∈ gG := gG_in (List.mem_append_right _ (List.mem_of_getElem? (i := 112) (by decide +kernel))) rfl
set_option maxRecDepth 20000 in
theorem m_114 : Cond.fieldLink R_Fr 24 R_Fr "width" "I" ∈ gG := gG_in (List.mem_append_right _ (List.mem_of_getElem? (i := 114) (by decide +kernel))) rfl
set_option maxRecDepth 20000 in
theorem m_116 : Cond.fieldLink R_Fr 27 R_Fr "second" "I" ∈ gG := gG_in (List.mem_append_right _ (List.mem_of_getElem? (i := 116) (by decide +kernel))) rfl
set_option maxRecDepth 20000 in
theorem m_118 : Cond.fieldLink R_Fr 30 R_Fr "parts" "I" ∈ gG := gG_in (List.mem_append_right _ (List.mem_of_getElem? (i := 118) (by decide +kernel))) rfl
set_option maxRecDepth 20000 in
theorem m_120 : Cond.fieldLink R_Fr 33 R_Fr "innerParts" "I" ∈ gG := gG_in (List.mem_append_right _ (List.mem_of_getElem? (i := 120) (by decide +kernel))) rfl
set_option maxRecDepth 20000 in
theorem m_122 : Cond.fieldLink R_Fr 36 R_Fr "innerPlace" "I" ∈ gG := gG_in (List.mem_append_right _ (List.mem_of_getElem? (i := 122) (by decide +kernel))) rfl
set_option maxRecDepth 20000 in
theorem m_124 : Cond.fieldLink R_Fr 39 R_Fr "innerWidth" "I" ∈ gG := gG_in (List.mem_append_right _ (List.mem_of_getElem? (i := 124) (by decide +kernel))) rfl
set_option maxRecDepth 20000 in
theorem m_126 : Cond.fieldLink R_Fr 42 R_Fr "signs" "I" ∈ gG := gG_in (List.mem_append_right _ (List.mem_of_getElem? (i := 126) (by decide +kernel))) rfl
set_option maxRecDepth 20000 in
theorem m_128 : Cond.fieldLink R_Fr 45 R_Fr "waitingBelow" "I" ∈ gG := gG_in (List.mem_append_right _ (List.mem_of_getElem? (i := 128) (by decide +kernel))) rfl
set_option maxRecDepth 20000 in
theorem m_130 : Cond.fieldLink R_Fr 48 R_Fr "limited" "Z" ∈ gG := gG_in (List.mem_append_right _ (List.mem_of_getElem? (i := 130) (by decide +kernel))) rfl
set_option maxRecDepth 20000 in
theorem m_132 : Cond.fieldLink R_Fr 52 R_Fr "targets" "Z" ∈ gG := gG_in (List.mem_append_right _ (List.mem_of_getElem? (i := 132) (by decide +kernel))) rfl
set_option maxRecDepth 20000 in
theorem m_134 : Cond.fieldLink R_Fr 55 R_Fr "lastBlock" "Z" ∈ gG := gG_in (List.mem_append_right _ (List.mem_of_getElem? (i := 134) (by decide +kernel))) rfl
set_option maxRecDepth 20000 in
theorem m_106 : Cond.fieldLink R_Fr 58 R_Fr "below" "LEquationText$Frame;" ∈ gG := gG_in (List.mem_append_right _ (List.mem_of_getElem? (i := 106) (by decide +kernel))) rfl
set_option maxRecDepth 20000 in
theorem m_42 : Cond.methodLink R_Sc 3 y_JO_init ∈ gG := gG_in (List.mem_append_right _ (List.mem_of_getElem? (i := 42) (by decide +kernel))) rfl
set_option maxRecDepth 20000 in
theorem m_57 : Cond.fieldLink R_Sc 12 R_Sc "text" "LEquationText$Row;" ∈ gG := gG_in (List.mem_append_right _ (List.mem_of_getElem? (i := 57) (by decide +kernel))) rfl
set_option maxRecDepth 20000 in
theorem m_58 : Cond.fieldLink R_Sc 18 R_Sc "next" "I" ∈ gG := gG_in (List.mem_append_right _ (List.mem_of_getElem? (i := 58) (by decide +kernel))) rfl
set_option maxRecDepth 20000 in
theorem m_59 : Cond.fieldLink R_Sc 22 R_Sc "kind" "I" ∈ gG := gG_in (List.mem_append_right _ (List.mem_of_getElem? (i := 59) (by decide +kernel))) rfl
set_option maxRecDepth 20000 in
theorem m_60 : Cond.fieldLink R_Sc 25 R_Sc "start" "I" ∈ gG := gG_in (List.mem_append_right _ (List.mem_of_getElem? (i := 60) (by decide +kernel))) rfl
set_option maxRecDepth 20000 in
theorem m_61 : Cond.fieldLink R_Sc 28 R_Sc "width" "I" ∈ gG := gG_in (List.mem_append_right _ (List.mem_of_getElem? (i := 61) (by decide +kernel))) rfl
set_option maxRecDepth 20000 in
theorem m_46 : Cond.instanceMethod y_Rw_init ∈ gG := gG_in (List.mem_append_right _ (List.mem_of_getElem? (i := 46) (by decide +kernel))) rfl
set_option maxRecDepth 20000 in
theorem mc_Rw_init : Cond.code y_Rw_init prog_7_method_1_code 1 (Option.none : Option Jvm.ClassFile.FieldType) ∈ gG := gG_in (List.mem_append_right _ (List.mem_of_getElem? (i := 47) rfl)) rfl
set_option maxRecDepth 20000 in
theorem mn_2 : Cond.methodLinkNest R_Sc 11 y_Rw_init R_Eq ∈ gNest := List.mem_of_getElem? (i := 2) rfl
set_option maxRecDepth 20000 in
theorem m_43 : Cond.classLink R_Sc 9 R_Rw ∈ gG := gG_in (List.mem_append_right _ (List.mem_of_getElem? (i := 43) (by decide +kernel))) rfl
set_option maxRecDepth 20000 in
theorem m_44 : Cond.instantiable R_Rw 2 ∈ gG := gG_in (List.mem_append_right _ (List.mem_of_getElem? (i := 44) (by decide +kernel))) rfl
set_option maxRecDepth 20000 in
theorem m_335 : Cond.methodLink R_Sc 34 y_Rw_at ∈ gG := gG_in (List.mem_append_right _ (List.mem_of_getElem? (i := 335) (by decide +kernel))) rfl
set_option maxRecDepth 20000 in
theorem m_334 : Cond.methodLink R_Sc 58 y_Rw_size ∈ gG := gG_in (List.mem_append_right _ (List.mem_of_getElem? (i := 334) (by decide +kernel))) rfl
set_option maxRecDepth 20000 in
theorem mc_Sc_isDigit : Cond.code y_Sc_isDigit prog_8_method_11_code 1 (Option.some Jvm.ClassFile.FieldType.boolean) ∈ gG := gG_in (List.mem_append_right _ (List.mem_of_getElem? (i := 348) rfl)) rfl
set_option maxRecDepth 20000 in
theorem m_346 : Cond.methodLink R_Sc 45 y_Sc_isDigit ∈ gG := gG_in (List.mem_append_right _ (List.mem_of_getElem? (i := 346) (by decide +kernel))) rfl
set_option maxRecDepth 20000 in
theorem m_347 : Cond.static y_Sc_isDigit ∈ gG := gG_in (List.mem_append_right _ (List.mem_of_getElem? (i := 347) (by decide +kernel))) rfl
set_option maxRecDepth 20000 in
theorem m_3 : Cond.initialized R_Sc ∈ gG := gG_in (List.mem_append_right _ (List.mem_of_getElem? (i := 3) (by decide +kernel))) rfl
set_option maxRecDepth 20000 in
theorem mc_Sc_isLetter : Cond.code y_Sc_isLetter prog_8_method_10_code 1 (Option.some Jvm.ClassFile.FieldType.boolean) ∈ gG := gG_in (List.mem_append_right _ (List.mem_of_getElem? (i := 341) rfl)) rfl
set_option maxRecDepth 20000 in
theorem m_339 : Cond.methodLink R_Sc 38 y_Sc_isLetter ∈ gG := gG_in (List.mem_append_right _ (List.mem_of_getElem? (i := 339) (by decide +kernel))) rfl
set_option maxRecDepth 20000 in
theorem m_340 : Cond.static y_Sc_isLetter ∈ gG := gG_in (List.mem_append_right _ (List.mem_of_getElem? (i := 340) (by decide +kernel))) rfl
set_option maxRecDepth 20000 in
theorem mc_JS_length : Cond.code y_JS_length prog_19_method_54_code 1 (Option.some Jvm.ClassFile.FieldType.int) ∈ gG := gG_in (List.mem_append_right _ (List.mem_of_getElem? (i := 361) rfl)) rfl
set_option maxRecDepth 20000 in
theorem m_358 : Cond.methodLink R_Sc 97 y_JS_length ∈ gG := gG_in (List.mem_append_right _ (List.mem_of_getElem? (i := 358) (by decide +kernel))) rfl
set_option maxRecDepth 20000 in
theorem m_359 : Cond.instanceMethod y_JS_length ∈ gG := gG_in (List.mem_append_right _ (List.mem_of_getElem? (i := 359) (by decide +kernel))) rfl
set_option maxRecDepth 20000 in
theorem m_360 : Cond.selects R_JS y_JS_length y_JS_length ∈ gG := gG_in (List.mem_append_right _ (List.mem_of_getElem? (i := 360) (by decide +kernel))) rfl
set_option maxRecDepth 20000 in
theorem mc_JS_charAt : Cond.code y_JS_charAt prog_19_method_56_code 2 (Option.some Jvm.ClassFile.FieldType.char) ∈ gG := gG_in (List.mem_append_right _ (List.mem_of_getElem? (i := 371) rfl)) rfl
set_option maxRecDepth 20000 in
theorem m_368 : Cond.methodLink R_Sc 102 y_JS_charAt ∈ gG := gG_in (List.mem_append_right _ (List.mem_of_getElem? (i := 368) (by decide +kernel))) rfl
set_option maxRecDepth 20000 in
theorem m_369 : Cond.instanceMethod y_JS_charAt ∈ gG := gG_in (List.mem_append_right _ (List.mem_of_getElem? (i := 369) (by decide +kernel))) rfl
set_option maxRecDepth 20000 in
theorem m_370 : Cond.selects R_JS y_JS_charAt y_JS_charAt ∈ gG := gG_in (List.mem_append_right _ (List.mem_of_getElem? (i := 370) (by decide +kernel))) rfl
set_option maxRecDepth 20000 in
theorem mc_Sc_digitsEnd : Cond.code y_Sc_digitsEnd prog_8_method_17_code 3 (Option.some Jvm.ClassFile.FieldType.int) ∈ gG := gG_in (List.mem_append_right _ (List.mem_of_getElem? (i := 426) rfl)) rfl
set_option maxRecDepth 20000 in
theorem m_423 : Cond.methodLink R_Sc 106 y_Sc_digitsEnd ∈ gG := gG_in (List.mem_append_right _ (List.mem_of_getElem? (i := 423) (by decide +kernel))) rfl
set_option maxRecDepth 20000 in
theorem m_425 : Cond.instanceMethod y_Sc_digitsEnd ∈ gG := gG_in (List.mem_append_right _ (List.mem_of_getElem? (i := 425) (by decide +kernel))) rfl
set_option maxRecDepth 20000 in
theorem ms_6 : Cond.selects R_Sc y_Sc_digitsEnd y_Sc_digitsEnd ∈ gG := gG_in (List.mem_append_left _ (List.mem_of_getElem? (i := 6) (by decide +kernel))) rfl
set_option maxRecDepth 20000 in
theorem m_435 : Cond.constant R_Sc 121 1000000 ∈ gG := gG_in (List.mem_append_right _ (List.mem_of_getElem? (i := 435) (by decide +kernel))) rfl
set_option maxRecDepth 20000 in
theorem m_436 : Cond.methodLink R_Sc 122 y_JM_min ∈ gG := gG_in (List.mem_append_right _ (List.mem_of_getElem? (i := 436) (by decide +kernel))) rfl
set_option maxRecDepth 20000 in
theorem m_214 : Cond.methodLink R_Wr 1 y_JO_init ∈ gG := gG_in (List.mem_append_right _ (List.mem_of_getElem? (i := 214) (by decide +kernel))) rfl
set_option maxRecDepth 20000 in
theorem m_219 : Cond.fieldLink R_Wr 10 R_Wr "tree" "LEquationText$Nodes;" ∈ gG := gG_in (List.mem_append_right _ (List.mem_of_getElem? (i := 219) (by decide +kernel))) rfl
set_option maxRecDepth 20000 in
theorem m_220 : Cond.fieldLink R_Wr 19 R_Wr "source" "LEquationText$Row;" ∈ gG := gG_in (List.mem_append_right _ (List.mem_of_getElem? (i := 220) (by decide +kernel))) rfl
set_option maxRecDepth 20000 in
theorem m_221 : Cond.fieldLink R_Wr 23 R_Wr "form" "LEquationText$Row;" ∈ gG := gG_in (List.mem_append_right _ (List.mem_of_getElem? (i := 221) (by decide +kernel))) rfl
set_option maxRecDepth 20000 in
theorem m_222 : Cond.fieldLink R_Wr 26 R_Wr "indent" "I" ∈ gG := gG_in (List.mem_append_right _ (List.mem_of_getElem? (i := 222) (by decide +kernel))) rfl
set_option maxRecDepth 20000 in
theorem m_223 : Cond.fieldLink R_Wr 30 R_Wr "fits" "Z" ∈ gG := gG_in (List.mem_append_right _ (List.mem_of_getElem? (i := 223) (by decide +kernel))) rfl
set_option maxRecDepth 20000 in
theorem mn_8 : Cond.methodLinkNest R_Wr 18 y_Rw_init R_Eq ∈ gNest := List.mem_of_getElem? (i := 8) rfl
set_option maxRecDepth 20000 in
theorem m_217 : Cond.classLink R_Wr 16 R_Rw ∈ gG := gG_in (List.mem_append_right _ (List.mem_of_getElem? (i := 217) (by decide +kernel))) rfl
set_option maxRecDepth 20000 in
theorem m_76 : Cond.instanceMethod y_Nd_init ∈ gG := gG_in (List.mem_append_right _ (List.mem_of_getElem? (i := 76) (by decide +kernel))) rfl
set_option maxRecDepth 20000 in
theorem mc_Nd_init : Cond.code y_Nd_init prog_4_method_1_code 1 (Option.none : Option Jvm.ClassFile.FieldType) ∈ gG := gG_in (List.mem_append_right _ (List.mem_of_getElem? (i := 77) rfl)) rfl
set_option maxRecDepth 20000 in
theorem mn_7 : Cond.methodLinkNest R_Wr 9 y_Nd_init R_Eq ∈ gNest := List.mem_of_getElem? (i := 7) rfl
set_option maxRecDepth 20000 in
theorem m_215 : Cond.classLink R_Wr 7 R_Nd ∈ gG := gG_in (List.mem_append_right _ (List.mem_of_getElem? (i := 215) (by decide +kernel))) rfl
set_option maxRecDepth 20000 in
theorem m_74 : Cond.instantiable R_Nd 2 ∈ gG := gG_in (List.mem_append_right _ (List.mem_of_getElem? (i := 74) (by decide +kernel))) rfl
set_option maxRecDepth 20000 in
theorem mc_Rw_cut : Cond.code y_Rw_cut prog_7_method_6_code 2 (Option.none : Option Jvm.ClassFile.FieldType) ∈ gG := gG_in (List.mem_append_right _ (List.mem_of_getElem? (i := 821) rfl)) rfl
set_option maxRecDepth 20000 in
theorem m_858 : Cond.methodLink R_Wr 34 y_Rw_cut ∈ gG := gG_in (List.mem_append_right _ (List.mem_of_getElem? (i := 858) (by decide +kernel))) rfl
set_option maxRecDepth 20000 in
theorem m_819 : Cond.instanceMethod y_Rw_cut ∈ gG := gG_in (List.mem_append_right _ (List.mem_of_getElem? (i := 819) (by decide +kernel))) rfl
set_option maxRecDepth 20000 in
theorem m_820 : Cond.selects R_Rw y_Rw_cut y_Rw_cut ∈ gG := gG_in (List.mem_append_right _ (List.mem_of_getElem? (i := 820) (by decide +kernel))) rfl
set_option maxRecDepth 20000 in
theorem m_864 : Cond.methodLink R_Wr 52 y_Nd_get ∈ gG := gG_in (List.mem_append_right _ (List.mem_of_getElem? (i := 864) (by decide +kernel))) rfl
set_option maxRecDepth 20000 in
theorem m_879 : Cond.methodLink R_Wr 56 y_JS_length ∈ gG := gG_in (List.mem_append_right _ (List.mem_of_getElem? (i := 879) (by decide +kernel))) rfl
set_option maxRecDepth 20000 in
theorem m_880 : Cond.methodLink R_Wr 61 y_JS_charAt ∈ gG := gG_in (List.mem_append_right _ (List.mem_of_getElem? (i := 880) (by decide +kernel))) rfl
set_option maxRecDepth 20000 in
theorem m_881 : Cond.methodLink R_Wr 65 y_Rw_add ∈ gG := gG_in (List.mem_append_right _ (List.mem_of_getElem? (i := 881) (by decide +kernel))) rfl
set_option maxRecDepth 20000 in
theorem m_907 : Cond.methodLink R_Wr 69 y_Nd_tokenPlace ∈ gG := gG_in (List.mem_append_right _ (List.mem_of_getElem? (i := 907) (by decide +kernel))) rfl
set_option maxRecDepth 20000 in
theorem m_908 : Cond.methodLink R_Wr 72 y_Rw_at ∈ gG := gG_in (List.mem_append_right _ (List.mem_of_getElem? (i := 908) (by decide +kernel))) rfl
set_option maxRecDepth 20000 in
theorem mc_Wr_put : Cond.code y_Wr_put prog_10_method_4_code 3 (Option.none : Option Jvm.ClassFile.FieldType) ∈ gG := gG_in (List.mem_append_right _ (List.mem_of_getElem? (i := 878) rfl)) rfl
set_option maxRecDepth 20000 in
theorem m_875 : Cond.methodLink R_Wr 77 y_Wr_put ∈ gG := gG_in (List.mem_append_right _ (List.mem_of_getElem? (i := 875) (by decide +kernel))) rfl
set_option maxRecDepth 20000 in
theorem m_877 : Cond.instanceMethod y_Wr_put ∈ gG := gG_in (List.mem_append_right _ (List.mem_of_getElem? (i := 877) (by decide +kernel))) rfl
set_option maxRecDepth 20000 in
theorem ms_79 : Cond.selects R_Wr y_Wr_put y_Wr_put ∈ gG := gG_in (List.mem_append_left _ (List.mem_of_getElem? (i := 79) (by decide +kernel))) rfl
set_option maxRecDepth 20000 in
theorem m_8 : Cond.initialized R_Wr ∈ gG := gG_in (List.mem_append_right _ (List.mem_of_getElem? (i := 8) (by decide +kernel))) rfl
set_option maxRecDepth 20000 in
theorem mc_Wr_beginLine : Cond.code y_Wr_beginLine prog_10_method_6_code 3 (Option.none : Option Jvm.ClassFile.FieldType) ∈ gG := gG_in (List.mem_append_right _ (List.mem_of_getElem? (i := 886) rfl)) rfl
set_option maxRecDepth 20000 in
theorem m_883 : Cond.methodLink R_Wr 114 y_Wr_beginLine ∈ gG := gG_in (List.mem_append_right _ (List.mem_of_getElem? (i := 883) (by decide +kernel))) rfl
set_option maxRecDepth 20000 in
theorem m_885 : Cond.instanceMethod y_Wr_beginLine ∈ gG := gG_in (List.mem_append_right _ (List.mem_of_getElem? (i := 885) (by decide +kernel))) rfl
set_option maxRecDepth 20000 in
theorem ms_80 : Cond.selects R_Wr y_Wr_beginLine y_Wr_beginLine ∈ gG := gG_in (List.mem_append_left _ (List.mem_of_getElem? (i := 80) (by decide +kernel))) rfl
set_option maxRecDepth 20000 in
theorem mc_Wr_kind : Cond.code y_Wr_kind prog_10_method_3_code 2 (Option.some Jvm.ClassFile.FieldType.int) ∈ gG := gG_in (List.mem_append_right _ (List.mem_of_getElem? (i := 872) rfl)) rfl
set_option maxRecDepth 20000 in
theorem m_869 : Cond.methodLink R_Wr 105 y_Wr_kind ∈ gG := gG_in (List.mem_append_right _ (List.mem_of_getElem? (i := 869) (by decide +kernel))) rfl
set_option maxRecDepth 20000 in
theorem m_871 : Cond.instanceMethod y_Wr_kind ∈ gG := gG_in (List.mem_append_right _ (List.mem_of_getElem? (i := 871) (by decide +kernel))) rfl
set_option maxRecDepth 20000 in
theorem ms_78 : Cond.selects R_Wr y_Wr_kind y_Wr_kind ∈ gG := gG_in (List.mem_append_left _ (List.mem_of_getElem? (i := 78) (by decide +kernel))) rfl
set_option maxRecDepth 20000 in
theorem m_921 : Cond.methodLink R_Wr 45 y_Nd_after ∈ gG := gG_in (List.mem_append_right _ (List.mem_of_getElem? (i := 921) (by decide +kernel))) rfl
set_option maxRecDepth 20000 in
theorem mc_Wr_putToken : Cond.code y_Wr_putToken prog_10_method_5_code 5 (Option.none : Option Jvm.ClassFile.FieldType) ∈ gG := gG_in (List.mem_append_right _ (List.mem_of_getElem? (i := 915) rfl)) rfl
set_option maxRecDepth 20000 in
theorem m_912 : Cond.methodLink R_Wr 152 y_Wr_putToken ∈ gG := gG_in (List.mem_append_right _ (List.mem_of_getElem? (i := 912) (by decide +kernel))) rfl
set_option maxRecDepth 20000 in
theorem m_914 : Cond.instanceMethod y_Wr_putToken ∈ gG := gG_in (List.mem_append_right _ (List.mem_of_getElem? (i := 914) (by decide +kernel))) rfl
set_option maxRecDepth 20000 in
theorem ms_84 : Cond.selects R_Wr y_Wr_putToken y_Wr_putToken ∈ gG := gG_in (List.mem_append_left _ (List.mem_of_getElem? (i := 84) (by decide +kernel))) rfl
set_option maxRecDepth 20000 in
theorem mc_Rk_of : Cond.code y_Rk_of prog_5_method_2_code 1 (Option.some Jvm.ClassFile.FieldType.int) ∈ gG := gG_in (List.mem_append_right _ (List.mem_of_getElem? (i := 605) rfl)) rfl
set_option maxRecDepth 20000 in
theorem m_910 : Cond.methodLink R_Wr 177 y_Rk_of ∈ gG := gG_in (List.mem_append_right _ (List.mem_of_getElem? (i := 910) (by decide +kernel))) rfl
set_option maxRecDepth 20000 in
theorem m_604 : Cond.static y_Rk_of ∈ gG := gG_in (List.mem_append_right _ (List.mem_of_getElem? (i := 604) (by decide +kernel))) rfl
set_option maxRecDepth 20000 in
theorem m_22 : Cond.initialized R_Rk ∈ gG := gG_in (List.mem_append_right _ (List.mem_of_getElem? (i := 22) (by decide +kernel))) rfl
set_option maxRecDepth 20000 in
theorem mc_Sc_signs : Cond.code y_Sc_signs prog_8_method_7_code 2 (Option.some Jvm.ClassFile.FieldType.int) ∈ gG := gG_in (List.mem_append_right _ (List.mem_of_getElem? (i := 448) rfl)) rfl
set_option maxRecDepth 20000 in
theorem m_909 : Cond.methodLink R_Wr 172 y_Sc_signs ∈ gG := gG_in (List.mem_append_right _ (List.mem_of_getElem? (i := 909) (by decide +kernel))) rfl
set_option maxRecDepth 20000 in
theorem m_447 : Cond.static y_Sc_signs ∈ gG := gG_in (List.mem_append_right _ (List.mem_of_getElem? (i := 447) (by decide +kernel))) rfl
set_option maxRecDepth 20000 in
theorem mc_Wr_rank : Cond.code y_Wr_rank prog_10_method_17_code 3 (Option.some Jvm.ClassFile.FieldType.int) ∈ gG := gG_in (List.mem_append_right _ (List.mem_of_getElem? (i := 906) rfl)) rfl
set_option maxRecDepth 20000 in
theorem m_903 : Cond.methodLink R_Wr 145 y_Wr_rank ∈ gG := gG_in (List.mem_append_right _ (List.mem_of_getElem? (i := 903) (by decide +kernel))) rfl
set_option maxRecDepth 20000 in
theorem m_905 : Cond.instanceMethod y_Wr_rank ∈ gG := gG_in (List.mem_append_right _ (List.mem_of_getElem? (i := 905) (by decide +kernel))) rfl
set_option maxRecDepth 20000 in
theorem ms_83 : Cond.selects R_Wr y_Wr_rank y_Wr_rank ∈ gG := gG_in (List.mem_append_left _ (List.mem_of_getElem? (i := 83) (by decide +kernel))) rfl
set_option maxRecDepth 20000 in
theorem m_446 : Cond.methodLink R_Sc 54 y_Sc_signs ∈ gG := gG_in (List.mem_append_right _ (List.mem_of_getElem? (i := 446) (by decide +kernel))) rfl
set_option maxRecDepth 20000 in
theorem mc_Sc_scanText : Cond.code y_Sc_scanText prog_8_method_15_code 2 (Option.none : Option Jvm.ClassFile.FieldType) ∈ gG := gG_in (List.mem_append_right _ (List.mem_of_getElem? (i := 445) rfl)) rfl
set_option maxRecDepth 20000 in
theorem m_442 : Cond.methodLink R_Sc 51 y_Sc_scanText ∈ gG := gG_in (List.mem_append_right _ (List.mem_of_getElem? (i := 442) (by decide +kernel))) rfl
set_option maxRecDepth 20000 in
theorem m_444 : Cond.instanceMethod y_Sc_scanText ∈ gG := gG_in (List.mem_append_right _ (List.mem_of_getElem? (i := 444) (by decide +kernel))) rfl
set_option maxRecDepth 20000 in
theorem ms_10 : Cond.selects R_Sc y_Sc_scanText y_Sc_scanText ∈ gG := gG_in (List.mem_append_left _ (List.mem_of_getElem? (i := 10) (by decide +kernel))) rfl
set_option maxRecDepth 20000 in
theorem mc_Sc_is : Cond.code y_Sc_is prog_8_method_14_code 3 (Option.some Jvm.ClassFile.FieldType.boolean) ∈ gG := gG_in (List.mem_append_right _ (List.mem_of_getElem? (i := 357) rfl)) rfl
set_option maxRecDepth 20000 in
theorem m_354 : Cond.methodLink R_Sc 67 y_Sc_is ∈ gG := gG_in (List.mem_append_right _ (List.mem_of_getElem? (i := 354) (by decide +kernel))) rfl
set_option maxRecDepth 20000 in
theorem m_356 : Cond.instanceMethod y_Sc_is ∈ gG := gG_in (List.mem_append_right _ (List.mem_of_getElem? (i := 356) (by decide +kernel))) rfl
set_option maxRecDepth 20000 in
theorem ms_4 : Cond.selects R_Sc y_Sc_is y_Sc_is ∈ gG := gG_in (List.mem_append_left _ (List.mem_of_getElem? (i := 4) (by decide +kernel))) rfl
set_option maxRecDepth 20000 in
theorem mc_Sc_isBelowTooLarge : Cond.code y_Sc_isBelowTooLarge prog_8_method_20_code 6 (Option.some Jvm.ClassFile.FieldType.boolean) ∈ gG := gG_in (List.mem_append_right _ (List.mem_of_getElem? (i := 441) rfl)) rfl
set_option maxRecDepth 20000 in
theorem m_438 : Cond.methodLink R_Sc 118 y_Sc_isBelowTooLarge ∈ gG := gG_in (List.mem_append_right _ (List.mem_of_getElem? (i := 438) (by decide +kernel))) rfl
set_option maxRecDepth 20000 in
theorem m_440 : Cond.instanceMethod y_Sc_isBelowTooLarge ∈ gG := gG_in (List.mem_append_right _ (List.mem_of_getElem? (i := 440) (by decide +kernel))) rfl
set_option maxRecDepth 20000 in
theorem ms_9 : Cond.selects R_Sc y_Sc_isBelowTooLarge y_Sc_isBelowTooLarge ∈ gG := gG_in (List.mem_append_left _ (List.mem_of_getElem? (i := 9) (by decide +kernel))) rfl
set_option maxRecDepth 20000 in
theorem mc_Sc_exponent : Cond.code y_Sc_exponent prog_8_method_19_code 5 (Option.some Jvm.ClassFile.FieldType.int) ∈ gG := gG_in (List.mem_append_right _ (List.mem_of_getElem? (i := 434) rfl)) rfl
set_option maxRecDepth 20000 in
theorem m_431 : Cond.methodLink R_Sc 113 y_Sc_exponent ∈ gG := gG_in (List.mem_append_right _ (List.mem_of_getElem? (i := 431) (by decide +kernel))) rfl
set_option maxRecDepth 20000 in
theorem m_433 : Cond.instanceMethod y_Sc_exponent ∈ gG := gG_in (List.mem_append_right _ (List.mem_of_getElem? (i := 433) (by decide +kernel))) rfl
set_option maxRecDepth 20000 in
theorem ms_8 : Cond.selects R_Sc y_Sc_exponent y_Sc_exponent ∈ gG := gG_in (List.mem_append_left _ (List.mem_of_getElem? (i := 8) (by decide +kernel))) rfl
set_option maxRecDepth 20000 in
theorem mc_Wr_isElse : Cond.code y_Wr_isElse prog_10_method_11_code 3 (Option.some Jvm.ClassFile.FieldType.boolean) ∈ gG := gG_in (List.mem_append_right _ (List.mem_of_getElem? (i := 920) rfl)) rfl
set_option maxRecDepth 20000 in
theorem m_917 : Cond.methodLink R_Wr 138 y_Wr_isElse ∈ gG := gG_in (List.mem_append_right _ (List.mem_of_getElem? (i := 917) (by decide +kernel))) rfl
set_option maxRecDepth 20000 in
theorem m_919 : Cond.instanceMethod y_Wr_isElse ∈ gG := gG_in (List.mem_append_right _ (List.mem_of_getElem? (i := 919) (by decide +kernel))) rfl
set_option maxRecDepth 20000 in
theorem ms_85 : Cond.selects R_Wr y_Wr_isElse y_Wr_isElse ∈ gG := gG_in (List.mem_append_left _ (List.mem_of_getElem? (i := 85) (by decide +kernel))) rfl
set_option maxRecDepth 20000 in
theorem mc_Wr_trailOfFunction : Cond.code y_Wr_trailOfFunction prog_10_method_16_code 4 (Option.none : Option Jvm.ClassFile.FieldType) ∈ gG := gG_in (List.mem_append_right _ (List.mem_of_getElem? (i := 958) rfl)) rfl
set_option maxRecDepth 20000 in
theorem m_955 : Cond.methodLink R_Wr 165 y_Wr_trailOfFunction ∈ gG := gG_in (List.mem_append_right _ (List.mem_of_getElem? (i := 955) (by decide +kernel))) rfl
set_option maxRecDepth 20000 in
theorem m_957 : Cond.instanceMethod y_Wr_trailOfFunction ∈ gG := gG_in (List.mem_append_right _ (List.mem_of_getElem? (i := 957) (by decide +kernel))) rfl
set_option maxRecDepth 20000 in
theorem ms_92 : Cond.selects R_Wr y_Wr_trailOfFunction y_Wr_trailOfFunction ∈ gG := gG_in (List.mem_append_left _ (List.mem_of_getElem? (i := 92) (by decide +kernel))) rfl
set_option maxRecDepth 20000 in
theorem mc_Wr_isPowerSign : Cond.code y_Wr_isPowerSign prog_10_method_19_code 3 (Option.some Jvm.ClassFile.FieldType.boolean) ∈ gG := gG_in (List.mem_append_right _ (List.mem_of_getElem? (i := 931) rfl)) rfl
set_option maxRecDepth 20000 in
theorem m_928 : Cond.methodLink R_Wr 180 y_Wr_isPowerSign ∈ gG := gG_in (List.mem_append_right _ (List.mem_of_getElem? (i := 928) (by decide +kernel))) rfl
set_option maxRecDepth 20000 in
theorem m_930 : Cond.instanceMethod y_Wr_isPowerSign ∈ gG := gG_in (List.mem_append_right _ (List.mem_of_getElem? (i := 930) (by decide +kernel))) rfl
set_option maxRecDepth 20000 in
theorem ms_87 : Cond.selects R_Wr y_Wr_isPowerSign y_Wr_isPowerSign ∈ gG := gG_in (List.mem_append_left _ (List.mem_of_getElem? (i := 87) (by decide +kernel))) rfl
set_option maxRecDepth 20000 in
theorem mc_Sc_wordOrName : Cond.code y_Sc_wordOrName prog_8_method_13_code 1 (Option.some Jvm.ClassFile.FieldType.int) ∈ gG := gG_in (List.mem_append_right _ (List.mem_of_getElem? (i := 352) rfl)) rfl
set_option maxRecDepth 20000 in
theorem m_349 : Cond.methodLink R_Sc 62 y_Sc_wordOrName ∈ gG := gG_in (List.mem_append_right _ (List.mem_of_getElem? (i := 349) (by decide +kernel))) rfl
set_option maxRecDepth 20000 in
theorem m_351 : Cond.instanceMethod y_Sc_wordOrName ∈ gG := gG_in (List.mem_append_right _ (List.mem_of_getElem? (i := 351) (by decide +kernel))) rfl
set_option maxRecDepth 20000 in
theorem ms_3 : Cond.selects R_Sc y_Sc_wordOrName y_Sc_wordOrName ∈ gG := gG_in (List.mem_append_left _ (List.mem_of_getElem? (i := 3) (by decide +kernel))) rfl
set_option maxRecDepth 20000 in
theorem mc_Sc_isFinite : Cond.code y_Sc_isFinite prog_8_method_18_code 8 (Option.some Jvm.ClassFile.FieldType.boolean) ∈ gG := gG_in (List.mem_append_right _ (List.mem_of_getElem? (i := 430) rfl)) rfl
set_option maxRecDepth 20000 in
theorem m_427 : Cond.methodLink R_Sc 109 y_Sc_isFinite ∈ gG := gG_in (List.mem_append_right _ (List.mem_of_getElem? (i := 427) (by decide +kernel))) rfl
set_option maxRecDepth 20000 in
theorem m_429 : Cond.instanceMethod y_Sc_isFinite ∈ gG := gG_in (List.mem_append_right _ (List.mem_of_getElem? (i := 429) (by decide +kernel))) rfl
set_option maxRecDepth 20000 in
theorem ms_7 : Cond.selects R_Sc y_Sc_isFinite y_Sc_isFinite ∈ gG := gG_in (List.mem_append_left _ (List.mem_of_getElem? (i := 7) (by decide +kernel))) rfl
set_option maxRecDepth 20000 in
theorem mc_Wr_trail : Cond.code y_Wr_trail prog_10_method_15_code 4 (Option.none : Option Jvm.ClassFile.FieldType) ∈ gG := gG_in (List.mem_append_right _ (List.mem_of_getElem? (i := 954) rfl)) rfl
set_option maxRecDepth 20000 in
theorem m_951 : Cond.methodLink R_Wr 102 y_Wr_trail ∈ gG := gG_in (List.mem_append_right _ (List.mem_of_getElem? (i := 951) (by decide +kernel))) rfl
set_option maxRecDepth 20000 in
theorem m_953 : Cond.instanceMethod y_Wr_trail ∈ gG := gG_in (List.mem_append_right _ (List.mem_of_getElem? (i := 953) (by decide +kernel))) rfl
set_option maxRecDepth 20000 in
theorem ms_91 : Cond.selects R_Wr y_Wr_trail y_Wr_trail ∈ gG := gG_in (List.mem_append_left _ (List.mem_of_getElem? (i := 91) (by decide +kernel))) rfl
set_option maxRecDepth 20000 in
theorem mc_Wr_needsBrackets : Cond.code y_Wr_needsBrackets prog_10_method_18_code 3 (Option.some Jvm.ClassFile.FieldType.boolean) ∈ gG := gG_in (List.mem_append_right _ (List.mem_of_getElem? (i := 927) rfl)) rfl
set_option maxRecDepth 20000 in
theorem m_924 : Cond.methodLink R_Wr 88 y_Wr_needsBrackets ∈ gG := gG_in (List.mem_append_right _ (List.mem_of_getElem? (i := 924) (by decide +kernel))) rfl
set_option maxRecDepth 20000 in
theorem m_926 : Cond.instanceMethod y_Wr_needsBrackets ∈ gG := gG_in (List.mem_append_right _ (List.mem_of_getElem? (i := 926) (by decide +kernel))) rfl
set_option maxRecDepth 20000 in
theorem ms_86 : Cond.selects R_Wr y_Wr_needsBrackets y_Wr_needsBrackets ∈ gG := gG_in (List.mem_append_left _ (List.mem_of_getElem? (i := 86) (by decide +kernel))) rfl
set_option maxRecDepth 20000 in
theorem mc_Wr_finish : Cond.code y_Wr_finish prog_10_method_14_code 2 (Option.none : Option Jvm.ClassFile.FieldType) ∈ gG := gG_in (List.mem_append_right _ (List.mem_of_getElem? (i := 945) rfl)) rfl
set_option maxRecDepth 20000 in
theorem m_942 : Cond.methodLink R_Wr 97 y_Wr_finish ∈ gG := gG_in (List.mem_append_right _ (List.mem_of_getElem? (i := 942) (by decide +kernel))) rfl
set_option maxRecDepth 20000 in
theorem m_944 : Cond.instanceMethod y_Wr_finish ∈ gG := gG_in (List.mem_append_right _ (List.mem_of_getElem? (i := 944) (by decide +kernel))) rfl
set_option maxRecDepth 20000 in
theorem ms_90 : Cond.selects R_Wr y_Wr_finish y_Wr_finish ∈ gG := gG_in (List.mem_append_left _ (List.mem_of_getElem? (i := 90) (by decide +kernel))) rfl
set_option maxRecDepth 20000 in
theorem mc_Wr_putOperation : Cond.code y_Wr_putOperation prog_10_method_12_code 3 (Option.none : Option Jvm.ClassFile.FieldType) ∈ gG := gG_in (List.mem_append_right _ (List.mem_of_getElem? (i := 902) rfl)) rfl
set_option maxRecDepth 20000 in
theorem m_899 : Cond.methodLink R_Wr 131 y_Wr_putOperation ∈ gG := gG_in (List.mem_append_right _ (List.mem_of_getElem? (i := 899) (by decide +kernel))) rfl
set_option maxRecDepth 20000 in
theorem m_901 : Cond.instanceMethod y_Wr_putOperation ∈ gG := gG_in (List.mem_append_right _ (List.mem_of_getElem? (i := 901) (by decide +kernel))) rfl
set_option maxRecDepth 20000 in
theorem ms_82 : Cond.selects R_Wr y_Wr_putOperation y_Wr_putOperation ∈ gG := gG_in (List.mem_append_left _ (List.mem_of_getElem? (i := 82) (by decide +kernel))) rfl
set_option maxRecDepth 20000 in
theorem mc_Sc_scanNumeral : Cond.code y_Sc_scanNumeral prog_8_method_16_code 6 (Option.none : Option Jvm.ClassFile.FieldType) ∈ gG := gG_in (List.mem_append_right _ (List.mem_of_getElem? (i := 422) rfl)) rfl
set_option maxRecDepth 20000 in
theorem m_419 : Cond.methodLink R_Sc 48 y_Sc_scanNumeral ∈ gG := gG_in (List.mem_append_right _ (List.mem_of_getElem? (i := 419) (by decide +kernel))) rfl
set_option maxRecDepth 20000 in
theorem m_421 : Cond.instanceMethod y_Sc_scanNumeral ∈ gG := gG_in (List.mem_append_right _ (List.mem_of_getElem? (i := 421) (by decide +kernel))) rfl
set_option maxRecDepth 20000 in
theorem ms_5 : Cond.selects R_Sc y_Sc_scanNumeral y_Sc_scanNumeral ∈ gG := gG_in (List.mem_append_left _ (List.mem_of_getElem? (i := 5) (by decide +kernel))) rfl
set_option maxRecDepth 20000 in
theorem mc_Sc_scanName : Cond.code y_Sc_scanName prog_8_method_12_code 2 (Option.none : Option Jvm.ClassFile.FieldType) ∈ gG := gG_in (List.mem_append_right _ (List.mem_of_getElem? (i := 345) rfl)) rfl
set_option maxRecDepth 20000 in
theorem m_342 : Cond.methodLink R_Sc 42 y_Sc_scanName ∈ gG := gG_in (List.mem_append_right _ (List.mem_of_getElem? (i := 342) (by decide +kernel))) rfl
set_option maxRecDepth 20000 in
theorem m_344 : Cond.instanceMethod y_Sc_scanName ∈ gG := gG_in (List.mem_append_right _ (List.mem_of_getElem? (i := 344) (by decide +kernel))) rfl
set_option maxRecDepth 20000 in
theorem ms_2 : Cond.selects R_Sc y_Sc_scanName y_Sc_scanName ∈ gG := gG_in (List.mem_append_left _ (List.mem_of_getElem? (i := 2) (by decide +kernel))) rfl
set_option maxRecDepth 20000 in
theorem mc_Sc_skipBlanks : Cond.code y_Sc_skipBlanks prog_8_method_9_code 3 (Option.none : Option Jvm.ClassFile.FieldType) ∈ gG := gG_in (List.mem_append_right _ (List.mem_of_getElem? (i := 333) rfl)) rfl
set_option maxRecDepth 20000 in
theorem m_330 : Cond.methodLink R_Sc 31 y_Sc_skipBlanks ∈ gG := gG_in (List.mem_append_right _ (List.mem_of_getElem? (i := 330) (by decide +kernel))) rfl
set_option maxRecDepth 20000 in
theorem m_332 : Cond.instanceMethod y_Sc_skipBlanks ∈ gG := gG_in (List.mem_append_right _ (List.mem_of_getElem? (i := 332) (by decide +kernel))) rfl
set_option maxRecDepth 20000 in
theorem ms_1 : Cond.selects R_Sc y_Sc_skipBlanks y_Sc_skipBlanks ∈ gG := gG_in (List.mem_append_left _ (List.mem_of_getElem? (i := 1) (by decide +kernel))) rfl
set_option maxRecDepth 20000 in
theorem mc_Wr_lead : Cond.code y_Wr_lead prog_10_method_10_code 3 (Option.none : Option Jvm.ClassFile.FieldType) ∈ gG := gG_in (List.mem_append_right _ (List.mem_of_getElem? (i := 894) rfl)) rfl
set_option maxRecDepth 20000 in
theorem m_891 : Cond.methodLink R_Wr 85 y_Wr_lead ∈ gG := gG_in (List.mem_append_right _ (List.mem_of_getElem? (i := 891) (by decide +kernel))) rfl
set_option maxRecDepth 20000 in
theorem m_893 : Cond.instanceMethod y_Wr_lead ∈ gG := gG_in (List.mem_append_right _ (List.mem_of_getElem? (i := 893) (by decide +kernel))) rfl
set_option maxRecDepth 20000 in
theorem ms_81 : Cond.selects R_Wr y_Wr_lead y_Wr_lead ∈ gG := gG_in (List.mem_append_left _ (List.mem_of_getElem? (i := 81) (by decide +kernel))) rfl
set_option maxRecDepth 20000 in
theorem mc_Wr_leadFirst : Cond.code y_Wr_leadFirst prog_10_method_9_code 3 (Option.none : Option Jvm.ClassFile.FieldType) ∈ gG := gG_in (List.mem_append_right _ (List.mem_of_getElem? (i := 868) rfl)) rfl
set_option maxRecDepth 20000 in
theorem m_865 : Cond.methodLink R_Wr 81 y_Wr_leadFirst ∈ gG := gG_in (List.mem_append_right _ (List.mem_of_getElem? (i := 865) (by decide +kernel))) rfl
set_option maxRecDepth 20000 in
theorem m_867 : Cond.instanceMethod y_Wr_leadFirst ∈ gG := gG_in (List.mem_append_right _ (List.mem_of_getElem? (i := 867) (by decide +kernel))) rfl
set_option maxRecDepth 20000 in
theorem ms_77 : Cond.selects R_Wr y_Wr_leadFirst y_Wr_leadFirst ∈ gG := gG_in (List.mem_append_left _ (List.mem_of_getElem? (i := 77) (by decide +kernel))) rfl
set_option maxRecDepth 20000 in
theorem mc_Wr_begin : Cond.code y_Wr_begin prog_10_method_13_code 2 (Option.none : Option Jvm.ClassFile.FieldType) ∈ gG := gG_in (List.mem_append_right _ (List.mem_of_getElem? (i := 936) rfl)) rfl
set_option maxRecDepth 20000 in
theorem m_933 : Cond.methodLink R_Wr 94 y_Wr_begin ∈ gG := gG_in (List.mem_append_right _ (List.mem_of_getElem? (i := 933) (by decide +kernel))) rfl
set_option maxRecDepth 20000 in
theorem m_935 : Cond.instanceMethod y_Wr_begin ∈ gG := gG_in (List.mem_append_right _ (List.mem_of_getElem? (i := 935) (by decide +kernel))) rfl
set_option maxRecDepth 20000 in
theorem ms_88 : Cond.selects R_Wr y_Wr_begin y_Wr_begin ∈ gG := gG_in (List.mem_append_left _ (List.mem_of_getElem? (i := 88) (by decide +kernel))) rfl
set_option maxRecDepth 20000 in
theorem mc_Wr_enter : Cond.code y_Wr_enter prog_10_method_7_code 3 (Option.none : Option Jvm.ClassFile.FieldType) ∈ gG := gG_in (List.mem_append_right _ (List.mem_of_getElem? (i := 863) rfl)) rfl
set_option maxRecDepth 20000 in
theorem m_860 : Cond.methodLink R_Wr 42 y_Wr_enter ∈ gG := gG_in (List.mem_append_right _ (List.mem_of_getElem? (i := 860) (by decide +kernel))) rfl
set_option maxRecDepth 20000 in
theorem m_862 : Cond.instanceMethod y_Wr_enter ∈ gG := gG_in (List.mem_append_right _ (List.mem_of_getElem? (i := 862) (by decide +kernel))) rfl
set_option maxRecDepth 20000 in
theorem ms_76 : Cond.selects R_Wr y_Wr_enter y_Wr_enter ∈ gG := gG_in (List.mem_append_left _ (List.mem_of_getElem? (i := 76) (by decide +kernel))) rfl
set_option maxRecDepth 20000 in
theorem m_859 : Cond.methodLink R_Wr 38 y_Nd_count ∈ gG := gG_in (List.mem_append_right _ (List.mem_of_getElem? (i := 859) (by decide +kernel))) rfl
set_option maxRecDepth 20000 in
theorem mc_Wr_leave : Cond.code y_Wr_leave prog_10_method_8_code 3 (Option.none : Option Jvm.ClassFile.FieldType) ∈ gG := gG_in (List.mem_append_right _ (List.mem_of_getElem? (i := 941) rfl)) rfl
set_option maxRecDepth 20000 in
theorem m_938 : Cond.methodLink R_Wr 49 y_Wr_leave ∈ gG := gG_in (List.mem_append_right _ (List.mem_of_getElem? (i := 938) (by decide +kernel))) rfl
set_option maxRecDepth 20000 in
theorem m_940 : Cond.instanceMethod y_Wr_leave ∈ gG := gG_in (List.mem_append_right _ (List.mem_of_getElem? (i := 940) (by decide +kernel))) rfl
set_option maxRecDepth 20000 in
theorem ms_89 : Cond.selects R_Wr y_Wr_leave y_Wr_leave ∈ gG := gG_in (List.mem_append_left _ (List.mem_of_getElem? (i := 89) (by decide +kernel))) rfl
set_option maxRecDepth 20000 in
theorem mc_Wr_fits : Cond.code y_Wr_fits prog_10_method_2_code 7 (Option.some Jvm.ClassFile.FieldType.boolean) ∈ gG := gG_in (List.mem_append_right _ (List.mem_of_getElem? (i := 857) rfl)) rfl
set_option maxRecDepth 20000 in
theorem m_854 : Cond.methodLink R_Eq 100 y_Wr_fits ∈ gG := gG_in (List.mem_append_right _ (List.mem_of_getElem? (i := 854) (by decide +kernel))) rfl
set_option maxRecDepth 20000 in
theorem m_855 : Cond.instanceMethod y_Wr_fits ∈ gG := gG_in (List.mem_append_right _ (List.mem_of_getElem? (i := 855) (by decide +kernel))) rfl
set_option maxRecDepth 20000 in
theorem m_856 : Cond.selects R_Wr y_Wr_fits y_Wr_fits ∈ gG := gG_in (List.mem_append_right _ (List.mem_of_getElem? (i := 856) (by decide +kernel))) rfl
theorem k_Eq_50 : GoodIn gG (wsV R_Eq 50 R_Rw y_Rw_size (.code y_Rw_size prog_7_method_2_code 1 (Option.some Jvm.ClassFile.FieldType.int) :: gG)) := gdV m_268 m_269 m_270 m_4 mc_Rw_size
theorem k_Eq_55 : GoodIn gG (wsV R_Eq 55 R_Rw y_Rw_addFour (.code y_Rw_addFour prog_7_method_5_code 3 (Option.none : Option Jvm.ClassFile.FieldType) :: gG)) := gdV m_273 m_274 m_275 m_4 mc_Rw_addFour
theorem k_Eq_83 : GoodIn gG (wsV R_Eq 83 R_Nd y_Nd_count (.code y_Nd_count prog_4_method_2_code 1 (Option.some Jvm.ClassFile.FieldType.int) :: gG)) := gdV m_830 m_745 m_746 m_5 mc_Nd_count
theorem k_Eq_86 : GoodIn gG (wsV R_Eq 86 R_Nd y_Nd_get (.code y_Nd_get prog_4_method_3_code 3 (Option.some Jvm.ClassFile.FieldType.int) :: gG)) := gdV m_835 m_468 m_469 m_5 mc_Nd_get
theorem k_Eq_90 : GoodIn gG (wsV R_Eq 90 R_Nd y_Nd_after (.code y_Nd_after prog_4_method_6_code 2 (Option.some Jvm.ClassFile.FieldType.int) :: gG)) := gdV m_840 m_815 m_816 m_5 mc_Nd_after
theorem k_Eq_97 : GoodIn gG (wsV R_Eq 97 R_Rw y_Rw_at (.code y_Rw_at prog_7_method_3_code 2 (Option.some Jvm.ClassFile.FieldType.int) :: gG)) := gdV m_849 m_336 m_337 m_4 mc_Rw_at
theorem k_Eq_94 : GoodIn gG (wsV R_Eq 94 R_Nd y_Nd_tokenPlace (.code y_Nd_tokenPlace prog_4_method_7_code 2 (Option.some Jvm.ClassFile.FieldType.int) :: gG)) := gdV m_845 m_846 m_847 m_5 mc_Nd_tokenPlace
theorem k_Eq_104 : GoodIn gG (wsV R_Eq 104 R_Rw y_Rw_become (.code y_Rw_become prog_7_method_7_code 3 (Option.none : Option Jvm.ClassFile.FieldType) :: gG)) := gdV m_969 m_970 m_971 m_4 mc_Rw_become
theorem k_Sc_34 : GoodIn gG (wsV R_Sc 34 R_Rw y_Rw_at (.code y_Rw_at prog_7_method_3_code 2 (Option.some Jvm.ClassFile.FieldType.int) :: gG)) := gdV m_335 m_336 m_337 m_4 mc_Rw_at
theorem k_Sc_58 : GoodIn gG (wsV R_Sc 58 R_Rw y_Rw_size (.code y_Rw_size prog_7_method_2_code 1 (Option.some Jvm.ClassFile.FieldType.int) :: gG)) := gdV m_334 m_269 m_270 m_4 mc_Rw_size
theorem k_Sc_45 : GoodIn gG (va_wsS R_Sc 45 y_Sc_isDigit (.code y_Sc_isDigit prog_8_method_11_code 1 (Option.some Jvm.ClassFile.FieldType.boolean) :: gG)) := gdS m_346 m_347 m_3 mc_Sc_isDigit
theorem k_Sc_38 : GoodIn gG (va_wsS R_Sc 38 y_Sc_isLetter (.code y_Sc_isLetter prog_8_method_10_code 1 (Option.some Jvm.ClassFile.FieldType.boolean) :: gG)) := gdS m_339 m_340 m_3 mc_Sc_isLetter
theorem k_Sc_97 : GoodIn gG (wsV R_Sc 97 R_JS y_JS_length (.code y_JS_length prog_19_method_54_code 1 (Option.some Jvm.ClassFile.FieldType.int) :: gG)) := gdV m_358 m_359 m_360 m_18 mc_JS_length
theorem k_Sc_102 : GoodIn gG (wsV R_Sc 102 R_JS y_JS_charAt (.code y_JS_charAt prog_19_method_56_code 2 (Option.some Jvm.ClassFile.FieldType.char) :: gG)) := gdV m_368 m_369 m_370 m_18 mc_JS_charAt
theorem k_Sc_106 : GoodIn gG (wsV R_Sc 106 R_Sc y_Sc_digitsEnd (.code y_Sc_digitsEnd prog_8_method_17_code 3 (Option.some Jvm.ClassFile.FieldType.int) :: gG)) := gdV m_423 m_425 ms_6 m_3 mc_Sc_digitsEnd
theorem k_Wr_34 : GoodIn gG (wsV R_Wr 34 R_Rw y_Rw_cut (.code y_Rw_cut prog_7_method_6_code 2 (Option.none : Option Jvm.ClassFile.FieldType) :: gG)) := gdV m_858 m_819 m_820 m_4 mc_Rw_cut
theorem k_Wr_52 : GoodIn gG (wsV R_Wr 52 R_Nd y_Nd_get (.code y_Nd_get prog_4_method_3_code 3 (Option.some Jvm.ClassFile.FieldType.int) :: gG)) := gdV m_864 m_468 m_469 m_5 mc_Nd_get
theorem k_Wr_56 : GoodIn gG (wsV R_Wr 56 R_JS y_JS_length (.code y_JS_length prog_19_method_54_code 1 (Option.some Jvm.ClassFile.FieldType.int) :: gG)) := gdV m_879 m_359 m_360 m_18 mc_JS_length
theorem k_Wr_61 : GoodIn gG (wsV R_Wr 61 R_JS y_JS_charAt (.code y_JS_charAt prog_19_method_56_code 2 (Option.some Jvm.ClassFile.FieldType.char) :: gG)) := gdV m_880 m_369 m_370 m_18 mc_JS_charAt
theorem k_Wr_65 : GoodIn gG (wsV R_Wr 65 R_Rw y_Rw_add (.code y_Rw_add prog_7_method_4_code 2 (Option.some Jvm.ClassFile.FieldType.boolean) :: gG)) := gdV m_881 m_278 m_279 m_4 mc_Rw_add
theorem k_Wr_69 : GoodIn gG (wsV R_Wr 69 R_Nd y_Nd_tokenPlace (.code y_Nd_tokenPlace prog_4_method_7_code 2 (Option.some Jvm.ClassFile.FieldType.int) :: gG)) := gdV m_907 m_846 m_847 m_5 mc_Nd_tokenPlace
theorem k_Wr_72 : GoodIn gG (wsV R_Wr 72 R_Rw y_Rw_at (.code y_Rw_at prog_7_method_3_code 2 (Option.some Jvm.ClassFile.FieldType.int) :: gG)) := gdV m_908 m_336 m_337 m_4 mc_Rw_at
theorem k_Wr_77 : GoodIn gG (wsV R_Wr 77 R_Wr y_Wr_put (.code y_Wr_put prog_10_method_4_code 3 (Option.none : Option Jvm.ClassFile.FieldType) :: gG)) := gdV m_875 m_877 ms_79 m_8 mc_Wr_put
theorem k_Wr_114 : GoodIn gG (wsV R_Wr 114 R_Wr y_Wr_beginLine (.code y_Wr_beginLine prog_10_method_6_code 3 (Option.none : Option Jvm.ClassFile.FieldType) :: gG)) := gdV m_883 m_885 ms_80 m_8 mc_Wr_beginLine
theorem k_Wr_105 : GoodIn gG (wsV R_Wr 105 R_Wr y_Wr_kind (.code y_Wr_kind prog_10_method_3_code 2 (Option.some Jvm.ClassFile.FieldType.int) :: gG)) := gdV m_869 m_871 ms_78 m_8 mc_Wr_kind
theorem k_Wr_45 : GoodIn gG (wsV R_Wr 45 R_Nd y_Nd_after (.code y_Nd_after prog_4_method_6_code 2 (Option.some Jvm.ClassFile.FieldType.int) :: gG)) := gdV m_921 m_815 m_816 m_5 mc_Nd_after
theorem k_Wr_152 : GoodIn gG (wsV R_Wr 152 R_Wr y_Wr_putToken (.code y_Wr_putToken prog_10_method_5_code 5 (Option.none : Option Jvm.ClassFile.FieldType) :: gG)) := gdV m_912 m_914 ms_84 m_8 mc_Wr_putToken
theorem k_Wr_177 : GoodIn gG (va_wsS R_Wr 177 y_Rk_of (.code y_Rk_of prog_5_method_2_code 1 (Option.some Jvm.ClassFile.FieldType.int) :: gG)) := gdS m_910 m_604 m_22 mc_Rk_of
theorem k_Wr_172 : GoodIn gG (va_wsS R_Wr 172 y_Sc_signs (.code y_Sc_signs prog_8_method_7_code 2 (Option.some Jvm.ClassFile.FieldType.int) :: gG)) := gdS m_909 m_447 m_3 mc_Sc_signs
theorem k_Wr_145 : GoodIn gG (wsV R_Wr 145 R_Wr y_Wr_rank (.code y_Wr_rank prog_10_method_17_code 3 (Option.some Jvm.ClassFile.FieldType.int) :: gG)) := gdV m_903 m_905 ms_83 m_8 mc_Wr_rank
theorem k_Sc_54 : GoodIn gG (va_wsS R_Sc 54 y_Sc_signs (.code y_Sc_signs prog_8_method_7_code 2 (Option.some Jvm.ClassFile.FieldType.int) :: gG)) := gdS m_446 m_447 m_3 mc_Sc_signs
theorem k_Sc_51 : GoodIn gG (wsV R_Sc 51 R_Sc y_Sc_scanText (.code y_Sc_scanText prog_8_method_15_code 2 (Option.none : Option Jvm.ClassFile.FieldType) :: gG)) := gdV m_442 m_444 ms_10 m_3 mc_Sc_scanText
theorem k_Sc_67 : GoodIn gG (wsV R_Sc 67 R_Sc y_Sc_is (.code y_Sc_is prog_8_method_14_code 3 (Option.some Jvm.ClassFile.FieldType.boolean) :: gG)) := gdV m_354 m_356 ms_4 m_3 mc_Sc_is
theorem k_Sc_118 : GoodIn gG (wsV R_Sc 118 R_Sc y_Sc_isBelowTooLarge (.code y_Sc_isBelowTooLarge prog_8_method_20_code 6 (Option.some Jvm.ClassFile.FieldType.boolean) :: gG)) := gdV m_438 m_440 ms_9 m_3 mc_Sc_isBelowTooLarge
theorem k_Sc_113 : GoodIn gG (wsV R_Sc 113 R_Sc y_Sc_exponent (.code y_Sc_exponent prog_8_method_19_code 5 (Option.some Jvm.ClassFile.FieldType.int) :: gG)) := gdV m_431 m_433 ms_8 m_3 mc_Sc_exponent
theorem k_Wr_138 : GoodIn gG (wsV R_Wr 138 R_Wr y_Wr_isElse (.code y_Wr_isElse prog_10_method_11_code 3 (Option.some Jvm.ClassFile.FieldType.boolean) :: gG)) := gdV m_917 m_919 ms_85 m_8 mc_Wr_isElse
theorem k_Wr_165 : GoodIn gG (wsV R_Wr 165 R_Wr y_Wr_trailOfFunction (.code y_Wr_trailOfFunction prog_10_method_16_code 4 (Option.none : Option Jvm.ClassFile.FieldType) :: gG)) := gdV m_955 m_957 ms_92 m_8 mc_Wr_trailOfFunction
theorem k_Wr_180 : GoodIn gG (wsV R_Wr 180 R_Wr y_Wr_isPowerSign (.code y_Wr_isPowerSign prog_10_method_19_code 3 (Option.some Jvm.ClassFile.FieldType.boolean) :: gG)) := gdV m_928 m_930 ms_87 m_8 mc_Wr_isPowerSign
theorem k_Sc_62 : GoodIn gG (wsV R_Sc 62 R_Sc y_Sc_wordOrName (.code y_Sc_wordOrName prog_8_method_13_code 1 (Option.some Jvm.ClassFile.FieldType.int) :: gG)) := gdV m_349 m_351 ms_3 m_3 mc_Sc_wordOrName
theorem k_Sc_109 : GoodIn gG (wsV R_Sc 109 R_Sc y_Sc_isFinite (.code y_Sc_isFinite prog_8_method_18_code 8 (Option.some Jvm.ClassFile.FieldType.boolean) :: gG)) := gdV m_427 m_429 ms_7 m_3 mc_Sc_isFinite
theorem k_Wr_102 : GoodIn gG (wsV R_Wr 102 R_Wr y_Wr_trail (.code y_Wr_trail prog_10_method_15_code 4 (Option.none : Option Jvm.ClassFile.FieldType) :: gG)) := gdV m_951 m_953 ms_91 m_8 mc_Wr_trail
theorem k_Wr_88 : GoodIn gG (wsV R_Wr 88 R_Wr y_Wr_needsBrackets (.code y_Wr_needsBrackets prog_10_method_18_code 3 (Option.some Jvm.ClassFile.FieldType.boolean) :: gG)) := gdV m_924 m_926 ms_86 m_8 mc_Wr_needsBrackets
theorem k_Wr_97 : GoodIn gG (wsV R_Wr 97 R_Wr y_Wr_finish (.code y_Wr_finish prog_10_method_14_code 2 (Option.none : Option Jvm.ClassFile.FieldType) :: gG)) := gdV m_942 m_944 ms_90 m_8 mc_Wr_finish
theorem k_Wr_131 : GoodIn gG (wsV R_Wr 131 R_Wr y_Wr_putOperation (.code y_Wr_putOperation prog_10_method_12_code 3 (Option.none : Option Jvm.ClassFile.FieldType) :: gG)) := gdV m_899 m_901 ms_82 m_8 mc_Wr_putOperation
theorem k_Sc_48 : GoodIn gG (wsV R_Sc 48 R_Sc y_Sc_scanNumeral (.code y_Sc_scanNumeral prog_8_method_16_code 6 (Option.none : Option Jvm.ClassFile.FieldType) :: gG)) := gdV m_419 m_421 ms_5 m_3 mc_Sc_scanNumeral
theorem k_Sc_42 : GoodIn gG (wsV R_Sc 42 R_Sc y_Sc_scanName (.code y_Sc_scanName prog_8_method_12_code 2 (Option.none : Option Jvm.ClassFile.FieldType) :: gG)) := gdV m_342 m_344 ms_2 m_3 mc_Sc_scanName
theorem k_Sc_31 : GoodIn gG (wsV R_Sc 31 R_Sc y_Sc_skipBlanks (.code y_Sc_skipBlanks prog_8_method_9_code 3 (Option.none : Option Jvm.ClassFile.FieldType) :: gG)) := gdV m_330 m_332 ms_1 m_3 mc_Sc_skipBlanks
theorem k_Wr_85 : GoodIn gG (wsV R_Wr 85 R_Wr y_Wr_lead (.code y_Wr_lead prog_10_method_10_code 3 (Option.none : Option Jvm.ClassFile.FieldType) :: gG)) := gdV m_891 m_893 ms_81 m_8 mc_Wr_lead
theorem k_Wr_81 : GoodIn gG (wsV R_Wr 81 R_Wr y_Wr_leadFirst (.code y_Wr_leadFirst prog_10_method_9_code 3 (Option.none : Option Jvm.ClassFile.FieldType) :: gG)) := gdV m_865 m_867 ms_77 m_8 mc_Wr_leadFirst
theorem k_Wr_94 : GoodIn gG (wsV R_Wr 94 R_Wr y_Wr_begin (.code y_Wr_begin prog_10_method_13_code 2 (Option.none : Option Jvm.ClassFile.FieldType) :: gG)) := gdV m_933 m_935 ms_88 m_8 mc_Wr_begin
theorem k_Wr_42 : GoodIn gG (wsV R_Wr 42 R_Wr y_Wr_enter (.code y_Wr_enter prog_10_method_7_code 3 (Option.none : Option Jvm.ClassFile.FieldType) :: gG)) := gdV m_860 m_862 ms_76 m_8 mc_Wr_enter
theorem k_Wr_38 : GoodIn gG (wsV R_Wr 38 R_Nd y_Nd_count (.code y_Nd_count prog_4_method_2_code 1 (Option.some Jvm.ClassFile.FieldType.int) :: gG)) := gdV m_859 m_745 m_746 m_5 mc_Nd_count
theorem k_Wr_49 : GoodIn gG (wsV R_Wr 49 R_Wr y_Wr_leave (.code y_Wr_leave prog_10_method_8_code 3 (Option.none : Option Jvm.ClassFile.FieldType) :: gG)) := gdV m_938 m_940 ms_89 m_8 mc_Wr_leave
theorem k_Eq_100 : GoodIn gG (wsV R_Eq 100 R_Wr y_Wr_fits (.code y_Wr_fits prog_10_method_2_code 7 (Option.some Jvm.ClassFile.FieldType.boolean) :: gG)) := gdV m_854 m_855 m_856 m_8 mc_Wr_fits
noncomputable def F_Eq_feed (p1 : Int32) (p2 : Int32) (p3 : Int32) (p4 : Int32) (p5 : Int32) (fault_h0 : Int32) (size_a_tape_h0 : Int32) (n_a_bytes_a_tape_h0 : Nat) (b_a_bytes_a_tape_h0 : Nat → Int32) : Option ((Int32 × Int32 × Nat × (Nat → Int32)) × Nat × Nat) :=
  if size_a_tape_h0 ≤ 65516 then (bw (F_Rw_addFour p1 size_a_tape_h0 n_a_bytes_a_tape_h0 b_a_bytes_a_tape_h0) fun ⟨r3, r4, r5⟩ =>
    bw (F_Rw_addFour p2 r3 r4 r5) fun ⟨r12, r13, r14⟩ =>
    bw (F_Rw_addFour p3 r12 r13 r14) fun ⟨r21, r22, r23⟩ =>
    bw (F_Rw_addFour p4 r21 r22 r23) fun ⟨r30, r31, r32⟩ =>
    bw (F_Rw_addFour p5 r30 r31 r32) fun ⟨r39, r40, r41⟩ =>
    (some ((r39, r39, r40, r41), 0, 0)))
  else (some (((-1), size_a_tape_h0, n_a_bytes_a_tape_h0, b_a_bytes_a_tape_h0), 0, 0))
theorem d_Eq_feed_0 : decode prog_1_method_2_code 0 = .ok (.aload_n 0, 1) := by decide +kernel
theorem d_Eq_feed_1 : decode prog_1_method_2_code 1 = .ok (.getfield 33, 3) := by decide +kernel
theorem d_Eq_feed_4 : decode prog_1_method_2_code 4 = .ok (.invokevirtual 50, 3) := by decide +kernel
theorem d_Eq_feed_7 : decode prog_1_method_2_code 7 = .ok (.ldc 54, 2) := by decide +kernel
theorem d_Eq_feed_9 : decode prog_1_method_2_code 9 = .ok (.if_icmp .le 5, 3) := by decide +kernel
theorem d_Eq_feed_12 : decode prog_1_method_2_code 12 = .ok (.iconst (-1), 1) := by decide +kernel
theorem d_Eq_feed_13 : decode prog_1_method_2_code 13 = .ok (.ireturn, 1) := by decide +kernel
theorem d_Eq_feed_14 : decode prog_1_method_2_code 14 = .ok (.aload_n 0, 1) := by decide +kernel
theorem d_Eq_feed_15 : decode prog_1_method_2_code 15 = .ok (.getfield 33, 3) := by decide +kernel
theorem d_Eq_feed_18 : decode prog_1_method_2_code 18 = .ok (.iload_n 1, 1) := by decide +kernel
theorem d_Eq_feed_19 : decode prog_1_method_2_code 19 = .ok (.invokevirtual 55, 3) := by decide +kernel
theorem d_Eq_feed_22 : decode prog_1_method_2_code 22 = .ok (.aload_n 0, 1) := by decide +kernel
theorem d_Eq_feed_23 : decode prog_1_method_2_code 23 = .ok (.getfield 33, 3) := by decide +kernel
theorem d_Eq_feed_26 : decode prog_1_method_2_code 26 = .ok (.iload_n 2, 1) := by decide +kernel
theorem d_Eq_feed_27 : decode prog_1_method_2_code 27 = .ok (.invokevirtual 55, 3) := by decide +kernel
theorem d_Eq_feed_30 : decode prog_1_method_2_code 30 = .ok (.aload_n 0, 1) := by decide +kernel
theorem d_Eq_feed_31 : decode prog_1_method_2_code 31 = .ok (.getfield 33, 3) := by decide +kernel
theorem d_Eq_feed_34 : decode prog_1_method_2_code 34 = .ok (.iload_n 3, 1) := by decide +kernel
theorem d_Eq_feed_35 : decode prog_1_method_2_code 35 = .ok (.invokevirtual 55, 3) := by decide +kernel
theorem d_Eq_feed_38 : decode prog_1_method_2_code 38 = .ok (.aload_n 0, 1) := by decide +kernel
theorem d_Eq_feed_39 : decode prog_1_method_2_code 39 = .ok (.getfield 33, 3) := by decide +kernel
theorem d_Eq_feed_42 : decode prog_1_method_2_code 42 = .ok (.iload 4, 2) := by decide +kernel
theorem d_Eq_feed_44 : decode prog_1_method_2_code 44 = .ok (.invokevirtual 55, 3) := by decide +kernel
theorem d_Eq_feed_47 : decode prog_1_method_2_code 47 = .ok (.aload_n 0, 1) := by decide +kernel
theorem d_Eq_feed_48 : decode prog_1_method_2_code 48 = .ok (.getfield 33, 3) := by decide +kernel
theorem d_Eq_feed_51 : decode prog_1_method_2_code 51 = .ok (.iload 5, 2) := by decide +kernel
theorem d_Eq_feed_53 : decode prog_1_method_2_code 53 = .ok (.invokevirtual 55, 3) := by decide +kernel
theorem d_Eq_feed_56 : decode prog_1_method_2_code 56 = .ok (.aload_n 0, 1) := by decide +kernel
theorem d_Eq_feed_57 : decode prog_1_method_2_code 57 = .ok (.getfield 33, 3) := by decide +kernel
theorem d_Eq_feed_60 : decode prog_1_method_2_code 60 = .ok (.invokevirtual 50, 3) := by decide +kernel
theorem d_Eq_feed_63 : decode prog_1_method_2_code 63 = .ok (.ireturn, 1) := by decide +kernel
set_option maxHeartbeats 4000000 in
set_option maxRecDepth 100000 in
theorem c_Eq_feed (l : Launch) (D : va_G) (cI cB cJ cS : ClassId) (h0 : Nat) (a_reader_h0 : Nat) (a_writer_h0 : Nat) (a_tree_h0 : Nat) (a_tape_h0 : Nat) (a_source_h0 : Nat) (a_form_h0 : Nat) (a_spareForm_h0 : Nat) (a_bytes_a_tape_h0 : Nat) (p1 : Int32) (p2 : Int32) (p3 : Int32) (p4 : Int32) (p5 : Int32) (fault_h0 : Int32) (size_a_tape_h0 : Int32) (n_a_bytes_a_tape_h0 : Nat) (b_a_bytes_a_tape_h0 : Nat → Int32) (ret : Int32) (o_1_1 : Int32) (on_nq_1_0 : Nat) (ob_nq_1_0 : Nat → Int32) (mc ms : Nat) (h : F_Eq_feed p1 p2 p3 p4 p5 fault_h0 size_a_tape_h0 n_a_bytes_a_tape_h0 b_a_bytes_a_tape_h0 = some ((ret, o_1_1, on_nq_1_0, ob_nq_1_0), mc, ms)) : Ct l D (gT cI cB cJ cS) y_Eq_feed prog_1_method_2_code 6 (Option.some Jvm.ClassFile.FieldType.int) 4 125 mc ms [.ref h0, .int p1, .int p2, .int p3, .int p4, .int p5] [(h0, .inr (7, [.ref a_reader_h0, .ref a_writer_h0, .ref a_tree_h0, .ref a_tape_h0, .ref a_source_h0, .ref a_form_h0, .ref a_spareForm_h0, .int fault_h0])), (a_tape_h0, .inr (3, [.ref a_bytes_a_tape_h0, .int size_a_tape_h0])), (a_bytes_a_tape_h0, .inl (cB, n_a_bytes_a_tape_h0, .inl b_a_bytes_a_tape_h0))] (fun v w => ∃ nq_1_0 : Nat, v = some (.int ret) ∧ w = [(h0, .inr (7, [.ref a_reader_h0, .ref a_writer_h0, .ref a_tree_h0, .ref a_tape_h0, .ref a_source_h0, .ref a_form_h0, .ref a_spareForm_h0, .int fault_h0])), (a_tape_h0, .inr (3, [.ref nq_1_0, .int o_1_1])), (nq_1_0, .inl (cB, on_nq_1_0, .inl ob_nq_1_0))]) := by
  refine Ct.mk (by decide) (Nat.le_of_ble_eq_true rfl) ?_
  intro p e s m below meth c hr hnm
  refine j_norm (pc' := 0) (lv' := [(0, .ref h0), (1, .int p1), (2, .int p2), (3, .int p3), (4, .int p4), (5, .int p5)]) (st' := []) (ws' := [(h0, .inr (7, [.ref a_reader_h0, .ref a_writer_h0, .ref a_tree_h0, .ref a_tape_h0, .ref a_source_h0, .ref a_form_h0, .ref a_spareForm_h0, .int fault_h0])), (a_tape_h0, .inr (3, [.ref a_bytes_a_tape_h0, .int size_a_tape_h0])), (a_bytes_a_tape_h0, .inl (cB, n_a_bytes_a_tape_h0, .inl b_a_bytes_a_tape_h0))]) (cl' := 0) (sl' := 0) rfl rfl rfl rfl rfl rfl ?_
  unfold F_Eq_feed at h
  have hC : 0 + mc ≤ mc := by omega
  have hS : 0 + ms ≤ ms := by omega
  refine j_aload_n d_Eq_feed_0 rfl 0 rfl ?_
  refine j_get ig_Eq rfl 0 rfl 3 (by decide) rfl m_242 rfl d_Eq_feed_1 ?_
  refine j_callV (n := 0) (As := []) (rest := []) (wr := [(h0, .inr (7, [.ref a_reader_h0, .ref a_writer_h0, .ref a_tree_h0, .ref a_tape_h0, .ref a_source_h0, .ref a_form_h0, .ref a_spareForm_h0, .int fault_h0])), (a_bytes_a_tape_h0, .inl (cB, n_a_bytes_a_tape_h0, .inl b_a_bytes_a_tape_h0))]) (c_Rw_size l D cI cB cJ cS a_tape_h0 a_bytes_a_tape_h0 size_a_tape_h0  ) k_Eq_50 (by decide) ⟨Nat.le_of_ble_eq_true rfl, Nat.le_of_ble_eq_true rfl⟩ rfl 0 rfl [1] [0, 2] rfl (by decide) rfl (by decide) (by decide) rfl rfl (Nat.le_of_ble_eq_true rfl) d_Eq_feed_4 ⟨show 0 + 0 ≤ mc by omega, show 0 + 0 ≤ ms by omega⟩ (fun v w hq => ?_)
  obtain ⟨rfl, rfl⟩ := hq
  refine j_norm (pc' := 7) (st' := [.int size_a_tape_h0]) (ws' := [(h0, .inr (7, [.ref a_reader_h0, .ref a_writer_h0, .ref a_tree_h0, .ref a_tape_h0, .ref a_source_h0, .ref a_form_h0, .ref a_spareForm_h0, .int fault_h0])), (a_bytes_a_tape_h0, .inl (cB, n_a_bytes_a_tape_h0, .inl b_a_bytes_a_tape_h0)), (a_tape_h0, .inr (3, [.ref a_bytes_a_tape_h0, .int size_a_tape_h0]))]) (cl' := 0) (sl' := 0) rfl rfl rfl rfl rfl rfl ?_
  refine j_ldc (v := 65516) m_272 d_Eq_feed_7 ?_
  refine j_icmp_le (tgt := 14) d_Eq_feed_9 (by decide) (fun c2 => ?_) (fun c2 => ?_)
  · replace h := it_t c2 h
    refine j_aload_n d_Eq_feed_14 rfl 0 rfl ?_
    refine j_get ig_Eq rfl 0 rfl 3 (by decide) rfl m_242 rfl d_Eq_feed_15 ?_
    refine j_iload_n d_Eq_feed_18 rfl 1 rfl ?_
    replace h := bw_s h
    obtain ⟨⟨r3, r4, r5⟩, C7, S8, C9, S10, k11, h, e1, e2⟩ := h
    replace hC : 0 + C7 + C9 ≤ mc := by omega
    replace hS : 0 + S8 + S10 ≤ ms := by omega
    clear e1 e2
    refine j_callV (n := 1) (As := [.int p1]) (rest := []) (wr := [(h0, .inr (7, [.ref a_reader_h0, .ref a_writer_h0, .ref a_tree_h0, .ref a_tape_h0, .ref a_source_h0, .ref a_form_h0, .ref a_spareForm_h0, .int fault_h0]))]) (c_Rw_addFour l D cI cB cJ cS a_tape_h0 a_bytes_a_tape_h0 p1 size_a_tape_h0 n_a_bytes_a_tape_h0 b_a_bytes_a_tape_h0  r3 r4 r5 C7 S8 k11) k_Eq_55 (by decide) ⟨Nat.le_of_ble_eq_true rfl, Nat.le_of_ble_eq_true rfl⟩ rfl 0 rfl [2, 1] [0] rfl (by decide) rfl (by decide) (by decide) rfl rfl (Nat.le_of_ble_eq_true rfl) d_Eq_feed_19 ⟨show 0 + C7 ≤ mc by omega, show 0 + S8 ≤ ms by omega⟩ (fun v w hq => ?_)
    obtain ⟨q6, rfl, rfl⟩ := hq
    refine j_norm (pc' := 22) (st' := []) (ws' := [(h0, .inr (7, [.ref a_reader_h0, .ref a_writer_h0, .ref a_tree_h0, .ref a_tape_h0, .ref a_source_h0, .ref a_form_h0, .ref a_spareForm_h0, .int fault_h0])), (a_tape_h0, .inr (3, [.ref q6, .int r3])), (q6, .inl (cB, r4, .inl r5))]) (cl' := 0 + C7) (sl' := 0 + S8) rfl rfl rfl rfl rfl rfl ?_
    refine j_aload_n d_Eq_feed_22 rfl 0 rfl ?_
    refine j_get ig_Eq rfl 0 rfl 3 (by decide) rfl m_242 rfl d_Eq_feed_23 ?_
    refine j_iload_n d_Eq_feed_26 rfl 2 rfl ?_
    replace h := bw_s h
    obtain ⟨⟨r12, r13, r14⟩, C16, S17, C18, S19, k20, h, e1, e2⟩ := h
    replace hC : 0 + C7 + C16 + C18 ≤ mc := by omega
    replace hS : 0 + S8 + S17 + S19 ≤ ms := by omega
    clear e1 e2
    refine j_callV (n := 1) (As := [.int p2]) (rest := []) (wr := [(h0, .inr (7, [.ref a_reader_h0, .ref a_writer_h0, .ref a_tree_h0, .ref a_tape_h0, .ref a_source_h0, .ref a_form_h0, .ref a_spareForm_h0, .int fault_h0]))]) (c_Rw_addFour l D cI cB cJ cS a_tape_h0 q6 p2 r3 r4 r5  r12 r13 r14 C16 S17 k20) k_Eq_55 (by decide) ⟨Nat.le_of_ble_eq_true rfl, Nat.le_of_ble_eq_true rfl⟩ rfl 0 rfl [1, 2] [0] rfl (by decide) rfl (by decide) (by decide) rfl rfl (Nat.le_of_ble_eq_true rfl) d_Eq_feed_27 ⟨show 0 + C7 + C16 ≤ mc by omega, show 0 + S8 + S17 ≤ ms by omega⟩ (fun v w hq => ?_)
    obtain ⟨q15, rfl, rfl⟩ := hq
    refine j_norm (pc' := 30) (st' := []) (ws' := [(h0, .inr (7, [.ref a_reader_h0, .ref a_writer_h0, .ref a_tree_h0, .ref a_tape_h0, .ref a_source_h0, .ref a_form_h0, .ref a_spareForm_h0, .int fault_h0])), (a_tape_h0, .inr (3, [.ref q15, .int r12])), (q15, .inl (cB, r13, .inl r14))]) (cl' := 0 + C7 + C16) (sl' := 0 + S8 + S17) rfl rfl rfl rfl rfl rfl ?_
    refine j_aload_n d_Eq_feed_30 rfl 0 rfl ?_
    refine j_get ig_Eq rfl 0 rfl 3 (by decide) rfl m_242 rfl d_Eq_feed_31 ?_
    refine j_iload_n d_Eq_feed_34 rfl 3 rfl ?_
    replace h := bw_s h
    obtain ⟨⟨r21, r22, r23⟩, C25, S26, C27, S28, k29, h, e1, e2⟩ := h
    replace hC : 0 + C7 + C16 + C25 + C27 ≤ mc := by omega
    replace hS : 0 + S8 + S17 + S26 + S28 ≤ ms := by omega
    clear e1 e2
    refine j_callV (n := 1) (As := [.int p3]) (rest := []) (wr := [(h0, .inr (7, [.ref a_reader_h0, .ref a_writer_h0, .ref a_tree_h0, .ref a_tape_h0, .ref a_source_h0, .ref a_form_h0, .ref a_spareForm_h0, .int fault_h0]))]) (c_Rw_addFour l D cI cB cJ cS a_tape_h0 q15 p3 r12 r13 r14  r21 r22 r23 C25 S26 k29) k_Eq_55 (by decide) ⟨Nat.le_of_ble_eq_true rfl, Nat.le_of_ble_eq_true rfl⟩ rfl 0 rfl [1, 2] [0] rfl (by decide) rfl (by decide) (by decide) rfl rfl (Nat.le_of_ble_eq_true rfl) d_Eq_feed_35 ⟨show 0 + C7 + C16 + C25 ≤ mc by omega, show 0 + S8 + S17 + S26 ≤ ms by omega⟩ (fun v w hq => ?_)
    obtain ⟨q24, rfl, rfl⟩ := hq
    refine j_norm (pc' := 38) (st' := []) (ws' := [(h0, .inr (7, [.ref a_reader_h0, .ref a_writer_h0, .ref a_tree_h0, .ref a_tape_h0, .ref a_source_h0, .ref a_form_h0, .ref a_spareForm_h0, .int fault_h0])), (a_tape_h0, .inr (3, [.ref q24, .int r21])), (q24, .inl (cB, r22, .inl r23))]) (cl' := 0 + C7 + C16 + C25) (sl' := 0 + S8 + S17 + S26) rfl rfl rfl rfl rfl rfl ?_
    refine j_aload_n d_Eq_feed_38 rfl 0 rfl ?_
    refine j_get ig_Eq rfl 0 rfl 3 (by decide) rfl m_242 rfl d_Eq_feed_39 ?_
    refine j_iload d_Eq_feed_42 4 rfl ?_
    replace h := bw_s h
    obtain ⟨⟨r30, r31, r32⟩, C34, S35, C36, S37, k38, h, e1, e2⟩ := h
    replace hC : 0 + C7 + C16 + C25 + C34 + C36 ≤ mc := by omega
    replace hS : 0 + S8 + S17 + S26 + S35 + S37 ≤ ms := by omega
    clear e1 e2
    refine j_callV (n := 1) (As := [.int p4]) (rest := []) (wr := [(h0, .inr (7, [.ref a_reader_h0, .ref a_writer_h0, .ref a_tree_h0, .ref a_tape_h0, .ref a_source_h0, .ref a_form_h0, .ref a_spareForm_h0, .int fault_h0]))]) (c_Rw_addFour l D cI cB cJ cS a_tape_h0 q24 p4 r21 r22 r23  r30 r31 r32 C34 S35 k38) k_Eq_55 (by decide) ⟨Nat.le_of_ble_eq_true rfl, Nat.le_of_ble_eq_true rfl⟩ rfl 0 rfl [1, 2] [0] rfl (by decide) rfl (by decide) (by decide) rfl rfl (Nat.le_of_ble_eq_true rfl) d_Eq_feed_44 ⟨show 0 + C7 + C16 + C25 + C34 ≤ mc by omega, show 0 + S8 + S17 + S26 + S35 ≤ ms by omega⟩ (fun v w hq => ?_)
    obtain ⟨q33, rfl, rfl⟩ := hq
    refine j_norm (pc' := 47) (st' := []) (ws' := [(h0, .inr (7, [.ref a_reader_h0, .ref a_writer_h0, .ref a_tree_h0, .ref a_tape_h0, .ref a_source_h0, .ref a_form_h0, .ref a_spareForm_h0, .int fault_h0])), (a_tape_h0, .inr (3, [.ref q33, .int r30])), (q33, .inl (cB, r31, .inl r32))]) (cl' := 0 + C7 + C16 + C25 + C34) (sl' := 0 + S8 + S17 + S26 + S35) rfl rfl rfl rfl rfl rfl ?_
    refine j_aload_n d_Eq_feed_47 rfl 0 rfl ?_
    refine j_get ig_Eq rfl 0 rfl 3 (by decide) rfl m_242 rfl d_Eq_feed_48 ?_
    refine j_iload d_Eq_feed_51 5 rfl ?_
    replace h := bw_s h
    obtain ⟨⟨r39, r40, r41⟩, C43, S44, C45, S46, k47, h, e1, e2⟩ := h
    replace hC : 0 + C7 + C16 + C25 + C34 + C43 + C45 ≤ mc := by omega
    replace hS : 0 + S8 + S17 + S26 + S35 + S44 + S46 ≤ ms := by omega
    clear e1 e2
    refine j_callV (n := 1) (As := [.int p5]) (rest := []) (wr := [(h0, .inr (7, [.ref a_reader_h0, .ref a_writer_h0, .ref a_tree_h0, .ref a_tape_h0, .ref a_source_h0, .ref a_form_h0, .ref a_spareForm_h0, .int fault_h0]))]) (c_Rw_addFour l D cI cB cJ cS a_tape_h0 q33 p5 r30 r31 r32  r39 r40 r41 C43 S44 k47) k_Eq_55 (by decide) ⟨Nat.le_of_ble_eq_true rfl, Nat.le_of_ble_eq_true rfl⟩ rfl 0 rfl [1, 2] [0] rfl (by decide) rfl (by decide) (by decide) rfl rfl (Nat.le_of_ble_eq_true rfl) d_Eq_feed_53 ⟨show 0 + C7 + C16 + C25 + C34 + C43 ≤ mc by omega, show 0 + S8 + S17 + S26 + S35 + S44 ≤ ms by omega⟩ (fun v w hq => ?_)
    obtain ⟨q42, rfl, rfl⟩ := hq
    refine j_norm (pc' := 56) (st' := []) (ws' := [(h0, .inr (7, [.ref a_reader_h0, .ref a_writer_h0, .ref a_tree_h0, .ref a_tape_h0, .ref a_source_h0, .ref a_form_h0, .ref a_spareForm_h0, .int fault_h0])), (a_tape_h0, .inr (3, [.ref q42, .int r39])), (q42, .inl (cB, r40, .inl r41))]) (cl' := 0 + C7 + C16 + C25 + C34 + C43) (sl' := 0 + S8 + S17 + S26 + S35 + S44) rfl rfl rfl rfl rfl rfl ?_
    refine j_aload_n d_Eq_feed_56 rfl 0 rfl ?_
    refine j_get ig_Eq rfl 0 rfl 3 (by decide) rfl m_242 rfl d_Eq_feed_57 ?_
    refine j_callV (n := 0) (As := []) (rest := []) (wr := [(h0, .inr (7, [.ref a_reader_h0, .ref a_writer_h0, .ref a_tree_h0, .ref a_tape_h0, .ref a_source_h0, .ref a_form_h0, .ref a_spareForm_h0, .int fault_h0])), (q42, .inl (cB, r40, .inl r41))]) (c_Rw_size l D cI cB cJ cS a_tape_h0 q42 r39  ) k_Eq_50 (by decide) ⟨Nat.le_of_ble_eq_true rfl, Nat.le_of_ble_eq_true rfl⟩ rfl 0 rfl [1] [0, 2] rfl (by decide) rfl (by decide) (by decide) rfl rfl (Nat.le_of_ble_eq_true rfl) d_Eq_feed_60 ⟨show 0 + C7 + C16 + C25 + C34 + C43 + 0 ≤ mc by omega, show 0 + S8 + S17 + S26 + S35 + S44 + 0 ≤ ms by omega⟩ (fun v w hq => ?_)
    obtain ⟨rfl, rfl⟩ := hq
    refine j_norm (pc' := 63) (st' := [.int r39]) (ws' := [(h0, .inr (7, [.ref a_reader_h0, .ref a_writer_h0, .ref a_tree_h0, .ref a_tape_h0, .ref a_source_h0, .ref a_form_h0, .ref a_spareForm_h0, .int fault_h0])), (q42, .inl (cB, r40, .inl r41)), (a_tape_h0, .inr (3, [.ref q42, .int r39]))]) (cl' := 0 + C7 + C16 + C25 + C34 + C43) (sl' := 0 + S8 + S17 + S26 + S35 + S44) rfl rfl rfl rfl rfl rfl ?_
    replace h := lf_s h
    obtain ⟨h, e1, e2⟩ := h
    replace h := Prod.mk.inj h
    obtain ⟨h9, h⟩ := h
    subst h9
    replace h := Prod.mk.inj h
    obtain ⟨h9, h⟩ := h
    subst h9
    replace h := Prod.mk.inj h
    obtain ⟨h9, h⟩ := h
    subst h9
    subst h
    refine j_widen (cl' := mc) (sl' := ms) (by omega) (by omega) ?_
    exact j_iret (w := [(h0, .inr (7, [.ref a_reader_h0, .ref a_writer_h0, .ref a_tree_h0, .ref a_tape_h0, .ref a_source_h0, .ref a_form_h0, .ref a_spareForm_h0, .int fault_h0])), (a_tape_h0, .inr (3, [.ref q42, .int r39])), (q42, .inl (cB, r40, .inl r41))]) hr d_Eq_feed_63 [0, 2, 1] rfl (by decide) ⟨q42, rfl, rfl⟩
  · replace h := it_f c2 h
    refine j_iconst (v := (-1)) d_Eq_feed_12 (by decide) ?_
    replace h := lf_s h
    obtain ⟨h, e1, e2⟩ := h
    replace h := Prod.mk.inj h
    obtain ⟨h9, h⟩ := h
    subst h9
    replace h := Prod.mk.inj h
    obtain ⟨h9, h⟩ := h
    subst h9
    replace h := Prod.mk.inj h
    obtain ⟨h9, h⟩ := h
    subst h9
    subst h
    refine j_widen (cl' := mc) (sl' := ms) (by omega) (by omega) ?_
    exact j_iret (w := [(h0, .inr (7, [.ref a_reader_h0, .ref a_writer_h0, .ref a_tree_h0, .ref a_tape_h0, .ref a_source_h0, .ref a_form_h0, .ref a_spareForm_h0, .int fault_h0])), (a_tape_h0, .inr (3, [.ref a_bytes_a_tape_h0, .int size_a_tape_h0])), (a_bytes_a_tape_h0, .inl (cB, n_a_bytes_a_tape_h0, .inl b_a_bytes_a_tape_h0))]) hr d_Eq_feed_13 [0, 2, 1] rfl (by decide) ⟨a_bytes_a_tape_h0, rfl, rfl⟩
theorem d_Eq_place_0 : decode prog_1_method_5_code 0 = .ok (.aload_n 0, 1) := by decide +kernel
theorem d_Eq_place_1 : decode prog_1_method_5_code 1 = .ok (.getfield 46, 3) := by decide +kernel
theorem d_Eq_place_4 : decode prog_1_method_5_code 4 = .ok (.ireturn, 1) := by decide +kernel
set_option maxHeartbeats 4000000 in
set_option maxRecDepth 100000 in
theorem c_Eq_place (l : Launch) (D : va_G) (cI cB cJ cS : ClassId) (h0 : Nat) (a_reader_h0 : Nat) (a_writer_h0 : Nat) (a_tree_h0 : Nat) (a_tape_h0 : Nat) (a_source_h0 : Nat) (a_form_h0 : Nat) (a_spareForm_h0 : Nat) (fault_h0 : Int32) : Ct l D (gT cI cB cJ cS) y_Eq_place prog_1_method_5_code 1 (Option.some Jvm.ClassFile.FieldType.int) 0 0 0 0 [.ref h0] [(h0, .inr (7, [.ref a_reader_h0, .ref a_writer_h0, .ref a_tree_h0, .ref a_tape_h0, .ref a_source_h0, .ref a_form_h0, .ref a_spareForm_h0, .int fault_h0]))] (fun v w => v = some (.int fault_h0) ∧ w = [(h0, .inr (7, [.ref a_reader_h0, .ref a_writer_h0, .ref a_tree_h0, .ref a_tape_h0, .ref a_source_h0, .ref a_form_h0, .ref a_spareForm_h0, .int fault_h0]))]) := by
  refine Ct.mk (by decide) (Nat.le_of_ble_eq_true rfl) ?_
  intro p e s m below meth c hr hnm
  refine j_norm (pc' := 0) (lv' := [(0, .ref h0)]) (st' := []) (ws' := [(h0, .inr (7, [.ref a_reader_h0, .ref a_writer_h0, .ref a_tree_h0, .ref a_tape_h0, .ref a_source_h0, .ref a_form_h0, .ref a_spareForm_h0, .int fault_h0]))]) (cl' := 0) (sl' := 0) rfl rfl rfl rfl rfl rfl ?_
  refine j_aload_n d_Eq_place_0 rfl 0 rfl ?_
  refine j_get ig_Eq rfl 0 rfl 7 (by decide) rfl m_246 rfl d_Eq_place_1 ?_
  exact j_iret (w := [(h0, .inr (7, [.ref a_reader_h0, .ref a_writer_h0, .ref a_tree_h0, .ref a_tape_h0, .ref a_source_h0, .ref a_form_h0, .ref a_spareForm_h0, .int fault_h0]))]) hr d_Eq_place_4 [0] rfl (by decide) ⟨rfl, rfl⟩
theorem d_Eq_nodes_0 : decode prog_1_method_6_code 0 = .ok (.aload_n 0, 1) := by decide +kernel
theorem d_Eq_nodes_1 : decode prog_1_method_6_code 1 = .ok (.getfield 26, 3) := by decide +kernel
theorem d_Eq_nodes_4 : decode prog_1_method_6_code 4 = .ok (.invokevirtual 83, 3) := by decide +kernel
theorem d_Eq_nodes_7 : decode prog_1_method_6_code 7 = .ok (.ireturn, 1) := by decide +kernel
set_option maxHeartbeats 4000000 in
set_option maxRecDepth 100000 in
theorem c_Eq_nodes (l : Launch) (D : va_G) (cI cB cJ cS : ClassId) (h0 : Nat) (a_reader_h0 : Nat) (a_writer_h0 : Nat) (a_tree_h0 : Nat) (a_tape_h0 : Nat) (a_source_h0 : Nat) (a_form_h0 : Nat) (a_spareForm_h0 : Nat) (a_cells_a_tree_h0 : Nat) (fault_h0 : Int32) (count_a_tree_h0 : Int32) : Ct l D (gT cI cB cJ cS) y_Eq_nodes prog_1_method_6_code 1 (Option.some Jvm.ClassFile.FieldType.int) 1 20 0 0 [.ref h0] [(h0, .inr (7, [.ref a_reader_h0, .ref a_writer_h0, .ref a_tree_h0, .ref a_tape_h0, .ref a_source_h0, .ref a_form_h0, .ref a_spareForm_h0, .int fault_h0])), (a_tree_h0, .inr (1, [.ref a_cells_a_tree_h0, .int count_a_tree_h0]))] (fun v w => v = some (.int count_a_tree_h0) ∧ w = [(h0, .inr (7, [.ref a_reader_h0, .ref a_writer_h0, .ref a_tree_h0, .ref a_tape_h0, .ref a_source_h0, .ref a_form_h0, .ref a_spareForm_h0, .int fault_h0])), (a_tree_h0, .inr (1, [.ref a_cells_a_tree_h0, .int count_a_tree_h0]))]) := by
  refine Ct.mk (by decide) (Nat.le_of_ble_eq_true rfl) ?_
  intro p e s m below meth c hr hnm
  refine j_norm (pc' := 0) (lv' := [(0, .ref h0)]) (st' := []) (ws' := [(h0, .inr (7, [.ref a_reader_h0, .ref a_writer_h0, .ref a_tree_h0, .ref a_tape_h0, .ref a_source_h0, .ref a_form_h0, .ref a_spareForm_h0, .int fault_h0])), (a_tree_h0, .inr (1, [.ref a_cells_a_tree_h0, .int count_a_tree_h0]))]) (cl' := 0) (sl' := 0) rfl rfl rfl rfl rfl rfl ?_
  refine j_aload_n d_Eq_nodes_0 rfl 0 rfl ?_
  refine j_get ig_Eq rfl 0 rfl 2 (by decide) rfl m_241 rfl d_Eq_nodes_1 ?_
  refine j_callV (n := 0) (As := []) (rest := []) (wr := [(h0, .inr (7, [.ref a_reader_h0, .ref a_writer_h0, .ref a_tree_h0, .ref a_tape_h0, .ref a_source_h0, .ref a_form_h0, .ref a_spareForm_h0, .int fault_h0]))]) (c_Nd_count l D cI cB cJ cS a_tree_h0 a_cells_a_tree_h0 count_a_tree_h0  ) k_Eq_83 (by decide) ⟨Nat.le_of_ble_eq_true rfl, Nat.le_of_ble_eq_true rfl⟩ rfl 0 rfl [1] [0] rfl (by decide) rfl (by decide) (by decide) rfl rfl (Nat.le_of_ble_eq_true rfl) d_Eq_nodes_4 ⟨Nat.le_of_ble_eq_true rfl, Nat.le_of_ble_eq_true rfl⟩ (fun v w hq => ?_)
  obtain ⟨rfl, rfl⟩ := hq
  refine j_norm (pc' := 7) (st' := [.int count_a_tree_h0]) (ws' := [(h0, .inr (7, [.ref a_reader_h0, .ref a_writer_h0, .ref a_tree_h0, .ref a_tape_h0, .ref a_source_h0, .ref a_form_h0, .ref a_spareForm_h0, .int fault_h0])), (a_tree_h0, .inr (1, [.ref a_cells_a_tree_h0, .int count_a_tree_h0]))]) (cl' := 0) (sl' := 0) rfl rfl rfl rfl rfl rfl ?_
  exact j_iret (w := [(h0, .inr (7, [.ref a_reader_h0, .ref a_writer_h0, .ref a_tree_h0, .ref a_tape_h0, .ref a_source_h0, .ref a_form_h0, .ref a_spareForm_h0, .int fault_h0])), (a_tree_h0, .inr (1, [.ref a_cells_a_tree_h0, .int count_a_tree_h0]))]) hr d_Eq_nodes_7 [0, 1] rfl (by decide) ⟨rfl, rfl⟩
def F_Eq_node (p1 : Int32) (p2 : Int32) (fault_h0 : Int32) (count_a_tree_h0 : Int32) (n_a_cells_a_tree_h0 : Nat) (b_a_cells_a_tree_h0 : Nat → Int32) : Option (Int32) :=
  if p2 < 0 then (some (-1))
  else if 3 < p2 then (some (-1))
  else (Option.bind (F_Nd_get p1 p2 count_a_tree_h0 n_a_cells_a_tree_h0 b_a_cells_a_tree_h0) fun r3 =>
    (some r3))
theorem d_Eq_node_0 : decode prog_1_method_7_code 0 = .ok (.iload_n 2, 1) := by decide +kernel
theorem d_Eq_node_1 : decode prog_1_method_7_code 1 = .ok (.ifCond .lt 20, 3) := by decide +kernel
theorem d_Eq_node_4 : decode prog_1_method_7_code 4 = .ok (.iload_n 2, 1) := by decide +kernel
theorem d_Eq_node_5 : decode prog_1_method_7_code 5 = .ok (.iconst 3, 1) := by decide +kernel
theorem d_Eq_node_6 : decode prog_1_method_7_code 6 = .ok (.if_icmp .gt 15, 3) := by decide +kernel
theorem d_Eq_node_9 : decode prog_1_method_7_code 9 = .ok (.aload_n 0, 1) := by decide +kernel
theorem d_Eq_node_10 : decode prog_1_method_7_code 10 = .ok (.getfield 26, 3) := by decide +kernel
theorem d_Eq_node_13 : decode prog_1_method_7_code 13 = .ok (.iload_n 1, 1) := by decide +kernel
theorem d_Eq_node_14 : decode prog_1_method_7_code 14 = .ok (.iload_n 2, 1) := by decide +kernel
theorem d_Eq_node_15 : decode prog_1_method_7_code 15 = .ok (.invokevirtual 86, 3) := by decide +kernel
theorem d_Eq_node_18 : decode prog_1_method_7_code 18 = .ok (.goto 4, 3) := by decide +kernel
theorem d_Eq_node_21 : decode prog_1_method_7_code 21 = .ok (.iconst (-1), 1) := by decide +kernel
theorem d_Eq_node_22 : decode prog_1_method_7_code 22 = .ok (.ireturn, 1) := by decide +kernel
set_option maxHeartbeats 4000000 in
set_option maxRecDepth 100000 in
theorem c_Eq_node (l : Launch) (D : va_G) (cI cB cJ cS : ClassId) (h0 : Nat) (a_reader_h0 : Nat) (a_writer_h0 : Nat) (a_tree_h0 : Nat) (a_tape_h0 : Nat) (a_source_h0 : Nat) (a_form_h0 : Nat) (a_spareForm_h0 : Nat) (a_cells_a_tree_h0 : Nat) (p1 : Int32) (p2 : Int32) (fault_h0 : Int32) (count_a_tree_h0 : Int32) (n_a_cells_a_tree_h0 : Nat) (b_a_cells_a_tree_h0 : Nat → Int32) (ret : Int32) (h : F_Eq_node p1 p2 fault_h0 count_a_tree_h0 n_a_cells_a_tree_h0 b_a_cells_a_tree_h0 = some ret) : Ct l D (gT cI cB cJ cS) y_Eq_node prog_1_method_7_code 3 (Option.some Jvm.ClassFile.FieldType.int) 1 22 0 0 [.ref h0, .int p1, .int p2] [(h0, .inr (7, [.ref a_reader_h0, .ref a_writer_h0, .ref a_tree_h0, .ref a_tape_h0, .ref a_source_h0, .ref a_form_h0, .ref a_spareForm_h0, .int fault_h0])), (a_tree_h0, .inr (1, [.ref a_cells_a_tree_h0, .int count_a_tree_h0])), (a_cells_a_tree_h0, .inl (cI, n_a_cells_a_tree_h0, .inl b_a_cells_a_tree_h0))] (fun v w => v = some (.int ret) ∧ w = [(h0, .inr (7, [.ref a_reader_h0, .ref a_writer_h0, .ref a_tree_h0, .ref a_tape_h0, .ref a_source_h0, .ref a_form_h0, .ref a_spareForm_h0, .int fault_h0])), (a_tree_h0, .inr (1, [.ref a_cells_a_tree_h0, .int count_a_tree_h0])), (a_cells_a_tree_h0, .inl (cI, n_a_cells_a_tree_h0, .inl b_a_cells_a_tree_h0))]) := by
  refine Ct.mk (by decide) (Nat.le_of_ble_eq_true rfl) ?_
  intro p e s m below meth c hr hnm
  refine j_norm (pc' := 0) (lv' := [(0, .ref h0), (1, .int p1), (2, .int p2)]) (st' := []) (ws' := [(h0, .inr (7, [.ref a_reader_h0, .ref a_writer_h0, .ref a_tree_h0, .ref a_tape_h0, .ref a_source_h0, .ref a_form_h0, .ref a_spareForm_h0, .int fault_h0])), (a_tree_h0, .inr (1, [.ref a_cells_a_tree_h0, .int count_a_tree_h0])), (a_cells_a_tree_h0, .inl (cI, n_a_cells_a_tree_h0, .inl b_a_cells_a_tree_h0))]) (cl' := 0) (sl' := 0) rfl rfl rfl rfl rfl rfl ?_
  unfold F_Eq_node at h
  refine j_iload_n d_Eq_node_0 rfl 2 rfl ?_
  refine j_if_lt (tgt := 21) d_Eq_node_1 (by decide) (fun c1 => ?_) (fun c1 => ?_)
  · replace h := it_t c1 h
    refine j_iconst (v := (-1)) d_Eq_node_21 (by decide) ?_
    replace h := Option.some.inj h
    subst h
    exact j_iret (w := [(h0, .inr (7, [.ref a_reader_h0, .ref a_writer_h0, .ref a_tree_h0, .ref a_tape_h0, .ref a_source_h0, .ref a_form_h0, .ref a_spareForm_h0, .int fault_h0])), (a_tree_h0, .inr (1, [.ref a_cells_a_tree_h0, .int count_a_tree_h0])), (a_cells_a_tree_h0, .inl (cI, n_a_cells_a_tree_h0, .inl b_a_cells_a_tree_h0))]) hr d_Eq_node_22 [0, 1, 2] rfl (by decide) ⟨rfl, rfl⟩
  · replace h := it_f c1 h
    refine j_iload_n d_Eq_node_4 rfl 2 rfl ?_
    refine j_iconst (v := 3) d_Eq_node_5 (by decide) ?_
    refine j_icmp_gt (tgt := 21) d_Eq_node_6 (by decide) (fun c2 => ?_) (fun c2 => ?_)
    · replace h := it_t c2 h
      refine j_iconst (v := (-1)) d_Eq_node_21 (by decide) ?_
      replace h := Option.some.inj h
      subst h
      exact j_iret (w := [(h0, .inr (7, [.ref a_reader_h0, .ref a_writer_h0, .ref a_tree_h0, .ref a_tape_h0, .ref a_source_h0, .ref a_form_h0, .ref a_spareForm_h0, .int fault_h0])), (a_tree_h0, .inr (1, [.ref a_cells_a_tree_h0, .int count_a_tree_h0])), (a_cells_a_tree_h0, .inl (cI, n_a_cells_a_tree_h0, .inl b_a_cells_a_tree_h0))]) hr d_Eq_node_22 [0, 1, 2] rfl (by decide) ⟨rfl, rfl⟩
    · replace h := it_f c2 h
      refine j_aload_n d_Eq_node_9 rfl 0 rfl ?_
      refine j_get ig_Eq rfl 0 rfl 2 (by decide) rfl m_241 rfl d_Eq_node_10 ?_
      refine j_iload_n d_Eq_node_13 rfl 1 rfl ?_
      refine j_iload_n d_Eq_node_14 rfl 2 rfl ?_
      replace h := bd_s h
      obtain ⟨r3, k4, h⟩ := h
      refine j_callV (n := 2) (As := [.int p1, .int p2]) (rest := []) (wr := [(h0, .inr (7, [.ref a_reader_h0, .ref a_writer_h0, .ref a_tree_h0, .ref a_tape_h0, .ref a_source_h0, .ref a_form_h0, .ref a_spareForm_h0, .int fault_h0]))]) (c_Nd_get l D cI cB cJ cS a_tree_h0 a_cells_a_tree_h0 p1 p2 count_a_tree_h0 n_a_cells_a_tree_h0 b_a_cells_a_tree_h0  r3 k4) k_Eq_86 (by decide) ⟨Nat.le_of_ble_eq_true rfl, Nat.le_of_ble_eq_true rfl⟩ rfl 0 rfl [1, 2] [0] rfl (by decide) rfl (by decide) (by decide) rfl rfl (Nat.le_of_ble_eq_true rfl) d_Eq_node_15 ⟨Nat.le_of_ble_eq_true rfl, Nat.le_of_ble_eq_true rfl⟩ (fun v w hq => ?_)
      obtain ⟨rfl, rfl⟩ := hq
      refine j_norm (pc' := 18) (st' := [.int r3]) (ws' := [(h0, .inr (7, [.ref a_reader_h0, .ref a_writer_h0, .ref a_tree_h0, .ref a_tape_h0, .ref a_source_h0, .ref a_form_h0, .ref a_spareForm_h0, .int fault_h0])), (a_tree_h0, .inr (1, [.ref a_cells_a_tree_h0, .int count_a_tree_h0])), (a_cells_a_tree_h0, .inl (cI, n_a_cells_a_tree_h0, .inl b_a_cells_a_tree_h0))]) (cl' := 0) (sl' := 0) rfl rfl rfl rfl rfl rfl ?_
      refine j_goto (tgt := 22) d_Eq_node_18 (by decide) ?_
      replace h := Option.some.inj h
      subst h
      exact j_iret (w := [(h0, .inr (7, [.ref a_reader_h0, .ref a_writer_h0, .ref a_tree_h0, .ref a_tape_h0, .ref a_source_h0, .ref a_form_h0, .ref a_spareForm_h0, .int fault_h0])), (a_tree_h0, .inr (1, [.ref a_cells_a_tree_h0, .int count_a_tree_h0])), (a_cells_a_tree_h0, .inl (cI, n_a_cells_a_tree_h0, .inl b_a_cells_a_tree_h0))]) hr d_Eq_node_22 [0, 1, 2] rfl (by decide) ⟨rfl, rfl⟩
def F_Eq_part_26 (p2 : Int32) (count_a_tree_h0 : Int32) (n_a_cells_a_tree_h0 : Nat) (b_a_cells_a_tree_h0 : Nat → Int32) : Nat → Int32 → Int32 → Option (Int32)
  | 0, _, _ => none
  | k_26 + 1, v4_26, v3_26 =>
    if p2 ≤ v4_26 then (some v3_26)
    else (Option.bind (F_Nd_after v3_26 count_a_tree_h0 n_a_cells_a_tree_h0 b_a_cells_a_tree_h0) fun r2 =>
      F_Eq_part_26 p2 count_a_tree_h0 n_a_cells_a_tree_h0 b_a_cells_a_tree_h0  k_26 (v4_26 + 1) r2)
def F_Eq_part (p1 : Int32) (p2 : Int32) (fault_h0 : Int32) (count_a_tree_h0 : Int32) (n_a_cells_a_tree_h0 : Nat) (b_a_cells_a_tree_h0 : Nat → Int32) : Option (Int32) :=
  if p2 < 0 then (some (-1))
  else (Option.bind (F_Nd_get p1 3 count_a_tree_h0 n_a_cells_a_tree_h0 b_a_cells_a_tree_h0) fun r5 =>
    if p2 < r5 then (F_Eq_part_26 p2 count_a_tree_h0 n_a_cells_a_tree_h0 b_a_cells_a_tree_h0  FU 0 (p1 + 1))
    else (some (-1)))
theorem d_Eq_part_0 : decode prog_1_method_8_code 0 = .ok (.iload_n 2, 1) := by decide +kernel
theorem d_Eq_part_1 : decode prog_1_method_8_code 1 = .ok (.ifCond .lt 16, 3) := by decide +kernel
theorem d_Eq_part_4 : decode prog_1_method_8_code 4 = .ok (.iload_n 2, 1) := by decide +kernel
theorem d_Eq_part_5 : decode prog_1_method_8_code 5 = .ok (.aload_n 0, 1) := by decide +kernel
theorem d_Eq_part_6 : decode prog_1_method_8_code 6 = .ok (.getfield 26, 3) := by decide +kernel
theorem d_Eq_part_9 : decode prog_1_method_8_code 9 = .ok (.iload_n 1, 1) := by decide +kernel
theorem d_Eq_part_10 : decode prog_1_method_8_code 10 = .ok (.iconst 3, 1) := by decide +kernel
theorem d_Eq_part_11 : decode prog_1_method_8_code 11 = .ok (.invokevirtual 86, 3) := by decide +kernel
theorem d_Eq_part_14 : decode prog_1_method_8_code 14 = .ok (.if_icmp .lt 5, 3) := by decide +kernel
theorem d_Eq_part_17 : decode prog_1_method_8_code 17 = .ok (.iconst (-1), 1) := by decide +kernel
theorem d_Eq_part_18 : decode prog_1_method_8_code 18 = .ok (.ireturn, 1) := by decide +kernel
theorem d_Eq_part_19 : decode prog_1_method_8_code 19 = .ok (.iload_n 1, 1) := by decide +kernel
theorem d_Eq_part_20 : decode prog_1_method_8_code 20 = .ok (.iconst 1, 1) := by decide +kernel
theorem d_Eq_part_21 : decode prog_1_method_8_code 21 = .ok (.iadd, 1) := by decide +kernel
theorem d_Eq_part_22 : decode prog_1_method_8_code 22 = .ok (.istore_n 3, 1) := by decide +kernel
theorem d_Eq_part_23 : decode prog_1_method_8_code 23 = .ok (.iconst 0, 1) := by decide +kernel
theorem d_Eq_part_24 : decode prog_1_method_8_code 24 = .ok (.istore 4, 2) := by decide +kernel
theorem d_Eq_part_26 : decode prog_1_method_8_code 26 = .ok (.iload 4, 2) := by decide +kernel
theorem d_Eq_part_28 : decode prog_1_method_8_code 28 = .ok (.iload_n 2, 1) := by decide +kernel
theorem d_Eq_part_29 : decode prog_1_method_8_code 29 = .ok (.if_icmp .ge 18, 3) := by decide +kernel
theorem d_Eq_part_32 : decode prog_1_method_8_code 32 = .ok (.aload_n 0, 1) := by decide +kernel
theorem d_Eq_part_33 : decode prog_1_method_8_code 33 = .ok (.getfield 26, 3) := by decide +kernel
theorem d_Eq_part_36 : decode prog_1_method_8_code 36 = .ok (.iload_n 3, 1) := by decide +kernel
theorem d_Eq_part_37 : decode prog_1_method_8_code 37 = .ok (.invokevirtual 90, 3) := by decide +kernel
theorem d_Eq_part_40 : decode prog_1_method_8_code 40 = .ok (.istore_n 3, 1) := by decide +kernel
theorem d_Eq_part_41 : decode prog_1_method_8_code 41 = .ok (.iinc 4 1, 3) := by decide +kernel
theorem d_Eq_part_44 : decode prog_1_method_8_code 44 = .ok (.goto (-18), 3) := by decide +kernel
theorem d_Eq_part_47 : decode prog_1_method_8_code 47 = .ok (.iload_n 3, 1) := by decide +kernel
theorem d_Eq_part_48 : decode prog_1_method_8_code 48 = .ok (.ireturn, 1) := by decide +kernel
set_option maxHeartbeats 4000000 in
set_option maxRecDepth 100000 in
theorem L_Eq_part_26 (l : Launch) (D : va_G) (cI cB cJ cS : ClassId) (h0 : Nat) (a_reader_h0 : Nat) (a_writer_h0 : Nat) (a_tree_h0 : Nat) (a_tape_h0 : Nat) (a_source_h0 : Nat) (a_form_h0 : Nat) (a_spareForm_h0 : Nat) (a_cells_a_tree_h0 : Nat) (p1 : Int32) (p2 : Int32) (fault_h0 : Int32) (count_a_tree_h0 : Int32) (n_a_cells_a_tree_h0 : Nat) (b_a_cells_a_tree_h0 : Nat → Int32) (ret : Int32) (p : Program) (e : Env) (s : State) (m : MethodId) (below : List Frame) (meth : Method) (c : Code) (hr : meth.sig.returnType = (Option.some Jvm.ClassFile.FieldType.int)) (hnm : meth.name = y_Eq_part.name) : ∀ (k_26 : Nat) (v4_26 : Int32) (v3_26 : Int32), F_Eq_part_26 p2 count_a_tree_h0 n_a_cells_a_tree_h0 b_a_cells_a_tree_h0  k_26 v4_26 v3_26 = some ret → J (KxOf p l e { frames := 2, cells := 0, slots := 0, locals := 43 } s m [.ref h0, .int p1, .int p2].toArray below meth c D (gT cI cB cJ cS) [(h0, .inr (7, [.ref a_reader_h0, .ref a_writer_h0, .ref a_tree_h0, .ref a_tape_h0, .ref a_source_h0, .ref a_form_h0, .ref a_spareForm_h0, .int fault_h0])), (a_tree_h0, .inr (1, [.ref a_cells_a_tree_h0, .int count_a_tree_h0])), (a_cells_a_tree_h0, .inl (cI, n_a_cells_a_tree_h0, .inl b_a_cells_a_tree_h0))] (fun v w => v = some (.int ret) ∧ w = [(h0, .inr (7, [.ref a_reader_h0, .ref a_writer_h0, .ref a_tree_h0, .ref a_tape_h0, .ref a_source_h0, .ref a_form_h0, .ref a_spareForm_h0, .int fault_h0])), (a_tree_h0, .inr (1, [.ref a_cells_a_tree_h0, .int count_a_tree_h0])), (a_cells_a_tree_h0, .inl (cI, n_a_cells_a_tree_h0, .inl b_a_cells_a_tree_h0))]) 0 0) prog_1_method_8_code 5 R_Eq 26 [(4, .int v4_26), (3, .int v3_26), (0, .ref h0), (1, .int p1), (2, .int p2)] [] [(h0, .inr (7, [.ref a_reader_h0, .ref a_writer_h0, .ref a_tree_h0, .ref a_tape_h0, .ref a_source_h0, .ref a_form_h0, .ref a_spareForm_h0, .int fault_h0])), (a_tree_h0, .inr (1, [.ref a_cells_a_tree_h0, .int count_a_tree_h0])), (a_cells_a_tree_h0, .inl (cI, n_a_cells_a_tree_h0, .inl b_a_cells_a_tree_h0))] 0 0 := by
  intro k_26
  induction k_26 with
  | zero => intro v4_26 v3_26 h; rw [F_Eq_part_26] at h; cases h
  | succ k_26 ih_26 =>
    intro v4_26 v3_26 h
    rw [F_Eq_part_26] at h
    refine j_iload d_Eq_part_26 0 rfl ?_
    refine j_iload_n d_Eq_part_28 rfl 4 rfl ?_
    refine j_icmp_ge (tgt := 47) d_Eq_part_29 (by decide) (fun c1 => ?_) (fun c1 => ?_)
    · replace h := it_t c1 h
      refine j_iload_n d_Eq_part_47 rfl 1 rfl ?_
      replace h := Option.some.inj h
      subst h
      exact j_iret (w := [(h0, .inr (7, [.ref a_reader_h0, .ref a_writer_h0, .ref a_tree_h0, .ref a_tape_h0, .ref a_source_h0, .ref a_form_h0, .ref a_spareForm_h0, .int fault_h0])), (a_tree_h0, .inr (1, [.ref a_cells_a_tree_h0, .int count_a_tree_h0])), (a_cells_a_tree_h0, .inl (cI, n_a_cells_a_tree_h0, .inl b_a_cells_a_tree_h0))]) hr d_Eq_part_48 [0, 1, 2] rfl (by decide) ⟨rfl, rfl⟩
    · replace h := it_f c1 h
      refine j_aload_n d_Eq_part_32 rfl 2 rfl ?_
      refine j_get ig_Eq rfl 0 rfl 2 (by decide) rfl m_241 rfl d_Eq_part_33 ?_
      refine j_iload_n d_Eq_part_36 rfl 1 rfl ?_
      replace h := bd_s h
      obtain ⟨r2, k3, h⟩ := h
      refine j_callV (n := 1) (As := [.int v3_26]) (rest := []) (wr := [(h0, .inr (7, [.ref a_reader_h0, .ref a_writer_h0, .ref a_tree_h0, .ref a_tape_h0, .ref a_source_h0, .ref a_form_h0, .ref a_spareForm_h0, .int fault_h0]))]) (c_Nd_after l D cI cB cJ cS a_tree_h0 a_cells_a_tree_h0 v3_26 count_a_tree_h0 n_a_cells_a_tree_h0 b_a_cells_a_tree_h0  r2 k3) k_Eq_90 (by decide) ⟨Nat.le_of_ble_eq_true rfl, Nat.le_of_ble_eq_true rfl⟩ rfl 0 rfl [1, 2] [0] rfl (by decide) rfl (by decide) (by decide) rfl rfl (Nat.le_of_ble_eq_true rfl) d_Eq_part_37 ⟨Nat.le_of_ble_eq_true rfl, Nat.le_of_ble_eq_true rfl⟩ (fun v w hq => ?_)
      obtain ⟨rfl, rfl⟩ := hq
      refine j_norm (pc' := 40) (st' := [.int r2]) (ws' := [(h0, .inr (7, [.ref a_reader_h0, .ref a_writer_h0, .ref a_tree_h0, .ref a_tape_h0, .ref a_source_h0, .ref a_form_h0, .ref a_spareForm_h0, .int fault_h0])), (a_tree_h0, .inr (1, [.ref a_cells_a_tree_h0, .int count_a_tree_h0])), (a_cells_a_tree_h0, .inl (cI, n_a_cells_a_tree_h0, .inl b_a_cells_a_tree_h0))]) (cl' := 0) (sl' := 0) rfl rfl rfl rfl rfl rfl ?_
      refine j_istore_n (lv' := [(3, .int r2), (4, .int v4_26), (0, .ref h0), (1, .int p1), (2, .int p2)]) d_Eq_part_40 rfl (by decide) rfl ?_
      refine j_iinc (v := v4_26 + 1) (lv' := [(4, .int (v4_26 + 1)), (3, .int r2), (0, .ref h0), (1, .int p1), (2, .int p2)]) d_Eq_part_41 1 rfl rfl (by decide) rfl ?_
      refine j_goto (tgt := 26) d_Eq_part_44 (by decide) ?_
      refine j_sub (w := [(h0, .inr (7, [.ref a_reader_h0, .ref a_writer_h0, .ref a_tree_h0, .ref a_tape_h0, .ref a_source_h0, .ref a_form_h0, .ref a_spareForm_h0, .int fault_h0])), (a_tree_h0, .inr (1, [.ref a_cells_a_tree_h0, .int count_a_tree_h0])), (a_cells_a_tree_h0, .inl (cI, n_a_cells_a_tree_h0, .inl b_a_cells_a_tree_h0))]) (lv' := [(4, .int (v4_26 + 1)), (3, .int r2), (0, .ref h0), (1, .int p1), (2, .int p2)]) [0, 1, 2] rfl (by decide) [0, 1, 2, 3, 4] rfl ?_
      exact ih_26 (v4_26 + 1) r2 h
set_option maxHeartbeats 4000000 in
set_option maxRecDepth 100000 in
theorem c_Eq_part (l : Launch) (D : va_G) (cI cB cJ cS : ClassId) (h0 : Nat) (a_reader_h0 : Nat) (a_writer_h0 : Nat) (a_tree_h0 : Nat) (a_tape_h0 : Nat) (a_source_h0 : Nat) (a_form_h0 : Nat) (a_spareForm_h0 : Nat) (a_cells_a_tree_h0 : Nat) (p1 : Int32) (p2 : Int32) (fault_h0 : Int32) (count_a_tree_h0 : Int32) (n_a_cells_a_tree_h0 : Nat) (b_a_cells_a_tree_h0 : Nat → Int32) (ret : Int32) (h : F_Eq_part p1 p2 fault_h0 count_a_tree_h0 n_a_cells_a_tree_h0 b_a_cells_a_tree_h0 = some ret) : Ct l D (gT cI cB cJ cS) y_Eq_part prog_1_method_8_code 5 (Option.some Jvm.ClassFile.FieldType.int) 2 43 0 0 [.ref h0, .int p1, .int p2] [(h0, .inr (7, [.ref a_reader_h0, .ref a_writer_h0, .ref a_tree_h0, .ref a_tape_h0, .ref a_source_h0, .ref a_form_h0, .ref a_spareForm_h0, .int fault_h0])), (a_tree_h0, .inr (1, [.ref a_cells_a_tree_h0, .int count_a_tree_h0])), (a_cells_a_tree_h0, .inl (cI, n_a_cells_a_tree_h0, .inl b_a_cells_a_tree_h0))] (fun v w => v = some (.int ret) ∧ w = [(h0, .inr (7, [.ref a_reader_h0, .ref a_writer_h0, .ref a_tree_h0, .ref a_tape_h0, .ref a_source_h0, .ref a_form_h0, .ref a_spareForm_h0, .int fault_h0])), (a_tree_h0, .inr (1, [.ref a_cells_a_tree_h0, .int count_a_tree_h0])), (a_cells_a_tree_h0, .inl (cI, n_a_cells_a_tree_h0, .inl b_a_cells_a_tree_h0))]) := by
  refine Ct.mk (by decide) (Nat.le_of_ble_eq_true rfl) ?_
  intro p e s m below meth c hr hnm
  refine j_norm (pc' := 0) (lv' := [(0, .ref h0), (1, .int p1), (2, .int p2)]) (st' := []) (ws' := [(h0, .inr (7, [.ref a_reader_h0, .ref a_writer_h0, .ref a_tree_h0, .ref a_tape_h0, .ref a_source_h0, .ref a_form_h0, .ref a_spareForm_h0, .int fault_h0])), (a_tree_h0, .inr (1, [.ref a_cells_a_tree_h0, .int count_a_tree_h0])), (a_cells_a_tree_h0, .inl (cI, n_a_cells_a_tree_h0, .inl b_a_cells_a_tree_h0))]) (cl' := 0) (sl' := 0) rfl rfl rfl rfl rfl rfl ?_
  unfold F_Eq_part at h
  refine j_iload_n d_Eq_part_0 rfl 2 rfl ?_
  refine j_if_lt (tgt := 17) d_Eq_part_1 (by decide) (fun c4 => ?_) (fun c4 => ?_)
  · replace h := it_t c4 h
    refine j_iconst (v := (-1)) d_Eq_part_17 (by decide) ?_
    replace h := Option.some.inj h
    subst h
    exact j_iret (w := [(h0, .inr (7, [.ref a_reader_h0, .ref a_writer_h0, .ref a_tree_h0, .ref a_tape_h0, .ref a_source_h0, .ref a_form_h0, .ref a_spareForm_h0, .int fault_h0])), (a_tree_h0, .inr (1, [.ref a_cells_a_tree_h0, .int count_a_tree_h0])), (a_cells_a_tree_h0, .inl (cI, n_a_cells_a_tree_h0, .inl b_a_cells_a_tree_h0))]) hr d_Eq_part_18 [0, 1, 2] rfl (by decide) ⟨rfl, rfl⟩
  · replace h := it_f c4 h
    refine j_iload_n d_Eq_part_4 rfl 2 rfl ?_
    refine j_aload_n d_Eq_part_5 rfl 0 rfl ?_
    refine j_get ig_Eq rfl 0 rfl 2 (by decide) rfl m_241 rfl d_Eq_part_6 ?_
    refine j_iload_n d_Eq_part_9 rfl 1 rfl ?_
    refine j_iconst (v := 3) d_Eq_part_10 (by decide) ?_
    replace h := bd_s h
    obtain ⟨r5, k6, h⟩ := h
    refine j_callV (n := 2) (As := [.int p1, .int 3]) (rest := [.int p2]) (wr := [(h0, .inr (7, [.ref a_reader_h0, .ref a_writer_h0, .ref a_tree_h0, .ref a_tape_h0, .ref a_source_h0, .ref a_form_h0, .ref a_spareForm_h0, .int fault_h0]))]) (c_Nd_get l D cI cB cJ cS a_tree_h0 a_cells_a_tree_h0 p1 3 count_a_tree_h0 n_a_cells_a_tree_h0 b_a_cells_a_tree_h0  r5 k6) k_Eq_86 (by decide) ⟨Nat.le_of_ble_eq_true rfl, Nat.le_of_ble_eq_true rfl⟩ rfl 0 rfl [1, 2] [0] rfl (by decide) rfl (by decide) (by decide) rfl rfl (Nat.le_of_ble_eq_true rfl) d_Eq_part_11 ⟨Nat.le_of_ble_eq_true rfl, Nat.le_of_ble_eq_true rfl⟩ (fun v w hq => ?_)
    obtain ⟨rfl, rfl⟩ := hq
    refine j_norm (pc' := 14) (st' := [.int r5, .int p2]) (ws' := [(h0, .inr (7, [.ref a_reader_h0, .ref a_writer_h0, .ref a_tree_h0, .ref a_tape_h0, .ref a_source_h0, .ref a_form_h0, .ref a_spareForm_h0, .int fault_h0])), (a_tree_h0, .inr (1, [.ref a_cells_a_tree_h0, .int count_a_tree_h0])), (a_cells_a_tree_h0, .inl (cI, n_a_cells_a_tree_h0, .inl b_a_cells_a_tree_h0))]) (cl' := 0) (sl' := 0) rfl rfl rfl rfl rfl rfl ?_
    refine j_icmp_lt (tgt := 19) d_Eq_part_14 (by decide) (fun c7 => ?_) (fun c7 => ?_)
    · replace h := it_t c7 h
      refine j_iload_n d_Eq_part_19 rfl 1 rfl ?_
      refine j_iconst (v := 1) d_Eq_part_20 (by decide) ?_
      refine j_iadd d_Eq_part_21 ?_
      refine j_istore_n (lv' := [(3, .int (p1 + 1)), (0, .ref h0), (1, .int p1), (2, .int p2)]) d_Eq_part_22 rfl (by decide) rfl ?_
      refine j_iconst (v := 0) d_Eq_part_23 (by decide) ?_
      refine j_istore (lv' := [(4, .int 0), (3, .int (p1 + 1)), (0, .ref h0), (1, .int p1), (2, .int p2)]) d_Eq_part_24 (by decide) rfl ?_
      refine j_sub (w := [(h0, .inr (7, [.ref a_reader_h0, .ref a_writer_h0, .ref a_tree_h0, .ref a_tape_h0, .ref a_source_h0, .ref a_form_h0, .ref a_spareForm_h0, .int fault_h0])), (a_tree_h0, .inr (1, [.ref a_cells_a_tree_h0, .int count_a_tree_h0])), (a_cells_a_tree_h0, .inl (cI, n_a_cells_a_tree_h0, .inl b_a_cells_a_tree_h0))]) (lv' := [(4, .int 0), (3, .int (p1 + 1)), (0, .ref h0), (1, .int p1), (2, .int p2)]) [0, 1, 2] rfl (by decide) [0, 1, 2, 3, 4] rfl ?_
      exact L_Eq_part_26 l D cI cB cJ cS h0 a_reader_h0 a_writer_h0 a_tree_h0 a_tape_h0 a_source_h0 a_form_h0 a_spareForm_h0 a_cells_a_tree_h0 p1 p2 fault_h0 count_a_tree_h0 n_a_cells_a_tree_h0 b_a_cells_a_tree_h0 ret p e s m below meth c hr hnm FU 0 (p1 + 1) h
    · replace h := it_f c7 h
      refine j_iconst (v := (-1)) d_Eq_part_17 (by decide) ?_
      replace h := Option.some.inj h
      subst h
      exact j_iret (w := [(h0, .inr (7, [.ref a_reader_h0, .ref a_writer_h0, .ref a_tree_h0, .ref a_tape_h0, .ref a_source_h0, .ref a_form_h0, .ref a_spareForm_h0, .int fault_h0])), (a_tree_h0, .inr (1, [.ref a_cells_a_tree_h0, .int count_a_tree_h0])), (a_cells_a_tree_h0, .inl (cI, n_a_cells_a_tree_h0, .inl b_a_cells_a_tree_h0))]) hr d_Eq_part_18 [0, 1, 2] rfl (by decide) ⟨rfl, rfl⟩
def F_Eq_character (p1 : Int32) (p2 : Int32) (fault_h0 : Int32) (count_a_tree_h0 : Int32) (n_a_cells_a_tree_h0 : Nat) (b_a_cells_a_tree_h0 : Nat → Int32) (size_a_source_h0 : Int32) (n_a_bytes_a_source_h0 : Nat) (b_a_bytes_a_source_h0 : Nat → Int32) : Option (Int32) :=
  if p2 < 0 then (some (-1))
  else (Option.bind (F_Nd_get p1 4 count_a_tree_h0 n_a_cells_a_tree_h0 b_a_cells_a_tree_h0) fun r2 =>
    if p2 < r2 then (Option.bind (F_Nd_tokenPlace p1 count_a_tree_h0 n_a_cells_a_tree_h0 b_a_cells_a_tree_h0) fun r5 =>
      Option.bind (F_Rw_at (r5 + p2) size_a_source_h0 n_a_bytes_a_source_h0 b_a_bytes_a_source_h0) fun r7 =>
      (some r7))
    else (some (-1)))
theorem d_Eq_character_0 : decode prog_1_method_9_code 0 = .ok (.iload_n 2, 1) := by decide +kernel
theorem d_Eq_character_1 : decode prog_1_method_9_code 1 = .ok (.ifCond .lt 16, 3) := by decide +kernel
theorem d_Eq_character_4 : decode prog_1_method_9_code 4 = .ok (.iload_n 2, 1) := by decide +kernel
theorem d_Eq_character_5 : decode prog_1_method_9_code 5 = .ok (.aload_n 0, 1) := by decide +kernel
theorem d_Eq_character_6 : decode prog_1_method_9_code 6 = .ok (.getfield 26, 3) := by decide +kernel
theorem d_Eq_character_9 : decode prog_1_method_9_code 9 = .ok (.iload_n 1, 1) := by decide +kernel
theorem d_Eq_character_10 : decode prog_1_method_9_code 10 = .ok (.iconst 4, 1) := by decide +kernel
theorem d_Eq_character_11 : decode prog_1_method_9_code 11 = .ok (.invokevirtual 86, 3) := by decide +kernel
theorem d_Eq_character_14 : decode prog_1_method_9_code 14 = .ok (.if_icmp .lt 5, 3) := by decide +kernel
theorem d_Eq_character_17 : decode prog_1_method_9_code 17 = .ok (.iconst (-1), 1) := by decide +kernel
theorem d_Eq_character_18 : decode prog_1_method_9_code 18 = .ok (.ireturn, 1) := by decide +kernel
theorem d_Eq_character_19 : decode prog_1_method_9_code 19 = .ok (.aload_n 0, 1) := by decide +kernel
theorem d_Eq_character_20 : decode prog_1_method_9_code 20 = .ok (.getfield 37, 3) := by decide +kernel
theorem d_Eq_character_23 : decode prog_1_method_9_code 23 = .ok (.aload_n 0, 1) := by decide +kernel
theorem d_Eq_character_24 : decode prog_1_method_9_code 24 = .ok (.getfield 26, 3) := by decide +kernel
theorem d_Eq_character_27 : decode prog_1_method_9_code 27 = .ok (.iload_n 1, 1) := by decide +kernel
theorem d_Eq_character_28 : decode prog_1_method_9_code 28 = .ok (.invokevirtual 94, 3) := by decide +kernel
theorem d_Eq_character_31 : decode prog_1_method_9_code 31 = .ok (.iload_n 2, 1) := by decide +kernel
theorem d_Eq_character_32 : decode prog_1_method_9_code 32 = .ok (.iadd, 1) := by decide +kernel
theorem d_Eq_character_33 : decode prog_1_method_9_code 33 = .ok (.invokevirtual 97, 3) := by decide +kernel
theorem d_Eq_character_36 : decode prog_1_method_9_code 36 = .ok (.ireturn, 1) := by decide +kernel
set_option maxHeartbeats 4000000 in
set_option maxRecDepth 100000 in
theorem c_Eq_character (l : Launch) (D : va_G) (cI cB cJ cS : ClassId) (h0 : Nat) (a_reader_h0 : Nat) (a_writer_h0 : Nat) (a_tree_h0 : Nat) (a_tape_h0 : Nat) (a_source_h0 : Nat) (a_form_h0 : Nat) (a_spareForm_h0 : Nat) (a_cells_a_tree_h0 : Nat) (a_bytes_a_source_h0 : Nat) (p1 : Int32) (p2 : Int32) (fault_h0 : Int32) (count_a_tree_h0 : Int32) (n_a_cells_a_tree_h0 : Nat) (b_a_cells_a_tree_h0 : Nat → Int32) (size_a_source_h0 : Int32) (n_a_bytes_a_source_h0 : Nat) (b_a_bytes_a_source_h0 : Nat → Int32) (ret : Int32) (h : F_Eq_character p1 p2 fault_h0 count_a_tree_h0 n_a_cells_a_tree_h0 b_a_cells_a_tree_h0 size_a_source_h0 n_a_bytes_a_source_h0 b_a_bytes_a_source_h0 = some ret) : Ct l D (gT cI cB cJ cS) y_Eq_character prog_1_method_9_code 3 (Option.some Jvm.ClassFile.FieldType.int) 2 43 0 0 [.ref h0, .int p1, .int p2] [(h0, .inr (7, [.ref a_reader_h0, .ref a_writer_h0, .ref a_tree_h0, .ref a_tape_h0, .ref a_source_h0, .ref a_form_h0, .ref a_spareForm_h0, .int fault_h0])), (a_tree_h0, .inr (1, [.ref a_cells_a_tree_h0, .int count_a_tree_h0])), (a_cells_a_tree_h0, .inl (cI, n_a_cells_a_tree_h0, .inl b_a_cells_a_tree_h0)), (a_source_h0, .inr (3, [.ref a_bytes_a_source_h0, .int size_a_source_h0])), (a_bytes_a_source_h0, .inl (cB, n_a_bytes_a_source_h0, .inl b_a_bytes_a_source_h0))] (fun v w => v = some (.int ret) ∧ w = [(h0, .inr (7, [.ref a_reader_h0, .ref a_writer_h0, .ref a_tree_h0, .ref a_tape_h0, .ref a_source_h0, .ref a_form_h0, .ref a_spareForm_h0, .int fault_h0])), (a_tree_h0, .inr (1, [.ref a_cells_a_tree_h0, .int count_a_tree_h0])), (a_cells_a_tree_h0, .inl (cI, n_a_cells_a_tree_h0, .inl b_a_cells_a_tree_h0)), (a_source_h0, .inr (3, [.ref a_bytes_a_source_h0, .int size_a_source_h0])), (a_bytes_a_source_h0, .inl (cB, n_a_bytes_a_source_h0, .inl b_a_bytes_a_source_h0))]) := by
  refine Ct.mk (by decide) (Nat.le_of_ble_eq_true rfl) ?_
  intro p e s m below meth c hr hnm
  refine j_norm (pc' := 0) (lv' := [(0, .ref h0), (1, .int p1), (2, .int p2)]) (st' := []) (ws' := [(h0, .inr (7, [.ref a_reader_h0, .ref a_writer_h0, .ref a_tree_h0, .ref a_tape_h0, .ref a_source_h0, .ref a_form_h0, .ref a_spareForm_h0, .int fault_h0])), (a_tree_h0, .inr (1, [.ref a_cells_a_tree_h0, .int count_a_tree_h0])), (a_cells_a_tree_h0, .inl (cI, n_a_cells_a_tree_h0, .inl b_a_cells_a_tree_h0)), (a_source_h0, .inr (3, [.ref a_bytes_a_source_h0, .int size_a_source_h0])), (a_bytes_a_source_h0, .inl (cB, n_a_bytes_a_source_h0, .inl b_a_bytes_a_source_h0))]) (cl' := 0) (sl' := 0) rfl rfl rfl rfl rfl rfl ?_
  unfold F_Eq_character at h
  refine j_iload_n d_Eq_character_0 rfl 2 rfl ?_
  refine j_if_lt (tgt := 17) d_Eq_character_1 (by decide) (fun c1 => ?_) (fun c1 => ?_)
  · replace h := it_t c1 h
    refine j_iconst (v := (-1)) d_Eq_character_17 (by decide) ?_
    replace h := Option.some.inj h
    subst h
    exact j_iret (w := [(h0, .inr (7, [.ref a_reader_h0, .ref a_writer_h0, .ref a_tree_h0, .ref a_tape_h0, .ref a_source_h0, .ref a_form_h0, .ref a_spareForm_h0, .int fault_h0])), (a_tree_h0, .inr (1, [.ref a_cells_a_tree_h0, .int count_a_tree_h0])), (a_cells_a_tree_h0, .inl (cI, n_a_cells_a_tree_h0, .inl b_a_cells_a_tree_h0)), (a_source_h0, .inr (3, [.ref a_bytes_a_source_h0, .int size_a_source_h0])), (a_bytes_a_source_h0, .inl (cB, n_a_bytes_a_source_h0, .inl b_a_bytes_a_source_h0))]) hr d_Eq_character_18 [0, 1, 2, 3, 4] rfl (by decide) ⟨rfl, rfl⟩
  · replace h := it_f c1 h
    refine j_iload_n d_Eq_character_4 rfl 2 rfl ?_
    refine j_aload_n d_Eq_character_5 rfl 0 rfl ?_
    refine j_get ig_Eq rfl 0 rfl 2 (by decide) rfl m_241 rfl d_Eq_character_6 ?_
    refine j_iload_n d_Eq_character_9 rfl 1 rfl ?_
    refine j_iconst (v := 4) d_Eq_character_10 (by decide) ?_
    replace h := bd_s h
    obtain ⟨r2, k3, h⟩ := h
    refine j_callV (n := 2) (As := [.int p1, .int 4]) (rest := [.int p2]) (wr := [(h0, .inr (7, [.ref a_reader_h0, .ref a_writer_h0, .ref a_tree_h0, .ref a_tape_h0, .ref a_source_h0, .ref a_form_h0, .ref a_spareForm_h0, .int fault_h0])), (a_source_h0, .inr (3, [.ref a_bytes_a_source_h0, .int size_a_source_h0])), (a_bytes_a_source_h0, .inl (cB, n_a_bytes_a_source_h0, .inl b_a_bytes_a_source_h0))]) (c_Nd_get l D cI cB cJ cS a_tree_h0 a_cells_a_tree_h0 p1 4 count_a_tree_h0 n_a_cells_a_tree_h0 b_a_cells_a_tree_h0  r2 k3) k_Eq_86 (by decide) ⟨Nat.le_of_ble_eq_true rfl, Nat.le_of_ble_eq_true rfl⟩ rfl 0 rfl [1, 2] [0, 3, 4] rfl (by decide) rfl (by decide) (by decide) rfl rfl (Nat.le_of_ble_eq_true rfl) d_Eq_character_11 ⟨Nat.le_of_ble_eq_true rfl, Nat.le_of_ble_eq_true rfl⟩ (fun v w hq => ?_)
    obtain ⟨rfl, rfl⟩ := hq
    refine j_norm (pc' := 14) (st' := [.int r2, .int p2]) (ws' := [(h0, .inr (7, [.ref a_reader_h0, .ref a_writer_h0, .ref a_tree_h0, .ref a_tape_h0, .ref a_source_h0, .ref a_form_h0, .ref a_spareForm_h0, .int fault_h0])), (a_source_h0, .inr (3, [.ref a_bytes_a_source_h0, .int size_a_source_h0])), (a_bytes_a_source_h0, .inl (cB, n_a_bytes_a_source_h0, .inl b_a_bytes_a_source_h0)), (a_tree_h0, .inr (1, [.ref a_cells_a_tree_h0, .int count_a_tree_h0])), (a_cells_a_tree_h0, .inl (cI, n_a_cells_a_tree_h0, .inl b_a_cells_a_tree_h0))]) (cl' := 0) (sl' := 0) rfl rfl rfl rfl rfl rfl ?_
    refine j_icmp_lt (tgt := 19) d_Eq_character_14 (by decide) (fun c4 => ?_) (fun c4 => ?_)
    · replace h := it_t c4 h
      refine j_aload_n d_Eq_character_19 rfl 0 rfl ?_
      refine j_get ig_Eq rfl 0 rfl 4 (by decide) rfl m_243 rfl d_Eq_character_20 ?_
      refine j_aload_n d_Eq_character_23 rfl 0 rfl ?_
      refine j_get ig_Eq rfl 0 rfl 2 (by decide) rfl m_241 rfl d_Eq_character_24 ?_
      refine j_iload_n d_Eq_character_27 rfl 1 rfl ?_
      replace h := bd_s h
      obtain ⟨r5, k6, h⟩ := h
      refine j_callV (n := 1) (As := [.int p1]) (rest := [.ref a_source_h0]) (wr := [(h0, .inr (7, [.ref a_reader_h0, .ref a_writer_h0, .ref a_tree_h0, .ref a_tape_h0, .ref a_source_h0, .ref a_form_h0, .ref a_spareForm_h0, .int fault_h0])), (a_source_h0, .inr (3, [.ref a_bytes_a_source_h0, .int size_a_source_h0])), (a_bytes_a_source_h0, .inl (cB, n_a_bytes_a_source_h0, .inl b_a_bytes_a_source_h0))]) (c_Nd_tokenPlace l D cI cB cJ cS a_tree_h0 a_cells_a_tree_h0 p1 count_a_tree_h0 n_a_cells_a_tree_h0 b_a_cells_a_tree_h0  r5 k6) k_Eq_94 (by decide) ⟨Nat.le_of_ble_eq_true rfl, Nat.le_of_ble_eq_true rfl⟩ rfl 0 rfl [3, 4] [0, 1, 2] rfl (by decide) rfl (by decide) (by decide) rfl rfl (Nat.le_of_ble_eq_true rfl) d_Eq_character_28 ⟨Nat.le_of_ble_eq_true rfl, Nat.le_of_ble_eq_true rfl⟩ (fun v w hq => ?_)
      obtain ⟨rfl, rfl⟩ := hq
      refine j_norm (pc' := 31) (st' := [.int r5, .ref a_source_h0]) (ws' := [(h0, .inr (7, [.ref a_reader_h0, .ref a_writer_h0, .ref a_tree_h0, .ref a_tape_h0, .ref a_source_h0, .ref a_form_h0, .ref a_spareForm_h0, .int fault_h0])), (a_source_h0, .inr (3, [.ref a_bytes_a_source_h0, .int size_a_source_h0])), (a_bytes_a_source_h0, .inl (cB, n_a_bytes_a_source_h0, .inl b_a_bytes_a_source_h0)), (a_tree_h0, .inr (1, [.ref a_cells_a_tree_h0, .int count_a_tree_h0])), (a_cells_a_tree_h0, .inl (cI, n_a_cells_a_tree_h0, .inl b_a_cells_a_tree_h0))]) (cl' := 0) (sl' := 0) rfl rfl rfl rfl rfl rfl ?_
      refine j_iload_n d_Eq_character_31 rfl 2 rfl ?_
      refine j_iadd d_Eq_character_32 ?_
      replace h := bd_s h
      obtain ⟨r7, k8, h⟩ := h
      refine j_callV (n := 1) (As := [.int (r5 + p2)]) (rest := []) (wr := [(h0, .inr (7, [.ref a_reader_h0, .ref a_writer_h0, .ref a_tree_h0, .ref a_tape_h0, .ref a_source_h0, .ref a_form_h0, .ref a_spareForm_h0, .int fault_h0])), (a_tree_h0, .inr (1, [.ref a_cells_a_tree_h0, .int count_a_tree_h0])), (a_cells_a_tree_h0, .inl (cI, n_a_cells_a_tree_h0, .inl b_a_cells_a_tree_h0))]) (c_Rw_at l D cI cB cJ cS a_source_h0 a_bytes_a_source_h0 (r5 + p2) size_a_source_h0 n_a_bytes_a_source_h0 b_a_bytes_a_source_h0  r7 k8) k_Eq_97 (by decide) ⟨Nat.le_of_ble_eq_true rfl, Nat.le_of_ble_eq_true rfl⟩ rfl 0 rfl [1, 2] [0, 3, 4] rfl (by decide) rfl (by decide) (by decide) rfl rfl (Nat.le_of_ble_eq_true rfl) d_Eq_character_33 ⟨Nat.le_of_ble_eq_true rfl, Nat.le_of_ble_eq_true rfl⟩ (fun v w hq => ?_)
      obtain ⟨rfl, rfl⟩ := hq
      refine j_norm (pc' := 36) (st' := [.int r7]) (ws' := [(h0, .inr (7, [.ref a_reader_h0, .ref a_writer_h0, .ref a_tree_h0, .ref a_tape_h0, .ref a_source_h0, .ref a_form_h0, .ref a_spareForm_h0, .int fault_h0])), (a_tree_h0, .inr (1, [.ref a_cells_a_tree_h0, .int count_a_tree_h0])), (a_cells_a_tree_h0, .inl (cI, n_a_cells_a_tree_h0, .inl b_a_cells_a_tree_h0)), (a_source_h0, .inr (3, [.ref a_bytes_a_source_h0, .int size_a_source_h0])), (a_bytes_a_source_h0, .inl (cB, n_a_bytes_a_source_h0, .inl b_a_bytes_a_source_h0))]) (cl' := 0) (sl' := 0) rfl rfl rfl rfl rfl rfl ?_
      replace h := Option.some.inj h
      subst h
      exact j_iret (w := [(h0, .inr (7, [.ref a_reader_h0, .ref a_writer_h0, .ref a_tree_h0, .ref a_tape_h0, .ref a_source_h0, .ref a_form_h0, .ref a_spareForm_h0, .int fault_h0])), (a_tree_h0, .inr (1, [.ref a_cells_a_tree_h0, .int count_a_tree_h0])), (a_cells_a_tree_h0, .inl (cI, n_a_cells_a_tree_h0, .inl b_a_cells_a_tree_h0)), (a_source_h0, .inr (3, [.ref a_bytes_a_source_h0, .int size_a_source_h0])), (a_bytes_a_source_h0, .inl (cB, n_a_bytes_a_source_h0, .inl b_a_bytes_a_source_h0))]) hr d_Eq_character_36 [0, 1, 2, 3, 4] rfl (by decide) ⟨rfl, rfl⟩
    · replace h := it_f c4 h
      refine j_iconst (v := (-1)) d_Eq_character_17 (by decide) ?_
      replace h := Option.some.inj h
      subst h
      exact j_iret (w := [(h0, .inr (7, [.ref a_reader_h0, .ref a_writer_h0, .ref a_tree_h0, .ref a_tape_h0, .ref a_source_h0, .ref a_form_h0, .ref a_spareForm_h0, .int fault_h0])), (a_tree_h0, .inr (1, [.ref a_cells_a_tree_h0, .int count_a_tree_h0])), (a_cells_a_tree_h0, .inl (cI, n_a_cells_a_tree_h0, .inl b_a_cells_a_tree_h0)), (a_source_h0, .inr (3, [.ref a_bytes_a_source_h0, .int size_a_source_h0])), (a_bytes_a_source_h0, .inl (cB, n_a_bytes_a_source_h0, .inl b_a_bytes_a_source_h0))]) hr d_Eq_character_18 [0, 3, 4, 1, 2] rfl (by decide) ⟨rfl, rfl⟩
def F_Eq_written (p1 : Int32) (fault_h0 : Int32) (size_a_form_h0 : Int32) (n_a_bytes_a_form_h0 : Nat) (b_a_bytes_a_form_h0 : Nat → Int32) : Option (Int32) :=
  Option.bind (F_Rw_at p1 size_a_form_h0 n_a_bytes_a_form_h0 b_a_bytes_a_form_h0) fun r1 =>
  (some r1)
theorem d_Eq_written_0 : decode prog_1_method_11_code 0 = .ok (.aload_n 0, 1) := by decide +kernel
theorem d_Eq_written_1 : decode prog_1_method_11_code 1 = .ok (.getfield 40, 3) := by decide +kernel
theorem d_Eq_written_4 : decode prog_1_method_11_code 4 = .ok (.iload_n 1, 1) := by decide +kernel
theorem d_Eq_written_5 : decode prog_1_method_11_code 5 = .ok (.invokevirtual 97, 3) := by decide +kernel
theorem d_Eq_written_8 : decode prog_1_method_11_code 8 = .ok (.ireturn, 1) := by decide +kernel
set_option maxHeartbeats 4000000 in
set_option maxRecDepth 100000 in
theorem c_Eq_written (l : Launch) (D : va_G) (cI cB cJ cS : ClassId) (h0 : Nat) (a_reader_h0 : Nat) (a_writer_h0 : Nat) (a_tree_h0 : Nat) (a_tape_h0 : Nat) (a_source_h0 : Nat) (a_form_h0 : Nat) (a_spareForm_h0 : Nat) (a_bytes_a_form_h0 : Nat) (p1 : Int32) (fault_h0 : Int32) (size_a_form_h0 : Int32) (n_a_bytes_a_form_h0 : Nat) (b_a_bytes_a_form_h0 : Nat → Int32) (ret : Int32) (h : F_Eq_written p1 fault_h0 size_a_form_h0 n_a_bytes_a_form_h0 b_a_bytes_a_form_h0 = some ret) : Ct l D (gT cI cB cJ cS) y_Eq_written prog_1_method_11_code 2 (Option.some Jvm.ClassFile.FieldType.int) 1 21 0 0 [.ref h0, .int p1] [(h0, .inr (7, [.ref a_reader_h0, .ref a_writer_h0, .ref a_tree_h0, .ref a_tape_h0, .ref a_source_h0, .ref a_form_h0, .ref a_spareForm_h0, .int fault_h0])), (a_form_h0, .inr (3, [.ref a_bytes_a_form_h0, .int size_a_form_h0])), (a_bytes_a_form_h0, .inl (cB, n_a_bytes_a_form_h0, .inl b_a_bytes_a_form_h0))] (fun v w => v = some (.int ret) ∧ w = [(h0, .inr (7, [.ref a_reader_h0, .ref a_writer_h0, .ref a_tree_h0, .ref a_tape_h0, .ref a_source_h0, .ref a_form_h0, .ref a_spareForm_h0, .int fault_h0])), (a_form_h0, .inr (3, [.ref a_bytes_a_form_h0, .int size_a_form_h0])), (a_bytes_a_form_h0, .inl (cB, n_a_bytes_a_form_h0, .inl b_a_bytes_a_form_h0))]) := by
  refine Ct.mk (by decide) (Nat.le_of_ble_eq_true rfl) ?_
  intro p e s m below meth c hr hnm
  refine j_norm (pc' := 0) (lv' := [(0, .ref h0), (1, .int p1)]) (st' := []) (ws' := [(h0, .inr (7, [.ref a_reader_h0, .ref a_writer_h0, .ref a_tree_h0, .ref a_tape_h0, .ref a_source_h0, .ref a_form_h0, .ref a_spareForm_h0, .int fault_h0])), (a_form_h0, .inr (3, [.ref a_bytes_a_form_h0, .int size_a_form_h0])), (a_bytes_a_form_h0, .inl (cB, n_a_bytes_a_form_h0, .inl b_a_bytes_a_form_h0))]) (cl' := 0) (sl' := 0) rfl rfl rfl rfl rfl rfl ?_
  unfold F_Eq_written at h
  refine j_aload_n d_Eq_written_0 rfl 0 rfl ?_
  refine j_get ig_Eq rfl 0 rfl 5 (by decide) rfl m_244 rfl d_Eq_written_1 ?_
  refine j_iload_n d_Eq_written_4 rfl 1 rfl ?_
  replace h := bd_s h
  obtain ⟨r1, k2, h⟩ := h
  refine j_callV (n := 1) (As := [.int p1]) (rest := []) (wr := [(h0, .inr (7, [.ref a_reader_h0, .ref a_writer_h0, .ref a_tree_h0, .ref a_tape_h0, .ref a_source_h0, .ref a_form_h0, .ref a_spareForm_h0, .int fault_h0]))]) (c_Rw_at l D cI cB cJ cS a_form_h0 a_bytes_a_form_h0 p1 size_a_form_h0 n_a_bytes_a_form_h0 b_a_bytes_a_form_h0  r1 k2) k_Eq_97 (by decide) ⟨Nat.le_of_ble_eq_true rfl, Nat.le_of_ble_eq_true rfl⟩ rfl 0 rfl [1, 2] [0] rfl (by decide) rfl (by decide) (by decide) rfl rfl (Nat.le_of_ble_eq_true rfl) d_Eq_written_5 ⟨Nat.le_of_ble_eq_true rfl, Nat.le_of_ble_eq_true rfl⟩ (fun v w hq => ?_)
  obtain ⟨rfl, rfl⟩ := hq
  refine j_norm (pc' := 8) (st' := [.int r1]) (ws' := [(h0, .inr (7, [.ref a_reader_h0, .ref a_writer_h0, .ref a_tree_h0, .ref a_tape_h0, .ref a_source_h0, .ref a_form_h0, .ref a_spareForm_h0, .int fault_h0])), (a_form_h0, .inr (3, [.ref a_bytes_a_form_h0, .int size_a_form_h0])), (a_bytes_a_form_h0, .inl (cB, n_a_bytes_a_form_h0, .inl b_a_bytes_a_form_h0))]) (cl' := 0) (sl' := 0) rfl rfl rfl rfl rfl rfl ?_
  replace h := Option.some.inj h
  subst h
  exact j_iret (w := [(h0, .inr (7, [.ref a_reader_h0, .ref a_writer_h0, .ref a_tree_h0, .ref a_tape_h0, .ref a_source_h0, .ref a_form_h0, .ref a_spareForm_h0, .int fault_h0])), (a_form_h0, .inr (3, [.ref a_bytes_a_form_h0, .int size_a_form_h0])), (a_bytes_a_form_h0, .inl (cB, n_a_bytes_a_form_h0, .inl b_a_bytes_a_form_h0))]) hr d_Eq_written_8 [0, 1, 2] rfl (by decide) ⟨rfl, rfl⟩
noncomputable def F_Eq_rewind (fault_h0 : Int32) (size_a_tape_h0 : Int32) (size_a_form_h0 : Int32) (n_a_bytes_a_form_h0 : Nat) (b_a_bytes_a_form_h0 : Nat → Int32) (n_a_bytes_a_tape_h0 : Nat) (b_a_bytes_a_tape_h0 : Nat → Int32) : Option ((Int32 × Int32 × Nat × (Nat → Int32)) × Nat × Nat) :=
  bw (F_Rw_become size_a_tape_h0 size_a_form_h0 n_a_bytes_a_form_h0 b_a_bytes_a_form_h0 n_a_bytes_a_tape_h0 b_a_bytes_a_tape_h0) fun ⟨r1, r2, r3⟩ =>
  (some ((r1, r1, r2, r3), 0, 0))
theorem d_Eq_rewind_0 : decode prog_1_method_12_code 0 = .ok (.aload_n 0, 1) := by decide +kernel
theorem d_Eq_rewind_1 : decode prog_1_method_12_code 1 = .ok (.getfield 33, 3) := by decide +kernel
theorem d_Eq_rewind_4 : decode prog_1_method_12_code 4 = .ok (.aload_n 0, 1) := by decide +kernel
theorem d_Eq_rewind_5 : decode prog_1_method_12_code 5 = .ok (.getfield 40, 3) := by decide +kernel
theorem d_Eq_rewind_8 : decode prog_1_method_12_code 8 = .ok (.invokevirtual 104, 3) := by decide +kernel
theorem d_Eq_rewind_11 : decode prog_1_method_12_code 11 = .ok (.aload_n 0, 1) := by decide +kernel
theorem d_Eq_rewind_12 : decode prog_1_method_12_code 12 = .ok (.getfield 33, 3) := by decide +kernel
theorem d_Eq_rewind_15 : decode prog_1_method_12_code 15 = .ok (.invokevirtual 50, 3) := by decide +kernel
theorem d_Eq_rewind_18 : decode prog_1_method_12_code 18 = .ok (.ireturn, 1) := by decide +kernel
set_option maxHeartbeats 4000000 in
set_option maxRecDepth 100000 in
theorem c_Eq_rewind (l : Launch) (D : va_G) (cI cB cJ cS : ClassId) (h0 : Nat) (a_reader_h0 : Nat) (a_writer_h0 : Nat) (a_tree_h0 : Nat) (a_tape_h0 : Nat) (a_source_h0 : Nat) (a_form_h0 : Nat) (a_spareForm_h0 : Nat) (a_bytes_a_tape_h0 : Nat) (a_bytes_a_form_h0 : Nat) (fault_h0 : Int32) (size_a_tape_h0 : Int32) (size_a_form_h0 : Int32) (n_a_bytes_a_form_h0 : Nat) (b_a_bytes_a_form_h0 : Nat → Int32) (n_a_bytes_a_tape_h0 : Nat) (b_a_bytes_a_tape_h0 : Nat → Int32) (ret : Int32) (o_1_1 : Int32) (on_nq_1_0 : Nat) (ob_nq_1_0 : Nat → Int32) (mc ms : Nat) (h : F_Eq_rewind fault_h0 size_a_tape_h0 size_a_form_h0 n_a_bytes_a_form_h0 b_a_bytes_a_form_h0 n_a_bytes_a_tape_h0 b_a_bytes_a_tape_h0 = some ((ret, o_1_1, on_nq_1_0, ob_nq_1_0), mc, ms)) : Ct l D (gT cI cB cJ cS) y_Eq_rewind prog_1_method_12_code 1 (Option.some Jvm.ClassFile.FieldType.int) 4 125 mc ms [.ref h0] [(h0, .inr (7, [.ref a_reader_h0, .ref a_writer_h0, .ref a_tree_h0, .ref a_tape_h0, .ref a_source_h0, .ref a_form_h0, .ref a_spareForm_h0, .int fault_h0])), (a_tape_h0, .inr (3, [.ref a_bytes_a_tape_h0, .int size_a_tape_h0])), (a_form_h0, .inr (3, [.ref a_bytes_a_form_h0, .int size_a_form_h0])), (a_bytes_a_form_h0, .inl (cB, n_a_bytes_a_form_h0, .inl b_a_bytes_a_form_h0)), (a_bytes_a_tape_h0, .inl (cB, n_a_bytes_a_tape_h0, .inl b_a_bytes_a_tape_h0))] (fun v w => ∃ nq_1_0 : Nat, v = some (.int ret) ∧ w = [(h0, .inr (7, [.ref a_reader_h0, .ref a_writer_h0, .ref a_tree_h0, .ref a_tape_h0, .ref a_source_h0, .ref a_form_h0, .ref a_spareForm_h0, .int fault_h0])), (a_tape_h0, .inr (3, [.ref nq_1_0, .int o_1_1])), (a_form_h0, .inr (3, [.ref a_bytes_a_form_h0, .int size_a_form_h0])), (a_bytes_a_form_h0, .inl (cB, n_a_bytes_a_form_h0, .inl b_a_bytes_a_form_h0)), (nq_1_0, .inl (cB, on_nq_1_0, .inl ob_nq_1_0))]) := by
  refine Ct.mk (by decide) (Nat.le_of_ble_eq_true rfl) ?_
  intro p e s m below meth c hr hnm
  refine j_norm (pc' := 0) (lv' := [(0, .ref h0)]) (st' := []) (ws' := [(h0, .inr (7, [.ref a_reader_h0, .ref a_writer_h0, .ref a_tree_h0, .ref a_tape_h0, .ref a_source_h0, .ref a_form_h0, .ref a_spareForm_h0, .int fault_h0])), (a_tape_h0, .inr (3, [.ref a_bytes_a_tape_h0, .int size_a_tape_h0])), (a_form_h0, .inr (3, [.ref a_bytes_a_form_h0, .int size_a_form_h0])), (a_bytes_a_form_h0, .inl (cB, n_a_bytes_a_form_h0, .inl b_a_bytes_a_form_h0)), (a_bytes_a_tape_h0, .inl (cB, n_a_bytes_a_tape_h0, .inl b_a_bytes_a_tape_h0))]) (cl' := 0) (sl' := 0) rfl rfl rfl rfl rfl rfl ?_
  unfold F_Eq_rewind at h
  have hC : 0 + mc ≤ mc := by omega
  have hS : 0 + ms ≤ ms := by omega
  refine j_aload_n d_Eq_rewind_0 rfl 0 rfl ?_
  refine j_get ig_Eq rfl 0 rfl 3 (by decide) rfl m_242 rfl d_Eq_rewind_1 ?_
  refine j_aload_n d_Eq_rewind_4 rfl 0 rfl ?_
  refine j_get ig_Eq rfl 0 rfl 5 (by decide) rfl m_244 rfl d_Eq_rewind_5 ?_
  replace h := bw_s h
  obtain ⟨⟨r1, r2, r3⟩, C5, S6, C7, S8, k9, h, e1, e2⟩ := h
  replace hC : 0 + C5 + C7 ≤ mc := by omega
  replace hS : 0 + S6 + S8 ≤ ms := by omega
  clear e1 e2
  refine j_callV (n := 1) (As := [.ref a_form_h0]) (rest := []) (wr := [(h0, .inr (7, [.ref a_reader_h0, .ref a_writer_h0, .ref a_tree_h0, .ref a_tape_h0, .ref a_source_h0, .ref a_form_h0, .ref a_spareForm_h0, .int fault_h0]))]) (c_Rw_become l D cI cB cJ cS a_tape_h0 a_form_h0 a_bytes_a_tape_h0 a_bytes_a_form_h0 size_a_tape_h0 size_a_form_h0 n_a_bytes_a_form_h0 b_a_bytes_a_form_h0 n_a_bytes_a_tape_h0 b_a_bytes_a_tape_h0  r1 r2 r3 C5 S6 k9) k_Eq_104 (by decide) ⟨Nat.le_of_ble_eq_true rfl, Nat.le_of_ble_eq_true rfl⟩ rfl 0 rfl [1, 2, 3, 4] [0] rfl (by decide) rfl (by decide) (by decide) rfl rfl (Nat.le_of_ble_eq_true rfl) d_Eq_rewind_8 ⟨show 0 + C5 ≤ mc by omega, show 0 + S6 ≤ ms by omega⟩ (fun v w hq => ?_)
  obtain ⟨q4, rfl, rfl⟩ := hq
  refine j_norm (pc' := 11) (st' := []) (ws' := [(h0, .inr (7, [.ref a_reader_h0, .ref a_writer_h0, .ref a_tree_h0, .ref a_tape_h0, .ref a_source_h0, .ref a_form_h0, .ref a_spareForm_h0, .int fault_h0])), (a_tape_h0, .inr (3, [.ref q4, .int r1])), (a_form_h0, .inr (3, [.ref a_bytes_a_form_h0, .int size_a_form_h0])), (a_bytes_a_form_h0, .inl (cB, n_a_bytes_a_form_h0, .inl b_a_bytes_a_form_h0)), (q4, .inl (cB, r2, .inl r3))]) (cl' := 0 + C5) (sl' := 0 + S6) rfl rfl rfl rfl rfl rfl ?_
  refine j_aload_n d_Eq_rewind_11 rfl 0 rfl ?_
  refine j_get ig_Eq rfl 0 rfl 3 (by decide) rfl m_242 rfl d_Eq_rewind_12 ?_
  refine j_callV (n := 0) (As := []) (rest := []) (wr := [(h0, .inr (7, [.ref a_reader_h0, .ref a_writer_h0, .ref a_tree_h0, .ref a_tape_h0, .ref a_source_h0, .ref a_form_h0, .ref a_spareForm_h0, .int fault_h0])), (a_form_h0, .inr (3, [.ref a_bytes_a_form_h0, .int size_a_form_h0])), (a_bytes_a_form_h0, .inl (cB, n_a_bytes_a_form_h0, .inl b_a_bytes_a_form_h0)), (q4, .inl (cB, r2, .inl r3))]) (c_Rw_size l D cI cB cJ cS a_tape_h0 q4 r1  ) k_Eq_50 (by decide) ⟨Nat.le_of_ble_eq_true rfl, Nat.le_of_ble_eq_true rfl⟩ rfl 0 rfl [1] [0, 2, 3, 4] rfl (by decide) rfl (by decide) (by decide) rfl rfl (Nat.le_of_ble_eq_true rfl) d_Eq_rewind_15 ⟨show 0 + C5 + 0 ≤ mc by omega, show 0 + S6 + 0 ≤ ms by omega⟩ (fun v w hq => ?_)
  obtain ⟨rfl, rfl⟩ := hq
  refine j_norm (pc' := 18) (st' := [.int r1]) (ws' := [(h0, .inr (7, [.ref a_reader_h0, .ref a_writer_h0, .ref a_tree_h0, .ref a_tape_h0, .ref a_source_h0, .ref a_form_h0, .ref a_spareForm_h0, .int fault_h0])), (a_form_h0, .inr (3, [.ref a_bytes_a_form_h0, .int size_a_form_h0])), (a_bytes_a_form_h0, .inl (cB, n_a_bytes_a_form_h0, .inl b_a_bytes_a_form_h0)), (q4, .inl (cB, r2, .inl r3)), (a_tape_h0, .inr (3, [.ref q4, .int r1]))]) (cl' := 0 + C5) (sl' := 0 + S6) rfl rfl rfl rfl rfl rfl ?_
  replace h := lf_s h
  obtain ⟨h, e1, e2⟩ := h
  replace h := Prod.mk.inj h
  obtain ⟨h9, h⟩ := h
  subst h9
  replace h := Prod.mk.inj h
  obtain ⟨h9, h⟩ := h
  subst h9
  replace h := Prod.mk.inj h
  obtain ⟨h9, h⟩ := h
  subst h9
  subst h
  refine j_widen (cl' := mc) (sl' := ms) (by omega) (by omega) ?_
  exact j_iret (w := [(h0, .inr (7, [.ref a_reader_h0, .ref a_writer_h0, .ref a_tree_h0, .ref a_tape_h0, .ref a_source_h0, .ref a_form_h0, .ref a_spareForm_h0, .int fault_h0])), (a_tape_h0, .inr (3, [.ref q4, .int r1])), (a_form_h0, .inr (3, [.ref a_bytes_a_form_h0, .int size_a_form_h0])), (a_bytes_a_form_h0, .inl (cB, n_a_bytes_a_form_h0, .inl b_a_bytes_a_form_h0)), (q4, .inl (cB, r2, .inl r3))]) hr d_Eq_rewind_18 [0, 4, 1, 2, 3] rfl (by decide) ⟨q4, rfl, rfl⟩
theorem d_Fr_init_0 : decode prog_2_method_1_code 0 = .ok (.aload_n 0, 1) := by decide +kernel
theorem d_Fr_init_1 : decode prog_2_method_1_code 1 = .ok (.invokespecial 3, 3) := by decide +kernel
theorem d_Fr_init_4 : decode prog_2_method_1_code 4 = .ok (.aload_n 0, 1) := by decide +kernel
theorem d_Fr_init_5 : decode prog_2_method_1_code 5 = .ok (.aconst_null, 1) := by decide +kernel
theorem d_Fr_init_6 : decode prog_2_method_1_code 6 = .ok (.putfield 9, 3) := by decide +kernel
theorem d_Fr_init_9 : decode prog_2_method_1_code 9 = .ok (.aload_n 0, 1) := by decide +kernel
theorem d_Fr_init_10 : decode prog_2_method_1_code 10 = .ok (.iconst 0, 1) := by decide +kernel
theorem d_Fr_init_11 : decode prog_2_method_1_code 11 = .ok (.putfield 17, 3) := by decide +kernel
theorem d_Fr_init_14 : decode prog_2_method_1_code 14 = .ok (.aload_n 0, 1) := by decide +kernel
theorem d_Fr_init_15 : decode prog_2_method_1_code 15 = .ok (.iconst 0, 1) := by decide +kernel
theorem d_Fr_init_16 : decode prog_2_method_1_code 16 = .ok (.putfield 21, 3) := by decide +kernel
theorem d_Fr_init_19 : decode prog_2_method_1_code 19 = .ok (.aload_n 0, 1) := by decide +kernel
theorem d_Fr_init_20 : decode prog_2_method_1_code 20 = .ok (.iconst 0, 1) := by decide +kernel
theorem d_Fr_init_21 : decode prog_2_method_1_code 21 = .ok (.putfield 24, 3) := by decide +kernel
theorem d_Fr_init_24 : decode prog_2_method_1_code 24 = .ok (.aload_n 0, 1) := by decide +kernel
theorem d_Fr_init_25 : decode prog_2_method_1_code 25 = .ok (.iconst (-1), 1) := by decide +kernel
theorem d_Fr_init_26 : decode prog_2_method_1_code 26 = .ok (.putfield 27, 3) := by decide +kernel
theorem d_Fr_init_29 : decode prog_2_method_1_code 29 = .ok (.aload_n 0, 1) := by decide +kernel
theorem d_Fr_init_30 : decode prog_2_method_1_code 30 = .ok (.iconst 0, 1) := by decide +kernel
theorem d_Fr_init_31 : decode prog_2_method_1_code 31 = .ok (.putfield 30, 3) := by decide +kernel
theorem d_Fr_init_34 : decode prog_2_method_1_code 34 = .ok (.aload_n 0, 1) := by decide +kernel
theorem d_Fr_init_35 : decode prog_2_method_1_code 35 = .ok (.iconst 0, 1) := by decide +kernel
theorem d_Fr_init_36 : decode prog_2_method_1_code 36 = .ok (.putfield 33, 3) := by decide +kernel
theorem d_Fr_init_39 : decode prog_2_method_1_code 39 = .ok (.aload_n 0, 1) := by decide +kernel
theorem d_Fr_init_40 : decode prog_2_method_1_code 40 = .ok (.iconst 0, 1) := by decide +kernel
theorem d_Fr_init_41 : decode prog_2_method_1_code 41 = .ok (.putfield 36, 3) := by decide +kernel
theorem d_Fr_init_44 : decode prog_2_method_1_code 44 = .ok (.aload_n 0, 1) := by decide +kernel
theorem d_Fr_init_45 : decode prog_2_method_1_code 45 = .ok (.iconst 0, 1) := by decide +kernel
theorem d_Fr_init_46 : decode prog_2_method_1_code 46 = .ok (.putfield 39, 3) := by decide +kernel
theorem d_Fr_init_49 : decode prog_2_method_1_code 49 = .ok (.aload_n 0, 1) := by decide +kernel
theorem d_Fr_init_50 : decode prog_2_method_1_code 50 = .ok (.iconst 0, 1) := by decide +kernel
theorem d_Fr_init_51 : decode prog_2_method_1_code 51 = .ok (.putfield 42, 3) := by decide +kernel
theorem d_Fr_init_54 : decode prog_2_method_1_code 54 = .ok (.aload_n 0, 1) := by decide +kernel
theorem d_Fr_init_55 : decode prog_2_method_1_code 55 = .ok (.iconst 0, 1) := by decide +kernel
theorem d_Fr_init_56 : decode prog_2_method_1_code 56 = .ok (.putfield 45, 3) := by decide +kernel
theorem d_Fr_init_59 : decode prog_2_method_1_code 59 = .ok (.aload_n 0, 1) := by decide +kernel
theorem d_Fr_init_60 : decode prog_2_method_1_code 60 = .ok (.iconst 0, 1) := by decide +kernel
theorem d_Fr_init_61 : decode prog_2_method_1_code 61 = .ok (.putfield 48, 3) := by decide +kernel
theorem d_Fr_init_64 : decode prog_2_method_1_code 64 = .ok (.aload_n 0, 1) := by decide +kernel
theorem d_Fr_init_65 : decode prog_2_method_1_code 65 = .ok (.iconst 0, 1) := by decide +kernel
theorem d_Fr_init_66 : decode prog_2_method_1_code 66 = .ok (.putfield 52, 3) := by decide +kernel
theorem d_Fr_init_69 : decode prog_2_method_1_code 69 = .ok (.aload_n 0, 1) := by decide +kernel
theorem d_Fr_init_70 : decode prog_2_method_1_code 70 = .ok (.iconst 0, 1) := by decide +kernel
theorem d_Fr_init_71 : decode prog_2_method_1_code 71 = .ok (.putfield 55, 3) := by decide +kernel
theorem d_Fr_init_74 : decode prog_2_method_1_code 74 = .ok (.aload_n 0, 1) := by decide +kernel
theorem d_Fr_init_75 : decode prog_2_method_1_code 75 = .ok (.aload_n 1, 1) := by decide +kernel
theorem d_Fr_init_76 : decode prog_2_method_1_code 76 = .ok (.putfield 58, 3) := by decide +kernel
theorem d_Fr_init_79 : decode prog_2_method_1_code 79 = .ok (.return_, 1) := by decide +kernel
set_option maxHeartbeats 4000000 in
set_option maxRecDepth 100000 in
theorem c_Fr_init (l : Launch) (D : va_G) (cI cB cJ cS : ClassId) (h0 : Nat) (g1 : Nat) : Ct l D (gT cI cB cJ cS) y_Fr_init prog_2_method_1_code 2 (Option.none : Option Jvm.ClassFile.FieldType) 1 20 0 0 [.ref h0, .ref g1] [(h0, .inr (0, [.null, .null, .int 0, .int 0, .int 0, .int 0, .int 0, .int 0, .int 0, .int 0, .int 0, .int 0, .int 0, .int 0, .int 0]))] (fun v w => v = none ∧ w = [(h0, .inr (0, [.ref g1, .null, .int 0, .int 0, .int 0, .int (-1), .int 0, .int 0, .int 0, .int 0, .int 0, .int 0, .int 0, .int 0, .int 0]))]) := by
  refine Ct.mk (by decide) (Nat.le_of_ble_eq_true rfl) ?_
  intro p e s m below meth c hr hnm
  refine j_norm (pc' := 0) (lv' := [(0, .ref h0), (1, .ref g1)]) (st' := []) (ws' := [(h0, .inr (0, [.null, .null, .int 0, .int 0, .int 0, .int 0, .int 0, .int 0, .int 0, .int 0, .int 0, .int 0, .int 0, .int 0, .int 0]))]) (cl' := 0) (sl' := 0) rfl rfl rfl rfl rfl rfl ?_
  refine j_aload_n d_Fr_init_0 rfl 0 rfl ?_
  refine j_oinit m_105 m_29 mc_obj (Nat.le_of_ble_eq_true rfl) (Nat.le_of_ble_eq_true rfl) d_Fr_init_1 ?_
  refine j_aload_n d_Fr_init_4 rfl 0 rfl ?_
  refine j_null d_Fr_init_5 ?_
  refine j_put (ws' := [(h0, .inr (0, [.null, .null, .int 0, .int 0, .int 0, .int 0, .int 0, .int 0, .int 0, .int 0, .int 0, .int 0, .int 0, .int 0, .int 0]))]) ig_Fr tk_Fr nm_Fr rfl 0 rfl 1 (by decide) rfl m_108 rfl (tk_Fr 1 (by decide)) rfl rfl (Nat.le_of_ble_eq_true rfl) d_Fr_init_6 rfl ?_
  refine j_aload_n d_Fr_init_9 rfl 0 rfl ?_
  refine j_iconst (v := 0) d_Fr_init_10 (by decide) ?_
  refine j_put (ws' := [(h0, .inr (0, [.null, .null, .int 0, .int 0, .int 0, .int 0, .int 0, .int 0, .int 0, .int 0, .int 0, .int 0, .int 0, .int 0, .int 0]))]) ig_Fr tk_Fr nm_Fr rfl 0 rfl 2 (by decide) rfl m_110 rfl (tk_Fr 2 (by decide)) rfl rfl (Nat.le_of_ble_eq_true rfl) d_Fr_init_11 rfl ?_
  refine j_aload_n d_Fr_init_14 rfl 0 rfl ?_
  refine j_iconst (v := 0) d_Fr_init_15 (by decide) ?_
  refine j_put (ws' := [(h0, .inr (0, [.null, .null, .int 0, .int 0, .int 0, .int 0, .int 0, .int 0, .int 0, .int 0, .int 0, .int 0, .int 0, .int 0, .int 0]))]) ig_Fr tk_Fr nm_Fr rfl 0 rfl 3 (by decide) rfl m_112 rfl (tk_Fr 3 (by decide)) rfl rfl (Nat.le_of_ble_eq_true rfl) d_Fr_init_16 rfl ?_
  refine j_aload_n d_Fr_init_19 rfl 0 rfl ?_
  refine j_iconst (v := 0) d_Fr_init_20 (by decide) ?_
  refine j_put (ws' := [(h0, .inr (0, [.null, .null, .int 0, .int 0, .int 0, .int 0, .int 0, .int 0, .int 0, .int 0, .int 0, .int 0, .int 0, .int 0, .int 0]))]) ig_Fr tk_Fr nm_Fr rfl 0 rfl 4 (by decide) rfl m_114 rfl (tk_Fr 4 (by decide)) rfl rfl (Nat.le_of_ble_eq_true rfl) d_Fr_init_21 rfl ?_
  refine j_aload_n d_Fr_init_24 rfl 0 rfl ?_
  refine j_iconst (v := (-1)) d_Fr_init_25 (by decide) ?_
  refine j_put (ws' := [(h0, .inr (0, [.null, .null, .int 0, .int 0, .int 0, .int (-1), .int 0, .int 0, .int 0, .int 0, .int 0, .int 0, .int 0, .int 0, .int 0]))]) ig_Fr tk_Fr nm_Fr rfl 0 rfl 5 (by decide) rfl m_116 rfl (tk_Fr 5 (by decide)) rfl rfl (Nat.le_of_ble_eq_true rfl) d_Fr_init_26 rfl ?_
  refine j_aload_n d_Fr_init_29 rfl 0 rfl ?_
  refine j_iconst (v := 0) d_Fr_init_30 (by decide) ?_
  refine j_put (ws' := [(h0, .inr (0, [.null, .null, .int 0, .int 0, .int 0, .int (-1), .int 0, .int 0, .int 0, .int 0, .int 0, .int 0, .int 0, .int 0, .int 0]))]) ig_Fr tk_Fr nm_Fr rfl 0 rfl 6 (by decide) rfl m_118 rfl (tk_Fr 6 (by decide)) rfl rfl (Nat.le_of_ble_eq_true rfl) d_Fr_init_31 rfl ?_
  refine j_aload_n d_Fr_init_34 rfl 0 rfl ?_
  refine j_iconst (v := 0) d_Fr_init_35 (by decide) ?_
  refine j_put (ws' := [(h0, .inr (0, [.null, .null, .int 0, .int 0, .int 0, .int (-1), .int 0, .int 0, .int 0, .int 0, .int 0, .int 0, .int 0, .int 0, .int 0]))]) ig_Fr tk_Fr nm_Fr rfl 0 rfl 7 (by decide) rfl m_120 rfl (tk_Fr 7 (by decide)) rfl rfl (Nat.le_of_ble_eq_true rfl) d_Fr_init_36 rfl ?_
  refine j_aload_n d_Fr_init_39 rfl 0 rfl ?_
  refine j_iconst (v := 0) d_Fr_init_40 (by decide) ?_
  refine j_put (ws' := [(h0, .inr (0, [.null, .null, .int 0, .int 0, .int 0, .int (-1), .int 0, .int 0, .int 0, .int 0, .int 0, .int 0, .int 0, .int 0, .int 0]))]) ig_Fr tk_Fr nm_Fr rfl 0 rfl 8 (by decide) rfl m_122 rfl (tk_Fr 8 (by decide)) rfl rfl (Nat.le_of_ble_eq_true rfl) d_Fr_init_41 rfl ?_
  refine j_aload_n d_Fr_init_44 rfl 0 rfl ?_
  refine j_iconst (v := 0) d_Fr_init_45 (by decide) ?_
  refine j_put (ws' := [(h0, .inr (0, [.null, .null, .int 0, .int 0, .int 0, .int (-1), .int 0, .int 0, .int 0, .int 0, .int 0, .int 0, .int 0, .int 0, .int 0]))]) ig_Fr tk_Fr nm_Fr rfl 0 rfl 9 (by decide) rfl m_124 rfl (tk_Fr 9 (by decide)) rfl rfl (Nat.le_of_ble_eq_true rfl) d_Fr_init_46 rfl ?_
  refine j_aload_n d_Fr_init_49 rfl 0 rfl ?_
  refine j_iconst (v := 0) d_Fr_init_50 (by decide) ?_
  refine j_put (ws' := [(h0, .inr (0, [.null, .null, .int 0, .int 0, .int 0, .int (-1), .int 0, .int 0, .int 0, .int 0, .int 0, .int 0, .int 0, .int 0, .int 0]))]) ig_Fr tk_Fr nm_Fr rfl 0 rfl 10 (by decide) rfl m_126 rfl (tk_Fr 10 (by decide)) rfl rfl (Nat.le_of_ble_eq_true rfl) d_Fr_init_51 rfl ?_
  refine j_aload_n d_Fr_init_54 rfl 0 rfl ?_
  refine j_iconst (v := 0) d_Fr_init_55 (by decide) ?_
  refine j_put (ws' := [(h0, .inr (0, [.null, .null, .int 0, .int 0, .int 0, .int (-1), .int 0, .int 0, .int 0, .int 0, .int 0, .int 0, .int 0, .int 0, .int 0]))]) ig_Fr tk_Fr nm_Fr rfl 0 rfl 11 (by decide) rfl m_128 rfl (tk_Fr 11 (by decide)) rfl rfl (Nat.le_of_ble_eq_true rfl) d_Fr_init_56 rfl ?_
  refine j_aload_n d_Fr_init_59 rfl 0 rfl ?_
  refine j_iconst (v := 0) d_Fr_init_60 (by decide) ?_
  refine j_put (ws' := [(h0, .inr (0, [.null, .null, .int 0, .int 0, .int 0, .int (-1), .int 0, .int 0, .int 0, .int 0, .int 0, .int 0, .int 0, .int 0, .int 0]))]) ig_Fr tk_Fr nm_Fr rfl 0 rfl 12 (by decide) rfl m_130 rfl (tk_Fr 12 (by decide)) (zb_n zb0) (zb_fit zb0) (Nat.le_of_ble_eq_true rfl) d_Fr_init_61 rfl ?_
  refine j_aload_n d_Fr_init_64 rfl 0 rfl ?_
  refine j_iconst (v := 0) d_Fr_init_65 (by decide) ?_
  refine j_put (ws' := [(h0, .inr (0, [.null, .null, .int 0, .int 0, .int 0, .int (-1), .int 0, .int 0, .int 0, .int 0, .int 0, .int 0, .int 0, .int 0, .int 0]))]) ig_Fr tk_Fr nm_Fr rfl 0 rfl 13 (by decide) rfl m_132 rfl (tk_Fr 13 (by decide)) (zb_n zb0) (zb_fit zb0) (Nat.le_of_ble_eq_true rfl) d_Fr_init_66 rfl ?_
  refine j_aload_n d_Fr_init_69 rfl 0 rfl ?_
  refine j_iconst (v := 0) d_Fr_init_70 (by decide) ?_
  refine j_put (ws' := [(h0, .inr (0, [.null, .null, .int 0, .int 0, .int 0, .int (-1), .int 0, .int 0, .int 0, .int 0, .int 0, .int 0, .int 0, .int 0, .int 0]))]) ig_Fr tk_Fr nm_Fr rfl 0 rfl 14 (by decide) rfl m_134 rfl (tk_Fr 14 (by decide)) (zb_n zb0) (zb_fit zb0) (Nat.le_of_ble_eq_true rfl) d_Fr_init_71 rfl ?_
  refine j_aload_n d_Fr_init_74 rfl 0 rfl ?_
  refine j_aload_n d_Fr_init_75 rfl 1 rfl ?_
  refine j_putF (ws' := [(h0, .inr (0, [.ref g1, .null, .int 0, .int 0, .int 0, .int (-1), .int 0, .int 0, .int 0, .int 0, .int 0, .int 0, .int 0, .int 0, .int 0]))]) hnm ig_Fr tk_Fr nm_Fr rfl 0 rfl 0 (by decide) rfl m_106 rfl rfl (tk_Fr 0 (by decide)) rfl rfl (Nat.le_of_ble_eq_true rfl) d_Fr_init_76 rfl ?_
  exact j_vret (w := [(h0, .inr (0, [.ref g1, .null, .int 0, .int 0, .int 0, .int (-1), .int 0, .int 0, .int 0, .int 0, .int 0, .int 0, .int 0, .int 0, .int 0]))]) hr d_Fr_init_79 [0] rfl (by decide) ⟨rfl, rfl⟩
theorem d_Fr_begin_0 : decode prog_2_method_2_code 0 = .ok (.aload_n 0, 1) := by decide +kernel
theorem d_Fr_begin_1 : decode prog_2_method_2_code 1 = .ok (.iload_n 1, 1) := by decide +kernel
theorem d_Fr_begin_2 : decode prog_2_method_2_code 2 = .ok (.putfield 17, 3) := by decide +kernel
theorem d_Fr_begin_5 : decode prog_2_method_2_code 5 = .ok (.aload_n 0, 1) := by decide +kernel
theorem d_Fr_begin_6 : decode prog_2_method_2_code 6 = .ok (.iload_n 2, 1) := by decide +kernel
theorem d_Fr_begin_7 : decode prog_2_method_2_code 7 = .ok (.putfield 21, 3) := by decide +kernel
theorem d_Fr_begin_10 : decode prog_2_method_2_code 10 = .ok (.aload_n 0, 1) := by decide +kernel
theorem d_Fr_begin_11 : decode prog_2_method_2_code 11 = .ok (.iload_n 3, 1) := by decide +kernel
theorem d_Fr_begin_12 : decode prog_2_method_2_code 12 = .ok (.putfield 24, 3) := by decide +kernel
theorem d_Fr_begin_15 : decode prog_2_method_2_code 15 = .ok (.aload_n 0, 1) := by decide +kernel
theorem d_Fr_begin_16 : decode prog_2_method_2_code 16 = .ok (.iconst (-1), 1) := by decide +kernel
theorem d_Fr_begin_17 : decode prog_2_method_2_code 17 = .ok (.putfield 27, 3) := by decide +kernel
theorem d_Fr_begin_20 : decode prog_2_method_2_code 20 = .ok (.aload_n 0, 1) := by decide +kernel
theorem d_Fr_begin_21 : decode prog_2_method_2_code 21 = .ok (.iconst 0, 1) := by decide +kernel
theorem d_Fr_begin_22 : decode prog_2_method_2_code 22 = .ok (.putfield 30, 3) := by decide +kernel
theorem d_Fr_begin_25 : decode prog_2_method_2_code 25 = .ok (.aload_n 0, 1) := by decide +kernel
theorem d_Fr_begin_26 : decode prog_2_method_2_code 26 = .ok (.iconst 0, 1) := by decide +kernel
theorem d_Fr_begin_27 : decode prog_2_method_2_code 27 = .ok (.putfield 33, 3) := by decide +kernel
theorem d_Fr_begin_30 : decode prog_2_method_2_code 30 = .ok (.aload_n 0, 1) := by decide +kernel
theorem d_Fr_begin_31 : decode prog_2_method_2_code 31 = .ok (.iload_n 2, 1) := by decide +kernel
theorem d_Fr_begin_32 : decode prog_2_method_2_code 32 = .ok (.putfield 36, 3) := by decide +kernel
theorem d_Fr_begin_35 : decode prog_2_method_2_code 35 = .ok (.aload_n 0, 1) := by decide +kernel
theorem d_Fr_begin_36 : decode prog_2_method_2_code 36 = .ok (.iload_n 3, 1) := by decide +kernel
theorem d_Fr_begin_37 : decode prog_2_method_2_code 37 = .ok (.putfield 39, 3) := by decide +kernel
theorem d_Fr_begin_40 : decode prog_2_method_2_code 40 = .ok (.aload_n 0, 1) := by decide +kernel
theorem d_Fr_begin_41 : decode prog_2_method_2_code 41 = .ok (.iconst 0, 1) := by decide +kernel
theorem d_Fr_begin_42 : decode prog_2_method_2_code 42 = .ok (.putfield 42, 3) := by decide +kernel
theorem d_Fr_begin_45 : decode prog_2_method_2_code 45 = .ok (.aload_n 0, 1) := by decide +kernel
theorem d_Fr_begin_46 : decode prog_2_method_2_code 46 = .ok (.iconst 0, 1) := by decide +kernel
theorem d_Fr_begin_47 : decode prog_2_method_2_code 47 = .ok (.putfield 45, 3) := by decide +kernel
theorem d_Fr_begin_50 : decode prog_2_method_2_code 50 = .ok (.aload_n 0, 1) := by decide +kernel
theorem d_Fr_begin_51 : decode prog_2_method_2_code 51 = .ok (.iconst 0, 1) := by decide +kernel
theorem d_Fr_begin_52 : decode prog_2_method_2_code 52 = .ok (.putfield 48, 3) := by decide +kernel
theorem d_Fr_begin_55 : decode prog_2_method_2_code 55 = .ok (.aload_n 0, 1) := by decide +kernel
theorem d_Fr_begin_56 : decode prog_2_method_2_code 56 = .ok (.iconst 0, 1) := by decide +kernel
theorem d_Fr_begin_57 : decode prog_2_method_2_code 57 = .ok (.putfield 52, 3) := by decide +kernel
theorem d_Fr_begin_60 : decode prog_2_method_2_code 60 = .ok (.aload_n 0, 1) := by decide +kernel
theorem d_Fr_begin_61 : decode prog_2_method_2_code 61 = .ok (.iconst 0, 1) := by decide +kernel
theorem d_Fr_begin_62 : decode prog_2_method_2_code 62 = .ok (.putfield 55, 3) := by decide +kernel
theorem d_Fr_begin_65 : decode prog_2_method_2_code 65 = .ok (.return_, 1) := by decide +kernel
set_option maxHeartbeats 4000000 in
set_option maxRecDepth 100000 in
theorem c_Fr_begin (l : Launch) (D : va_G) (cI cB cJ cS : ClassId) (h0 : Nat) (V_below_h0 : Value) (V_above_h0 : Value) (p1 : Int32) (p2 : Int32) (p3 : Int32) (kind_h0 : Int32) (place_h0 : Int32) (width_h0 : Int32) (second_h0 : Int32) (parts_h0 : Int32) (innerParts_h0 : Int32) (innerPlace_h0 : Int32) (innerWidth_h0 : Int32) (signs_h0 : Int32) (waitingBelow_h0 : Int32) (limited_h0 : Int32) (targets_h0 : Int32) (lastBlock_h0 : Int32) : Ct l D (gT cI cB cJ cS) y_Fr_begin prog_2_method_2_code 4 (Option.none : Option Jvm.ClassFile.FieldType) 0 0 0 0 [.ref h0, .int p1, .int p2, .int p3] [(h0, .inr (0, [V_below_h0, V_above_h0, .int kind_h0, .int place_h0, .int width_h0, .int second_h0, .int parts_h0, .int innerParts_h0, .int innerPlace_h0, .int innerWidth_h0, .int signs_h0, .int waitingBelow_h0, .int limited_h0, .int targets_h0, .int lastBlock_h0]))] (fun v w => v = none ∧ w = [(h0, .inr (0, [V_below_h0, V_above_h0, .int p1, .int p2, .int p3, .int (-1), .int 0, .int 0, .int p2, .int p3, .int 0, .int 0, .int 0, .int 0, .int 0]))]) := by
  refine Ct.mk (by decide) (Nat.le_of_ble_eq_true rfl) ?_
  intro p e s m below meth c hr hnm
  refine j_norm (pc' := 0) (lv' := [(0, .ref h0), (1, .int p1), (2, .int p2), (3, .int p3)]) (st' := []) (ws' := [(h0, .inr (0, [V_below_h0, V_above_h0, .int kind_h0, .int place_h0, .int width_h0, .int second_h0, .int parts_h0, .int innerParts_h0, .int innerPlace_h0, .int innerWidth_h0, .int signs_h0, .int waitingBelow_h0, .int limited_h0, .int targets_h0, .int lastBlock_h0]))]) (cl' := 0) (sl' := 0) rfl rfl rfl rfl rfl rfl ?_
  refine j_aload_n d_Fr_begin_0 rfl 0 rfl ?_
  refine j_iload_n d_Fr_begin_1 rfl 1 rfl ?_
  refine j_put (ws' := [(h0, .inr (0, [V_below_h0, V_above_h0, .int p1, .int place_h0, .int width_h0, .int second_h0, .int parts_h0, .int innerParts_h0, .int innerPlace_h0, .int innerWidth_h0, .int signs_h0, .int waitingBelow_h0, .int limited_h0, .int targets_h0, .int lastBlock_h0]))]) ig_Fr tk_Fr nm_Fr rfl 0 rfl 2 (by decide) rfl m_110 rfl (tk_Fr 2 (by decide)) rfl rfl (Nat.le_of_ble_eq_true rfl) d_Fr_begin_2 rfl ?_
  refine j_aload_n d_Fr_begin_5 rfl 0 rfl ?_
  refine j_iload_n d_Fr_begin_6 rfl 2 rfl ?_
  refine j_put (ws' := [(h0, .inr (0, [V_below_h0, V_above_h0, .int p1, .int p2, .int width_h0, .int second_h0, .int parts_h0, .int innerParts_h0, .int innerPlace_h0, .int innerWidth_h0, .int signs_h0, .int waitingBelow_h0, .int limited_h0, .int targets_h0, .int lastBlock_h0]))]) ig_Fr tk_Fr nm_Fr rfl 0 rfl 3 (by decide) rfl m_112 rfl (tk_Fr 3 (by decide)) rfl rfl (Nat.le_of_ble_eq_true rfl) d_Fr_begin_7 rfl ?_
  refine j_aload_n d_Fr_begin_10 rfl 0 rfl ?_
  refine j_iload_n d_Fr_begin_11 rfl 3 rfl ?_
  refine j_put (ws' := [(h0, .inr (0, [V_below_h0, V_above_h0, .int p1, .int p2, .int p3, .int second_h0, .int parts_h0, .int innerParts_h0, .int innerPlace_h0, .int innerWidth_h0, .int signs_h0, .int waitingBelow_h0, .int limited_h0, .int targets_h0, .int lastBlock_h0]))]) ig_Fr tk_Fr nm_Fr rfl 0 rfl 4 (by decide) rfl m_114 rfl (tk_Fr 4 (by decide)) rfl rfl (Nat.le_of_ble_eq_true rfl) d_Fr_begin_12 rfl ?_
  refine j_aload_n d_Fr_begin_15 rfl 0 rfl ?_
  refine j_iconst (v := (-1)) d_Fr_begin_16 (by decide) ?_
  refine j_put (ws' := [(h0, .inr (0, [V_below_h0, V_above_h0, .int p1, .int p2, .int p3, .int (-1), .int parts_h0, .int innerParts_h0, .int innerPlace_h0, .int innerWidth_h0, .int signs_h0, .int waitingBelow_h0, .int limited_h0, .int targets_h0, .int lastBlock_h0]))]) ig_Fr tk_Fr nm_Fr rfl 0 rfl 5 (by decide) rfl m_116 rfl (tk_Fr 5 (by decide)) rfl rfl (Nat.le_of_ble_eq_true rfl) d_Fr_begin_17 rfl ?_
  refine j_aload_n d_Fr_begin_20 rfl 0 rfl ?_
  refine j_iconst (v := 0) d_Fr_begin_21 (by decide) ?_
  refine j_put (ws' := [(h0, .inr (0, [V_below_h0, V_above_h0, .int p1, .int p2, .int p3, .int (-1), .int 0, .int innerParts_h0, .int innerPlace_h0, .int innerWidth_h0, .int signs_h0, .int waitingBelow_h0, .int limited_h0, .int targets_h0, .int lastBlock_h0]))]) ig_Fr tk_Fr nm_Fr rfl 0 rfl 6 (by decide) rfl m_118 rfl (tk_Fr 6 (by decide)) rfl rfl (Nat.le_of_ble_eq_true rfl) d_Fr_begin_22 rfl ?_
  refine j_aload_n d_Fr_begin_25 rfl 0 rfl ?_
  refine j_iconst (v := 0) d_Fr_begin_26 (by decide) ?_
  refine j_put (ws' := [(h0, .inr (0, [V_below_h0, V_above_h0, .int p1, .int p2, .int p3, .int (-1), .int 0, .int 0, .int innerPlace_h0, .int innerWidth_h0, .int signs_h0, .int waitingBelow_h0, .int limited_h0, .int targets_h0, .int lastBlock_h0]))]) ig_Fr tk_Fr nm_Fr rfl 0 rfl 7 (by decide) rfl m_120 rfl (tk_Fr 7 (by decide)) rfl rfl (Nat.le_of_ble_eq_true rfl) d_Fr_begin_27 rfl ?_
  refine j_aload_n d_Fr_begin_30 rfl 0 rfl ?_
  refine j_iload_n d_Fr_begin_31 rfl 2 rfl ?_
  refine j_put (ws' := [(h0, .inr (0, [V_below_h0, V_above_h0, .int p1, .int p2, .int p3, .int (-1), .int 0, .int 0, .int p2, .int innerWidth_h0, .int signs_h0, .int waitingBelow_h0, .int limited_h0, .int targets_h0, .int lastBlock_h0]))]) ig_Fr tk_Fr nm_Fr rfl 0 rfl 8 (by decide) rfl m_122 rfl (tk_Fr 8 (by decide)) rfl rfl (Nat.le_of_ble_eq_true rfl) d_Fr_begin_32 rfl ?_
  refine j_aload_n d_Fr_begin_35 rfl 0 rfl ?_
  refine j_iload_n d_Fr_begin_36 rfl 3 rfl ?_
  refine j_put (ws' := [(h0, .inr (0, [V_below_h0, V_above_h0, .int p1, .int p2, .int p3, .int (-1), .int 0, .int 0, .int p2, .int p3, .int signs_h0, .int waitingBelow_h0, .int limited_h0, .int targets_h0, .int lastBlock_h0]))]) ig_Fr tk_Fr nm_Fr rfl 0 rfl 9 (by decide) rfl m_124 rfl (tk_Fr 9 (by decide)) rfl rfl (Nat.le_of_ble_eq_true rfl) d_Fr_begin_37 rfl ?_
  refine j_aload_n d_Fr_begin_40 rfl 0 rfl ?_
  refine j_iconst (v := 0) d_Fr_begin_41 (by decide) ?_
  refine j_put (ws' := [(h0, .inr (0, [V_below_h0, V_above_h0, .int p1, .int p2, .int p3, .int (-1), .int 0, .int 0, .int p2, .int p3, .int 0, .int waitingBelow_h0, .int limited_h0, .int targets_h0, .int lastBlock_h0]))]) ig_Fr tk_Fr nm_Fr rfl 0 rfl 10 (by decide) rfl m_126 rfl (tk_Fr 10 (by decide)) rfl rfl (Nat.le_of_ble_eq_true rfl) d_Fr_begin_42 rfl ?_
  refine j_aload_n d_Fr_begin_45 rfl 0 rfl ?_
  refine j_iconst (v := 0) d_Fr_begin_46 (by decide) ?_
  refine j_put (ws' := [(h0, .inr (0, [V_below_h0, V_above_h0, .int p1, .int p2, .int p3, .int (-1), .int 0, .int 0, .int p2, .int p3, .int 0, .int 0, .int limited_h0, .int targets_h0, .int lastBlock_h0]))]) ig_Fr tk_Fr nm_Fr rfl 0 rfl 11 (by decide) rfl m_128 rfl (tk_Fr 11 (by decide)) rfl rfl (Nat.le_of_ble_eq_true rfl) d_Fr_begin_47 rfl ?_
  refine j_aload_n d_Fr_begin_50 rfl 0 rfl ?_
  refine j_iconst (v := 0) d_Fr_begin_51 (by decide) ?_
  refine j_put (ws' := [(h0, .inr (0, [V_below_h0, V_above_h0, .int p1, .int p2, .int p3, .int (-1), .int 0, .int 0, .int p2, .int p3, .int 0, .int 0, .int 0, .int targets_h0, .int lastBlock_h0]))]) ig_Fr tk_Fr nm_Fr rfl 0 rfl 12 (by decide) rfl m_130 rfl (tk_Fr 12 (by decide)) (zb_n zb0) (zb_fit zb0) (Nat.le_of_ble_eq_true rfl) d_Fr_begin_52 rfl ?_
  refine j_aload_n d_Fr_begin_55 rfl 0 rfl ?_
  refine j_iconst (v := 0) d_Fr_begin_56 (by decide) ?_
  refine j_put (ws' := [(h0, .inr (0, [V_below_h0, V_above_h0, .int p1, .int p2, .int p3, .int (-1), .int 0, .int 0, .int p2, .int p3, .int 0, .int 0, .int 0, .int 0, .int lastBlock_h0]))]) ig_Fr tk_Fr nm_Fr rfl 0 rfl 13 (by decide) rfl m_132 rfl (tk_Fr 13 (by decide)) (zb_n zb0) (zb_fit zb0) (Nat.le_of_ble_eq_true rfl) d_Fr_begin_57 rfl ?_
  refine j_aload_n d_Fr_begin_60 rfl 0 rfl ?_
  refine j_iconst (v := 0) d_Fr_begin_61 (by decide) ?_
  refine j_put (ws' := [(h0, .inr (0, [V_below_h0, V_above_h0, .int p1, .int p2, .int p3, .int (-1), .int 0, .int 0, .int p2, .int p3, .int 0, .int 0, .int 0, .int 0, .int 0]))]) ig_Fr tk_Fr nm_Fr rfl 0 rfl 14 (by decide) rfl m_134 rfl (tk_Fr 14 (by decide)) (zb_n zb0) (zb_fit zb0) (Nat.le_of_ble_eq_true rfl) d_Fr_begin_62 rfl ?_
  exact j_vret (w := [(h0, .inr (0, [V_below_h0, V_above_h0, .int p1, .int p2, .int p3, .int (-1), .int 0, .int 0, .int p2, .int p3, .int 0, .int 0, .int 0, .int 0, .int 0]))]) hr d_Fr_begin_65 [0] rfl (by decide) ⟨rfl, rfl⟩
def F_Rk_of (p1 : Int32) : (Int32) :=
  if p1 = 42 then 6
  else if p1 = 43 then 5
  else if p1 = 45 then 5
  else if p1 = 47 then 6
  else if p1 = 58 then 4
  else if p1 = 60 then 3
  else if p1 = 62 then 3
  else if p1 = 92 then 6
  else if p1 = 94 then 8
  else if p1 = 256 then 1
  else if p1 = 257 then 2
  else if p1 = 258 then 3
  else if p1 = 259 then 3
  else if p1 = 260 then 3
  else if p1 = 261 then 3
  else if p1 = 262 then 6
  else if p1 = 263 then 6
  else if p1 = 264 then 8
  else 0
theorem d_Rk_of_0 : decode prog_5_method_2_code 0 = .ok (.iload_n 0, 1) := by decide +kernel
theorem d_Rk_of_1 : decode prog_5_method_2_code 1 = .ok (.lookupswitch 171 #[(42, 165), (43, 163), (45, 163), (47, 165), (58, 161), (60, 159), (62, 159), (92, 165), (94, 168), (256, 155), (257, 157), (258, 159), (259, 159), (260, 159), (261, 159), (262, 165), (263, 165), (264, 168)], 155) := by decide +kernel
theorem d_Rk_of_156 : decode prog_5_method_2_code 156 = .ok (.iconst 1, 1) := by decide +kernel
theorem d_Rk_of_157 : decode prog_5_method_2_code 157 = .ok (.ireturn, 1) := by decide +kernel
theorem d_Rk_of_158 : decode prog_5_method_2_code 158 = .ok (.iconst 2, 1) := by decide +kernel
theorem d_Rk_of_159 : decode prog_5_method_2_code 159 = .ok (.ireturn, 1) := by decide +kernel
theorem d_Rk_of_160 : decode prog_5_method_2_code 160 = .ok (.iconst 3, 1) := by decide +kernel
theorem d_Rk_of_161 : decode prog_5_method_2_code 161 = .ok (.ireturn, 1) := by decide +kernel
theorem d_Rk_of_162 : decode prog_5_method_2_code 162 = .ok (.iconst 4, 1) := by decide +kernel
theorem d_Rk_of_163 : decode prog_5_method_2_code 163 = .ok (.ireturn, 1) := by decide +kernel
theorem d_Rk_of_164 : decode prog_5_method_2_code 164 = .ok (.iconst 5, 1) := by decide +kernel
theorem d_Rk_of_165 : decode prog_5_method_2_code 165 = .ok (.ireturn, 1) := by decide +kernel
theorem d_Rk_of_166 : decode prog_5_method_2_code 166 = .ok (.bipush 6, 2) := by decide +kernel
theorem d_Rk_of_168 : decode prog_5_method_2_code 168 = .ok (.ireturn, 1) := by decide +kernel
theorem d_Rk_of_169 : decode prog_5_method_2_code 169 = .ok (.bipush 8, 2) := by decide +kernel
theorem d_Rk_of_171 : decode prog_5_method_2_code 171 = .ok (.ireturn, 1) := by decide +kernel
theorem d_Rk_of_172 : decode prog_5_method_2_code 172 = .ok (.iconst 0, 1) := by decide +kernel
theorem d_Rk_of_173 : decode prog_5_method_2_code 173 = .ok (.ireturn, 1) := by decide +kernel
set_option maxHeartbeats 4000000 in
set_option maxRecDepth 100000 in
theorem c_Rk_of (l : Launch) (D : va_G) (cI cB cJ cS : ClassId) (p1 : Int32) (ret : Int32) (h : F_Rk_of p1 = ret) : Ct l D (gT cI cB cJ cS) y_Rk_of prog_5_method_2_code 1 (Option.some Jvm.ClassFile.FieldType.int) 0 0 0 0 [.int p1] [] (fun v w => v = some (.int ret) ∧ w = []) := by
  refine Ct.mk (by decide) (Nat.le_of_ble_eq_true rfl) ?_
  intro p e s m below meth c hr hnm
  refine j_norm (pc' := 0) (lv' := [(0, .int p1)]) (st' := []) (ws' := []) (cl' := 0) (sl' := 0) rfl rfl rfl rfl rfl rfl ?_
  unfold F_Rk_of at h
  refine j_iload_n d_Rk_of_0 rfl 0 rfl ?_
  by_cases c1 : p1 = 42
  · replace h := it_t c1 h
    refine j_look (tgt := 166) (off := 165) d_Rk_of_1 (by decide) (by rw [c1]; decide) (by decide) ?_
    refine j_bipush (v := 6) d_Rk_of_166 (by decide) ?_
    subst h
    exact j_iret (w := []) hr d_Rk_of_168 [] rfl (by decide) ⟨rfl, rfl⟩
  · replace h := it_f c1 h
    by_cases c2 : p1 = 43
    · replace h := it_t c2 h
      refine j_look (tgt := 164) (off := 163) d_Rk_of_1 (by decide) (by rw [c2]; decide) (by decide) ?_
      refine j_iconst (v := 5) d_Rk_of_164 (by decide) ?_
      subst h
      exact j_iret (w := []) hr d_Rk_of_165 [] rfl (by decide) ⟨rfl, rfl⟩
    · replace h := it_f c2 h
      by_cases c3 : p1 = 45
      · replace h := it_t c3 h
        refine j_look (tgt := 164) (off := 163) d_Rk_of_1 (by decide) (by rw [c3]; decide) (by decide) ?_
        refine j_iconst (v := 5) d_Rk_of_164 (by decide) ?_
        subst h
        exact j_iret (w := []) hr d_Rk_of_165 [] rfl (by decide) ⟨rfl, rfl⟩
      · replace h := it_f c3 h
        by_cases c4 : p1 = 47
        · replace h := it_t c4 h
          refine j_look (tgt := 166) (off := 165) d_Rk_of_1 (by decide) (by rw [c4]; decide) (by decide) ?_
          refine j_bipush (v := 6) d_Rk_of_166 (by decide) ?_
          subst h
          exact j_iret (w := []) hr d_Rk_of_168 [] rfl (by decide) ⟨rfl, rfl⟩
        · replace h := it_f c4 h
          by_cases c5 : p1 = 58
          · replace h := it_t c5 h
            refine j_look (tgt := 162) (off := 161) d_Rk_of_1 (by decide) (by rw [c5]; decide) (by decide) ?_
            refine j_iconst (v := 4) d_Rk_of_162 (by decide) ?_
            subst h
            exact j_iret (w := []) hr d_Rk_of_163 [] rfl (by decide) ⟨rfl, rfl⟩
          · replace h := it_f c5 h
            by_cases c6 : p1 = 60
            · replace h := it_t c6 h
              refine j_look (tgt := 160) (off := 159) d_Rk_of_1 (by decide) (by rw [c6]; decide) (by decide) ?_
              refine j_iconst (v := 3) d_Rk_of_160 (by decide) ?_
              subst h
              exact j_iret (w := []) hr d_Rk_of_161 [] rfl (by decide) ⟨rfl, rfl⟩
            · replace h := it_f c6 h
              by_cases c7 : p1 = 62
              · replace h := it_t c7 h
                refine j_look (tgt := 160) (off := 159) d_Rk_of_1 (by decide) (by rw [c7]; decide) (by decide) ?_
                refine j_iconst (v := 3) d_Rk_of_160 (by decide) ?_
                subst h
                exact j_iret (w := []) hr d_Rk_of_161 [] rfl (by decide) ⟨rfl, rfl⟩
              · replace h := it_f c7 h
                by_cases c8 : p1 = 92
                · replace h := it_t c8 h
                  refine j_look (tgt := 166) (off := 165) d_Rk_of_1 (by decide) (by rw [c8]; decide) (by decide) ?_
                  refine j_bipush (v := 6) d_Rk_of_166 (by decide) ?_
                  subst h
                  exact j_iret (w := []) hr d_Rk_of_168 [] rfl (by decide) ⟨rfl, rfl⟩
                · replace h := it_f c8 h
                  by_cases c9 : p1 = 94
                  · replace h := it_t c9 h
                    refine j_look (tgt := 169) (off := 168) d_Rk_of_1 (by decide) (by rw [c9]; decide) (by decide) ?_
                    refine j_bipush (v := 8) d_Rk_of_169 (by decide) ?_
                    subst h
                    exact j_iret (w := []) hr d_Rk_of_171 [] rfl (by decide) ⟨rfl, rfl⟩
                  · replace h := it_f c9 h
                    by_cases c10 : p1 = 256
                    · replace h := it_t c10 h
                      refine j_look (tgt := 156) (off := 155) d_Rk_of_1 (by decide) (by rw [c10]; decide) (by decide) ?_
                      refine j_iconst (v := 1) d_Rk_of_156 (by decide) ?_
                      subst h
                      exact j_iret (w := []) hr d_Rk_of_157 [] rfl (by decide) ⟨rfl, rfl⟩
                    · replace h := it_f c10 h
                      by_cases c11 : p1 = 257
                      · replace h := it_t c11 h
                        refine j_look (tgt := 158) (off := 157) d_Rk_of_1 (by decide) (by rw [c11]; decide) (by decide) ?_
                        refine j_iconst (v := 2) d_Rk_of_158 (by decide) ?_
                        subst h
                        exact j_iret (w := []) hr d_Rk_of_159 [] rfl (by decide) ⟨rfl, rfl⟩
                      · replace h := it_f c11 h
                        by_cases c12 : p1 = 258
                        · replace h := it_t c12 h
                          refine j_look (tgt := 160) (off := 159) d_Rk_of_1 (by decide) (by rw [c12]; decide) (by decide) ?_
                          refine j_iconst (v := 3) d_Rk_of_160 (by decide) ?_
                          subst h
                          exact j_iret (w := []) hr d_Rk_of_161 [] rfl (by decide) ⟨rfl, rfl⟩
                        · replace h := it_f c12 h
                          by_cases c13 : p1 = 259
                          · replace h := it_t c13 h
                            refine j_look (tgt := 160) (off := 159) d_Rk_of_1 (by decide) (by rw [c13]; decide) (by decide) ?_
                            refine j_iconst (v := 3) d_Rk_of_160 (by decide) ?_
                            subst h
                            exact j_iret (w := []) hr d_Rk_of_161 [] rfl (by decide) ⟨rfl, rfl⟩
                          · replace h := it_f c13 h
                            by_cases c14 : p1 = 260
                            · replace h := it_t c14 h
                              refine j_look (tgt := 160) (off := 159) d_Rk_of_1 (by decide) (by rw [c14]; decide) (by decide) ?_
                              refine j_iconst (v := 3) d_Rk_of_160 (by decide) ?_
                              subst h
                              exact j_iret (w := []) hr d_Rk_of_161 [] rfl (by decide) ⟨rfl, rfl⟩
                            · replace h := it_f c14 h
                              by_cases c15 : p1 = 261
                              · replace h := it_t c15 h
                                refine j_look (tgt := 160) (off := 159) d_Rk_of_1 (by decide) (by rw [c15]; decide) (by decide) ?_
                                refine j_iconst (v := 3) d_Rk_of_160 (by decide) ?_
                                subst h
                                exact j_iret (w := []) hr d_Rk_of_161 [] rfl (by decide) ⟨rfl, rfl⟩
                              · replace h := it_f c15 h
                                by_cases c16 : p1 = 262
                                · replace h := it_t c16 h
                                  refine j_look (tgt := 166) (off := 165) d_Rk_of_1 (by decide) (by rw [c16]; decide) (by decide) ?_
                                  refine j_bipush (v := 6) d_Rk_of_166 (by decide) ?_
                                  subst h
                                  exact j_iret (w := []) hr d_Rk_of_168 [] rfl (by decide) ⟨rfl, rfl⟩
                                · replace h := it_f c16 h
                                  by_cases c17 : p1 = 263
                                  · replace h := it_t c17 h
                                    refine j_look (tgt := 166) (off := 165) d_Rk_of_1 (by decide) (by rw [c17]; decide) (by decide) ?_
                                    refine j_bipush (v := 6) d_Rk_of_166 (by decide) ?_
                                    subst h
                                    exact j_iret (w := []) hr d_Rk_of_168 [] rfl (by decide) ⟨rfl, rfl⟩
                                  · replace h := it_f c17 h
                                    by_cases c18 : p1 = 264
                                    · replace h := it_t c18 h
                                      refine j_look (tgt := 169) (off := 168) d_Rk_of_1 (by decide) (by rw [c18]; decide) (by decide) ?_
                                      refine j_bipush (v := 8) d_Rk_of_169 (by decide) ?_
                                      subst h
                                      exact j_iret (w := []) hr d_Rk_of_171 [] rfl (by decide) ⟨rfl, rfl⟩
                                    · replace h := it_f c18 h
                                      refine j_look (tgt := 172) (off := 171) d_Rk_of_1 (by decide) (by show Op.lookupswitch.offset [(42, _), (43, _), (45, _), (47, _), (58, _), (60, _), (62, _), (92, _), (94, _), (256, _), (257, _), (258, _), (259, _), (260, _), (261, _), (262, _), (263, _), (264, _)] _ _ = _; rw [lv_osw c1 (by decide), lv_osw c2 (by decide), lv_osw c3 (by decide), lv_osw c4 (by decide), lv_osw c5 (by decide), lv_osw c6 (by decide), lv_osw c7 (by decide), lv_osw c8 (by decide), lv_osw c9 (by decide), lv_osw c10 (by decide), lv_osw c11 (by decide), lv_osw c12 (by decide), lv_osw c13 (by decide), lv_osw c14 (by decide), lv_osw c15 (by decide), lv_osw c16 (by decide), lv_osw c17 (by decide), lv_osw c18 (by decide)]; rfl) (by decide) ?_
                                      refine j_iconst (v := 0) d_Rk_of_172 (by decide) ?_
                                      subst h
                                      exact j_iret (w := []) hr d_Rk_of_173 [] rfl (by decide) ⟨rfl, rfl⟩
noncomputable def F_Sc_init : Option ((Unit) × Nat × Nat) :=
  al 1 2 (bw F_Rw_init fun _ =>
  (some ((), 0, 0)))
theorem d_Sc_init_0 : decode prog_8_method_1_code 0 = .ok (.aload_n 0, 1) := by decide +kernel
theorem d_Sc_init_1 : decode prog_8_method_1_code 1 = .ok (.invokespecial 3, 3) := by decide +kernel
theorem d_Sc_init_4 : decode prog_8_method_1_code 4 = .ok (.aload_n 0, 1) := by decide +kernel
theorem d_Sc_init_5 : decode prog_8_method_1_code 5 = .ok (.new 9, 3) := by decide +kernel
theorem d_Sc_init_8 : decode prog_8_method_1_code 8 = .ok (.dup, 1) := by decide +kernel
theorem d_Sc_init_9 : decode prog_8_method_1_code 9 = .ok (.invokespecial 11, 3) := by decide +kernel
theorem d_Sc_init_12 : decode prog_8_method_1_code 12 = .ok (.putfield 12, 3) := by decide +kernel
theorem d_Sc_init_15 : decode prog_8_method_1_code 15 = .ok (.aload_n 0, 1) := by decide +kernel
theorem d_Sc_init_16 : decode prog_8_method_1_code 16 = .ok (.iconst 0, 1) := by decide +kernel
theorem d_Sc_init_17 : decode prog_8_method_1_code 17 = .ok (.putfield 18, 3) := by decide +kernel
theorem d_Sc_init_20 : decode prog_8_method_1_code 20 = .ok (.aload_n 0, 1) := by decide +kernel
theorem d_Sc_init_21 : decode prog_8_method_1_code 21 = .ok (.iconst 0, 1) := by decide +kernel
theorem d_Sc_init_22 : decode prog_8_method_1_code 22 = .ok (.putfield 22, 3) := by decide +kernel
theorem d_Sc_init_25 : decode prog_8_method_1_code 25 = .ok (.aload_n 0, 1) := by decide +kernel
theorem d_Sc_init_26 : decode prog_8_method_1_code 26 = .ok (.iconst 0, 1) := by decide +kernel
theorem d_Sc_init_27 : decode prog_8_method_1_code 27 = .ok (.putfield 25, 3) := by decide +kernel
theorem d_Sc_init_30 : decode prog_8_method_1_code 30 = .ok (.aload_n 0, 1) := by decide +kernel
theorem d_Sc_init_31 : decode prog_8_method_1_code 31 = .ok (.iconst 0, 1) := by decide +kernel
theorem d_Sc_init_32 : decode prog_8_method_1_code 32 = .ok (.putfield 28, 3) := by decide +kernel
theorem d_Sc_init_35 : decode prog_8_method_1_code 35 = .ok (.return_, 1) := by decide +kernel
set_option maxHeartbeats 4000000 in
set_option maxRecDepth 100000 in
theorem c_Sc_init (l : Launch) (D : va_G) (cI cB cJ cS : ClassId) (h0 : Nat) (mc ms : Nat) (h : F_Sc_init  = some ((), mc, ms)) : Ct l D (gT cI cB cJ cS) y_Sc_init prog_8_method_1_code 1 (Option.none : Option Jvm.ClassFile.FieldType) 2 40 mc ms [.ref h0] [(h0, .inr (4, [.null, .int 0, .int 0, .int 0, .int 0]))] (fun v w => ∃ nq_0_0 : Nat, ∃ nq_nq_0_0_0 : Nat, v = none ∧ w = [(h0, .inr (4, [.ref nq_0_0, .int 0, .int 0, .int 0, .int 0])), (nq_0_0, .inr (3, [.ref nq_nq_0_0_0, .int 0])), (nq_nq_0_0_0, .inl (cB, 128, .inl (fun _ => 0)))]) := by
  refine Ct.mk (by decide) (Nat.le_of_ble_eq_true rfl) ?_
  intro p e s m below meth c hr hnm
  refine j_norm (pc' := 0) (lv' := [(0, .ref h0)]) (st' := []) (ws' := [(h0, .inr (4, [.null, .int 0, .int 0, .int 0, .int 0]))]) (cl' := 0) (sl' := 0) rfl rfl rfl rfl rfl rfl ?_
  unfold F_Sc_init at h
  have hC : 0 + mc ≤ mc := by omega
  have hS : 0 + ms ≤ ms := by omega
  refine j_aload_n d_Sc_init_0 rfl 0 rfl ?_
  refine j_oinit m_42 m_29 mc_obj (Nat.le_of_ble_eq_true rfl) (Nat.le_of_ble_eq_true rfl) d_Sc_init_1 ?_
  refine j_aload_n d_Sc_init_4 rfl 0 rfl ?_
  replace h := al_s h
  obtain ⟨C2, S3, h, e1, e2⟩ := h
  replace hC : 0 + 1 + C2 ≤ mc := by omega
  replace hS : 0 + 2 + S3 ≤ ms := by omega
  clear e1 e2
  refine j_new (ci := 3) (fs := [.null, .int 0]) ig_Rw tk_Rw m_43 m_44 m_4 rfl df_Rw (show 0 + 1 ≤ mc by omega) (show 0 + 2 ≤ ms by omega) d_Sc_init_5 (fun q1 => ?_)
  refine j_norm (pc' := 8) (st' := [.ref q1, .ref h0]) (ws' := [(h0, .inr (4, [.null, .int 0, .int 0, .int 0, .int 0])), (q1, .inr (3, [.null, .int 0]))]) (cl' := 0 + 1) (sl' := 0 + 2) rfl rfl rfl rfl rfl rfl ?_
  refine j_dup rfl d_Sc_init_8 ?_
  replace h := bw_s h
  obtain ⟨_, C5, S6, C7, S8, k9, h, e1, e2⟩ := h
  replace hC : 0 + 1 + C5 + C7 ≤ mc := by omega
  replace hS : 0 + 2 + S6 + S8 ≤ ms := by omega
  clear e1 e2
  refine j_callIN (n := 0) (As := []) (rest := [.ref q1, .ref h0]) (wr := [(h0, .inr (4, [.null, .int 0, .int 0, .int 0, .int 0]))]) (c_Rw_init l D cI cB cJ cS q1  C5 S6 k9) mn_2 m_46 m_4 mc_Rw_init rfl (by decide) ⟨Nat.le_of_ble_eq_true rfl, Nat.le_of_ble_eq_true rfl⟩ [1] [0] rfl (by decide) rfl (by decide) (by decide) rfl rfl (Nat.le_of_ble_eq_true rfl) d_Sc_init_9 ⟨show 0 + 1 + C5 ≤ mc by omega, show 0 + 2 + S6 ≤ ms by omega⟩ (fun v w hq => ?_)
  obtain ⟨q4, rfl, rfl⟩ := hq
  refine j_norm (pc' := 12) (st' := [.ref q1, .ref h0]) (ws' := [(h0, .inr (4, [.null, .int 0, .int 0, .int 0, .int 0])), (q1, .inr (3, [.ref q4, .int 0])), (q4, .inl (cB, 128, .inl (fun _ => 0)))]) (cl' := 0 + 1 + C5) (sl' := 0 + 2 + S6) rfl rfl rfl rfl rfl rfl ?_
  refine j_put (ws' := [(h0, .inr (4, [.ref q1, .int 0, .int 0, .int 0, .int 0])), (q1, .inr (3, [.ref q4, .int 0])), (q4, .inl (cB, 128, .inl (fun _ => 0)))]) ig_Sc tk_Sc nm_Sc rfl 0 rfl 0 (by decide) rfl m_57 rfl (tk_Sc 0 (by decide)) rfl rfl (Nat.le_of_ble_eq_true rfl) d_Sc_init_12 rfl ?_
  refine j_aload_n d_Sc_init_15 rfl 0 rfl ?_
  refine j_iconst (v := 0) d_Sc_init_16 (by decide) ?_
  refine j_put (ws' := [(h0, .inr (4, [.ref q1, .int 0, .int 0, .int 0, .int 0])), (q1, .inr (3, [.ref q4, .int 0])), (q4, .inl (cB, 128, .inl (fun _ => 0)))]) ig_Sc tk_Sc nm_Sc rfl 0 rfl 1 (by decide) rfl m_58 rfl (tk_Sc 1 (by decide)) rfl rfl (Nat.le_of_ble_eq_true rfl) d_Sc_init_17 rfl ?_
  refine j_aload_n d_Sc_init_20 rfl 0 rfl ?_
  refine j_iconst (v := 0) d_Sc_init_21 (by decide) ?_
  refine j_put (ws' := [(h0, .inr (4, [.ref q1, .int 0, .int 0, .int 0, .int 0])), (q1, .inr (3, [.ref q4, .int 0])), (q4, .inl (cB, 128, .inl (fun _ => 0)))]) ig_Sc tk_Sc nm_Sc rfl 0 rfl 2 (by decide) rfl m_59 rfl (tk_Sc 2 (by decide)) rfl rfl (Nat.le_of_ble_eq_true rfl) d_Sc_init_22 rfl ?_
  refine j_aload_n d_Sc_init_25 rfl 0 rfl ?_
  refine j_iconst (v := 0) d_Sc_init_26 (by decide) ?_
  refine j_put (ws' := [(h0, .inr (4, [.ref q1, .int 0, .int 0, .int 0, .int 0])), (q1, .inr (3, [.ref q4, .int 0])), (q4, .inl (cB, 128, .inl (fun _ => 0)))]) ig_Sc tk_Sc nm_Sc rfl 0 rfl 3 (by decide) rfl m_60 rfl (tk_Sc 3 (by decide)) rfl rfl (Nat.le_of_ble_eq_true rfl) d_Sc_init_27 rfl ?_
  refine j_aload_n d_Sc_init_30 rfl 0 rfl ?_
  refine j_iconst (v := 0) d_Sc_init_31 (by decide) ?_
  refine j_put (ws' := [(h0, .inr (4, [.ref q1, .int 0, .int 0, .int 0, .int 0])), (q1, .inr (3, [.ref q4, .int 0])), (q4, .inl (cB, 128, .inl (fun _ => 0)))]) ig_Sc tk_Sc nm_Sc rfl 0 rfl 4 (by decide) rfl m_61 rfl (tk_Sc 4 (by decide)) rfl rfl (Nat.le_of_ble_eq_true rfl) d_Sc_init_32 rfl ?_
  replace h := lf_s h
  obtain ⟨h, e1, e2⟩ := h
  refine j_widen (cl' := mc) (sl' := ms) (by omega) (by omega) ?_
  exact j_vret (w := [(h0, .inr (4, [.ref q1, .int 0, .int 0, .int 0, .int 0])), (q1, .inr (3, [.ref q4, .int 0])), (q4, .inl (cB, 128, .inl (fun _ => 0)))]) hr d_Sc_init_35 [0, 1, 2] rfl (by decide) ⟨q1, q4, rfl, rfl⟩
theorem d_Sc_begin_0 : decode prog_8_method_2_code 0 = .ok (.aload_n 0, 1) := by decide +kernel
theorem d_Sc_begin_1 : decode prog_8_method_2_code 1 = .ok (.aload_n 1, 1) := by decide +kernel
theorem d_Sc_begin_2 : decode prog_8_method_2_code 2 = .ok (.putfield 12, 3) := by decide +kernel
theorem d_Sc_begin_5 : decode prog_8_method_2_code 5 = .ok (.aload_n 0, 1) := by decide +kernel
theorem d_Sc_begin_6 : decode prog_8_method_2_code 6 = .ok (.iconst 0, 1) := by decide +kernel
theorem d_Sc_begin_7 : decode prog_8_method_2_code 7 = .ok (.putfield 18, 3) := by decide +kernel
theorem d_Sc_begin_10 : decode prog_8_method_2_code 10 = .ok (.return_, 1) := by decide +kernel
set_option maxHeartbeats 4000000 in
set_option maxRecDepth 100000 in
theorem c_Sc_begin (l : Launch) (D : va_G) (cI cB cJ cS : ClassId) (h0 : Nat) (g1 : Nat) (a_text_h0 : Nat) (next_h0 : Int32) (kind_h0 : Int32) (start_h0 : Int32) (width_h0 : Int32) : Ct l D (gT cI cB cJ cS) y_Sc_begin prog_8_method_2_code 2 (Option.none : Option Jvm.ClassFile.FieldType) 0 0 0 0 [.ref h0, .ref g1] [(h0, .inr (4, [.ref a_text_h0, .int next_h0, .int kind_h0, .int start_h0, .int width_h0]))] (fun v w => v = none ∧ w = [(h0, .inr (4, [.ref g1, .int 0, .int kind_h0, .int start_h0, .int width_h0]))]) := by
  refine Ct.mk (by decide) (Nat.le_of_ble_eq_true rfl) ?_
  intro p e s m below meth c hr hnm
  refine j_norm (pc' := 0) (lv' := [(0, .ref h0), (1, .ref g1)]) (st' := []) (ws' := [(h0, .inr (4, [.ref a_text_h0, .int next_h0, .int kind_h0, .int start_h0, .int width_h0]))]) (cl' := 0) (sl' := 0) rfl rfl rfl rfl rfl rfl ?_
  refine j_aload_n d_Sc_begin_0 rfl 0 rfl ?_
  refine j_aload_n d_Sc_begin_1 rfl 1 rfl ?_
  refine j_put (ws' := [(h0, .inr (4, [.ref g1, .int next_h0, .int kind_h0, .int start_h0, .int width_h0]))]) ig_Sc tk_Sc nm_Sc rfl 0 rfl 0 (by decide) rfl m_57 rfl (tk_Sc 0 (by decide)) rfl rfl (Nat.le_of_ble_eq_true rfl) d_Sc_begin_2 rfl ?_
  refine j_aload_n d_Sc_begin_5 rfl 0 rfl ?_
  refine j_iconst (v := 0) d_Sc_begin_6 (by decide) ?_
  refine j_put (ws' := [(h0, .inr (4, [.ref g1, .int 0, .int kind_h0, .int start_h0, .int width_h0]))]) ig_Sc tk_Sc nm_Sc rfl 0 rfl 1 (by decide) rfl m_58 rfl (tk_Sc 1 (by decide)) rfl rfl (Nat.le_of_ble_eq_true rfl) d_Sc_begin_7 rfl ?_
  exact j_vret (w := [(h0, .inr (4, [.ref g1, .int 0, .int kind_h0, .int start_h0, .int width_h0]))]) hr d_Sc_begin_10 [0] rfl (by decide) ⟨rfl, rfl⟩
theorem d_Sc_kind_0 : decode prog_8_method_3_code 0 = .ok (.aload_n 0, 1) := by decide +kernel
theorem d_Sc_kind_1 : decode prog_8_method_3_code 1 = .ok (.getfield 22, 3) := by decide +kernel
theorem d_Sc_kind_4 : decode prog_8_method_3_code 4 = .ok (.ireturn, 1) := by decide +kernel
set_option maxHeartbeats 4000000 in
set_option maxRecDepth 100000 in
theorem c_Sc_kind (l : Launch) (D : va_G) (cI cB cJ cS : ClassId) (h0 : Nat) (a_text_h0 : Nat) (next_h0 : Int32) (kind_h0 : Int32) (start_h0 : Int32) (width_h0 : Int32) : Ct l D (gT cI cB cJ cS) y_Sc_kind prog_8_method_3_code 1 (Option.some Jvm.ClassFile.FieldType.int) 0 0 0 0 [.ref h0] [(h0, .inr (4, [.ref a_text_h0, .int next_h0, .int kind_h0, .int start_h0, .int width_h0]))] (fun v w => v = some (.int kind_h0) ∧ w = [(h0, .inr (4, [.ref a_text_h0, .int next_h0, .int kind_h0, .int start_h0, .int width_h0]))]) := by
  refine Ct.mk (by decide) (Nat.le_of_ble_eq_true rfl) ?_
  intro p e s m below meth c hr hnm
  refine j_norm (pc' := 0) (lv' := [(0, .ref h0)]) (st' := []) (ws' := [(h0, .inr (4, [.ref a_text_h0, .int next_h0, .int kind_h0, .int start_h0, .int width_h0]))]) (cl' := 0) (sl' := 0) rfl rfl rfl rfl rfl rfl ?_
  refine j_aload_n d_Sc_kind_0 rfl 0 rfl ?_
  refine j_get ig_Sc rfl 0 rfl 2 (by decide) rfl m_59 rfl d_Sc_kind_1 ?_
  exact j_iret (w := [(h0, .inr (4, [.ref a_text_h0, .int next_h0, .int kind_h0, .int start_h0, .int width_h0]))]) hr d_Sc_kind_4 [0] rfl (by decide) ⟨rfl, rfl⟩
theorem d_Sc_start_0 : decode prog_8_method_4_code 0 = .ok (.aload_n 0, 1) := by decide +kernel
theorem d_Sc_start_1 : decode prog_8_method_4_code 1 = .ok (.getfield 25, 3) := by decide +kernel
theorem d_Sc_start_4 : decode prog_8_method_4_code 4 = .ok (.ireturn, 1) := by decide +kernel
set_option maxHeartbeats 4000000 in
set_option maxRecDepth 100000 in
theorem c_Sc_start (l : Launch) (D : va_G) (cI cB cJ cS : ClassId) (h0 : Nat) (a_text_h0 : Nat) (next_h0 : Int32) (kind_h0 : Int32) (start_h0 : Int32) (width_h0 : Int32) : Ct l D (gT cI cB cJ cS) y_Sc_start prog_8_method_4_code 1 (Option.some Jvm.ClassFile.FieldType.int) 0 0 0 0 [.ref h0] [(h0, .inr (4, [.ref a_text_h0, .int next_h0, .int kind_h0, .int start_h0, .int width_h0]))] (fun v w => v = some (.int start_h0) ∧ w = [(h0, .inr (4, [.ref a_text_h0, .int next_h0, .int kind_h0, .int start_h0, .int width_h0]))]) := by
  refine Ct.mk (by decide) (Nat.le_of_ble_eq_true rfl) ?_
  intro p e s m below meth c hr hnm
  refine j_norm (pc' := 0) (lv' := [(0, .ref h0)]) (st' := []) (ws' := [(h0, .inr (4, [.ref a_text_h0, .int next_h0, .int kind_h0, .int start_h0, .int width_h0]))]) (cl' := 0) (sl' := 0) rfl rfl rfl rfl rfl rfl ?_
  refine j_aload_n d_Sc_start_0 rfl 0 rfl ?_
  refine j_get ig_Sc rfl 0 rfl 3 (by decide) rfl m_60 rfl d_Sc_start_1 ?_
  exact j_iret (w := [(h0, .inr (4, [.ref a_text_h0, .int next_h0, .int kind_h0, .int start_h0, .int width_h0]))]) hr d_Sc_start_4 [0] rfl (by decide) ⟨rfl, rfl⟩
theorem d_Sc_width_0 : decode prog_8_method_5_code 0 = .ok (.aload_n 0, 1) := by decide +kernel
theorem d_Sc_width_1 : decode prog_8_method_5_code 1 = .ok (.getfield 28, 3) := by decide +kernel
theorem d_Sc_width_4 : decode prog_8_method_5_code 4 = .ok (.ireturn, 1) := by decide +kernel
set_option maxHeartbeats 4000000 in
set_option maxRecDepth 100000 in
theorem c_Sc_width (l : Launch) (D : va_G) (cI cB cJ cS : ClassId) (h0 : Nat) (a_text_h0 : Nat) (next_h0 : Int32) (kind_h0 : Int32) (start_h0 : Int32) (width_h0 : Int32) : Ct l D (gT cI cB cJ cS) y_Sc_width prog_8_method_5_code 1 (Option.some Jvm.ClassFile.FieldType.int) 0 0 0 0 [.ref h0] [(h0, .inr (4, [.ref a_text_h0, .int next_h0, .int kind_h0, .int start_h0, .int width_h0]))] (fun v w => v = some (.int width_h0) ∧ w = [(h0, .inr (4, [.ref a_text_h0, .int next_h0, .int kind_h0, .int start_h0, .int width_h0]))]) := by
  refine Ct.mk (by decide) (Nat.le_of_ble_eq_true rfl) ?_
  intro p e s m below meth c hr hnm
  refine j_norm (pc' := 0) (lv' := [(0, .ref h0)]) (st' := []) (ws' := [(h0, .inr (4, [.ref a_text_h0, .int next_h0, .int kind_h0, .int start_h0, .int width_h0]))]) (cl' := 0) (sl' := 0) rfl rfl rfl rfl rfl rfl ?_
  refine j_aload_n d_Sc_width_0 rfl 0 rfl ?_
  refine j_get ig_Sc rfl 0 rfl 4 (by decide) rfl m_61 rfl d_Sc_width_1 ?_
  exact j_iret (w := [(h0, .inr (4, [.ref a_text_h0, .int next_h0, .int kind_h0, .int start_h0, .int width_h0]))]) hr d_Sc_width_4 [0] rfl (by decide) ⟨rfl, rfl⟩
def F_Sc_isWord (p1 : Int32) : (Int32) :=
  if p1 < 5 then 0
  else if 18 < p1 then 0
  else 1
theorem d_Sc_isWord_0 : decode prog_8_method_6_code 0 = .ok (.iload_n 0, 1) := by decide +kernel
theorem d_Sc_isWord_1 : decode prog_8_method_6_code 1 = .ok (.iconst 5, 1) := by decide +kernel
theorem d_Sc_isWord_2 : decode prog_8_method_6_code 2 = .ok (.if_icmp .lt 13, 3) := by decide +kernel
theorem d_Sc_isWord_5 : decode prog_8_method_6_code 5 = .ok (.iload_n 0, 1) := by decide +kernel
theorem d_Sc_isWord_6 : decode prog_8_method_6_code 6 = .ok (.bipush 18, 2) := by decide +kernel
theorem d_Sc_isWord_8 : decode prog_8_method_6_code 8 = .ok (.if_icmp .gt 7, 3) := by decide +kernel
theorem d_Sc_isWord_11 : decode prog_8_method_6_code 11 = .ok (.iconst 1, 1) := by decide +kernel
theorem d_Sc_isWord_12 : decode prog_8_method_6_code 12 = .ok (.goto 4, 3) := by decide +kernel
theorem d_Sc_isWord_15 : decode prog_8_method_6_code 15 = .ok (.iconst 0, 1) := by decide +kernel
theorem d_Sc_isWord_16 : decode prog_8_method_6_code 16 = .ok (.ireturn, 1) := by decide +kernel
set_option maxHeartbeats 4000000 in
set_option maxRecDepth 100000 in
theorem c_Sc_isWord (l : Launch) (D : va_G) (cI cB cJ cS : ClassId) (p1 : Int32) (ret : Int32) (h : F_Sc_isWord p1 = ret) : Ct l D (gT cI cB cJ cS) y_Sc_isWord prog_8_method_6_code 1 (Option.some Jvm.ClassFile.FieldType.boolean) 0 0 0 0 [.int p1] [] (fun v w => v = some (.int ret) ∧ zb ret ∧ w = []) := by
  refine Ct.mk (by decide) (Nat.le_of_ble_eq_true rfl) ?_
  intro p e s m below meth c hr hnm
  refine j_norm (pc' := 0) (lv' := [(0, .int p1)]) (st' := []) (ws' := []) (cl' := 0) (sl' := 0) rfl rfl rfl rfl rfl rfl ?_
  unfold F_Sc_isWord at h
  refine j_iload_n d_Sc_isWord_0 rfl 0 rfl ?_
  refine j_iconst (v := 5) d_Sc_isWord_1 (by decide) ?_
  refine j_icmp_lt (tgt := 15) d_Sc_isWord_2 (by decide) (fun c1 => ?_) (fun c1 => ?_)
  · replace h := it_t c1 h
    refine j_iconst (v := 0) d_Sc_isWord_15 (by decide) ?_
    subst h
    exact j_zret (w := []) hr (zb_n zb0) d_Sc_isWord_16 [] rfl (by decide) ⟨rfl, zb0, rfl⟩
  · replace h := it_f c1 h
    refine j_iload_n d_Sc_isWord_5 rfl 0 rfl ?_
    refine j_bipush (v := 18) d_Sc_isWord_6 (by decide) ?_
    refine j_icmp_gt (tgt := 15) d_Sc_isWord_8 (by decide) (fun c2 => ?_) (fun c2 => ?_)
    · replace h := it_t c2 h
      refine j_iconst (v := 0) d_Sc_isWord_15 (by decide) ?_
      subst h
      exact j_zret (w := []) hr (zb_n zb0) d_Sc_isWord_16 [] rfl (by decide) ⟨rfl, zb0, rfl⟩
    · replace h := it_f c2 h
      refine j_iconst (v := 1) d_Sc_isWord_11 (by decide) ?_
      refine j_goto (tgt := 16) d_Sc_isWord_12 (by decide) ?_
      subst h
      exact j_zret (w := []) hr (zb_n zb1) d_Sc_isWord_16 [] rfl (by decide) ⟨rfl, zb1, rfl⟩
def F_Sc_signs (p1 : Int32) (p2 : Int32) : (Int32) :=
  if p1 = 38 then (if p2 = 38 then 257
    else 1)
  else if p1 = 39 then p1
  else if p1 = 40 then p1
  else if p1 = 41 then p1
  else if p1 = 42 then p1
  else if p1 = 43 then p1
  else if p1 = 44 then p1
  else if p1 = 45 then p1
  else if p1 = 46 then (if p2 = 42 then 262
    else if p2 = 47 then 263
    else if p2 = 94 then 264
    else 1)
  else if p1 = 47 then p1
  else if p1 = 48 then 1
  else if p1 = 49 then 1
  else if p1 = 50 then 1
  else if p1 = 51 then 1
  else if p1 = 52 then 1
  else if p1 = 53 then 1
  else if p1 = 54 then 1
  else if p1 = 55 then 1
  else if p1 = 56 then 1
  else if p1 = 57 then 1
  else if p1 = 58 then p1
  else if p1 = 59 then p1
  else if p1 = 60 then (if p2 = 61 then 260
    else 60)
  else if p1 = 61 then (if p2 = 61 then 258
    else 61)
  else if p1 = 62 then (if p2 = 61 then 261
    else 62)
  else if p1 = 63 then 1
  else if p1 = 64 then 1
  else if p1 = 65 then 1
  else if p1 = 66 then 1
  else if p1 = 67 then 1
  else if p1 = 68 then 1
  else if p1 = 69 then 1
  else if p1 = 70 then 1
  else if p1 = 71 then 1
  else if p1 = 72 then 1
  else if p1 = 73 then 1
  else if p1 = 74 then 1
  else if p1 = 75 then 1
  else if p1 = 76 then 1
  else if p1 = 77 then 1
  else if p1 = 78 then 1
  else if p1 = 79 then 1
  else if p1 = 80 then 1
  else if p1 = 81 then 1
  else if p1 = 82 then 1
  else if p1 = 83 then 1
  else if p1 = 84 then 1
  else if p1 = 85 then 1
  else if p1 = 86 then 1
  else if p1 = 87 then 1
  else if p1 = 88 then 1
  else if p1 = 89 then 1
  else if p1 = 90 then 1
  else if p1 = 91 then p1
  else if p1 = 92 then p1
  else if p1 = 93 then p1
  else if p1 = 94 then p1
  else if p1 = 95 then 1
  else if p1 = 96 then 1
  else if p1 = 97 then 1
  else if p1 = 98 then 1
  else if p1 = 99 then 1
  else if p1 = 100 then 1
  else if p1 = 101 then 1
  else if p1 = 102 then 1
  else if p1 = 103 then 1
  else if p1 = 104 then 1
  else if p1 = 105 then 1
  else if p1 = 106 then 1
  else if p1 = 107 then 1
  else if p1 = 108 then 1
  else if p1 = 109 then 1
  else if p1 = 110 then 1
  else if p1 = 111 then 1
  else if p1 = 112 then 1
  else if p1 = 113 then 1
  else if p1 = 114 then 1
  else if p1 = 115 then 1
  else if p1 = 116 then 1
  else if p1 = 117 then 1
  else if p1 = 118 then 1
  else if p1 = 119 then 1
  else if p1 = 120 then 1
  else if p1 = 121 then 1
  else if p1 = 122 then 1
  else if p1 = 123 then 1
  else if p1 = 124 then (if p2 = 124 then 256
    else 1)
  else if p1 = 125 then 1
  else if p1 = 126 then (if p2 = 61 then 259
    else 126)
  else 1
theorem d_Sc_signs_0 : decode prog_8_method_7_code 0 = .ok (.iload_n 0, 1) := by decide +kernel
theorem d_Sc_signs_1 : decode prog_8_method_7_code 1 = .ok (.tableswitch 499 38 126 #[385, 497, 497, 497, 497, 497, 497, 497, 459, 497, 499, 499, 499, 499, 499, 499, 499, 499, 499, 499, 497, 497, 429, 399, 444, 499, 499, 499, 499, 499, 499, 499, 499, 499, 499, 499, 499, 499, 499, 499, 499, 499, 499, 499, 499, 499, 499, 499, 499, 499, 499, 499, 499, 497, 497, 497, 497, 499, 499, 499, 499, 499, 499, 499, 499, 499, 499, 499, 499, 499, 499, 499, 499, 499, 499, 499, 499, 499, 499, 499, 499, 499, 499, 499, 499, 499, 371, 499, 414], 371) := by decide +kernel
theorem d_Sc_signs_372 : decode prog_8_method_7_code 372 = .ok (.iload_n 1, 1) := by decide +kernel
theorem d_Sc_signs_373 : decode prog_8_method_7_code 373 = .ok (.bipush 124, 2) := by decide +kernel
theorem d_Sc_signs_375 : decode prog_8_method_7_code 375 = .ok (.if_icmp .ne 9, 3) := by decide +kernel
theorem d_Sc_signs_378 : decode prog_8_method_7_code 378 = .ok (.sipush 256, 3) := by decide +kernel
theorem d_Sc_signs_381 : decode prog_8_method_7_code 381 = .ok (.goto 4, 3) := by decide +kernel
theorem d_Sc_signs_384 : decode prog_8_method_7_code 384 = .ok (.iconst 1, 1) := by decide +kernel
theorem d_Sc_signs_385 : decode prog_8_method_7_code 385 = .ok (.ireturn, 1) := by decide +kernel
theorem d_Sc_signs_386 : decode prog_8_method_7_code 386 = .ok (.iload_n 1, 1) := by decide +kernel
theorem d_Sc_signs_387 : decode prog_8_method_7_code 387 = .ok (.bipush 38, 2) := by decide +kernel
theorem d_Sc_signs_389 : decode prog_8_method_7_code 389 = .ok (.if_icmp .ne 9, 3) := by decide +kernel
theorem d_Sc_signs_392 : decode prog_8_method_7_code 392 = .ok (.sipush 257, 3) := by decide +kernel
theorem d_Sc_signs_395 : decode prog_8_method_7_code 395 = .ok (.goto 4, 3) := by decide +kernel
theorem d_Sc_signs_398 : decode prog_8_method_7_code 398 = .ok (.iconst 1, 1) := by decide +kernel
theorem d_Sc_signs_399 : decode prog_8_method_7_code 399 = .ok (.ireturn, 1) := by decide +kernel
theorem d_Sc_signs_400 : decode prog_8_method_7_code 400 = .ok (.iload_n 1, 1) := by decide +kernel
theorem d_Sc_signs_401 : decode prog_8_method_7_code 401 = .ok (.bipush 61, 2) := by decide +kernel
theorem d_Sc_signs_403 : decode prog_8_method_7_code 403 = .ok (.if_icmp .ne 9, 3) := by decide +kernel
theorem d_Sc_signs_406 : decode prog_8_method_7_code 406 = .ok (.sipush 258, 3) := by decide +kernel
theorem d_Sc_signs_409 : decode prog_8_method_7_code 409 = .ok (.goto 5, 3) := by decide +kernel
theorem d_Sc_signs_412 : decode prog_8_method_7_code 412 = .ok (.bipush 61, 2) := by decide +kernel
theorem d_Sc_signs_414 : decode prog_8_method_7_code 414 = .ok (.ireturn, 1) := by decide +kernel
theorem d_Sc_signs_415 : decode prog_8_method_7_code 415 = .ok (.iload_n 1, 1) := by decide +kernel
theorem d_Sc_signs_416 : decode prog_8_method_7_code 416 = .ok (.bipush 61, 2) := by decide +kernel
theorem d_Sc_signs_418 : decode prog_8_method_7_code 418 = .ok (.if_icmp .ne 9, 3) := by decide +kernel
theorem d_Sc_signs_421 : decode prog_8_method_7_code 421 = .ok (.sipush 259, 3) := by decide +kernel
theorem d_Sc_signs_424 : decode prog_8_method_7_code 424 = .ok (.goto 5, 3) := by decide +kernel
theorem d_Sc_signs_427 : decode prog_8_method_7_code 427 = .ok (.bipush 126, 2) := by decide +kernel
theorem d_Sc_signs_429 : decode prog_8_method_7_code 429 = .ok (.ireturn, 1) := by decide +kernel
theorem d_Sc_signs_430 : decode prog_8_method_7_code 430 = .ok (.iload_n 1, 1) := by decide +kernel
theorem d_Sc_signs_431 : decode prog_8_method_7_code 431 = .ok (.bipush 61, 2) := by decide +kernel
theorem d_Sc_signs_433 : decode prog_8_method_7_code 433 = .ok (.if_icmp .ne 9, 3) := by decide +kernel
theorem d_Sc_signs_436 : decode prog_8_method_7_code 436 = .ok (.sipush 260, 3) := by decide +kernel
theorem d_Sc_signs_439 : decode prog_8_method_7_code 439 = .ok (.goto 5, 3) := by decide +kernel
theorem d_Sc_signs_442 : decode prog_8_method_7_code 442 = .ok (.bipush 60, 2) := by decide +kernel
theorem d_Sc_signs_444 : decode prog_8_method_7_code 444 = .ok (.ireturn, 1) := by decide +kernel
theorem d_Sc_signs_445 : decode prog_8_method_7_code 445 = .ok (.iload_n 1, 1) := by decide +kernel
theorem d_Sc_signs_446 : decode prog_8_method_7_code 446 = .ok (.bipush 61, 2) := by decide +kernel
theorem d_Sc_signs_448 : decode prog_8_method_7_code 448 = .ok (.if_icmp .ne 9, 3) := by decide +kernel
theorem d_Sc_signs_451 : decode prog_8_method_7_code 451 = .ok (.sipush 261, 3) := by decide +kernel
theorem d_Sc_signs_454 : decode prog_8_method_7_code 454 = .ok (.goto 5, 3) := by decide +kernel
theorem d_Sc_signs_457 : decode prog_8_method_7_code 457 = .ok (.bipush 62, 2) := by decide +kernel
theorem d_Sc_signs_459 : decode prog_8_method_7_code 459 = .ok (.ireturn, 1) := by decide +kernel
theorem d_Sc_signs_460 : decode prog_8_method_7_code 460 = .ok (.iload_n 1, 1) := by decide +kernel
theorem d_Sc_signs_461 : decode prog_8_method_7_code 461 = .ok (.bipush 42, 2) := by decide +kernel
theorem d_Sc_signs_463 : decode prog_8_method_7_code 463 = .ok (.if_icmp .ne 9, 3) := by decide +kernel
theorem d_Sc_signs_466 : decode prog_8_method_7_code 466 = .ok (.sipush 262, 3) := by decide +kernel
theorem d_Sc_signs_469 : decode prog_8_method_7_code 469 = .ok (.goto 28, 3) := by decide +kernel
theorem d_Sc_signs_472 : decode prog_8_method_7_code 472 = .ok (.iload_n 1, 1) := by decide +kernel
theorem d_Sc_signs_473 : decode prog_8_method_7_code 473 = .ok (.bipush 47, 2) := by decide +kernel
theorem d_Sc_signs_475 : decode prog_8_method_7_code 475 = .ok (.if_icmp .ne 9, 3) := by decide +kernel
theorem d_Sc_signs_478 : decode prog_8_method_7_code 478 = .ok (.sipush 263, 3) := by decide +kernel
theorem d_Sc_signs_481 : decode prog_8_method_7_code 481 = .ok (.goto 16, 3) := by decide +kernel
theorem d_Sc_signs_484 : decode prog_8_method_7_code 484 = .ok (.iload_n 1, 1) := by decide +kernel
theorem d_Sc_signs_485 : decode prog_8_method_7_code 485 = .ok (.bipush 94, 2) := by decide +kernel
theorem d_Sc_signs_487 : decode prog_8_method_7_code 487 = .ok (.if_icmp .ne 9, 3) := by decide +kernel
theorem d_Sc_signs_490 : decode prog_8_method_7_code 490 = .ok (.sipush 264, 3) := by decide +kernel
theorem d_Sc_signs_493 : decode prog_8_method_7_code 493 = .ok (.goto 4, 3) := by decide +kernel
theorem d_Sc_signs_496 : decode prog_8_method_7_code 496 = .ok (.iconst 1, 1) := by decide +kernel
theorem d_Sc_signs_497 : decode prog_8_method_7_code 497 = .ok (.ireturn, 1) := by decide +kernel
theorem d_Sc_signs_498 : decode prog_8_method_7_code 498 = .ok (.iload_n 0, 1) := by decide +kernel
theorem d_Sc_signs_499 : decode prog_8_method_7_code 499 = .ok (.ireturn, 1) := by decide +kernel
theorem d_Sc_signs_500 : decode prog_8_method_7_code 500 = .ok (.iconst 1, 1) := by decide +kernel
theorem d_Sc_signs_501 : decode prog_8_method_7_code 501 = .ok (.ireturn, 1) := by decide +kernel
set_option maxHeartbeats 4000000 in
set_option maxRecDepth 100000 in
theorem c_Sc_signs (l : Launch) (D : va_G) (cI cB cJ cS : ClassId) (p1 : Int32) (p2 : Int32) (ret : Int32) (h : F_Sc_signs p1 p2 = ret) : Ct l D (gT cI cB cJ cS) y_Sc_signs prog_8_method_7_code 2 (Option.some Jvm.ClassFile.FieldType.int) 0 0 0 0 [.int p1, .int p2] [] (fun v w => v = some (.int ret) ∧ w = []) := by
  refine Ct.mk (by decide) (Nat.le_of_ble_eq_true rfl) ?_
  intro p e s m below meth c hr hnm
  refine j_norm (pc' := 0) (lv' := [(0, .int p1), (1, .int p2)]) (st' := []) (ws' := []) (cl' := 0) (sl' := 0) rfl rfl rfl rfl rfl rfl ?_
  unfold F_Sc_signs at h
  refine j_iload_n d_Sc_signs_0 rfl 0 rfl ?_
  by_cases c1 : p1 = 38
  · replace h := it_t c1 h
    refine j_tabIn (tgt := 386) (off := 385) d_Sc_signs_1 38 c1 (by decide) (by decide) (by decide) (by decide) ?_
    refine j_iload_n d_Sc_signs_386 rfl 1 rfl ?_
    refine j_bipush (v := 38) d_Sc_signs_387 (by decide) ?_
    refine j_icmp_ne (tgt := 398) d_Sc_signs_389 (by decide) (fun c2 => ?_) (fun c2 => ?_)
    · replace h := it_f c2 h
      refine j_iconst (v := 1) d_Sc_signs_398 (by decide) ?_
      subst h
      exact j_iret (w := []) hr d_Sc_signs_399 [] rfl (by decide) ⟨rfl, rfl⟩
    · replace h := it_t c2 h
      refine j_sipush (v := 257) d_Sc_signs_392 (by decide) ?_
      refine j_goto (tgt := 399) d_Sc_signs_395 (by decide) ?_
      subst h
      exact j_iret (w := []) hr d_Sc_signs_399 [] rfl (by decide) ⟨rfl, rfl⟩
  · replace h := it_f c1 h
    by_cases c3 : p1 = 39
    · replace h := it_t c3 h
      refine j_tabIn (tgt := 498) (off := 497) d_Sc_signs_1 39 c3 (by decide) (by decide) (by decide) (by decide) ?_
      refine j_iload_n d_Sc_signs_498 rfl 0 rfl ?_
      subst h
      exact j_iret (w := []) hr d_Sc_signs_499 [] rfl (by decide) ⟨rfl, rfl⟩
    · replace h := it_f c3 h
      by_cases c4 : p1 = 40
      · replace h := it_t c4 h
        refine j_tabIn (tgt := 498) (off := 497) d_Sc_signs_1 40 c4 (by decide) (by decide) (by decide) (by decide) ?_
        refine j_iload_n d_Sc_signs_498 rfl 0 rfl ?_
        subst h
        exact j_iret (w := []) hr d_Sc_signs_499 [] rfl (by decide) ⟨rfl, rfl⟩
      · replace h := it_f c4 h
        by_cases c5 : p1 = 41
        · replace h := it_t c5 h
          refine j_tabIn (tgt := 498) (off := 497) d_Sc_signs_1 41 c5 (by decide) (by decide) (by decide) (by decide) ?_
          refine j_iload_n d_Sc_signs_498 rfl 0 rfl ?_
          subst h
          exact j_iret (w := []) hr d_Sc_signs_499 [] rfl (by decide) ⟨rfl, rfl⟩
        · replace h := it_f c5 h
          by_cases c6 : p1 = 42
          · replace h := it_t c6 h
            refine j_tabIn (tgt := 498) (off := 497) d_Sc_signs_1 42 c6 (by decide) (by decide) (by decide) (by decide) ?_
            refine j_iload_n d_Sc_signs_498 rfl 0 rfl ?_
            subst h
            exact j_iret (w := []) hr d_Sc_signs_499 [] rfl (by decide) ⟨rfl, rfl⟩
          · replace h := it_f c6 h
            by_cases c7 : p1 = 43
            · replace h := it_t c7 h
              refine j_tabIn (tgt := 498) (off := 497) d_Sc_signs_1 43 c7 (by decide) (by decide) (by decide) (by decide) ?_
              refine j_iload_n d_Sc_signs_498 rfl 0 rfl ?_
              subst h
              exact j_iret (w := []) hr d_Sc_signs_499 [] rfl (by decide) ⟨rfl, rfl⟩
            · replace h := it_f c7 h
              by_cases c8 : p1 = 44
              · replace h := it_t c8 h
                refine j_tabIn (tgt := 498) (off := 497) d_Sc_signs_1 44 c8 (by decide) (by decide) (by decide) (by decide) ?_
                refine j_iload_n d_Sc_signs_498 rfl 0 rfl ?_
                subst h
                exact j_iret (w := []) hr d_Sc_signs_499 [] rfl (by decide) ⟨rfl, rfl⟩
              · replace h := it_f c8 h
                by_cases c9 : p1 = 45
                · replace h := it_t c9 h
                  refine j_tabIn (tgt := 498) (off := 497) d_Sc_signs_1 45 c9 (by decide) (by decide) (by decide) (by decide) ?_
                  refine j_iload_n d_Sc_signs_498 rfl 0 rfl ?_
                  subst h
                  exact j_iret (w := []) hr d_Sc_signs_499 [] rfl (by decide) ⟨rfl, rfl⟩
                · replace h := it_f c9 h
                  by_cases c10 : p1 = 46
                  · replace h := it_t c10 h
                    refine j_tabIn (tgt := 460) (off := 459) d_Sc_signs_1 46 c10 (by decide) (by decide) (by decide) (by decide) ?_
                    refine j_iload_n d_Sc_signs_460 rfl 1 rfl ?_
                    refine j_bipush (v := 42) d_Sc_signs_461 (by decide) ?_
                    refine j_icmp_ne (tgt := 472) d_Sc_signs_463 (by decide) (fun c11 => ?_) (fun c11 => ?_)
                    · replace h := it_f c11 h
                      refine j_iload_n d_Sc_signs_472 rfl 1 rfl ?_
                      refine j_bipush (v := 47) d_Sc_signs_473 (by decide) ?_
                      refine j_icmp_ne (tgt := 484) d_Sc_signs_475 (by decide) (fun c12 => ?_) (fun c12 => ?_)
                      · replace h := it_f c12 h
                        refine j_iload_n d_Sc_signs_484 rfl 1 rfl ?_
                        refine j_bipush (v := 94) d_Sc_signs_485 (by decide) ?_
                        refine j_icmp_ne (tgt := 496) d_Sc_signs_487 (by decide) (fun c13 => ?_) (fun c13 => ?_)
                        · replace h := it_f c13 h
                          refine j_iconst (v := 1) d_Sc_signs_496 (by decide) ?_
                          subst h
                          exact j_iret (w := []) hr d_Sc_signs_497 [] rfl (by decide) ⟨rfl, rfl⟩
                        · replace h := it_t c13 h
                          refine j_sipush (v := 264) d_Sc_signs_490 (by decide) ?_
                          refine j_goto (tgt := 497) d_Sc_signs_493 (by decide) ?_
                          subst h
                          exact j_iret (w := []) hr d_Sc_signs_497 [] rfl (by decide) ⟨rfl, rfl⟩
                      · replace h := it_t c12 h
                        refine j_sipush (v := 263) d_Sc_signs_478 (by decide) ?_
                        refine j_goto (tgt := 497) d_Sc_signs_481 (by decide) ?_
                        subst h
                        exact j_iret (w := []) hr d_Sc_signs_497 [] rfl (by decide) ⟨rfl, rfl⟩
                    · replace h := it_t c11 h
                      refine j_sipush (v := 262) d_Sc_signs_466 (by decide) ?_
                      refine j_goto (tgt := 497) d_Sc_signs_469 (by decide) ?_
                      subst h
                      exact j_iret (w := []) hr d_Sc_signs_497 [] rfl (by decide) ⟨rfl, rfl⟩
                  · replace h := it_f c10 h
                    by_cases c14 : p1 = 47
                    · replace h := it_t c14 h
                      refine j_tabIn (tgt := 498) (off := 497) d_Sc_signs_1 47 c14 (by decide) (by decide) (by decide) (by decide) ?_
                      refine j_iload_n d_Sc_signs_498 rfl 0 rfl ?_
                      subst h
                      exact j_iret (w := []) hr d_Sc_signs_499 [] rfl (by decide) ⟨rfl, rfl⟩
                    · replace h := it_f c14 h
                      by_cases c15 : p1 = 48
                      · replace h := it_t c15 h
                        refine j_tabIn (tgt := 500) (off := 499) d_Sc_signs_1 48 c15 (by decide) (by decide) (by decide) (by decide) ?_
                        refine j_iconst (v := 1) d_Sc_signs_500 (by decide) ?_
                        subst h
                        exact j_iret (w := []) hr d_Sc_signs_501 [] rfl (by decide) ⟨rfl, rfl⟩
                      · replace h := it_f c15 h
                        by_cases c16 : p1 = 49
                        · replace h := it_t c16 h
                          refine j_tabIn (tgt := 500) (off := 499) d_Sc_signs_1 49 c16 (by decide) (by decide) (by decide) (by decide) ?_
                          refine j_iconst (v := 1) d_Sc_signs_500 (by decide) ?_
                          subst h
                          exact j_iret (w := []) hr d_Sc_signs_501 [] rfl (by decide) ⟨rfl, rfl⟩
                        · replace h := it_f c16 h
                          by_cases c17 : p1 = 50
                          · replace h := it_t c17 h
                            refine j_tabIn (tgt := 500) (off := 499) d_Sc_signs_1 50 c17 (by decide) (by decide) (by decide) (by decide) ?_
                            refine j_iconst (v := 1) d_Sc_signs_500 (by decide) ?_
                            subst h
                            exact j_iret (w := []) hr d_Sc_signs_501 [] rfl (by decide) ⟨rfl, rfl⟩
                          · replace h := it_f c17 h
                            by_cases c18 : p1 = 51
                            · replace h := it_t c18 h
                              refine j_tabIn (tgt := 500) (off := 499) d_Sc_signs_1 51 c18 (by decide) (by decide) (by decide) (by decide) ?_
                              refine j_iconst (v := 1) d_Sc_signs_500 (by decide) ?_
                              subst h
                              exact j_iret (w := []) hr d_Sc_signs_501 [] rfl (by decide) ⟨rfl, rfl⟩
                            · replace h := it_f c18 h
                              by_cases c19 : p1 = 52
                              · replace h := it_t c19 h
                                refine j_tabIn (tgt := 500) (off := 499) d_Sc_signs_1 52 c19 (by decide) (by decide) (by decide) (by decide) ?_
                                refine j_iconst (v := 1) d_Sc_signs_500 (by decide) ?_
                                subst h
                                exact j_iret (w := []) hr d_Sc_signs_501 [] rfl (by decide) ⟨rfl, rfl⟩
                              · replace h := it_f c19 h
                                by_cases c20 : p1 = 53
                                · replace h := it_t c20 h
                                  refine j_tabIn (tgt := 500) (off := 499) d_Sc_signs_1 53 c20 (by decide) (by decide) (by decide) (by decide) ?_
                                  refine j_iconst (v := 1) d_Sc_signs_500 (by decide) ?_
                                  subst h
                                  exact j_iret (w := []) hr d_Sc_signs_501 [] rfl (by decide) ⟨rfl, rfl⟩
                                · replace h := it_f c20 h
                                  by_cases c21 : p1 = 54
                                  · replace h := it_t c21 h
                                    refine j_tabIn (tgt := 500) (off := 499) d_Sc_signs_1 54 c21 (by decide) (by decide) (by decide) (by decide) ?_
                                    refine j_iconst (v := 1) d_Sc_signs_500 (by decide) ?_
                                    subst h
                                    exact j_iret (w := []) hr d_Sc_signs_501 [] rfl (by decide) ⟨rfl, rfl⟩
                                  · replace h := it_f c21 h
                                    by_cases c22 : p1 = 55
                                    · replace h := it_t c22 h
                                      refine j_tabIn (tgt := 500) (off := 499) d_Sc_signs_1 55 c22 (by decide) (by decide) (by decide) (by decide) ?_
                                      refine j_iconst (v := 1) d_Sc_signs_500 (by decide) ?_
                                      subst h
                                      exact j_iret (w := []) hr d_Sc_signs_501 [] rfl (by decide) ⟨rfl, rfl⟩
                                    · replace h := it_f c22 h
                                      by_cases c23 : p1 = 56
                                      · replace h := it_t c23 h
                                        refine j_tabIn (tgt := 500) (off := 499) d_Sc_signs_1 56 c23 (by decide) (by decide) (by decide) (by decide) ?_
                                        refine j_iconst (v := 1) d_Sc_signs_500 (by decide) ?_
                                        subst h
                                        exact j_iret (w := []) hr d_Sc_signs_501 [] rfl (by decide) ⟨rfl, rfl⟩
                                      · replace h := it_f c23 h
                                        by_cases c24 : p1 = 57
                                        · replace h := it_t c24 h
                                          refine j_tabIn (tgt := 500) (off := 499) d_Sc_signs_1 57 c24 (by decide) (by decide) (by decide) (by decide) ?_
                                          refine j_iconst (v := 1) d_Sc_signs_500 (by decide) ?_
                                          subst h
                                          exact j_iret (w := []) hr d_Sc_signs_501 [] rfl (by decide) ⟨rfl, rfl⟩
                                        · replace h := it_f c24 h
                                          by_cases c25 : p1 = 58
                                          · replace h := it_t c25 h
                                            refine j_tabIn (tgt := 498) (off := 497) d_Sc_signs_1 58 c25 (by decide) (by decide) (by decide) (by decide) ?_
                                            refine j_iload_n d_Sc_signs_498 rfl 0 rfl ?_
                                            subst h
                                            exact j_iret (w := []) hr d_Sc_signs_499 [] rfl (by decide) ⟨rfl, rfl⟩
                                          · replace h := it_f c25 h
                                            by_cases c26 : p1 = 59
                                            · replace h := it_t c26 h
                                              refine j_tabIn (tgt := 498) (off := 497) d_Sc_signs_1 59 c26 (by decide) (by decide) (by decide) (by decide) ?_
                                              refine j_iload_n d_Sc_signs_498 rfl 0 rfl ?_
                                              subst h
                                              exact j_iret (w := []) hr d_Sc_signs_499 [] rfl (by decide) ⟨rfl, rfl⟩
                                            · replace h := it_f c26 h
                                              by_cases c27 : p1 = 60
                                              · replace h := it_t c27 h
                                                refine j_tabIn (tgt := 430) (off := 429) d_Sc_signs_1 60 c27 (by decide) (by decide) (by decide) (by decide) ?_
                                                refine j_iload_n d_Sc_signs_430 rfl 1 rfl ?_
                                                refine j_bipush (v := 61) d_Sc_signs_431 (by decide) ?_
                                                refine j_icmp_ne (tgt := 442) d_Sc_signs_433 (by decide) (fun c28 => ?_) (fun c28 => ?_)
                                                · replace h := it_f c28 h
                                                  refine j_bipush (v := 60) d_Sc_signs_442 (by decide) ?_
                                                  subst h
                                                  exact j_iret (w := []) hr d_Sc_signs_444 [] rfl (by decide) ⟨rfl, rfl⟩
                                                · replace h := it_t c28 h
                                                  refine j_sipush (v := 260) d_Sc_signs_436 (by decide) ?_
                                                  refine j_goto (tgt := 444) d_Sc_signs_439 (by decide) ?_
                                                  subst h
                                                  exact j_iret (w := []) hr d_Sc_signs_444 [] rfl (by decide) ⟨rfl, rfl⟩
                                              · replace h := it_f c27 h
                                                by_cases c29 : p1 = 61
                                                · replace h := it_t c29 h
                                                  refine j_tabIn (tgt := 400) (off := 399) d_Sc_signs_1 61 c29 (by decide) (by decide) (by decide) (by decide) ?_
                                                  refine j_iload_n d_Sc_signs_400 rfl 1 rfl ?_
                                                  refine j_bipush (v := 61) d_Sc_signs_401 (by decide) ?_
                                                  refine j_icmp_ne (tgt := 412) d_Sc_signs_403 (by decide) (fun c30 => ?_) (fun c30 => ?_)
                                                  · replace h := it_f c30 h
                                                    refine j_bipush (v := 61) d_Sc_signs_412 (by decide) ?_
                                                    subst h
                                                    exact j_iret (w := []) hr d_Sc_signs_414 [] rfl (by decide) ⟨rfl, rfl⟩
                                                  · replace h := it_t c30 h
                                                    refine j_sipush (v := 258) d_Sc_signs_406 (by decide) ?_
                                                    refine j_goto (tgt := 414) d_Sc_signs_409 (by decide) ?_
                                                    subst h
                                                    exact j_iret (w := []) hr d_Sc_signs_414 [] rfl (by decide) ⟨rfl, rfl⟩
                                                · replace h := it_f c29 h
                                                  by_cases c31 : p1 = 62
                                                  · replace h := it_t c31 h
                                                    refine j_tabIn (tgt := 445) (off := 444) d_Sc_signs_1 62 c31 (by decide) (by decide) (by decide) (by decide) ?_
                                                    refine j_iload_n d_Sc_signs_445 rfl 1 rfl ?_
                                                    refine j_bipush (v := 61) d_Sc_signs_446 (by decide) ?_
                                                    refine j_icmp_ne (tgt := 457) d_Sc_signs_448 (by decide) (fun c32 => ?_) (fun c32 => ?_)
                                                    · replace h := it_f c32 h
                                                      refine j_bipush (v := 62) d_Sc_signs_457 (by decide) ?_
                                                      subst h
                                                      exact j_iret (w := []) hr d_Sc_signs_459 [] rfl (by decide) ⟨rfl, rfl⟩
                                                    · replace h := it_t c32 h
                                                      refine j_sipush (v := 261) d_Sc_signs_451 (by decide) ?_
                                                      refine j_goto (tgt := 459) d_Sc_signs_454 (by decide) ?_
                                                      subst h
                                                      exact j_iret (w := []) hr d_Sc_signs_459 [] rfl (by decide) ⟨rfl, rfl⟩
                                                  · replace h := it_f c31 h
                                                    by_cases c33 : p1 = 63
                                                    · replace h := it_t c33 h
                                                      refine j_tabIn (tgt := 500) (off := 499) d_Sc_signs_1 63 c33 (by decide) (by decide) (by decide) (by decide) ?_
                                                      refine j_iconst (v := 1) d_Sc_signs_500 (by decide) ?_
                                                      subst h
                                                      exact j_iret (w := []) hr d_Sc_signs_501 [] rfl (by decide) ⟨rfl, rfl⟩
                                                    · replace h := it_f c33 h
                                                      by_cases c34 : p1 = 64
                                                      · replace h := it_t c34 h
                                                        refine j_tabIn (tgt := 500) (off := 499) d_Sc_signs_1 64 c34 (by decide) (by decide) (by decide) (by decide) ?_
                                                        refine j_iconst (v := 1) d_Sc_signs_500 (by decide) ?_
                                                        subst h
                                                        exact j_iret (w := []) hr d_Sc_signs_501 [] rfl (by decide) ⟨rfl, rfl⟩
                                                      · replace h := it_f c34 h
                                                        by_cases c35 : p1 = 65
                                                        · replace h := it_t c35 h
                                                          refine j_tabIn (tgt := 500) (off := 499) d_Sc_signs_1 65 c35 (by decide) (by decide) (by decide) (by decide) ?_
                                                          refine j_iconst (v := 1) d_Sc_signs_500 (by decide) ?_
                                                          subst h
                                                          exact j_iret (w := []) hr d_Sc_signs_501 [] rfl (by decide) ⟨rfl, rfl⟩
                                                        · replace h := it_f c35 h
                                                          by_cases c36 : p1 = 66
                                                          · replace h := it_t c36 h
                                                            refine j_tabIn (tgt := 500) (off := 499) d_Sc_signs_1 66 c36 (by decide) (by decide) (by decide) (by decide) ?_
                                                            refine j_iconst (v := 1) d_Sc_signs_500 (by decide) ?_
                                                            subst h
                                                            exact j_iret (w := []) hr d_Sc_signs_501 [] rfl (by decide) ⟨rfl, rfl⟩
                                                          · replace h := it_f c36 h
                                                            by_cases c37 : p1 = 67
                                                            · replace h := it_t c37 h
                                                              refine j_tabIn (tgt := 500) (off := 499) d_Sc_signs_1 67 c37 (by decide) (by decide) (by decide) (by decide) ?_
                                                              refine j_iconst (v := 1) d_Sc_signs_500 (by decide) ?_
                                                              subst h
                                                              exact j_iret (w := []) hr d_Sc_signs_501 [] rfl (by decide) ⟨rfl, rfl⟩
                                                            · replace h := it_f c37 h
                                                              by_cases c38 : p1 = 68
                                                              · replace h := it_t c38 h
                                                                refine j_tabIn (tgt := 500) (off := 499) d_Sc_signs_1 68 c38 (by decide) (by decide) (by decide) (by decide) ?_
                                                                refine j_iconst (v := 1) d_Sc_signs_500 (by decide) ?_
                                                                subst h
                                                                exact j_iret (w := []) hr d_Sc_signs_501 [] rfl (by decide) ⟨rfl, rfl⟩
                                                              · replace h := it_f c38 h
                                                                by_cases c39 : p1 = 69
                                                                · replace h := it_t c39 h
                                                                  refine j_tabIn (tgt := 500) (off := 499) d_Sc_signs_1 69 c39 (by decide) (by decide) (by decide) (by decide) ?_
                                                                  refine j_iconst (v := 1) d_Sc_signs_500 (by decide) ?_
                                                                  subst h
                                                                  exact j_iret (w := []) hr d_Sc_signs_501 [] rfl (by decide) ⟨rfl, rfl⟩
                                                                · replace h := it_f c39 h
                                                                  by_cases c40 : p1 = 70
                                                                  · replace h := it_t c40 h
                                                                    refine j_tabIn (tgt := 500) (off := 499) d_Sc_signs_1 70 c40 (by decide) (by decide) (by decide) (by decide) ?_
                                                                    refine j_iconst (v := 1) d_Sc_signs_500 (by decide) ?_
                                                                    subst h
                                                                    exact j_iret (w := []) hr d_Sc_signs_501 [] rfl (by decide) ⟨rfl, rfl⟩
                                                                  · replace h := it_f c40 h
                                                                    by_cases c41 : p1 = 71
                                                                    · replace h := it_t c41 h
                                                                      refine j_tabIn (tgt := 500) (off := 499) d_Sc_signs_1 71 c41 (by decide) (by decide) (by decide) (by decide) ?_
                                                                      refine j_iconst (v := 1) d_Sc_signs_500 (by decide) ?_
                                                                      subst h
                                                                      exact j_iret (w := []) hr d_Sc_signs_501 [] rfl (by decide) ⟨rfl, rfl⟩
                                                                    · replace h := it_f c41 h
                                                                      by_cases c42 : p1 = 72
                                                                      · replace h := it_t c42 h
                                                                        refine j_tabIn (tgt := 500) (off := 499) d_Sc_signs_1 72 c42 (by decide) (by decide) (by decide) (by decide) ?_
                                                                        refine j_iconst (v := 1) d_Sc_signs_500 (by decide) ?_
                                                                        subst h
                                                                        exact j_iret (w := []) hr d_Sc_signs_501 [] rfl (by decide) ⟨rfl, rfl⟩
                                                                      · replace h := it_f c42 h
                                                                        by_cases c43 : p1 = 73
                                                                        · replace h := it_t c43 h
                                                                          refine j_tabIn (tgt := 500) (off := 499) d_Sc_signs_1 73 c43 (by decide) (by decide) (by decide) (by decide) ?_
                                                                          refine j_iconst (v := 1) d_Sc_signs_500 (by decide) ?_
                                                                          subst h
                                                                          exact j_iret (w := []) hr d_Sc_signs_501 [] rfl (by decide) ⟨rfl, rfl⟩
                                                                        · replace h := it_f c43 h
                                                                          by_cases c44 : p1 = 74
                                                                          · replace h := it_t c44 h
                                                                            refine j_tabIn (tgt := 500) (off := 499) d_Sc_signs_1 74 c44 (by decide) (by decide) (by decide) (by decide) ?_
                                                                            refine j_iconst (v := 1) d_Sc_signs_500 (by decide) ?_
                                                                            subst h
                                                                            exact j_iret (w := []) hr d_Sc_signs_501 [] rfl (by decide) ⟨rfl, rfl⟩
                                                                          · replace h := it_f c44 h
                                                                            by_cases c45 : p1 = 75
                                                                            · replace h := it_t c45 h
                                                                              refine j_tabIn (tgt := 500) (off := 499) d_Sc_signs_1 75 c45 (by decide) (by decide) (by decide) (by decide) ?_
                                                                              refine j_iconst (v := 1) d_Sc_signs_500 (by decide) ?_
                                                                              subst h
                                                                              exact j_iret (w := []) hr d_Sc_signs_501 [] rfl (by decide) ⟨rfl, rfl⟩
                                                                            · replace h := it_f c45 h
                                                                              by_cases c46 : p1 = 76
                                                                              · replace h := it_t c46 h
                                                                                refine j_tabIn (tgt := 500) (off := 499) d_Sc_signs_1 76 c46 (by decide) (by decide) (by decide) (by decide) ?_
                                                                                refine j_iconst (v := 1) d_Sc_signs_500 (by decide) ?_
                                                                                subst h
                                                                                exact j_iret (w := []) hr d_Sc_signs_501 [] rfl (by decide) ⟨rfl, rfl⟩
                                                                              · replace h := it_f c46 h
                                                                                by_cases c47 : p1 = 77
                                                                                · replace h := it_t c47 h
                                                                                  refine j_tabIn (tgt := 500) (off := 499) d_Sc_signs_1 77 c47 (by decide) (by decide) (by decide) (by decide) ?_
                                                                                  refine j_iconst (v := 1) d_Sc_signs_500 (by decide) ?_
                                                                                  subst h
                                                                                  exact j_iret (w := []) hr d_Sc_signs_501 [] rfl (by decide) ⟨rfl, rfl⟩
                                                                                · replace h := it_f c47 h
                                                                                  by_cases c48 : p1 = 78
                                                                                  · replace h := it_t c48 h
                                                                                    refine j_tabIn (tgt := 500) (off := 499) d_Sc_signs_1 78 c48 (by decide) (by decide) (by decide) (by decide) ?_
                                                                                    refine j_iconst (v := 1) d_Sc_signs_500 (by decide) ?_
                                                                                    subst h
                                                                                    exact j_iret (w := []) hr d_Sc_signs_501 [] rfl (by decide) ⟨rfl, rfl⟩
                                                                                  · replace h := it_f c48 h
                                                                                    by_cases c49 : p1 = 79
                                                                                    · replace h := it_t c49 h
                                                                                      refine j_tabIn (tgt := 500) (off := 499) d_Sc_signs_1 79 c49 (by decide) (by decide) (by decide) (by decide) ?_
                                                                                      refine j_iconst (v := 1) d_Sc_signs_500 (by decide) ?_
                                                                                      subst h
                                                                                      exact j_iret (w := []) hr d_Sc_signs_501 [] rfl (by decide) ⟨rfl, rfl⟩
                                                                                    · replace h := it_f c49 h
                                                                                      by_cases c50 : p1 = 80
                                                                                      · replace h := it_t c50 h
                                                                                        refine j_tabIn (tgt := 500) (off := 499) d_Sc_signs_1 80 c50 (by decide) (by decide) (by decide) (by decide) ?_
                                                                                        refine j_iconst (v := 1) d_Sc_signs_500 (by decide) ?_
                                                                                        subst h
                                                                                        exact j_iret (w := []) hr d_Sc_signs_501 [] rfl (by decide) ⟨rfl, rfl⟩
                                                                                      · replace h := it_f c50 h
                                                                                        by_cases c51 : p1 = 81
                                                                                        · replace h := it_t c51 h
                                                                                          refine j_tabIn (tgt := 500) (off := 499) d_Sc_signs_1 81 c51 (by decide) (by decide) (by decide) (by decide) ?_
                                                                                          refine j_iconst (v := 1) d_Sc_signs_500 (by decide) ?_
                                                                                          subst h
                                                                                          exact j_iret (w := []) hr d_Sc_signs_501 [] rfl (by decide) ⟨rfl, rfl⟩
                                                                                        · replace h := it_f c51 h
                                                                                          by_cases c52 : p1 = 82
                                                                                          · replace h := it_t c52 h
                                                                                            refine j_tabIn (tgt := 500) (off := 499) d_Sc_signs_1 82 c52 (by decide) (by decide) (by decide) (by decide) ?_
                                                                                            refine j_iconst (v := 1) d_Sc_signs_500 (by decide) ?_
                                                                                            subst h
                                                                                            exact j_iret (w := []) hr d_Sc_signs_501 [] rfl (by decide) ⟨rfl, rfl⟩
                                                                                          · replace h := it_f c52 h
                                                                                            by_cases c53 : p1 = 83
                                                                                            · replace h := it_t c53 h
                                                                                              refine j_tabIn (tgt := 500) (off := 499) d_Sc_signs_1 83 c53 (by decide) (by decide) (by decide) (by decide) ?_
                                                                                              refine j_iconst (v := 1) d_Sc_signs_500 (by decide) ?_
                                                                                              subst h
                                                                                              exact j_iret (w := []) hr d_Sc_signs_501 [] rfl (by decide) ⟨rfl, rfl⟩
                                                                                            · replace h := it_f c53 h
                                                                                              by_cases c54 : p1 = 84
                                                                                              · replace h := it_t c54 h
                                                                                                refine j_tabIn (tgt := 500) (off := 499) d_Sc_signs_1 84 c54 (by decide) (by decide) (by decide) (by decide) ?_
                                                                                                refine j_iconst (v := 1) d_Sc_signs_500 (by decide) ?_
                                                                                                subst h
                                                                                                exact j_iret (w := []) hr d_Sc_signs_501 [] rfl (by decide) ⟨rfl, rfl⟩
                                                                                              · replace h := it_f c54 h
                                                                                                by_cases c55 : p1 = 85
                                                                                                · replace h := it_t c55 h
                                                                                                  refine j_tabIn (tgt := 500) (off := 499) d_Sc_signs_1 85 c55 (by decide) (by decide) (by decide) (by decide) ?_
                                                                                                  refine j_iconst (v := 1) d_Sc_signs_500 (by decide) ?_
                                                                                                  subst h
                                                                                                  exact j_iret (w := []) hr d_Sc_signs_501 [] rfl (by decide) ⟨rfl, rfl⟩
                                                                                                · replace h := it_f c55 h
                                                                                                  by_cases c56 : p1 = 86
                                                                                                  · replace h := it_t c56 h
                                                                                                    refine j_tabIn (tgt := 500) (off := 499) d_Sc_signs_1 86 c56 (by decide) (by decide) (by decide) (by decide) ?_
                                                                                                    refine j_iconst (v := 1) d_Sc_signs_500 (by decide) ?_
                                                                                                    subst h
                                                                                                    exact j_iret (w := []) hr d_Sc_signs_501 [] rfl (by decide) ⟨rfl, rfl⟩
                                                                                                  · replace h := it_f c56 h
                                                                                                    by_cases c57 : p1 = 87
                                                                                                    · replace h := it_t c57 h
                                                                                                      refine j_tabIn (tgt := 500) (off := 499) d_Sc_signs_1 87 c57 (by decide) (by decide) (by decide) (by decide) ?_
                                                                                                      refine j_iconst (v := 1) d_Sc_signs_500 (by decide) ?_
                                                                                                      subst h
                                                                                                      exact j_iret (w := []) hr d_Sc_signs_501 [] rfl (by decide) ⟨rfl, rfl⟩
                                                                                                    · replace h := it_f c57 h
                                                                                                      by_cases c58 : p1 = 88
                                                                                                      · replace h := it_t c58 h
                                                                                                        refine j_tabIn (tgt := 500) (off := 499) d_Sc_signs_1 88 c58 (by decide) (by decide) (by decide) (by decide) ?_
                                                                                                        refine j_iconst (v := 1) d_Sc_signs_500 (by decide) ?_
                                                                                                        subst h
                                                                                                        exact j_iret (w := []) hr d_Sc_signs_501 [] rfl (by decide) ⟨rfl, rfl⟩
                                                                                                      · replace h := it_f c58 h
                                                                                                        by_cases c59 : p1 = 89
                                                                                                        · replace h := it_t c59 h
                                                                                                          refine j_tabIn (tgt := 500) (off := 499) d_Sc_signs_1 89 c59 (by decide) (by decide) (by decide) (by decide) ?_
                                                                                                          refine j_iconst (v := 1) d_Sc_signs_500 (by decide) ?_
                                                                                                          subst h
                                                                                                          exact j_iret (w := []) hr d_Sc_signs_501 [] rfl (by decide) ⟨rfl, rfl⟩
                                                                                                        · replace h := it_f c59 h
                                                                                                          by_cases c60 : p1 = 90
                                                                                                          · replace h := it_t c60 h
                                                                                                            refine j_tabIn (tgt := 500) (off := 499) d_Sc_signs_1 90 c60 (by decide) (by decide) (by decide) (by decide) ?_
                                                                                                            refine j_iconst (v := 1) d_Sc_signs_500 (by decide) ?_
                                                                                                            subst h
                                                                                                            exact j_iret (w := []) hr d_Sc_signs_501 [] rfl (by decide) ⟨rfl, rfl⟩
                                                                                                          · replace h := it_f c60 h
                                                                                                            by_cases c61 : p1 = 91
                                                                                                            · replace h := it_t c61 h
                                                                                                              refine j_tabIn (tgt := 498) (off := 497) d_Sc_signs_1 91 c61 (by decide) (by decide) (by decide) (by decide) ?_
                                                                                                              refine j_iload_n d_Sc_signs_498 rfl 0 rfl ?_
                                                                                                              subst h
                                                                                                              exact j_iret (w := []) hr d_Sc_signs_499 [] rfl (by decide) ⟨rfl, rfl⟩
                                                                                                            · replace h := it_f c61 h
                                                                                                              by_cases c62 : p1 = 92
                                                                                                              · replace h := it_t c62 h
                                                                                                                refine j_tabIn (tgt := 498) (off := 497) d_Sc_signs_1 92 c62 (by decide) (by decide) (by decide) (by decide) ?_
                                                                                                                refine j_iload_n d_Sc_signs_498 rfl 0 rfl ?_
                                                                                                                subst h
                                                                                                                exact j_iret (w := []) hr d_Sc_signs_499 [] rfl (by decide) ⟨rfl, rfl⟩
                                                                                                              · replace h := it_f c62 h
                                                                                                                by_cases c63 : p1 = 93
                                                                                                                · replace h := it_t c63 h
                                                                                                                  refine j_tabIn (tgt := 498) (off := 497) d_Sc_signs_1 93 c63 (by decide) (by decide) (by decide) (by decide) ?_
                                                                                                                  refine j_iload_n d_Sc_signs_498 rfl 0 rfl ?_
                                                                                                                  subst h
                                                                                                                  exact j_iret (w := []) hr d_Sc_signs_499 [] rfl (by decide) ⟨rfl, rfl⟩
                                                                                                                · replace h := it_f c63 h
                                                                                                                  by_cases c64 : p1 = 94
                                                                                                                  · replace h := it_t c64 h
                                                                                                                    refine j_tabIn (tgt := 498) (off := 497) d_Sc_signs_1 94 c64 (by decide) (by decide) (by decide) (by decide) ?_
                                                                                                                    refine j_iload_n d_Sc_signs_498 rfl 0 rfl ?_
                                                                                                                    subst h
                                                                                                                    exact j_iret (w := []) hr d_Sc_signs_499 [] rfl (by decide) ⟨rfl, rfl⟩
                                                                                                                  · replace h := it_f c64 h
                                                                                                                    by_cases c65 : p1 = 95
                                                                                                                    · replace h := it_t c65 h
                                                                                                                      refine j_tabIn (tgt := 500) (off := 499) d_Sc_signs_1 95 c65 (by decide) (by decide) (by decide) (by decide) ?_
                                                                                                                      refine j_iconst (v := 1) d_Sc_signs_500 (by decide) ?_
                                                                                                                      subst h
                                                                                                                      exact j_iret (w := []) hr d_Sc_signs_501 [] rfl (by decide) ⟨rfl, rfl⟩
                                                                                                                    · replace h := it_f c65 h
                                                                                                                      by_cases c66 : p1 = 96
                                                                                                                      · replace h := it_t c66 h
                                                                                                                        refine j_tabIn (tgt := 500) (off := 499) d_Sc_signs_1 96 c66 (by decide) (by decide) (by decide) (by decide) ?_
                                                                                                                        refine j_iconst (v := 1) d_Sc_signs_500 (by decide) ?_
                                                                                                                        subst h
                                                                                                                        exact j_iret (w := []) hr d_Sc_signs_501 [] rfl (by decide) ⟨rfl, rfl⟩
                                                                                                                      · replace h := it_f c66 h
                                                                                                                        by_cases c67 : p1 = 97
                                                                                                                        · replace h := it_t c67 h
                                                                                                                          refine j_tabIn (tgt := 500) (off := 499) d_Sc_signs_1 97 c67 (by decide) (by decide) (by decide) (by decide) ?_
                                                                                                                          refine j_iconst (v := 1) d_Sc_signs_500 (by decide) ?_
                                                                                                                          subst h
                                                                                                                          exact j_iret (w := []) hr d_Sc_signs_501 [] rfl (by decide) ⟨rfl, rfl⟩
                                                                                                                        · replace h := it_f c67 h
                                                                                                                          by_cases c68 : p1 = 98
                                                                                                                          · replace h := it_t c68 h
                                                                                                                            refine j_tabIn (tgt := 500) (off := 499) d_Sc_signs_1 98 c68 (by decide) (by decide) (by decide) (by decide) ?_
                                                                                                                            refine j_iconst (v := 1) d_Sc_signs_500 (by decide) ?_
                                                                                                                            subst h
                                                                                                                            exact j_iret (w := []) hr d_Sc_signs_501 [] rfl (by decide) ⟨rfl, rfl⟩
                                                                                                                          · replace h := it_f c68 h
                                                                                                                            by_cases c69 : p1 = 99
                                                                                                                            · replace h := it_t c69 h
                                                                                                                              refine j_tabIn (tgt := 500) (off := 499) d_Sc_signs_1 99 c69 (by decide) (by decide) (by decide) (by decide) ?_
                                                                                                                              refine j_iconst (v := 1) d_Sc_signs_500 (by decide) ?_
                                                                                                                              subst h
                                                                                                                              exact j_iret (w := []) hr d_Sc_signs_501 [] rfl (by decide) ⟨rfl, rfl⟩
                                                                                                                            · replace h := it_f c69 h
                                                                                                                              by_cases c70 : p1 = 100
                                                                                                                              · replace h := it_t c70 h
                                                                                                                                refine j_tabIn (tgt := 500) (off := 499) d_Sc_signs_1 100 c70 (by decide) (by decide) (by decide) (by decide) ?_
                                                                                                                                refine j_iconst (v := 1) d_Sc_signs_500 (by decide) ?_
                                                                                                                                subst h
                                                                                                                                exact j_iret (w := []) hr d_Sc_signs_501 [] rfl (by decide) ⟨rfl, rfl⟩
                                                                                                                              · replace h := it_f c70 h
                                                                                                                                by_cases c71 : p1 = 101
                                                                                                                                · replace h := it_t c71 h
                                                                                                                                  refine j_tabIn (tgt := 500) (off := 499) d_Sc_signs_1 101 c71 (by decide) (by decide) (by decide) (by decide) ?_
                                                                                                                                  refine j_iconst (v := 1) d_Sc_signs_500 (by decide) ?_
                                                                                                                                  subst h
                                                                                                                                  exact j_iret (w := []) hr d_Sc_signs_501 [] rfl (by decide) ⟨rfl, rfl⟩
                                                                                                                                · replace h := it_f c71 h
                                                                                                                                  by_cases c72 : p1 = 102
                                                                                                                                  · replace h := it_t c72 h
                                                                                                                                    refine j_tabIn (tgt := 500) (off := 499) d_Sc_signs_1 102 c72 (by decide) (by decide) (by decide) (by decide) ?_
                                                                                                                                    refine j_iconst (v := 1) d_Sc_signs_500 (by decide) ?_
                                                                                                                                    subst h
                                                                                                                                    exact j_iret (w := []) hr d_Sc_signs_501 [] rfl (by decide) ⟨rfl, rfl⟩
                                                                                                                                  · replace h := it_f c72 h
                                                                                                                                    by_cases c73 : p1 = 103
                                                                                                                                    · replace h := it_t c73 h
                                                                                                                                      refine j_tabIn (tgt := 500) (off := 499) d_Sc_signs_1 103 c73 (by decide) (by decide) (by decide) (by decide) ?_
                                                                                                                                      refine j_iconst (v := 1) d_Sc_signs_500 (by decide) ?_
                                                                                                                                      subst h
                                                                                                                                      exact j_iret (w := []) hr d_Sc_signs_501 [] rfl (by decide) ⟨rfl, rfl⟩
                                                                                                                                    · replace h := it_f c73 h
                                                                                                                                      by_cases c74 : p1 = 104
                                                                                                                                      · replace h := it_t c74 h
                                                                                                                                        refine j_tabIn (tgt := 500) (off := 499) d_Sc_signs_1 104 c74 (by decide) (by decide) (by decide) (by decide) ?_
                                                                                                                                        refine j_iconst (v := 1) d_Sc_signs_500 (by decide) ?_
                                                                                                                                        subst h
                                                                                                                                        exact j_iret (w := []) hr d_Sc_signs_501 [] rfl (by decide) ⟨rfl, rfl⟩
                                                                                                                                      · replace h := it_f c74 h
                                                                                                                                        by_cases c75 : p1 = 105
                                                                                                                                        · replace h := it_t c75 h
                                                                                                                                          refine j_tabIn (tgt := 500) (off := 499) d_Sc_signs_1 105 c75 (by decide) (by decide) (by decide) (by decide) ?_
                                                                                                                                          refine j_iconst (v := 1) d_Sc_signs_500 (by decide) ?_
                                                                                                                                          subst h
                                                                                                                                          exact j_iret (w := []) hr d_Sc_signs_501 [] rfl (by decide) ⟨rfl, rfl⟩
                                                                                                                                        · replace h := it_f c75 h
                                                                                                                                          by_cases c76 : p1 = 106
                                                                                                                                          · replace h := it_t c76 h
                                                                                                                                            refine j_tabIn (tgt := 500) (off := 499) d_Sc_signs_1 106 c76 (by decide) (by decide) (by decide) (by decide) ?_
                                                                                                                                            refine j_iconst (v := 1) d_Sc_signs_500 (by decide) ?_
                                                                                                                                            subst h
                                                                                                                                            exact j_iret (w := []) hr d_Sc_signs_501 [] rfl (by decide) ⟨rfl, rfl⟩
                                                                                                                                          · replace h := it_f c76 h
                                                                                                                                            by_cases c77 : p1 = 107
                                                                                                                                            · replace h := it_t c77 h
                                                                                                                                              refine j_tabIn (tgt := 500) (off := 499) d_Sc_signs_1 107 c77 (by decide) (by decide) (by decide) (by decide) ?_
                                                                                                                                              refine j_iconst (v := 1) d_Sc_signs_500 (by decide) ?_
                                                                                                                                              subst h
                                                                                                                                              exact j_iret (w := []) hr d_Sc_signs_501 [] rfl (by decide) ⟨rfl, rfl⟩
                                                                                                                                            · replace h := it_f c77 h
                                                                                                                                              by_cases c78 : p1 = 108
                                                                                                                                              · replace h := it_t c78 h
                                                                                                                                                refine j_tabIn (tgt := 500) (off := 499) d_Sc_signs_1 108 c78 (by decide) (by decide) (by decide) (by decide) ?_
                                                                                                                                                refine j_iconst (v := 1) d_Sc_signs_500 (by decide) ?_
                                                                                                                                                subst h
                                                                                                                                                exact j_iret (w := []) hr d_Sc_signs_501 [] rfl (by decide) ⟨rfl, rfl⟩
                                                                                                                                              · replace h := it_f c78 h
                                                                                                                                                by_cases c79 : p1 = 109
                                                                                                                                                · replace h := it_t c79 h
                                                                                                                                                  refine j_tabIn (tgt := 500) (off := 499) d_Sc_signs_1 109 c79 (by decide) (by decide) (by decide) (by decide) ?_
                                                                                                                                                  refine j_iconst (v := 1) d_Sc_signs_500 (by decide) ?_
                                                                                                                                                  subst h
                                                                                                                                                  exact j_iret (w := []) hr d_Sc_signs_501 [] rfl (by decide) ⟨rfl, rfl⟩
                                                                                                                                                · replace h := it_f c79 h
                                                                                                                                                  by_cases c80 : p1 = 110
                                                                                                                                                  · replace h := it_t c80 h
                                                                                                                                                    refine j_tabIn (tgt := 500) (off := 499) d_Sc_signs_1 110 c80 (by decide) (by decide) (by decide) (by decide) ?_
                                                                                                                                                    refine j_iconst (v := 1) d_Sc_signs_500 (by decide) ?_
                                                                                                                                                    subst h
                                                                                                                                                    exact j_iret (w := []) hr d_Sc_signs_501 [] rfl (by decide) ⟨rfl, rfl⟩
                                                                                                                                                  · replace h := it_f c80 h
                                                                                                                                                    by_cases c81 : p1 = 111
                                                                                                                                                    · replace h := it_t c81 h
                                                                                                                                                      refine j_tabIn (tgt := 500) (off := 499) d_Sc_signs_1 111 c81 (by decide) (by decide) (by decide) (by decide) ?_
                                                                                                                                                      refine j_iconst (v := 1) d_Sc_signs_500 (by decide) ?_
                                                                                                                                                      subst h
                                                                                                                                                      exact j_iret (w := []) hr d_Sc_signs_501 [] rfl (by decide) ⟨rfl, rfl⟩
                                                                                                                                                    · replace h := it_f c81 h
                                                                                                                                                      by_cases c82 : p1 = 112
                                                                                                                                                      · replace h := it_t c82 h
                                                                                                                                                        refine j_tabIn (tgt := 500) (off := 499) d_Sc_signs_1 112 c82 (by decide) (by decide) (by decide) (by decide) ?_
                                                                                                                                                        refine j_iconst (v := 1) d_Sc_signs_500 (by decide) ?_
                                                                                                                                                        subst h
                                                                                                                                                        exact j_iret (w := []) hr d_Sc_signs_501 [] rfl (by decide) ⟨rfl, rfl⟩
                                                                                                                                                      · replace h := it_f c82 h
                                                                                                                                                        by_cases c83 : p1 = 113
                                                                                                                                                        · replace h := it_t c83 h
                                                                                                                                                          refine j_tabIn (tgt := 500) (off := 499) d_Sc_signs_1 113 c83 (by decide) (by decide) (by decide) (by decide) ?_
                                                                                                                                                          refine j_iconst (v := 1) d_Sc_signs_500 (by decide) ?_
                                                                                                                                                          subst h
                                                                                                                                                          exact j_iret (w := []) hr d_Sc_signs_501 [] rfl (by decide) ⟨rfl, rfl⟩
                                                                                                                                                        · replace h := it_f c83 h
                                                                                                                                                          by_cases c84 : p1 = 114
                                                                                                                                                          · replace h := it_t c84 h
                                                                                                                                                            refine j_tabIn (tgt := 500) (off := 499) d_Sc_signs_1 114 c84 (by decide) (by decide) (by decide) (by decide) ?_
                                                                                                                                                            refine j_iconst (v := 1) d_Sc_signs_500 (by decide) ?_
                                                                                                                                                            subst h
                                                                                                                                                            exact j_iret (w := []) hr d_Sc_signs_501 [] rfl (by decide) ⟨rfl, rfl⟩
                                                                                                                                                          · replace h := it_f c84 h
                                                                                                                                                            by_cases c85 : p1 = 115
                                                                                                                                                            · replace h := it_t c85 h
                                                                                                                                                              refine j_tabIn (tgt := 500) (off := 499) d_Sc_signs_1 115 c85 (by decide) (by decide) (by decide) (by decide) ?_
                                                                                                                                                              refine j_iconst (v := 1) d_Sc_signs_500 (by decide) ?_
                                                                                                                                                              subst h
                                                                                                                                                              exact j_iret (w := []) hr d_Sc_signs_501 [] rfl (by decide) ⟨rfl, rfl⟩
                                                                                                                                                            · replace h := it_f c85 h
                                                                                                                                                              by_cases c86 : p1 = 116
                                                                                                                                                              · replace h := it_t c86 h
                                                                                                                                                                refine j_tabIn (tgt := 500) (off := 499) d_Sc_signs_1 116 c86 (by decide) (by decide) (by decide) (by decide) ?_
                                                                                                                                                                refine j_iconst (v := 1) d_Sc_signs_500 (by decide) ?_
                                                                                                                                                                subst h
                                                                                                                                                                exact j_iret (w := []) hr d_Sc_signs_501 [] rfl (by decide) ⟨rfl, rfl⟩
                                                                                                                                                              · replace h := it_f c86 h
                                                                                                                                                                by_cases c87 : p1 = 117
                                                                                                                                                                · replace h := it_t c87 h
                                                                                                                                                                  refine j_tabIn (tgt := 500) (off := 499) d_Sc_signs_1 117 c87 (by decide) (by decide) (by decide) (by decide) ?_
                                                                                                                                                                  refine j_iconst (v := 1) d_Sc_signs_500 (by decide) ?_
                                                                                                                                                                  subst h
                                                                                                                                                                  exact j_iret (w := []) hr d_Sc_signs_501 [] rfl (by decide) ⟨rfl, rfl⟩
                                                                                                                                                                · replace h := it_f c87 h
                                                                                                                                                                  by_cases c88 : p1 = 118
                                                                                                                                                                  · replace h := it_t c88 h
                                                                                                                                                                    refine j_tabIn (tgt := 500) (off := 499) d_Sc_signs_1 118 c88 (by decide) (by decide) (by decide) (by decide) ?_
                                                                                                                                                                    refine j_iconst (v := 1) d_Sc_signs_500 (by decide) ?_
                                                                                                                                                                    subst h
                                                                                                                                                                    exact j_iret (w := []) hr d_Sc_signs_501 [] rfl (by decide) ⟨rfl, rfl⟩
                                                                                                                                                                  · replace h := it_f c88 h
                                                                                                                                                                    by_cases c89 : p1 = 119
                                                                                                                                                                    · replace h := it_t c89 h
                                                                                                                                                                      refine j_tabIn (tgt := 500) (off := 499) d_Sc_signs_1 119 c89 (by decide) (by decide) (by decide) (by decide) ?_
                                                                                                                                                                      refine j_iconst (v := 1) d_Sc_signs_500 (by decide) ?_
                                                                                                                                                                      subst h
                                                                                                                                                                      exact j_iret (w := []) hr d_Sc_signs_501 [] rfl (by decide) ⟨rfl, rfl⟩
                                                                                                                                                                    · replace h := it_f c89 h
                                                                                                                                                                      by_cases c90 : p1 = 120
                                                                                                                                                                      · replace h := it_t c90 h
                                                                                                                                                                        refine j_tabIn (tgt := 500) (off := 499) d_Sc_signs_1 120 c90 (by decide) (by decide) (by decide) (by decide) ?_
                                                                                                                                                                        refine j_iconst (v := 1) d_Sc_signs_500 (by decide) ?_
                                                                                                                                                                        subst h
                                                                                                                                                                        exact j_iret (w := []) hr d_Sc_signs_501 [] rfl (by decide) ⟨rfl, rfl⟩
                                                                                                                                                                      · replace h := it_f c90 h
                                                                                                                                                                        by_cases c91 : p1 = 121
                                                                                                                                                                        · replace h := it_t c91 h
                                                                                                                                                                          refine j_tabIn (tgt := 500) (off := 499) d_Sc_signs_1 121 c91 (by decide) (by decide) (by decide) (by decide) ?_
                                                                                                                                                                          refine j_iconst (v := 1) d_Sc_signs_500 (by decide) ?_
                                                                                                                                                                          subst h
                                                                                                                                                                          exact j_iret (w := []) hr d_Sc_signs_501 [] rfl (by decide) ⟨rfl, rfl⟩
                                                                                                                                                                        · replace h := it_f c91 h
                                                                                                                                                                          by_cases c92 : p1 = 122
                                                                                                                                                                          · replace h := it_t c92 h
                                                                                                                                                                            refine j_tabIn (tgt := 500) (off := 499) d_Sc_signs_1 122 c92 (by decide) (by decide) (by decide) (by decide) ?_
                                                                                                                                                                            refine j_iconst (v := 1) d_Sc_signs_500 (by decide) ?_
                                                                                                                                                                            subst h
                                                                                                                                                                            exact j_iret (w := []) hr d_Sc_signs_501 [] rfl (by decide) ⟨rfl, rfl⟩
                                                                                                                                                                          · replace h := it_f c92 h
                                                                                                                                                                            by_cases c93 : p1 = 123
                                                                                                                                                                            · replace h := it_t c93 h
                                                                                                                                                                              refine j_tabIn (tgt := 500) (off := 499) d_Sc_signs_1 123 c93 (by decide) (by decide) (by decide) (by decide) ?_
                                                                                                                                                                              refine j_iconst (v := 1) d_Sc_signs_500 (by decide) ?_
                                                                                                                                                                              subst h
                                                                                                                                                                              exact j_iret (w := []) hr d_Sc_signs_501 [] rfl (by decide) ⟨rfl, rfl⟩
                                                                                                                                                                            · replace h := it_f c93 h
                                                                                                                                                                              by_cases c94 : p1 = 124
                                                                                                                                                                              · replace h := it_t c94 h
                                                                                                                                                                                refine j_tabIn (tgt := 372) (off := 371) d_Sc_signs_1 124 c94 (by decide) (by decide) (by decide) (by decide) ?_
                                                                                                                                                                                refine j_iload_n d_Sc_signs_372 rfl 1 rfl ?_
                                                                                                                                                                                refine j_bipush (v := 124) d_Sc_signs_373 (by decide) ?_
                                                                                                                                                                                refine j_icmp_ne (tgt := 384) d_Sc_signs_375 (by decide) (fun c95 => ?_) (fun c95 => ?_)
                                                                                                                                                                                · replace h := it_f c95 h
                                                                                                                                                                                  refine j_iconst (v := 1) d_Sc_signs_384 (by decide) ?_
                                                                                                                                                                                  subst h
                                                                                                                                                                                  exact j_iret (w := []) hr d_Sc_signs_385 [] rfl (by decide) ⟨rfl, rfl⟩
                                                                                                                                                                                · replace h := it_t c95 h
                                                                                                                                                                                  refine j_sipush (v := 256) d_Sc_signs_378 (by decide) ?_
                                                                                                                                                                                  refine j_goto (tgt := 385) d_Sc_signs_381 (by decide) ?_
                                                                                                                                                                                  subst h
                                                                                                                                                                                  exact j_iret (w := []) hr d_Sc_signs_385 [] rfl (by decide) ⟨rfl, rfl⟩
                                                                                                                                                                              · replace h := it_f c94 h
                                                                                                                                                                                by_cases c96 : p1 = 125
                                                                                                                                                                                · replace h := it_t c96 h
                                                                                                                                                                                  refine j_tabIn (tgt := 500) (off := 499) d_Sc_signs_1 125 c96 (by decide) (by decide) (by decide) (by decide) ?_
                                                                                                                                                                                  refine j_iconst (v := 1) d_Sc_signs_500 (by decide) ?_
                                                                                                                                                                                  subst h
                                                                                                                                                                                  exact j_iret (w := []) hr d_Sc_signs_501 [] rfl (by decide) ⟨rfl, rfl⟩
                                                                                                                                                                                · replace h := it_f c96 h
                                                                                                                                                                                  by_cases c97 : p1 = 126
                                                                                                                                                                                  · replace h := it_t c97 h
                                                                                                                                                                                    refine j_tabIn (tgt := 415) (off := 414) d_Sc_signs_1 126 c97 (by decide) (by decide) (by decide) (by decide) ?_
                                                                                                                                                                                    refine j_iload_n d_Sc_signs_415 rfl 1 rfl ?_
                                                                                                                                                                                    refine j_bipush (v := 61) d_Sc_signs_416 (by decide) ?_
                                                                                                                                                                                    refine j_icmp_ne (tgt := 427) d_Sc_signs_418 (by decide) (fun c98 => ?_) (fun c98 => ?_)
                                                                                                                                                                                    · replace h := it_f c98 h
                                                                                                                                                                                      refine j_bipush (v := 126) d_Sc_signs_427 (by decide) ?_
                                                                                                                                                                                      subst h
                                                                                                                                                                                      exact j_iret (w := []) hr d_Sc_signs_429 [] rfl (by decide) ⟨rfl, rfl⟩
                                                                                                                                                                                    · replace h := it_t c98 h
                                                                                                                                                                                      refine j_sipush (v := 259) d_Sc_signs_421 (by decide) ?_
                                                                                                                                                                                      refine j_goto (tgt := 429) d_Sc_signs_424 (by decide) ?_
                                                                                                                                                                                      subst h
                                                                                                                                                                                      exact j_iret (w := []) hr d_Sc_signs_429 [] rfl (by decide) ⟨rfl, rfl⟩
                                                                                                                                                                                  · replace h := it_f c97 h
                                                                                                                                                                                    refine j_tabOut (tgt := 500) d_Sc_signs_1 (by have := lv_neT c1 (by decide : (38 : Int32).toInt = 38); have := lv_neT c3 (by decide : (39 : Int32).toInt = 39); have := lv_neT c4 (by decide : (40 : Int32).toInt = 40); have := lv_neT c5 (by decide : (41 : Int32).toInt = 41); have := lv_neT c6 (by decide : (42 : Int32).toInt = 42); have := lv_neT c7 (by decide : (43 : Int32).toInt = 43); have := lv_neT c8 (by decide : (44 : Int32).toInt = 44); have := lv_neT c9 (by decide : (45 : Int32).toInt = 45); have := lv_neT c10 (by decide : (46 : Int32).toInt = 46); have := lv_neT c14 (by decide : (47 : Int32).toInt = 47); have := lv_neT c15 (by decide : (48 : Int32).toInt = 48); have := lv_neT c16 (by decide : (49 : Int32).toInt = 49); have := lv_neT c17 (by decide : (50 : Int32).toInt = 50); have := lv_neT c18 (by decide : (51 : Int32).toInt = 51); have := lv_neT c19 (by decide : (52 : Int32).toInt = 52); have := lv_neT c20 (by decide : (53 : Int32).toInt = 53); have := lv_neT c21 (by decide : (54 : Int32).toInt = 54); have := lv_neT c22 (by decide : (55 : Int32).toInt = 55); have := lv_neT c23 (by decide : (56 : Int32).toInt = 56); have := lv_neT c24 (by decide : (57 : Int32).toInt = 57); have := lv_neT c25 (by decide : (58 : Int32).toInt = 58); have := lv_neT c26 (by decide : (59 : Int32).toInt = 59); have := lv_neT c27 (by decide : (60 : Int32).toInt = 60); have := lv_neT c29 (by decide : (61 : Int32).toInt = 61); have := lv_neT c31 (by decide : (62 : Int32).toInt = 62); have := lv_neT c33 (by decide : (63 : Int32).toInt = 63); have := lv_neT c34 (by decide : (64 : Int32).toInt = 64); have := lv_neT c35 (by decide : (65 : Int32).toInt = 65); have := lv_neT c36 (by decide : (66 : Int32).toInt = 66); have := lv_neT c37 (by decide : (67 : Int32).toInt = 67); have := lv_neT c38 (by decide : (68 : Int32).toInt = 68); have := lv_neT c39 (by decide : (69 : Int32).toInt = 69); have := lv_neT c40 (by decide : (70 : Int32).toInt = 70); have := lv_neT c41 (by decide : (71 : Int32).toInt = 71); have := lv_neT c42 (by decide : (72 : Int32).toInt = 72); have := lv_neT c43 (by decide : (73 : Int32).toInt = 73); have := lv_neT c44 (by decide : (74 : Int32).toInt = 74); have := lv_neT c45 (by decide : (75 : Int32).toInt = 75); have := lv_neT c46 (by decide : (76 : Int32).toInt = 76); have := lv_neT c47 (by decide : (77 : Int32).toInt = 77); have := lv_neT c48 (by decide : (78 : Int32).toInt = 78); have := lv_neT c49 (by decide : (79 : Int32).toInt = 79); have := lv_neT c50 (by decide : (80 : Int32).toInt = 80); have := lv_neT c51 (by decide : (81 : Int32).toInt = 81); have := lv_neT c52 (by decide : (82 : Int32).toInt = 82); have := lv_neT c53 (by decide : (83 : Int32).toInt = 83); have := lv_neT c54 (by decide : (84 : Int32).toInt = 84); have := lv_neT c55 (by decide : (85 : Int32).toInt = 85); have := lv_neT c56 (by decide : (86 : Int32).toInt = 86); have := lv_neT c57 (by decide : (87 : Int32).toInt = 87); have := lv_neT c58 (by decide : (88 : Int32).toInt = 88); have := lv_neT c59 (by decide : (89 : Int32).toInt = 89); have := lv_neT c60 (by decide : (90 : Int32).toInt = 90); have := lv_neT c61 (by decide : (91 : Int32).toInt = 91); have := lv_neT c62 (by decide : (92 : Int32).toInt = 92); have := lv_neT c63 (by decide : (93 : Int32).toInt = 93); have := lv_neT c64 (by decide : (94 : Int32).toInt = 94); have := lv_neT c65 (by decide : (95 : Int32).toInt = 95); have := lv_neT c66 (by decide : (96 : Int32).toInt = 96); have := lv_neT c67 (by decide : (97 : Int32).toInt = 97); have := lv_neT c68 (by decide : (98 : Int32).toInt = 98); have := lv_neT c69 (by decide : (99 : Int32).toInt = 99); have := lv_neT c70 (by decide : (100 : Int32).toInt = 100); have := lv_neT c71 (by decide : (101 : Int32).toInt = 101); have := lv_neT c72 (by decide : (102 : Int32).toInt = 102); have := lv_neT c73 (by decide : (103 : Int32).toInt = 103); have := lv_neT c74 (by decide : (104 : Int32).toInt = 104); have := lv_neT c75 (by decide : (105 : Int32).toInt = 105); have := lv_neT c76 (by decide : (106 : Int32).toInt = 106); have := lv_neT c77 (by decide : (107 : Int32).toInt = 107); have := lv_neT c78 (by decide : (108 : Int32).toInt = 108); have := lv_neT c79 (by decide : (109 : Int32).toInt = 109); have := lv_neT c80 (by decide : (110 : Int32).toInt = 110); have := lv_neT c81 (by decide : (111 : Int32).toInt = 111); have := lv_neT c82 (by decide : (112 : Int32).toInt = 112); have := lv_neT c83 (by decide : (113 : Int32).toInt = 113); have := lv_neT c84 (by decide : (114 : Int32).toInt = 114); have := lv_neT c85 (by decide : (115 : Int32).toInt = 115); have := lv_neT c86 (by decide : (116 : Int32).toInt = 116); have := lv_neT c87 (by decide : (117 : Int32).toInt = 117); have := lv_neT c88 (by decide : (118 : Int32).toInt = 118); have := lv_neT c89 (by decide : (119 : Int32).toInt = 119); have := lv_neT c90 (by decide : (120 : Int32).toInt = 120); have := lv_neT c91 (by decide : (121 : Int32).toInt = 121); have := lv_neT c92 (by decide : (122 : Int32).toInt = 122); have := lv_neT c93 (by decide : (123 : Int32).toInt = 123); have := lv_neT c94 (by decide : (124 : Int32).toInt = 124); have := lv_neT c96 (by decide : (125 : Int32).toInt = 125); have := lv_neT c97 (by decide : (126 : Int32).toInt = 126); omega) (by decide) ?_
                                                                                                                                                                                    refine j_iconst (v := 1) d_Sc_signs_500 (by decide) ?_
                                                                                                                                                                                    subst h
                                                                                                                                                                                    exact j_iret (w := []) hr d_Sc_signs_501 [] rfl (by decide) ⟨rfl, rfl⟩
