noncomputable def F_Rd_standsInExpression (fn : Nat) (fd : Nat) (fcf : Nat → FrC) (mode_h0 : Int32) (levels_h0 : Int32) (signs_h0 : Int32) (loops_h0 : Int32) (token_h0 : Int32) (fault_h0 : Int32) (kind_t : Int32) (place_t : Int32) (width_t : Int32) (second_t : Int32) (parts_t : Int32) (innerParts_t : Int32) (innerPlace_t : Int32) (innerWidth_t : Int32) (signs_t : Int32) (waitingBelow_t : Int32) (limited_t : Int32) (targets_t : Int32) (lastBlock_t : Int32) (count_a_draft_h0 : Int32) (n_a_cells_a_draft_h0 : Nat) (b_a_cells_a_draft_h0 : Nat → Int32) (next_a_scanner_h0 : Int32) (kind_a_scanner_h0 : Int32) (start_a_scanner_h0 : Int32) (width_a_scanner_h0 : Int32) (count_a_waiting_h0 : Int32) (n_a_cells_a_waiting_h0 : Nat) (b_a_cells_a_waiting_h0 : Nat → Int32) : Option ((Nat × Nat × (Nat → FrC) × Int32 × Int32 × Int32 × Int32 × Int32 × Int32 × Int32 × Int32 × Int32 × Int32 × Int32 × Int32 × Int32 × Int32 × Int32 × Int32 × Int32 × Int32 × Int32 × Nat × (Nat → Int32) × Nat × (Nat → Int32)) × Nat × Nat) :=
  if mode_h0 = 30 then (bw (F_Rd_takeAtStart fn fd fcf mode_h0 levels_h0 signs_h0 loops_h0 token_h0 fault_h0 kind_t place_t width_t second_t parts_t innerParts_t innerPlace_t innerWidth_t signs_t waitingBelow_t limited_t targets_t lastBlock_t count_a_draft_h0 n_a_cells_a_draft_h0 b_a_cells_a_draft_h0 next_a_scanner_h0 kind_a_scanner_h0 start_a_scanner_h0 width_a_scanner_h0 count_a_waiting_h0 n_a_cells_a_waiting_h0 b_a_cells_a_waiting_h0) fun ⟨r2, r3, r4, r5, r6, r7, r8, r9, r10, r11, r12, r13, r14, r15, r16, r17, r18, r19, r20, r21, r22, r23, r24, r25, r26, r27⟩ =>
    (some ((r2, r3, r4, r5, r6, r7, r8, r9, r10, r11, r12, r13, r14, r15, r16, r17, r18, r19, r20, r21, r22, r23, r24, r25, r26, r27), 0, 0)))
  else if mode_h0 = 31 then (bw (F_Rd_takeOperand fn fd fcf mode_h0 levels_h0 signs_h0 loops_h0 token_h0 fault_h0 kind_t place_t width_t second_t parts_t innerParts_t innerPlace_t innerWidth_t signs_t waitingBelow_t limited_t targets_t lastBlock_t next_a_scanner_h0 kind_a_scanner_h0 start_a_scanner_h0 width_a_scanner_h0 count_a_draft_h0 n_a_cells_a_draft_h0 b_a_cells_a_draft_h0 count_a_waiting_h0 n_a_cells_a_waiting_h0 b_a_cells_a_waiting_h0) fun ⟨r38, r39, r40, r41, r42, r43, r44, r45, r46, r47, r48, r49, r50, r51, r52, r53, r54, r55, r56, r57, r58, r59, r60, r61, r62, r63⟩ =>
    (some ((r38, r39, r40, r41, r42, r43, r44, r45, r46, r47, r48, r49, r50, r51, r52, r53, r54, r55, r56, r57, r58, r59, r60, r61, r62, r63), 0, 0)))
  else if mode_h0 = 32 then (bw (F_Rd_takeOperand fn fd fcf mode_h0 levels_h0 signs_h0 loops_h0 token_h0 fault_h0 kind_t place_t width_t second_t parts_t innerParts_t innerPlace_t innerWidth_t signs_t waitingBelow_t limited_t targets_t lastBlock_t next_a_scanner_h0 kind_a_scanner_h0 start_a_scanner_h0 width_a_scanner_h0 count_a_draft_h0 n_a_cells_a_draft_h0 b_a_cells_a_draft_h0 count_a_waiting_h0 n_a_cells_a_waiting_h0 b_a_cells_a_waiting_h0) fun ⟨r74, r75, r76, r77, r78, r79, r80, r81, r82, r83, r84, r85, r86, r87, r88, r89, r90, r91, r92, r93, r94, r95, r96, r97, r98, r99⟩ =>
    (some ((r74, r75, r76, r77, r78, r79, r80, r81, r82, r83, r84, r85, r86, r87, r88, r89, r90, r91, r92, r93, r94, r95, r96, r97, r98, r99), 0, 0)))
  else if mode_h0 = 33 then (bw (F_Rd_takeOperand fn fd fcf mode_h0 levels_h0 signs_h0 loops_h0 token_h0 fault_h0 kind_t place_t width_t second_t parts_t innerParts_t innerPlace_t innerWidth_t signs_t waitingBelow_t limited_t targets_t lastBlock_t next_a_scanner_h0 kind_a_scanner_h0 start_a_scanner_h0 width_a_scanner_h0 count_a_draft_h0 n_a_cells_a_draft_h0 b_a_cells_a_draft_h0 count_a_waiting_h0 n_a_cells_a_waiting_h0 b_a_cells_a_waiting_h0) fun ⟨r110, r111, r112, r113, r114, r115, r116, r117, r118, r119, r120, r121, r122, r123, r124, r125, r126, r127, r128, r129, r130, r131, r132, r133, r134, r135⟩ =>
    (some ((r110, r111, r112, r113, r114, r115, r116, r117, r118, r119, r120, r121, r122, r123, r124, r125, r126, r127, r128, r129, r130, r131, r132, r133, r134, r135), 0, 0)))
  else if mode_h0 = 34 then (bw (F_Rd_takeOperator fn fd fcf mode_h0 levels_h0 signs_h0 loops_h0 token_h0 fault_h0 kind_t place_t width_t second_t parts_t innerParts_t innerPlace_t innerWidth_t signs_t waitingBelow_t limited_t targets_t lastBlock_t next_a_scanner_h0 kind_a_scanner_h0 start_a_scanner_h0 width_a_scanner_h0 count_a_draft_h0 n_a_cells_a_draft_h0 b_a_cells_a_draft_h0 count_a_waiting_h0 n_a_cells_a_waiting_h0 b_a_cells_a_waiting_h0) fun ⟨r146, r147, r148, r149, r150, r151, r152, r153, r154, r155, r156, r157, r158, r159, r160, r161, r162, r163, r164, r165, r166, r167, r168, r169, r170, r171⟩ =>
    (some ((r146, r147, r148, r149, r150, r151, r152, r153, r154, r155, r156, r157, r158, r159, r160, r161, r162, r163, r164, r165, r166, r167, r168, r169, r170, r171), 0, 0)))
  else if mode_h0 = 35 then (if token_h0 = 44 then (bw (F_Rd_takeOperator fn fd fcf mode_h0 levels_h0 signs_h0 loops_h0 token_h0 fault_h0 kind_t place_t width_t second_t parts_t innerParts_t innerPlace_t innerWidth_t signs_t waitingBelow_t limited_t targets_t lastBlock_t next_a_scanner_h0 kind_a_scanner_h0 start_a_scanner_h0 width_a_scanner_h0 count_a_draft_h0 n_a_cells_a_draft_h0 b_a_cells_a_draft_h0 count_a_waiting_h0 n_a_cells_a_waiting_h0 b_a_cells_a_waiting_h0) fun ⟨r183, r184, r185, r186, r187, r188, r189, r190, r191, r192, r193, r194, r195, r196, r197, r198, r199, r200, r201, r202, r203, r204, r205, r206, r207, r208⟩ =>
      if r186 = 0 then (some ((r183, r184, r185, 0, r187, r188, r189, r190, r191, r192, r193, r194, r195, r196, r197, r198, r199, r200, r201, r202, r203, r204, r205, r206, r207, r208), 0, 0))
      else (some ((r183, r184, r185, 1, r187, r188, r189, r190, r191, r192, r193, r194, r195, r196, r197, r198, r199, r200, r201, r202, r203, r204, r205, r206, r207, r208), 0, 0)))
    else if token_h0 = 41 then (bw (F_Rd_takeOperator fn fd fcf mode_h0 levels_h0 signs_h0 loops_h0 token_h0 fault_h0 kind_t place_t width_t second_t parts_t innerParts_t innerPlace_t innerWidth_t signs_t waitingBelow_t limited_t targets_t lastBlock_t next_a_scanner_h0 kind_a_scanner_h0 start_a_scanner_h0 width_a_scanner_h0 count_a_draft_h0 n_a_cells_a_draft_h0 b_a_cells_a_draft_h0 count_a_waiting_h0 n_a_cells_a_waiting_h0 b_a_cells_a_waiting_h0) fun ⟨r220, r221, r222, r223, r224, r225, r226, r227, r228, r229, r230, r231, r232, r233, r234, r235, r236, r237, r238, r239, r240, r241, r242, r243, r244, r245⟩ =>
      if r223 = 0 then (some ((r220, r221, r222, 0, r224, r225, r226, r227, r228, r229, r230, r231, r232, r233, r234, r235, r236, r237, r238, r239, r240, r241, r242, r243, r244, r245), 0, 0))
      else (some ((r220, r221, r222, 1, r224, r225, r226, r227, r228, r229, r230, r231, r232, r233, r234, r235, r236, r237, r238, r239, r240, r241, r242, r243, r244, r245), 0, 0)))
    else (some ((fn, fd, fcf, 0, mode_h0, levels_h0, signs_h0, kind_t, place_t, width_t, second_t, parts_t, innerParts_t, innerPlace_t, innerWidth_t, signs_t, waitingBelow_t, limited_t, targets_t, lastBlock_t, count_a_draft_h0, count_a_waiting_h0, n_a_cells_a_draft_h0, b_a_cells_a_draft_h0, n_a_cells_a_waiting_h0, b_a_cells_a_waiting_h0), 0, 0)))
  else if mode_h0 = 36 then (some ((fn, fd, fcf, 0, mode_h0, levels_h0, signs_h0, kind_t, place_t, width_t, second_t, parts_t, innerParts_t, innerPlace_t, innerWidth_t, signs_t, waitingBelow_t, limited_t, targets_t, lastBlock_t, count_a_draft_h0, count_a_waiting_h0, n_a_cells_a_draft_h0, b_a_cells_a_draft_h0, n_a_cells_a_waiting_h0, b_a_cells_a_waiting_h0), 0, 0))
  else if mode_h0 = 37 then (some ((fn, fd, fcf, 0, mode_h0, levels_h0, signs_h0, kind_t, place_t, width_t, second_t, parts_t, innerParts_t, innerPlace_t, innerWidth_t, signs_t, waitingBelow_t, limited_t, targets_t, lastBlock_t, count_a_draft_h0, count_a_waiting_h0, n_a_cells_a_draft_h0, b_a_cells_a_draft_h0, n_a_cells_a_waiting_h0, b_a_cells_a_waiting_h0), 0, 0))
  else if mode_h0 = 38 then (some ((fn, fd, fcf, 0, mode_h0, levels_h0, signs_h0, kind_t, place_t, width_t, second_t, parts_t, innerParts_t, innerPlace_t, innerWidth_t, signs_t, waitingBelow_t, limited_t, targets_t, lastBlock_t, count_a_draft_h0, count_a_waiting_h0, n_a_cells_a_draft_h0, b_a_cells_a_draft_h0, n_a_cells_a_waiting_h0, b_a_cells_a_waiting_h0), 0, 0))
  else if mode_h0 = 39 then (some ((fn, fd, fcf, 0, mode_h0, levels_h0, signs_h0, kind_t, place_t, width_t, second_t, parts_t, innerParts_t, innerPlace_t, innerWidth_t, signs_t, waitingBelow_t, limited_t, targets_t, lastBlock_t, count_a_draft_h0, count_a_waiting_h0, n_a_cells_a_draft_h0, b_a_cells_a_draft_h0, n_a_cells_a_waiting_h0, b_a_cells_a_waiting_h0), 0, 0))
  else if mode_h0 = 40 then (nm (F_Rd_goDeeper mode_h0 levels_h0 signs_h0 loops_h0 token_h0 fault_h0) fun ⟨r261, r262⟩ =>
    if r261 = 0 then (some ((fn, fd, fcf, 0, mode_h0, r262, signs_h0, kind_t, place_t, width_t, second_t, parts_t, innerParts_t, innerPlace_t, innerWidth_t, signs_t, waitingBelow_t, limited_t, targets_t, lastBlock_t, count_a_draft_h0, count_a_waiting_h0, n_a_cells_a_draft_h0, b_a_cells_a_draft_h0, n_a_cells_a_waiting_h0, b_a_cells_a_waiting_h0), 0, 0))
    else (bw (F_Rd_openArguments fn fd fcf mode_h0 r262 signs_h0 loops_h0 token_h0 fault_h0 kind_t place_t width_t second_t parts_t innerParts_t innerPlace_t innerWidth_t signs_t waitingBelow_t limited_t targets_t lastBlock_t count_a_draft_h0 n_a_cells_a_draft_h0 b_a_cells_a_draft_h0 next_a_scanner_h0 kind_a_scanner_h0 start_a_scanner_h0 width_a_scanner_h0 count_a_waiting_h0) fun ⟨r266, r267, r268, r269, r270, r271⟩ =>
      (some ((r266, r267, r268, 1, 30, r262, 0, 33, r269, r270, start_a_scanner_h0, 0, 0, start_a_scanner_h0, width_a_scanner_h0, signs_h0, count_a_waiting_h0, 0, 0, 0, r271, count_a_waiting_h0, n_a_cells_a_draft_h0, b_a_cells_a_draft_h0, n_a_cells_a_waiting_h0, b_a_cells_a_waiting_h0), 0, 0))))
  else if mode_h0 = 41 then (bw (F_Rd_turnRowsToTargets mode_h0 levels_h0 signs_h0 loops_h0 token_h0 fault_h0 kind_t place_t width_t second_t parts_t innerParts_t innerPlace_t innerWidth_t signs_t waitingBelow_t limited_t targets_t lastBlock_t count_a_draft_h0 n_a_cells_a_draft_h0 b_a_cells_a_draft_h0 next_a_scanner_h0 kind_a_scanner_h0 start_a_scanner_h0 width_a_scanner_h0) fun ⟨r280, r281, r282, r283⟩ =>
    (some ((fn, fd, fcf, 1, 23, levels_h0, signs_h0, 10, start_a_scanner_h0, width_a_scanner_h0, r280, parts_t, innerParts_t, innerPlace_t, innerWidth_t, signs_t, waitingBelow_t, limited_t, targets_t, lastBlock_t, r281, count_a_waiting_h0, r282, r283, n_a_cells_a_waiting_h0, b_a_cells_a_waiting_h0), 0, 0)))
  else (some ((fn, fd, fcf, 0, mode_h0, levels_h0, signs_h0, kind_t, place_t, width_t, second_t, parts_t, innerParts_t, innerPlace_t, innerWidth_t, signs_t, waitingBelow_t, limited_t, targets_t, lastBlock_t, count_a_draft_h0, count_a_waiting_h0, n_a_cells_a_draft_h0, b_a_cells_a_draft_h0, n_a_cells_a_waiting_h0, b_a_cells_a_waiting_h0), 0, 0))
theorem d_Rd_standsInExpression_0 : decode prog_6_method_46_code 0 = .ok (.aload_n 0, 1) := by decide +kernel
theorem d_Rd_standsInExpression_1 : decode prog_6_method_46_code 1 = .ok (.getfield 56, 3) := by decide +kernel
theorem d_Rd_standsInExpression_4 : decode prog_6_method_46_code 4 = .ok (.tableswitch 135 30 41 #[64, 69, 69, 69, 74, 79, 135, 135, 135, 135, 110, 130], 64) := by decide +kernel
theorem d_Rd_standsInExpression_68 : decode prog_6_method_46_code 68 = .ok (.aload_n 0, 1) := by decide +kernel
theorem d_Rd_standsInExpression_69 : decode prog_6_method_46_code 69 = .ok (.invokevirtual 300, 3) := by decide +kernel
theorem d_Rd_standsInExpression_72 : decode prog_6_method_46_code 72 = .ok (.ireturn, 1) := by decide +kernel
theorem d_Rd_standsInExpression_73 : decode prog_6_method_46_code 73 = .ok (.aload_n 0, 1) := by decide +kernel
theorem d_Rd_standsInExpression_74 : decode prog_6_method_46_code 74 = .ok (.invokevirtual 303, 3) := by decide +kernel
theorem d_Rd_standsInExpression_77 : decode prog_6_method_46_code 77 = .ok (.ireturn, 1) := by decide +kernel
theorem d_Rd_standsInExpression_78 : decode prog_6_method_46_code 78 = .ok (.aload_n 0, 1) := by decide +kernel
theorem d_Rd_standsInExpression_79 : decode prog_6_method_46_code 79 = .ok (.invokevirtual 306, 3) := by decide +kernel
theorem d_Rd_standsInExpression_82 : decode prog_6_method_46_code 82 = .ok (.ireturn, 1) := by decide +kernel
theorem d_Rd_standsInExpression_83 : decode prog_6_method_46_code 83 = .ok (.aload_n 0, 1) := by decide +kernel
theorem d_Rd_standsInExpression_84 : decode prog_6_method_46_code 84 = .ok (.getfield 69, 3) := by decide +kernel
theorem d_Rd_standsInExpression_87 : decode prog_6_method_46_code 87 = .ok (.bipush 44, 2) := by decide +kernel
theorem d_Rd_standsInExpression_89 : decode prog_6_method_46_code 89 = .ok (.if_icmp .eq 12, 3) := by decide +kernel
theorem d_Rd_standsInExpression_92 : decode prog_6_method_46_code 92 = .ok (.aload_n 0, 1) := by decide +kernel
theorem d_Rd_standsInExpression_93 : decode prog_6_method_46_code 93 = .ok (.getfield 69, 3) := by decide +kernel
theorem d_Rd_standsInExpression_96 : decode prog_6_method_46_code 96 = .ok (.bipush 41, 2) := by decide +kernel
theorem d_Rd_standsInExpression_98 : decode prog_6_method_46_code 98 = .ok (.if_icmp .ne 14, 3) := by decide +kernel
theorem d_Rd_standsInExpression_101 : decode prog_6_method_46_code 101 = .ok (.aload_n 0, 1) := by decide +kernel
theorem d_Rd_standsInExpression_102 : decode prog_6_method_46_code 102 = .ok (.invokevirtual 306, 3) := by decide +kernel
theorem d_Rd_standsInExpression_105 : decode prog_6_method_46_code 105 = .ok (.ifCond .eq 7, 3) := by decide +kernel
theorem d_Rd_standsInExpression_108 : decode prog_6_method_46_code 108 = .ok (.iconst 1, 1) := by decide +kernel
theorem d_Rd_standsInExpression_109 : decode prog_6_method_46_code 109 = .ok (.goto 4, 3) := by decide +kernel
theorem d_Rd_standsInExpression_112 : decode prog_6_method_46_code 112 = .ok (.iconst 0, 1) := by decide +kernel
theorem d_Rd_standsInExpression_113 : decode prog_6_method_46_code 113 = .ok (.ireturn, 1) := by decide +kernel
theorem d_Rd_standsInExpression_114 : decode prog_6_method_46_code 114 = .ok (.aload_n 0, 1) := by decide +kernel
theorem d_Rd_standsInExpression_115 : decode prog_6_method_46_code 115 = .ok (.invokevirtual 186, 3) := by decide +kernel
theorem d_Rd_standsInExpression_118 : decode prog_6_method_46_code 118 = .ok (.ifCond .eq 14, 3) := by decide +kernel
theorem d_Rd_standsInExpression_121 : decode prog_6_method_46_code 121 = .ok (.aload_n 0, 1) := by decide +kernel
theorem d_Rd_standsInExpression_122 : decode prog_6_method_46_code 122 = .ok (.invokevirtual 309, 3) := by decide +kernel
theorem d_Rd_standsInExpression_125 : decode prog_6_method_46_code 125 = .ok (.ifCond .eq 7, 3) := by decide +kernel
theorem d_Rd_standsInExpression_128 : decode prog_6_method_46_code 128 = .ok (.iconst 1, 1) := by decide +kernel
theorem d_Rd_standsInExpression_129 : decode prog_6_method_46_code 129 = .ok (.goto 4, 3) := by decide +kernel
theorem d_Rd_standsInExpression_132 : decode prog_6_method_46_code 132 = .ok (.iconst 0, 1) := by decide +kernel
theorem d_Rd_standsInExpression_133 : decode prog_6_method_46_code 133 = .ok (.ireturn, 1) := by decide +kernel
theorem d_Rd_standsInExpression_134 : decode prog_6_method_46_code 134 = .ok (.aload_n 0, 1) := by decide +kernel
theorem d_Rd_standsInExpression_135 : decode prog_6_method_46_code 135 = .ok (.invokevirtual 312, 3) := by decide +kernel
theorem d_Rd_standsInExpression_138 : decode prog_6_method_46_code 138 = .ok (.ireturn, 1) := by decide +kernel
theorem d_Rd_standsInExpression_139 : decode prog_6_method_46_code 139 = .ok (.iconst 0, 1) := by decide +kernel
theorem d_Rd_standsInExpression_140 : decode prog_6_method_46_code 140 = .ok (.ireturn, 1) := by decide +kernel
set_option maxHeartbeats 4000000 in
set_option maxRecDepth 100000 in
theorem c_Rd_standsInExpression (l : Launch) (D : va_G) (cI cB cJ cS : ClassId) (h0 : Nat) (fad : Nat → Nat) (a_scanner_h0 : Nat) (a_draft_h0 : Nat) (a_waiting_h0 : Nat) (a_functions_h0 : Nat) (a_text_h0 : Nat) (a_cells_a_draft_h0 : Nat) (a_text_a_scanner_h0 : Nat) (a_cells_a_waiting_h0 : Nat) (fn : Nat) (fd : Nat) (fcf : Nat → FrC) (mode_h0 : Int32) (levels_h0 : Int32) (signs_h0 : Int32) (loops_h0 : Int32) (token_h0 : Int32) (fault_h0 : Int32) (kind_t : Int32) (place_t : Int32) (width_t : Int32) (second_t : Int32) (parts_t : Int32) (innerParts_t : Int32) (innerPlace_t : Int32) (innerWidth_t : Int32) (signs_t : Int32) (waitingBelow_t : Int32) (limited_t : Int32) (targets_t : Int32) (lastBlock_t : Int32) (count_a_draft_h0 : Int32) (n_a_cells_a_draft_h0 : Nat) (b_a_cells_a_draft_h0 : Nat → Int32) (next_a_scanner_h0 : Int32) (kind_a_scanner_h0 : Int32) (start_a_scanner_h0 : Int32) (width_a_scanner_h0 : Int32) (count_a_waiting_h0 : Int32) (n_a_cells_a_waiting_h0 : Nat) (b_a_cells_a_waiting_h0 : Nat → Int32) (on_p : Nat) (od_p : Nat) (ocf_p : Nat → FrC) (ret : Int32) (o_0_7 : Int32) (o_0_8 : Int32) (o_0_9 : Int32) (o_1_2 : Int32) (o_1_3 : Int32) (o_1_4 : Int32) (o_1_5 : Int32) (o_1_6 : Int32) (o_1_7 : Int32) (o_1_8 : Int32) (o_1_9 : Int32) (o_1_10 : Int32) (o_1_11 : Int32) (o_1_12 : Int32) (o_1_13 : Int32) (o_1_14 : Int32) (o_2_1 : Int32) (o_5_1 : Int32) (on_nq_2_0 : Nat) (ob_nq_2_0 : Nat → Int32) (on_nq_5_0 : Nat) (ob_nq_5_0 : Nat → Int32) (mc ms : Nat) (h : F_Rd_standsInExpression fn fd fcf mode_h0 levels_h0 signs_h0 loops_h0 token_h0 fault_h0 kind_t place_t width_t second_t parts_t innerParts_t innerPlace_t innerWidth_t signs_t waitingBelow_t limited_t targets_t lastBlock_t count_a_draft_h0 n_a_cells_a_draft_h0 b_a_cells_a_draft_h0 next_a_scanner_h0 kind_a_scanner_h0 start_a_scanner_h0 width_a_scanner_h0 count_a_waiting_h0 n_a_cells_a_waiting_h0 b_a_cells_a_waiting_h0 = some ((on_p, od_p, ocf_p, ret, o_0_7, o_0_8, o_0_9, o_1_2, o_1_3, o_1_4, o_1_5, o_1_6, o_1_7, o_1_8, o_1_9, o_1_10, o_1_11, o_1_12, o_1_13, o_1_14, o_2_1, o_5_1, on_nq_2_0, ob_nq_2_0, on_nq_5_0, ob_nq_5_0), mc, ms)) : Ct l D (gT cI cB cJ cS) y_Rd_standsInExpression prog_6_method_46_code 1 (Option.some Jvm.ClassFile.FieldType.boolean) 6 174 mc ms [.ref h0] ((h0, .inr (2, [.ref a_scanner_h0, .ref a_draft_h0, .ref a_waiting_h0, .ref a_functions_h0, .ref (fad 0), .ref (fad fd), .ref a_text_h0, .int mode_h0, .int levels_h0, .int signs_h0, .int loops_h0, .int token_h0, .int fault_h0])) :: ((fad fd), .inr (0, [(frB fad fd), (frA fad fn fd), .int kind_t, .int place_t, .int width_t, .int second_t, .int parts_t, .int innerParts_t, .int innerPlace_t, .int innerWidth_t, .int signs_t, .int waitingBelow_t, .int limited_t, .int targets_t, .int lastBlock_t])) :: (a_draft_h0, .inr (1, [.ref a_cells_a_draft_h0, .int count_a_draft_h0])) :: (a_cells_a_draft_h0, .inl (cI, n_a_cells_a_draft_h0, .inl b_a_cells_a_draft_h0)) :: (a_scanner_h0, .inr (4, [.ref a_text_a_scanner_h0, .int next_a_scanner_h0, .int kind_a_scanner_h0, .int start_a_scanner_h0, .int width_a_scanner_h0])) :: (a_waiting_h0, .inr (5, [.ref a_cells_a_waiting_h0, .int count_a_waiting_h0])) :: (a_cells_a_waiting_h0, .inl (cI, n_a_cells_a_waiting_h0, .inl b_a_cells_a_waiting_h0)) :: fpo fad fn fd fcf) (fun v w => ∃ nad : Nat → Nat, ∃ nq_2_0 : Nat, ∃ nq_5_0 : Nat, v = some (.int ret) ∧ zb ret ∧ w = ((h0, .inr (2, [.ref a_scanner_h0, .ref a_draft_h0, .ref a_waiting_h0, .ref a_functions_h0, .ref (nad 0), .ref (nad od_p), .ref a_text_h0, .int o_0_7, .int o_0_8, .int o_0_9, .int loops_h0, .int token_h0, .int fault_h0])) :: ((nad od_p), .inr (0, [(frB nad od_p), (frA nad on_p od_p), .int o_1_2, .int o_1_3, .int o_1_4, .int o_1_5, .int o_1_6, .int o_1_7, .int o_1_8, .int o_1_9, .int o_1_10, .int o_1_11, .int o_1_12, .int o_1_13, .int o_1_14])) :: (a_draft_h0, .inr (1, [.ref nq_2_0, .int o_2_1])) :: (a_scanner_h0, .inr (4, [.ref a_text_a_scanner_h0, .int next_a_scanner_h0, .int kind_a_scanner_h0, .int start_a_scanner_h0, .int width_a_scanner_h0])) :: (a_waiting_h0, .inr (5, [.ref nq_5_0, .int o_5_1])) :: (nq_2_0, .inl (cI, on_nq_2_0, .inl ob_nq_2_0)) :: (nq_5_0, .inl (cI, on_nq_5_0, .inl ob_nq_5_0)) :: fpo nad on_p od_p ocf_p)) := by
  refine Ct.mk (by decide) (Nat.le_of_ble_eq_true rfl) ?_
  intro p e s m below meth c hr hnm
  refine j_norm (pc' := 0) (lv' := [(0, .ref h0)]) (st' := []) (ws' := ((h0, .inr (2, [.ref a_scanner_h0, .ref a_draft_h0, .ref a_waiting_h0, .ref a_functions_h0, .ref (fad 0), .ref (fad fd), .ref a_text_h0, .int mode_h0, .int levels_h0, .int signs_h0, .int loops_h0, .int token_h0, .int fault_h0])) :: ((fad fd), .inr (0, [(frB fad fd), (frA fad fn fd), .int kind_t, .int place_t, .int width_t, .int second_t, .int parts_t, .int innerParts_t, .int innerPlace_t, .int innerWidth_t, .int signs_t, .int waitingBelow_t, .int limited_t, .int targets_t, .int lastBlock_t])) :: (a_draft_h0, .inr (1, [.ref a_cells_a_draft_h0, .int count_a_draft_h0])) :: (a_cells_a_draft_h0, .inl (cI, n_a_cells_a_draft_h0, .inl b_a_cells_a_draft_h0)) :: (a_scanner_h0, .inr (4, [.ref a_text_a_scanner_h0, .int next_a_scanner_h0, .int kind_a_scanner_h0, .int start_a_scanner_h0, .int width_a_scanner_h0])) :: (a_waiting_h0, .inr (5, [.ref a_cells_a_waiting_h0, .int count_a_waiting_h0])) :: (a_cells_a_waiting_h0, .inl (cI, n_a_cells_a_waiting_h0, .inl b_a_cells_a_waiting_h0)) :: fpo fad fn fd fcf)) (cl' := 0) (sl' := 0) rfl rfl rfl rfl rfl rfl ?_
  unfold F_Rd_standsInExpression at h
  have hC : 0 + mc ≤ mc := by omega
  have hS : 0 + ms ≤ ms := by omega
  refine j_aload_n d_Rd_standsInExpression_0 rfl 0 rfl ?_
  refine j_get ig_Rd rfl 0 rfl 7 (by decide) rfl m_176 rfl d_Rd_standsInExpression_1 ?_
  by_cases c1 : mode_h0 = 30
  · replace h := it_t c1 h
    refine j_tabIn (tgt := 68) (off := 64) d_Rd_standsInExpression_4 30 c1 (by decide) (by decide) (by decide) (by decide) ?_
    refine j_aload_n d_Rd_standsInExpression_68 rfl 0 rfl ?_
    replace h := bw_s h
    obtain ⟨⟨r2, r3, r4, r5, r6, r7, r8, r9, r10, r11, r12, r13, r14, r15, r16, r17, r18, r19, r20, r21, r22, r23, r24, r25, r26, r27⟩, C32, S33, C34, S35, k36, h, e1, e2⟩ := h
    replace hC : 0 + C32 + C34 ≤ mc := by omega
    replace hS : 0 + S33 + S35 ≤ ms := by omega
    clear e1 e2
    refine j_callVg (n := 0) (As := []) (rest := []) (wr := []) (c_Rd_takeAtStart l D cI cB cJ cS h0 fad a_scanner_h0 a_draft_h0 a_waiting_h0 a_functions_h0 a_text_h0 a_cells_a_draft_h0 a_text_a_scanner_h0 a_cells_a_waiting_h0 fn fd fcf mode_h0 levels_h0 signs_h0 loops_h0 token_h0 fault_h0 kind_t place_t width_t second_t parts_t innerParts_t innerPlace_t innerWidth_t signs_t waitingBelow_t limited_t targets_t lastBlock_t count_a_draft_h0 n_a_cells_a_draft_h0 b_a_cells_a_draft_h0 next_a_scanner_h0 kind_a_scanner_h0 start_a_scanner_h0 width_a_scanner_h0 count_a_waiting_h0 n_a_cells_a_waiting_h0 b_a_cells_a_waiting_h0  r2 r3 r4 r5 r6 r7 r8 r9 r10 r11 r12 r13 r14 r15 r16 r17 r18 r19 r20 r21 r22 r23 r24 r25 r26 r27 C32 S33 k36) k_Rd_300 (by decide) ⟨Nat.le_of_ble_eq_true rfl, Nat.le_of_ble_eq_true rfl⟩ rfl 0 rfl (pk_app (wr := []) (w0 := [(h0, .inr (2, [.ref a_scanner_h0, .ref a_draft_h0, .ref a_waiting_h0, .ref a_functions_h0, .ref (fad 0), .ref (fad fd), .ref a_text_h0, .int mode_h0, .int levels_h0, .int signs_h0, .int loops_h0, .int token_h0, .int fault_h0])), ((fad fd), .inr (0, [(frB fad fd), (frA fad fn fd), .int kind_t, .int place_t, .int width_t, .int second_t, .int parts_t, .int innerParts_t, .int innerPlace_t, .int innerWidth_t, .int signs_t, .int waitingBelow_t, .int limited_t, .int targets_t, .int lastBlock_t])), (a_draft_h0, .inr (1, [.ref a_cells_a_draft_h0, .int count_a_draft_h0])), (a_cells_a_draft_h0, .inl (cI, n_a_cells_a_draft_h0, .inl b_a_cells_a_draft_h0)), (a_scanner_h0, .inr (4, [.ref a_text_a_scanner_h0, .int next_a_scanner_h0, .int kind_a_scanner_h0, .int start_a_scanner_h0, .int width_a_scanner_h0])), (a_waiting_h0, .inr (5, [.ref a_cells_a_waiting_h0, .int count_a_waiting_h0])), (a_cells_a_waiting_h0, .inl (cI, n_a_cells_a_waiting_h0, .inl b_a_cells_a_waiting_h0))]) (pl := fpo fad fn fd fcf) [0, 1, 2, 3, 4, 5, 6] 7 rfl rfl rfl (by decide)) rfl rfl (Nat.le_of_ble_eq_true rfl) d_Rd_standsInExpression_69 ⟨show 0 + C32 ≤ mc by omega, show 0 + S33 ≤ ms by omega⟩ (fun v w hq => ?_)
    obtain ⟨a28, q29, q30, rfl, z31, rfl⟩ := hq
    refine j_norm (pc' := 72) (st' := [.int r5]) (ws' := ((h0, .inr (2, [.ref a_scanner_h0, .ref a_draft_h0, .ref a_waiting_h0, .ref a_functions_h0, .ref (a28 0), .ref (a28 r3), .ref a_text_h0, .int r6, .int r7, .int r8, .int loops_h0, .int token_h0, .int fault_h0])) :: ((a28 r3), .inr (0, [(frB a28 r3), (frA a28 r2 r3), .int r9, .int r10, .int r11, .int r12, .int r13, .int r14, .int r15, .int r16, .int r17, .int r18, .int r19, .int r20, .int r21])) :: (a_draft_h0, .inr (1, [.ref q29, .int r22])) :: (a_scanner_h0, .inr (4, [.ref a_text_a_scanner_h0, .int next_a_scanner_h0, .int kind_a_scanner_h0, .int start_a_scanner_h0, .int width_a_scanner_h0])) :: (a_waiting_h0, .inr (5, [.ref q30, .int r23])) :: (q29, .inl (cI, r24, .inl r25)) :: (q30, .inl (cI, r26, .inl r27)) :: fpo a28 r2 r3 r4)) (cl' := 0 + C32) (sl' := 0 + S33) rfl rfl rfl rfl rfl rfl ?_
    replace h := lf_s h
    obtain ⟨h, e1, e2⟩ := h
    replace h := Prod.mk.inj h
    obtain ⟨h9, h⟩ := h
    subst h9
    replace h := Prod.mk.inj h
    obtain ⟨h9, h⟩ := h
    subst h9
    replace h := Prod.mk.inj h
    obtain ⟨h9, h⟩ := h
    subst h9
    replace h := Prod.mk.inj h
    obtain ⟨h9, h⟩ := h
    subst h9
    replace h := Prod.mk.inj h
    obtain ⟨h9, h⟩ := h
    subst h9
    replace h := Prod.mk.inj h
    obtain ⟨h9, h⟩ := h
    subst h9
    replace h := Prod.mk.inj h
    obtain ⟨h9, h⟩ := h
    subst h9
    replace h := Prod.mk.inj h
    obtain ⟨h9, h⟩ := h
    subst h9
    replace h := Prod.mk.inj h
    obtain ⟨h9, h⟩ := h
    subst h9
    replace h := Prod.mk.inj h
    obtain ⟨h9, h⟩ := h
    subst h9
    replace h := Prod.mk.inj h
    obtain ⟨h9, h⟩ := h
    subst h9
    replace h := Prod.mk.inj h
    obtain ⟨h9, h⟩ := h
    subst h9
    replace h := Prod.mk.inj h
    obtain ⟨h9, h⟩ := h
    subst h9
    replace h := Prod.mk.inj h
    obtain ⟨h9, h⟩ := h
    subst h9
    replace h := Prod.mk.inj h
    obtain ⟨h9, h⟩ := h
    subst h9
    replace h := Prod.mk.inj h
    obtain ⟨h9, h⟩ := h
    subst h9
    replace h := Prod.mk.inj h
    obtain ⟨h9, h⟩ := h
    subst h9
    replace h := Prod.mk.inj h
    obtain ⟨h9, h⟩ := h
    subst h9
    replace h := Prod.mk.inj h
    obtain ⟨h9, h⟩ := h
    subst h9
    replace h := Prod.mk.inj h
    obtain ⟨h9, h⟩ := h
    subst h9
    replace h := Prod.mk.inj h
    obtain ⟨h9, h⟩ := h
    subst h9
    replace h := Prod.mk.inj h
    obtain ⟨h9, h⟩ := h
    subst h9
    replace h := Prod.mk.inj h
    obtain ⟨h9, h⟩ := h
    subst h9
    replace h := Prod.mk.inj h
    obtain ⟨h9, h⟩ := h
    subst h9
    replace h := Prod.mk.inj h
    obtain ⟨h9, h⟩ := h
    subst h9
    subst h
    refine j_widen (cl' := mc) (sl' := ms) (by omega) (by omega) ?_
    refine j_subP (w := [(h0, .inr (2, [.ref a_scanner_h0, .ref a_draft_h0, .ref a_waiting_h0, .ref a_functions_h0, .ref (a28 0), .ref (a28 r3), .ref a_text_h0, .int r6, .int r7, .int r8, .int loops_h0, .int token_h0, .int fault_h0])), ((a28 r3), .inr (0, [(frB a28 r3), (frA a28 r2 r3), .int r9, .int r10, .int r11, .int r12, .int r13, .int r14, .int r15, .int r16, .int r17, .int r18, .int r19, .int r20, .int r21])), (a_draft_h0, .inr (1, [.ref q29, .int r22])), (a_scanner_h0, .inr (4, [.ref a_text_a_scanner_h0, .int next_a_scanner_h0, .int kind_a_scanner_h0, .int start_a_scanner_h0, .int width_a_scanner_h0])), (a_waiting_h0, .inr (5, [.ref q30, .int r23])), (q29, .inl (cI, r24, .inl r25)), (q30, .inl (cI, r26, .inl r27))]) (pl := fpo a28 r2 r3 r4) (lv' := []) [0, 1, 2, 3, 4, 5, 6] [] 7 rfl rfl (by decide) [] rfl ?_
    exact j_zretE hr (zb_n z31) d_Rd_standsInExpression_72 ⟨a28, q29, q30, rfl, z31, rfl⟩
  · replace h := it_f c1 h
    by_cases c37 : mode_h0 = 31
    · replace h := it_t c37 h
      refine j_tabIn (tgt := 73) (off := 69) d_Rd_standsInExpression_4 31 c37 (by decide) (by decide) (by decide) (by decide) ?_
      refine j_aload_n d_Rd_standsInExpression_73 rfl 0 rfl ?_
      replace h := bw_s h
      obtain ⟨⟨r38, r39, r40, r41, r42, r43, r44, r45, r46, r47, r48, r49, r50, r51, r52, r53, r54, r55, r56, r57, r58, r59, r60, r61, r62, r63⟩, C68, S69, C70, S71, k72, h, e1, e2⟩ := h
      replace hC : 0 + C68 + C70 ≤ mc := by omega
      replace hS : 0 + S69 + S71 ≤ ms := by omega
      clear e1 e2
      refine j_callVg (n := 0) (As := []) (rest := []) (wr := []) (c_Rd_takeOperand l D cI cB cJ cS h0 fad a_scanner_h0 a_draft_h0 a_waiting_h0 a_functions_h0 a_text_h0 a_text_a_scanner_h0 a_cells_a_draft_h0 a_cells_a_waiting_h0 fn fd fcf mode_h0 levels_h0 signs_h0 loops_h0 token_h0 fault_h0 kind_t place_t width_t second_t parts_t innerParts_t innerPlace_t innerWidth_t signs_t waitingBelow_t limited_t targets_t lastBlock_t next_a_scanner_h0 kind_a_scanner_h0 start_a_scanner_h0 width_a_scanner_h0 count_a_draft_h0 n_a_cells_a_draft_h0 b_a_cells_a_draft_h0 count_a_waiting_h0 n_a_cells_a_waiting_h0 b_a_cells_a_waiting_h0  r38 r39 r40 r41 r42 r43 r44 r45 r46 r47 r48 r49 r50 r51 r52 r53 r54 r55 r56 r57 r58 r59 r60 r61 r62 r63 C68 S69 k72) k_Rd_303 (by decide) ⟨Nat.le_of_ble_eq_true rfl, Nat.le_of_ble_eq_true rfl⟩ rfl 0 rfl (pk_app (wr := []) (w0 := [(h0, .inr (2, [.ref a_scanner_h0, .ref a_draft_h0, .ref a_waiting_h0, .ref a_functions_h0, .ref (fad 0), .ref (fad fd), .ref a_text_h0, .int mode_h0, .int levels_h0, .int signs_h0, .int loops_h0, .int token_h0, .int fault_h0])), ((fad fd), .inr (0, [(frB fad fd), (frA fad fn fd), .int kind_t, .int place_t, .int width_t, .int second_t, .int parts_t, .int innerParts_t, .int innerPlace_t, .int innerWidth_t, .int signs_t, .int waitingBelow_t, .int limited_t, .int targets_t, .int lastBlock_t])), (a_scanner_h0, .inr (4, [.ref a_text_a_scanner_h0, .int next_a_scanner_h0, .int kind_a_scanner_h0, .int start_a_scanner_h0, .int width_a_scanner_h0])), (a_draft_h0, .inr (1, [.ref a_cells_a_draft_h0, .int count_a_draft_h0])), (a_cells_a_draft_h0, .inl (cI, n_a_cells_a_draft_h0, .inl b_a_cells_a_draft_h0)), (a_waiting_h0, .inr (5, [.ref a_cells_a_waiting_h0, .int count_a_waiting_h0])), (a_cells_a_waiting_h0, .inl (cI, n_a_cells_a_waiting_h0, .inl b_a_cells_a_waiting_h0))]) (pl := fpo fad fn fd fcf) [0, 1, 4, 2, 3, 5, 6] 7 rfl rfl rfl (by decide)) rfl rfl (Nat.le_of_ble_eq_true rfl) d_Rd_standsInExpression_74 ⟨show 0 + C68 ≤ mc by omega, show 0 + S69 ≤ ms by omega⟩ (fun v w hq => ?_)
      obtain ⟨a64, q65, q66, rfl, z67, rfl⟩ := hq
      refine j_norm (pc' := 77) (st' := [.int r41]) (ws' := ((h0, .inr (2, [.ref a_scanner_h0, .ref a_draft_h0, .ref a_waiting_h0, .ref a_functions_h0, .ref (a64 0), .ref (a64 r39), .ref a_text_h0, .int r42, .int r43, .int r44, .int loops_h0, .int token_h0, .int fault_h0])) :: ((a64 r39), .inr (0, [(frB a64 r39), (frA a64 r38 r39), .int r45, .int r46, .int r47, .int r48, .int r49, .int r50, .int r51, .int r52, .int r53, .int r54, .int r55, .int r56, .int r57])) :: (a_scanner_h0, .inr (4, [.ref a_text_a_scanner_h0, .int next_a_scanner_h0, .int kind_a_scanner_h0, .int start_a_scanner_h0, .int width_a_scanner_h0])) :: (a_draft_h0, .inr (1, [.ref q65, .int r58])) :: (a_waiting_h0, .inr (5, [.ref q66, .int r59])) :: (q65, .inl (cI, r60, .inl r61)) :: (q66, .inl (cI, r62, .inl r63)) :: fpo a64 r38 r39 r40)) (cl' := 0 + C68) (sl' := 0 + S69) rfl rfl rfl rfl rfl rfl ?_
      replace h := lf_s h
      obtain ⟨h, e1, e2⟩ := h
      replace h := Prod.mk.inj h
      obtain ⟨h9, h⟩ := h
      subst h9
      replace h := Prod.mk.inj h
      obtain ⟨h9, h⟩ := h
      subst h9
      replace h := Prod.mk.inj h
      obtain ⟨h9, h⟩ := h
      subst h9
      replace h := Prod.mk.inj h
      obtain ⟨h9, h⟩ := h
      subst h9
      replace h := Prod.mk.inj h
      obtain ⟨h9, h⟩ := h
      subst h9
      replace h := Prod.mk.inj h
      obtain ⟨h9, h⟩ := h
      subst h9
      replace h := Prod.mk.inj h
      obtain ⟨h9, h⟩ := h
      subst h9
      replace h := Prod.mk.inj h
      obtain ⟨h9, h⟩ := h
      subst h9
      replace h := Prod.mk.inj h
      obtain ⟨h9, h⟩ := h
      subst h9
      replace h := Prod.mk.inj h
      obtain ⟨h9, h⟩ := h
      subst h9
      replace h := Prod.mk.inj h
      obtain ⟨h9, h⟩ := h
      subst h9
      replace h := Prod.mk.inj h
      obtain ⟨h9, h⟩ := h
      subst h9
      replace h := Prod.mk.inj h
      obtain ⟨h9, h⟩ := h
      subst h9
      replace h := Prod.mk.inj h
      obtain ⟨h9, h⟩ := h
      subst h9
      replace h := Prod.mk.inj h
      obtain ⟨h9, h⟩ := h
      subst h9
      replace h := Prod.mk.inj h
      obtain ⟨h9, h⟩ := h
      subst h9
      replace h := Prod.mk.inj h
      obtain ⟨h9, h⟩ := h
      subst h9
      replace h := Prod.mk.inj h
      obtain ⟨h9, h⟩ := h
      subst h9
      replace h := Prod.mk.inj h
      obtain ⟨h9, h⟩ := h
      subst h9
      replace h := Prod.mk.inj h
      obtain ⟨h9, h⟩ := h
      subst h9
      replace h := Prod.mk.inj h
      obtain ⟨h9, h⟩ := h
      subst h9
      replace h := Prod.mk.inj h
      obtain ⟨h9, h⟩ := h
      subst h9
      replace h := Prod.mk.inj h
      obtain ⟨h9, h⟩ := h
      subst h9
      replace h := Prod.mk.inj h
      obtain ⟨h9, h⟩ := h
      subst h9
      replace h := Prod.mk.inj h
      obtain ⟨h9, h⟩ := h
      subst h9
      subst h
      refine j_widen (cl' := mc) (sl' := ms) (by omega) (by omega) ?_
      refine j_subP (w := [(h0, .inr (2, [.ref a_scanner_h0, .ref a_draft_h0, .ref a_waiting_h0, .ref a_functions_h0, .ref (a64 0), .ref (a64 r39), .ref a_text_h0, .int r42, .int r43, .int r44, .int loops_h0, .int token_h0, .int fault_h0])), ((a64 r39), .inr (0, [(frB a64 r39), (frA a64 r38 r39), .int r45, .int r46, .int r47, .int r48, .int r49, .int r50, .int r51, .int r52, .int r53, .int r54, .int r55, .int r56, .int r57])), (a_draft_h0, .inr (1, [.ref q65, .int r58])), (a_scanner_h0, .inr (4, [.ref a_text_a_scanner_h0, .int next_a_scanner_h0, .int kind_a_scanner_h0, .int start_a_scanner_h0, .int width_a_scanner_h0])), (a_waiting_h0, .inr (5, [.ref q66, .int r59])), (q65, .inl (cI, r60, .inl r61)), (q66, .inl (cI, r62, .inl r63))]) (pl := fpo a64 r38 r39 r40) (lv' := []) [0, 1, 3, 2, 4, 5, 6] [] 7 rfl rfl (by decide) [] rfl ?_
      exact j_zretE hr (zb_n z67) d_Rd_standsInExpression_77 ⟨a64, q65, q66, rfl, z67, rfl⟩
    · replace h := it_f c37 h
      by_cases c73 : mode_h0 = 32
      · replace h := it_t c73 h
        refine j_tabIn (tgt := 73) (off := 69) d_Rd_standsInExpression_4 32 c73 (by decide) (by decide) (by decide) (by decide) ?_
        refine j_aload_n d_Rd_standsInExpression_73 rfl 0 rfl ?_
        replace h := bw_s h
        obtain ⟨⟨r74, r75, r76, r77, r78, r79, r80, r81, r82, r83, r84, r85, r86, r87, r88, r89, r90, r91, r92, r93, r94, r95, r96, r97, r98, r99⟩, C104, S105, C106, S107, k108, h, e1, e2⟩ := h
        replace hC : 0 + C104 + C106 ≤ mc := by omega
        replace hS : 0 + S105 + S107 ≤ ms := by omega
        clear e1 e2
        refine j_callVg (n := 0) (As := []) (rest := []) (wr := []) (c_Rd_takeOperand l D cI cB cJ cS h0 fad a_scanner_h0 a_draft_h0 a_waiting_h0 a_functions_h0 a_text_h0 a_text_a_scanner_h0 a_cells_a_draft_h0 a_cells_a_waiting_h0 fn fd fcf mode_h0 levels_h0 signs_h0 loops_h0 token_h0 fault_h0 kind_t place_t width_t second_t parts_t innerParts_t innerPlace_t innerWidth_t signs_t waitingBelow_t limited_t targets_t lastBlock_t next_a_scanner_h0 kind_a_scanner_h0 start_a_scanner_h0 width_a_scanner_h0 count_a_draft_h0 n_a_cells_a_draft_h0 b_a_cells_a_draft_h0 count_a_waiting_h0 n_a_cells_a_waiting_h0 b_a_cells_a_waiting_h0  r74 r75 r76 r77 r78 r79 r80 r81 r82 r83 r84 r85 r86 r87 r88 r89 r90 r91 r92 r93 r94 r95 r96 r97 r98 r99 C104 S105 k108) k_Rd_303 (by decide) ⟨Nat.le_of_ble_eq_true rfl, Nat.le_of_ble_eq_true rfl⟩ rfl 0 rfl (pk_app (wr := []) (w0 := [(h0, .inr (2, [.ref a_scanner_h0, .ref a_draft_h0, .ref a_waiting_h0, .ref a_functions_h0, .ref (fad 0), .ref (fad fd), .ref a_text_h0, .int mode_h0, .int levels_h0, .int signs_h0, .int loops_h0, .int token_h0, .int fault_h0])), ((fad fd), .inr (0, [(frB fad fd), (frA fad fn fd), .int kind_t, .int place_t, .int width_t, .int second_t, .int parts_t, .int innerParts_t, .int innerPlace_t, .int innerWidth_t, .int signs_t, .int waitingBelow_t, .int limited_t, .int targets_t, .int lastBlock_t])), (a_scanner_h0, .inr (4, [.ref a_text_a_scanner_h0, .int next_a_scanner_h0, .int kind_a_scanner_h0, .int start_a_scanner_h0, .int width_a_scanner_h0])), (a_draft_h0, .inr (1, [.ref a_cells_a_draft_h0, .int count_a_draft_h0])), (a_cells_a_draft_h0, .inl (cI, n_a_cells_a_draft_h0, .inl b_a_cells_a_draft_h0)), (a_waiting_h0, .inr (5, [.ref a_cells_a_waiting_h0, .int count_a_waiting_h0])), (a_cells_a_waiting_h0, .inl (cI, n_a_cells_a_waiting_h0, .inl b_a_cells_a_waiting_h0))]) (pl := fpo fad fn fd fcf) [0, 1, 4, 2, 3, 5, 6] 7 rfl rfl rfl (by decide)) rfl rfl (Nat.le_of_ble_eq_true rfl) d_Rd_standsInExpression_74 ⟨show 0 + C104 ≤ mc by omega, show 0 + S105 ≤ ms by omega⟩ (fun v w hq => ?_)
        obtain ⟨a100, q101, q102, rfl, z103, rfl⟩ := hq
        refine j_norm (pc' := 77) (st' := [.int r77]) (ws' := ((h0, .inr (2, [.ref a_scanner_h0, .ref a_draft_h0, .ref a_waiting_h0, .ref a_functions_h0, .ref (a100 0), .ref (a100 r75), .ref a_text_h0, .int r78, .int r79, .int r80, .int loops_h0, .int token_h0, .int fault_h0])) :: ((a100 r75), .inr (0, [(frB a100 r75), (frA a100 r74 r75), .int r81, .int r82, .int r83, .int r84, .int r85, .int r86, .int r87, .int r88, .int r89, .int r90, .int r91, .int r92, .int r93])) :: (a_scanner_h0, .inr (4, [.ref a_text_a_scanner_h0, .int next_a_scanner_h0, .int kind_a_scanner_h0, .int start_a_scanner_h0, .int width_a_scanner_h0])) :: (a_draft_h0, .inr (1, [.ref q101, .int r94])) :: (a_waiting_h0, .inr (5, [.ref q102, .int r95])) :: (q101, .inl (cI, r96, .inl r97)) :: (q102, .inl (cI, r98, .inl r99)) :: fpo a100 r74 r75 r76)) (cl' := 0 + C104) (sl' := 0 + S105) rfl rfl rfl rfl rfl rfl ?_
        replace h := lf_s h
        obtain ⟨h, e1, e2⟩ := h
        replace h := Prod.mk.inj h
        obtain ⟨h9, h⟩ := h
        subst h9
        replace h := Prod.mk.inj h
        obtain ⟨h9, h⟩ := h
        subst h9
        replace h := Prod.mk.inj h
        obtain ⟨h9, h⟩ := h
        subst h9
        replace h := Prod.mk.inj h
        obtain ⟨h9, h⟩ := h
        subst h9
        replace h := Prod.mk.inj h
        obtain ⟨h9, h⟩ := h
        subst h9
        replace h := Prod.mk.inj h
        obtain ⟨h9, h⟩ := h
        subst h9
        replace h := Prod.mk.inj h
        obtain ⟨h9, h⟩ := h
        subst h9
        replace h := Prod.mk.inj h
        obtain ⟨h9, h⟩ := h
        subst h9
        replace h := Prod.mk.inj h
        obtain ⟨h9, h⟩ := h
        subst h9
        replace h := Prod.mk.inj h
        obtain ⟨h9, h⟩ := h
        subst h9
        replace h := Prod.mk.inj h
        obtain ⟨h9, h⟩ := h
        subst h9
        replace h := Prod.mk.inj h
        obtain ⟨h9, h⟩ := h
        subst h9
        replace h := Prod.mk.inj h
        obtain ⟨h9, h⟩ := h
        subst h9
        replace h := Prod.mk.inj h
        obtain ⟨h9, h⟩ := h
        subst h9
        replace h := Prod.mk.inj h
        obtain ⟨h9, h⟩ := h
        subst h9
        replace h := Prod.mk.inj h
        obtain ⟨h9, h⟩ := h
        subst h9
        replace h := Prod.mk.inj h
        obtain ⟨h9, h⟩ := h
        subst h9
        replace h := Prod.mk.inj h
        obtain ⟨h9, h⟩ := h
        subst h9
        replace h := Prod.mk.inj h
        obtain ⟨h9, h⟩ := h
        subst h9
        replace h := Prod.mk.inj h
        obtain ⟨h9, h⟩ := h
        subst h9
        replace h := Prod.mk.inj h
        obtain ⟨h9, h⟩ := h
        subst h9
        replace h := Prod.mk.inj h
        obtain ⟨h9, h⟩ := h
        subst h9
        replace h := Prod.mk.inj h
        obtain ⟨h9, h⟩ := h
        subst h9
        replace h := Prod.mk.inj h
        obtain ⟨h9, h⟩ := h
        subst h9
        replace h := Prod.mk.inj h
        obtain ⟨h9, h⟩ := h
        subst h9
        subst h
        refine j_widen (cl' := mc) (sl' := ms) (by omega) (by omega) ?_
        refine j_subP (w := [(h0, .inr (2, [.ref a_scanner_h0, .ref a_draft_h0, .ref a_waiting_h0, .ref a_functions_h0, .ref (a100 0), .ref (a100 r75), .ref a_text_h0, .int r78, .int r79, .int r80, .int loops_h0, .int token_h0, .int fault_h0])), ((a100 r75), .inr (0, [(frB a100 r75), (frA a100 r74 r75), .int r81, .int r82, .int r83, .int r84, .int r85, .int r86, .int r87, .int r88, .int r89, .int r90, .int r91, .int r92, .int r93])), (a_draft_h0, .inr (1, [.ref q101, .int r94])), (a_scanner_h0, .inr (4, [.ref a_text_a_scanner_h0, .int next_a_scanner_h0, .int kind_a_scanner_h0, .int start_a_scanner_h0, .int width_a_scanner_h0])), (a_waiting_h0, .inr (5, [.ref q102, .int r95])), (q101, .inl (cI, r96, .inl r97)), (q102, .inl (cI, r98, .inl r99))]) (pl := fpo a100 r74 r75 r76) (lv' := []) [0, 1, 3, 2, 4, 5, 6] [] 7 rfl rfl (by decide) [] rfl ?_
        exact j_zretE hr (zb_n z103) d_Rd_standsInExpression_77 ⟨a100, q101, q102, rfl, z103, rfl⟩
      · replace h := it_f c73 h
        by_cases c109 : mode_h0 = 33
        · replace h := it_t c109 h
          refine j_tabIn (tgt := 73) (off := 69) d_Rd_standsInExpression_4 33 c109 (by decide) (by decide) (by decide) (by decide) ?_
          refine j_aload_n d_Rd_standsInExpression_73 rfl 0 rfl ?_
          replace h := bw_s h
          obtain ⟨⟨r110, r111, r112, r113, r114, r115, r116, r117, r118, r119, r120, r121, r122, r123, r124, r125, r126, r127, r128, r129, r130, r131, r132, r133, r134, r135⟩, C140, S141, C142, S143, k144, h, e1, e2⟩ := h
          replace hC : 0 + C140 + C142 ≤ mc := by omega
          replace hS : 0 + S141 + S143 ≤ ms := by omega
          clear e1 e2
          refine j_callVg (n := 0) (As := []) (rest := []) (wr := []) (c_Rd_takeOperand l D cI cB cJ cS h0 fad a_scanner_h0 a_draft_h0 a_waiting_h0 a_functions_h0 a_text_h0 a_text_a_scanner_h0 a_cells_a_draft_h0 a_cells_a_waiting_h0 fn fd fcf mode_h0 levels_h0 signs_h0 loops_h0 token_h0 fault_h0 kind_t place_t width_t second_t parts_t innerParts_t innerPlace_t innerWidth_t signs_t waitingBelow_t limited_t targets_t lastBlock_t next_a_scanner_h0 kind_a_scanner_h0 start_a_scanner_h0 width_a_scanner_h0 count_a_draft_h0 n_a_cells_a_draft_h0 b_a_cells_a_draft_h0 count_a_waiting_h0 n_a_cells_a_waiting_h0 b_a_cells_a_waiting_h0  r110 r111 r112 r113 r114 r115 r116 r117 r118 r119 r120 r121 r122 r123 r124 r125 r126 r127 r128 r129 r130 r131 r132 r133 r134 r135 C140 S141 k144) k_Rd_303 (by decide) ⟨Nat.le_of_ble_eq_true rfl, Nat.le_of_ble_eq_true rfl⟩ rfl 0 rfl (pk_app (wr := []) (w0 := [(h0, .inr (2, [.ref a_scanner_h0, .ref a_draft_h0, .ref a_waiting_h0, .ref a_functions_h0, .ref (fad 0), .ref (fad fd), .ref a_text_h0, .int mode_h0, .int levels_h0, .int signs_h0, .int loops_h0, .int token_h0, .int fault_h0])), ((fad fd), .inr (0, [(frB fad fd), (frA fad fn fd), .int kind_t, .int place_t, .int width_t, .int second_t, .int parts_t, .int innerParts_t, .int innerPlace_t, .int innerWidth_t, .int signs_t, .int waitingBelow_t, .int limited_t, .int targets_t, .int lastBlock_t])), (a_scanner_h0, .inr (4, [.ref a_text_a_scanner_h0, .int next_a_scanner_h0, .int kind_a_scanner_h0, .int start_a_scanner_h0, .int width_a_scanner_h0])), (a_draft_h0, .inr (1, [.ref a_cells_a_draft_h0, .int count_a_draft_h0])), (a_cells_a_draft_h0, .inl (cI, n_a_cells_a_draft_h0, .inl b_a_cells_a_draft_h0)), (a_waiting_h0, .inr (5, [.ref a_cells_a_waiting_h0, .int count_a_waiting_h0])), (a_cells_a_waiting_h0, .inl (cI, n_a_cells_a_waiting_h0, .inl b_a_cells_a_waiting_h0))]) (pl := fpo fad fn fd fcf) [0, 1, 4, 2, 3, 5, 6] 7 rfl rfl rfl (by decide)) rfl rfl (Nat.le_of_ble_eq_true rfl) d_Rd_standsInExpression_74 ⟨show 0 + C140 ≤ mc by omega, show 0 + S141 ≤ ms by omega⟩ (fun v w hq => ?_)
          obtain ⟨a136, q137, q138, rfl, z139, rfl⟩ := hq
          refine j_norm (pc' := 77) (st' := [.int r113]) (ws' := ((h0, .inr (2, [.ref a_scanner_h0, .ref a_draft_h0, .ref a_waiting_h0, .ref a_functions_h0, .ref (a136 0), .ref (a136 r111), .ref a_text_h0, .int r114, .int r115, .int r116, .int loops_h0, .int token_h0, .int fault_h0])) :: ((a136 r111), .inr (0, [(frB a136 r111), (frA a136 r110 r111), .int r117, .int r118, .int r119, .int r120, .int r121, .int r122, .int r123, .int r124, .int r125, .int r126, .int r127, .int r128, .int r129])) :: (a_scanner_h0, .inr (4, [.ref a_text_a_scanner_h0, .int next_a_scanner_h0, .int kind_a_scanner_h0, .int start_a_scanner_h0, .int width_a_scanner_h0])) :: (a_draft_h0, .inr (1, [.ref q137, .int r130])) :: (a_waiting_h0, .inr (5, [.ref q138, .int r131])) :: (q137, .inl (cI, r132, .inl r133)) :: (q138, .inl (cI, r134, .inl r135)) :: fpo a136 r110 r111 r112)) (cl' := 0 + C140) (sl' := 0 + S141) rfl rfl rfl rfl rfl rfl ?_
          replace h := lf_s h
          obtain ⟨h, e1, e2⟩ := h
          replace h := Prod.mk.inj h
          obtain ⟨h9, h⟩ := h
          subst h9
          replace h := Prod.mk.inj h
          obtain ⟨h9, h⟩ := h
          subst h9
          replace h := Prod.mk.inj h
          obtain ⟨h9, h⟩ := h
          subst h9
          replace h := Prod.mk.inj h
          obtain ⟨h9, h⟩ := h
          subst h9
          replace h := Prod.mk.inj h
          obtain ⟨h9, h⟩ := h
          subst h9
          replace h := Prod.mk.inj h
          obtain ⟨h9, h⟩ := h
          subst h9
          replace h := Prod.mk.inj h
          obtain ⟨h9, h⟩ := h
          subst h9
          replace h := Prod.mk.inj h
          obtain ⟨h9, h⟩ := h
          subst h9
          replace h := Prod.mk.inj h
          obtain ⟨h9, h⟩ := h
          subst h9
          replace h := Prod.mk.inj h
          obtain ⟨h9, h⟩ := h
          subst h9
          replace h := Prod.mk.inj h
          obtain ⟨h9, h⟩ := h
          subst h9
          replace h := Prod.mk.inj h
          obtain ⟨h9, h⟩ := h
          subst h9
          replace h := Prod.mk.inj h
          obtain ⟨h9, h⟩ := h
          subst h9
          replace h := Prod.mk.inj h
          obtain ⟨h9, h⟩ := h
          subst h9
          replace h := Prod.mk.inj h
          obtain ⟨h9, h⟩ := h
          subst h9
          replace h := Prod.mk.inj h
          obtain ⟨h9, h⟩ := h
          subst h9
          replace h := Prod.mk.inj h
          obtain ⟨h9, h⟩ := h
          subst h9
          replace h := Prod.mk.inj h
          obtain ⟨h9, h⟩ := h
          subst h9
          replace h := Prod.mk.inj h
          obtain ⟨h9, h⟩ := h
          subst h9
          replace h := Prod.mk.inj h
          obtain ⟨h9, h⟩ := h
          subst h9
          replace h := Prod.mk.inj h
          obtain ⟨h9, h⟩ := h
          subst h9
          replace h := Prod.mk.inj h
          obtain ⟨h9, h⟩ := h
          subst h9
          replace h := Prod.mk.inj h
          obtain ⟨h9, h⟩ := h
          subst h9
          replace h := Prod.mk.inj h
          obtain ⟨h9, h⟩ := h
          subst h9
          replace h := Prod.mk.inj h
          obtain ⟨h9, h⟩ := h
          subst h9
          subst h
          refine j_widen (cl' := mc) (sl' := ms) (by omega) (by omega) ?_
          refine j_subP (w := [(h0, .inr (2, [.ref a_scanner_h0, .ref a_draft_h0, .ref a_waiting_h0, .ref a_functions_h0, .ref (a136 0), .ref (a136 r111), .ref a_text_h0, .int r114, .int r115, .int r116, .int loops_h0, .int token_h0, .int fault_h0])), ((a136 r111), .inr (0, [(frB a136 r111), (frA a136 r110 r111), .int r117, .int r118, .int r119, .int r120, .int r121, .int r122, .int r123, .int r124, .int r125, .int r126, .int r127, .int r128, .int r129])), (a_draft_h0, .inr (1, [.ref q137, .int r130])), (a_scanner_h0, .inr (4, [.ref a_text_a_scanner_h0, .int next_a_scanner_h0, .int kind_a_scanner_h0, .int start_a_scanner_h0, .int width_a_scanner_h0])), (a_waiting_h0, .inr (5, [.ref q138, .int r131])), (q137, .inl (cI, r132, .inl r133)), (q138, .inl (cI, r134, .inl r135))]) (pl := fpo a136 r110 r111 r112) (lv' := []) [0, 1, 3, 2, 4, 5, 6] [] 7 rfl rfl (by decide) [] rfl ?_
          exact j_zretE hr (zb_n z139) d_Rd_standsInExpression_77 ⟨a136, q137, q138, rfl, z139, rfl⟩
        · replace h := it_f c109 h
          by_cases c145 : mode_h0 = 34
          · replace h := it_t c145 h
            refine j_tabIn (tgt := 78) (off := 74) d_Rd_standsInExpression_4 34 c145 (by decide) (by decide) (by decide) (by decide) ?_
            refine j_aload_n d_Rd_standsInExpression_78 rfl 0 rfl ?_
            replace h := bw_s h
            obtain ⟨⟨r146, r147, r148, r149, r150, r151, r152, r153, r154, r155, r156, r157, r158, r159, r160, r161, r162, r163, r164, r165, r166, r167, r168, r169, r170, r171⟩, C176, S177, C178, S179, k180, h, e1, e2⟩ := h
            replace hC : 0 + C176 + C178 ≤ mc := by omega
            replace hS : 0 + S177 + S179 ≤ ms := by omega
            clear e1 e2
            refine j_callVg (n := 0) (As := []) (rest := []) (wr := []) (c_Rd_takeOperator l D cI cB cJ cS h0 fad a_scanner_h0 a_draft_h0 a_waiting_h0 a_functions_h0 a_text_h0 a_text_a_scanner_h0 a_cells_a_draft_h0 a_cells_a_waiting_h0 fn fd fcf mode_h0 levels_h0 signs_h0 loops_h0 token_h0 fault_h0 kind_t place_t width_t second_t parts_t innerParts_t innerPlace_t innerWidth_t signs_t waitingBelow_t limited_t targets_t lastBlock_t next_a_scanner_h0 kind_a_scanner_h0 start_a_scanner_h0 width_a_scanner_h0 count_a_draft_h0 n_a_cells_a_draft_h0 b_a_cells_a_draft_h0 count_a_waiting_h0 n_a_cells_a_waiting_h0 b_a_cells_a_waiting_h0  r146 r147 r148 r149 r150 r151 r152 r153 r154 r155 r156 r157 r158 r159 r160 r161 r162 r163 r164 r165 r166 r167 r168 r169 r170 r171 C176 S177 k180) k_Rd_306 (by decide) ⟨Nat.le_of_ble_eq_true rfl, Nat.le_of_ble_eq_true rfl⟩ rfl 0 rfl (pk_app (wr := []) (w0 := [(h0, .inr (2, [.ref a_scanner_h0, .ref a_draft_h0, .ref a_waiting_h0, .ref a_functions_h0, .ref (fad 0), .ref (fad fd), .ref a_text_h0, .int mode_h0, .int levels_h0, .int signs_h0, .int loops_h0, .int token_h0, .int fault_h0])), ((fad fd), .inr (0, [(frB fad fd), (frA fad fn fd), .int kind_t, .int place_t, .int width_t, .int second_t, .int parts_t, .int innerParts_t, .int innerPlace_t, .int innerWidth_t, .int signs_t, .int waitingBelow_t, .int limited_t, .int targets_t, .int lastBlock_t])), (a_scanner_h0, .inr (4, [.ref a_text_a_scanner_h0, .int next_a_scanner_h0, .int kind_a_scanner_h0, .int start_a_scanner_h0, .int width_a_scanner_h0])), (a_draft_h0, .inr (1, [.ref a_cells_a_draft_h0, .int count_a_draft_h0])), (a_cells_a_draft_h0, .inl (cI, n_a_cells_a_draft_h0, .inl b_a_cells_a_draft_h0)), (a_waiting_h0, .inr (5, [.ref a_cells_a_waiting_h0, .int count_a_waiting_h0])), (a_cells_a_waiting_h0, .inl (cI, n_a_cells_a_waiting_h0, .inl b_a_cells_a_waiting_h0))]) (pl := fpo fad fn fd fcf) [0, 1, 4, 2, 3, 5, 6] 7 rfl rfl rfl (by decide)) rfl rfl (Nat.le_of_ble_eq_true rfl) d_Rd_standsInExpression_79 ⟨show 0 + C176 ≤ mc by omega, show 0 + S177 ≤ ms by omega⟩ (fun v w hq => ?_)
            obtain ⟨a172, q173, q174, rfl, z175, rfl⟩ := hq
            refine j_norm (pc' := 82) (st' := [.int r149]) (ws' := ((h0, .inr (2, [.ref a_scanner_h0, .ref a_draft_h0, .ref a_waiting_h0, .ref a_functions_h0, .ref (a172 0), .ref (a172 r147), .ref a_text_h0, .int r150, .int r151, .int r152, .int loops_h0, .int token_h0, .int fault_h0])) :: ((a172 r147), .inr (0, [(frB a172 r147), (frA a172 r146 r147), .int r153, .int r154, .int r155, .int r156, .int r157, .int r158, .int r159, .int r160, .int r161, .int r162, .int r163, .int r164, .int r165])) :: (a_scanner_h0, .inr (4, [.ref a_text_a_scanner_h0, .int next_a_scanner_h0, .int kind_a_scanner_h0, .int start_a_scanner_h0, .int width_a_scanner_h0])) :: (a_draft_h0, .inr (1, [.ref q173, .int r166])) :: (a_waiting_h0, .inr (5, [.ref q174, .int r167])) :: (q173, .inl (cI, r168, .inl r169)) :: (q174, .inl (cI, r170, .inl r171)) :: fpo a172 r146 r147 r148)) (cl' := 0 + C176) (sl' := 0 + S177) rfl rfl rfl rfl rfl rfl ?_
            replace h := lf_s h
            obtain ⟨h, e1, e2⟩ := h
            replace h := Prod.mk.inj h
            obtain ⟨h9, h⟩ := h
            subst h9
            replace h := Prod.mk.inj h
            obtain ⟨h9, h⟩ := h
            subst h9
            replace h := Prod.mk.inj h
            obtain ⟨h9, h⟩ := h
            subst h9
            replace h := Prod.mk.inj h
            obtain ⟨h9, h⟩ := h
            subst h9
            replace h := Prod.mk.inj h
            obtain ⟨h9, h⟩ := h
            subst h9
            replace h := Prod.mk.inj h
            obtain ⟨h9, h⟩ := h
            subst h9
            replace h := Prod.mk.inj h
            obtain ⟨h9, h⟩ := h
            subst h9
            replace h := Prod.mk.inj h
            obtain ⟨h9, h⟩ := h
            subst h9
            replace h := Prod.mk.inj h
            obtain ⟨h9, h⟩ := h
            subst h9
            replace h := Prod.mk.inj h
            obtain ⟨h9, h⟩ := h
            subst h9
            replace h := Prod.mk.inj h
            obtain ⟨h9, h⟩ := h
            subst h9
            replace h := Prod.mk.inj h
            obtain ⟨h9, h⟩ := h
            subst h9
            replace h := Prod.mk.inj h
            obtain ⟨h9, h⟩ := h
            subst h9
            replace h := Prod.mk.inj h
            obtain ⟨h9, h⟩ := h
            subst h9
            replace h := Prod.mk.inj h
            obtain ⟨h9, h⟩ := h
            subst h9
            replace h := Prod.mk.inj h
            obtain ⟨h9, h⟩ := h
            subst h9
            replace h := Prod.mk.inj h
            obtain ⟨h9, h⟩ := h
            subst h9
            replace h := Prod.mk.inj h
            obtain ⟨h9, h⟩ := h
            subst h9
            replace h := Prod.mk.inj h
            obtain ⟨h9, h⟩ := h
            subst h9
            replace h := Prod.mk.inj h
            obtain ⟨h9, h⟩ := h
            subst h9
            replace h := Prod.mk.inj h
            obtain ⟨h9, h⟩ := h
            subst h9
            replace h := Prod.mk.inj h
            obtain ⟨h9, h⟩ := h
            subst h9
            replace h := Prod.mk.inj h
            obtain ⟨h9, h⟩ := h
            subst h9
            replace h := Prod.mk.inj h
            obtain ⟨h9, h⟩ := h
            subst h9
            replace h := Prod.mk.inj h
            obtain ⟨h9, h⟩ := h
            subst h9
            subst h
            refine j_widen (cl' := mc) (sl' := ms) (by omega) (by omega) ?_
            refine j_subP (w := [(h0, .inr (2, [.ref a_scanner_h0, .ref a_draft_h0, .ref a_waiting_h0, .ref a_functions_h0, .ref (a172 0), .ref (a172 r147), .ref a_text_h0, .int r150, .int r151, .int r152, .int loops_h0, .int token_h0, .int fault_h0])), ((a172 r147), .inr (0, [(frB a172 r147), (frA a172 r146 r147), .int r153, .int r154, .int r155, .int r156, .int r157, .int r158, .int r159, .int r160, .int r161, .int r162, .int r163, .int r164, .int r165])), (a_draft_h0, .inr (1, [.ref q173, .int r166])), (a_scanner_h0, .inr (4, [.ref a_text_a_scanner_h0, .int next_a_scanner_h0, .int kind_a_scanner_h0, .int start_a_scanner_h0, .int width_a_scanner_h0])), (a_waiting_h0, .inr (5, [.ref q174, .int r167])), (q173, .inl (cI, r168, .inl r169)), (q174, .inl (cI, r170, .inl r171))]) (pl := fpo a172 r146 r147 r148) (lv' := []) [0, 1, 3, 2, 4, 5, 6] [] 7 rfl rfl (by decide) [] rfl ?_
            exact j_zretE hr (zb_n z175) d_Rd_standsInExpression_82 ⟨a172, q173, q174, rfl, z175, rfl⟩
          · replace h := it_f c145 h
            by_cases c181 : mode_h0 = 35
            · replace h := it_t c181 h
              refine j_tabIn (tgt := 83) (off := 79) d_Rd_standsInExpression_4 35 c181 (by decide) (by decide) (by decide) (by decide) ?_
              refine j_aload_n d_Rd_standsInExpression_83 rfl 0 rfl ?_
              refine j_get ig_Rd rfl 0 rfl 11 (by decide) rfl m_180 rfl d_Rd_standsInExpression_84 ?_
              refine j_bipush (v := 44) d_Rd_standsInExpression_87 (by decide) ?_
              refine j_icmp_eq (tgt := 101) d_Rd_standsInExpression_89 (by decide) (fun c182 => ?_) (fun c182 => ?_)
              · replace h := it_t c182 h
                refine j_aload_n d_Rd_standsInExpression_101 rfl 0 rfl ?_
                replace h := bw_s h
                obtain ⟨⟨r183, r184, r185, r186, r187, r188, r189, r190, r191, r192, r193, r194, r195, r196, r197, r198, r199, r200, r201, r202, r203, r204, r205, r206, r207, r208⟩, C213, S214, C215, S216, k217, h, e1, e2⟩ := h
                replace hC : 0 + C213 + C215 ≤ mc := by omega
                replace hS : 0 + S214 + S216 ≤ ms := by omega
                clear e1 e2
                refine j_callVg (n := 0) (As := []) (rest := []) (wr := []) (c_Rd_takeOperator l D cI cB cJ cS h0 fad a_scanner_h0 a_draft_h0 a_waiting_h0 a_functions_h0 a_text_h0 a_text_a_scanner_h0 a_cells_a_draft_h0 a_cells_a_waiting_h0 fn fd fcf mode_h0 levels_h0 signs_h0 loops_h0 token_h0 fault_h0 kind_t place_t width_t second_t parts_t innerParts_t innerPlace_t innerWidth_t signs_t waitingBelow_t limited_t targets_t lastBlock_t next_a_scanner_h0 kind_a_scanner_h0 start_a_scanner_h0 width_a_scanner_h0 count_a_draft_h0 n_a_cells_a_draft_h0 b_a_cells_a_draft_h0 count_a_waiting_h0 n_a_cells_a_waiting_h0 b_a_cells_a_waiting_h0  r183 r184 r185 r186 r187 r188 r189 r190 r191 r192 r193 r194 r195 r196 r197 r198 r199 r200 r201 r202 r203 r204 r205 r206 r207 r208 C213 S214 k217) k_Rd_306 (by decide) ⟨Nat.le_of_ble_eq_true rfl, Nat.le_of_ble_eq_true rfl⟩ rfl 0 rfl (pk_app (wr := []) (w0 := [(h0, .inr (2, [.ref a_scanner_h0, .ref a_draft_h0, .ref a_waiting_h0, .ref a_functions_h0, .ref (fad 0), .ref (fad fd), .ref a_text_h0, .int mode_h0, .int levels_h0, .int signs_h0, .int loops_h0, .int token_h0, .int fault_h0])), ((fad fd), .inr (0, [(frB fad fd), (frA fad fn fd), .int kind_t, .int place_t, .int width_t, .int second_t, .int parts_t, .int innerParts_t, .int innerPlace_t, .int innerWidth_t, .int signs_t, .int waitingBelow_t, .int limited_t, .int targets_t, .int lastBlock_t])), (a_scanner_h0, .inr (4, [.ref a_text_a_scanner_h0, .int next_a_scanner_h0, .int kind_a_scanner_h0, .int start_a_scanner_h0, .int width_a_scanner_h0])), (a_draft_h0, .inr (1, [.ref a_cells_a_draft_h0, .int count_a_draft_h0])), (a_cells_a_draft_h0, .inl (cI, n_a_cells_a_draft_h0, .inl b_a_cells_a_draft_h0)), (a_waiting_h0, .inr (5, [.ref a_cells_a_waiting_h0, .int count_a_waiting_h0])), (a_cells_a_waiting_h0, .inl (cI, n_a_cells_a_waiting_h0, .inl b_a_cells_a_waiting_h0))]) (pl := fpo fad fn fd fcf) [0, 1, 4, 2, 3, 5, 6] 7 rfl rfl rfl (by decide)) rfl rfl (Nat.le_of_ble_eq_true rfl) d_Rd_standsInExpression_102 ⟨show 0 + C213 ≤ mc by omega, show 0 + S214 ≤ ms by omega⟩ (fun v w hq => ?_)
                obtain ⟨a209, q210, q211, rfl, z212, rfl⟩ := hq
                refine j_norm (pc' := 105) (st' := [.int r186]) (ws' := ((h0, .inr (2, [.ref a_scanner_h0, .ref a_draft_h0, .ref a_waiting_h0, .ref a_functions_h0, .ref (a209 0), .ref (a209 r184), .ref a_text_h0, .int r187, .int r188, .int r189, .int loops_h0, .int token_h0, .int fault_h0])) :: ((a209 r184), .inr (0, [(frB a209 r184), (frA a209 r183 r184), .int r190, .int r191, .int r192, .int r193, .int r194, .int r195, .int r196, .int r197, .int r198, .int r199, .int r200, .int r201, .int r202])) :: (a_scanner_h0, .inr (4, [.ref a_text_a_scanner_h0, .int next_a_scanner_h0, .int kind_a_scanner_h0, .int start_a_scanner_h0, .int width_a_scanner_h0])) :: (a_draft_h0, .inr (1, [.ref q210, .int r203])) :: (a_waiting_h0, .inr (5, [.ref q211, .int r204])) :: (q210, .inl (cI, r205, .inl r206)) :: (q211, .inl (cI, r207, .inl r208)) :: fpo a209 r183 r184 r185)) (cl' := 0 + C213) (sl' := 0 + S214) rfl rfl rfl rfl rfl rfl ?_
                refine j_if_eq (tgt := 112) d_Rd_standsInExpression_105 (by decide) (fun c218 => ?_) (fun c218 => ?_)
                · replace h := it_t c218 h
                  refine j_iconst (v := 0) d_Rd_standsInExpression_112 (by decide) ?_
                  replace h := lf_s h
                  obtain ⟨h, e1, e2⟩ := h
                  replace h := Prod.mk.inj h
                  obtain ⟨h9, h⟩ := h
                  subst h9
                  replace h := Prod.mk.inj h
                  obtain ⟨h9, h⟩ := h
                  subst h9
                  replace h := Prod.mk.inj h
                  obtain ⟨h9, h⟩ := h
                  subst h9
                  replace h := Prod.mk.inj h
                  obtain ⟨h9, h⟩ := h
                  subst h9
                  replace h := Prod.mk.inj h
                  obtain ⟨h9, h⟩ := h
                  subst h9
                  replace h := Prod.mk.inj h
                  obtain ⟨h9, h⟩ := h
                  subst h9
                  replace h := Prod.mk.inj h
                  obtain ⟨h9, h⟩ := h
                  subst h9
                  replace h := Prod.mk.inj h
                  obtain ⟨h9, h⟩ := h
                  subst h9
                  replace h := Prod.mk.inj h
                  obtain ⟨h9, h⟩ := h
                  subst h9
                  replace h := Prod.mk.inj h
                  obtain ⟨h9, h⟩ := h
                  subst h9
                  replace h := Prod.mk.inj h
                  obtain ⟨h9, h⟩ := h
                  subst h9
                  replace h := Prod.mk.inj h
                  obtain ⟨h9, h⟩ := h
                  subst h9
                  replace h := Prod.mk.inj h
                  obtain ⟨h9, h⟩ := h
                  subst h9
                  replace h := Prod.mk.inj h
                  obtain ⟨h9, h⟩ := h
                  subst h9
                  replace h := Prod.mk.inj h
                  obtain ⟨h9, h⟩ := h
                  subst h9
                  replace h := Prod.mk.inj h
                  obtain ⟨h9, h⟩ := h
                  subst h9
                  replace h := Prod.mk.inj h
                  obtain ⟨h9, h⟩ := h
                  subst h9
                  replace h := Prod.mk.inj h
                  obtain ⟨h9, h⟩ := h
                  subst h9
                  replace h := Prod.mk.inj h
                  obtain ⟨h9, h⟩ := h
                  subst h9
                  replace h := Prod.mk.inj h
                  obtain ⟨h9, h⟩ := h
                  subst h9
                  replace h := Prod.mk.inj h
                  obtain ⟨h9, h⟩ := h
                  subst h9
                  replace h := Prod.mk.inj h
                  obtain ⟨h9, h⟩ := h
                  subst h9
                  replace h := Prod.mk.inj h
                  obtain ⟨h9, h⟩ := h
                  subst h9
                  replace h := Prod.mk.inj h
                  obtain ⟨h9, h⟩ := h
                  subst h9
                  replace h := Prod.mk.inj h
                  obtain ⟨h9, h⟩ := h
                  subst h9
                  subst h
                  refine j_widen (cl' := mc) (sl' := ms) (by omega) (by omega) ?_
                  refine j_subP (w := [(h0, .inr (2, [.ref a_scanner_h0, .ref a_draft_h0, .ref a_waiting_h0, .ref a_functions_h0, .ref (a209 0), .ref (a209 r184), .ref a_text_h0, .int r187, .int r188, .int r189, .int loops_h0, .int token_h0, .int fault_h0])), ((a209 r184), .inr (0, [(frB a209 r184), (frA a209 r183 r184), .int r190, .int r191, .int r192, .int r193, .int r194, .int r195, .int r196, .int r197, .int r198, .int r199, .int r200, .int r201, .int r202])), (a_draft_h0, .inr (1, [.ref q210, .int r203])), (a_scanner_h0, .inr (4, [.ref a_text_a_scanner_h0, .int next_a_scanner_h0, .int kind_a_scanner_h0, .int start_a_scanner_h0, .int width_a_scanner_h0])), (a_waiting_h0, .inr (5, [.ref q211, .int r204])), (q210, .inl (cI, r205, .inl r206)), (q211, .inl (cI, r207, .inl r208))]) (pl := fpo a209 r183 r184 r185) (lv' := []) [0, 1, 3, 2, 4, 5, 6] [] 7 rfl rfl (by decide) [] rfl ?_
                  exact j_zretE hr (zb_n zb0) d_Rd_standsInExpression_113 ⟨a209, q210, q211, rfl, zb0, rfl⟩
                · replace h := it_f c218 h
                  refine j_iconst (v := 1) d_Rd_standsInExpression_108 (by decide) ?_
                  refine j_goto (tgt := 113) d_Rd_standsInExpression_109 (by decide) ?_
                  replace h := lf_s h
                  obtain ⟨h, e1, e2⟩ := h
                  replace h := Prod.mk.inj h
                  obtain ⟨h9, h⟩ := h
                  subst h9
                  replace h := Prod.mk.inj h
                  obtain ⟨h9, h⟩ := h
                  subst h9
                  replace h := Prod.mk.inj h
                  obtain ⟨h9, h⟩ := h
                  subst h9
                  replace h := Prod.mk.inj h
                  obtain ⟨h9, h⟩ := h
                  subst h9
                  replace h := Prod.mk.inj h
                  obtain ⟨h9, h⟩ := h
                  subst h9
                  replace h := Prod.mk.inj h
                  obtain ⟨h9, h⟩ := h
                  subst h9
                  replace h := Prod.mk.inj h
                  obtain ⟨h9, h⟩ := h
                  subst h9
                  replace h := Prod.mk.inj h
                  obtain ⟨h9, h⟩ := h
                  subst h9
                  replace h := Prod.mk.inj h
                  obtain ⟨h9, h⟩ := h
                  subst h9
                  replace h := Prod.mk.inj h
                  obtain ⟨h9, h⟩ := h
                  subst h9
                  replace h := Prod.mk.inj h
                  obtain ⟨h9, h⟩ := h
                  subst h9
                  replace h := Prod.mk.inj h
                  obtain ⟨h9, h⟩ := h
                  subst h9
                  replace h := Prod.mk.inj h
                  obtain ⟨h9, h⟩ := h
                  subst h9
                  replace h := Prod.mk.inj h
                  obtain ⟨h9, h⟩ := h
                  subst h9
                  replace h := Prod.mk.inj h
                  obtain ⟨h9, h⟩ := h
                  subst h9
                  replace h := Prod.mk.inj h
                  obtain ⟨h9, h⟩ := h
                  subst h9
                  replace h := Prod.mk.inj h
                  obtain ⟨h9, h⟩ := h
                  subst h9
                  replace h := Prod.mk.inj h
                  obtain ⟨h9, h⟩ := h
                  subst h9
                  replace h := Prod.mk.inj h
                  obtain ⟨h9, h⟩ := h
                  subst h9
                  replace h := Prod.mk.inj h
                  obtain ⟨h9, h⟩ := h
                  subst h9
                  replace h := Prod.mk.inj h
                  obtain ⟨h9, h⟩ := h
                  subst h9
                  replace h := Prod.mk.inj h
                  obtain ⟨h9, h⟩ := h
                  subst h9
                  replace h := Prod.mk.inj h
                  obtain ⟨h9, h⟩ := h
                  subst h9
                  replace h := Prod.mk.inj h
                  obtain ⟨h9, h⟩ := h
                  subst h9
                  replace h := Prod.mk.inj h
                  obtain ⟨h9, h⟩ := h
                  subst h9
                  subst h
                  refine j_widen (cl' := mc) (sl' := ms) (by omega) (by omega) ?_
                  refine j_subP (w := [(h0, .inr (2, [.ref a_scanner_h0, .ref a_draft_h0, .ref a_waiting_h0, .ref a_functions_h0, .ref (a209 0), .ref (a209 r184), .ref a_text_h0, .int r187, .int r188, .int r189, .int loops_h0, .int token_h0, .int fault_h0])), ((a209 r184), .inr (0, [(frB a209 r184), (frA a209 r183 r184), .int r190, .int r191, .int r192, .int r193, .int r194, .int r195, .int r196, .int r197, .int r198, .int r199, .int r200, .int r201, .int r202])), (a_draft_h0, .inr (1, [.ref q210, .int r203])), (a_scanner_h0, .inr (4, [.ref a_text_a_scanner_h0, .int next_a_scanner_h0, .int kind_a_scanner_h0, .int start_a_scanner_h0, .int width_a_scanner_h0])), (a_waiting_h0, .inr (5, [.ref q211, .int r204])), (q210, .inl (cI, r205, .inl r206)), (q211, .inl (cI, r207, .inl r208))]) (pl := fpo a209 r183 r184 r185) (lv' := []) [0, 1, 3, 2, 4, 5, 6] [] 7 rfl rfl (by decide) [] rfl ?_
                  exact j_zretE hr (zb_n zb1) d_Rd_standsInExpression_113 ⟨a209, q210, q211, rfl, zb1, rfl⟩
              · replace h := it_f c182 h
                refine j_aload_n d_Rd_standsInExpression_92 rfl 0 rfl ?_
                refine j_get ig_Rd rfl 0 rfl 11 (by decide) rfl m_180 rfl d_Rd_standsInExpression_93 ?_
                refine j_bipush (v := 41) d_Rd_standsInExpression_96 (by decide) ?_
                refine j_icmp_ne (tgt := 112) d_Rd_standsInExpression_98 (by decide) (fun c219 => ?_) (fun c219 => ?_)
                · replace h := it_f c219 h
                  refine j_iconst (v := 0) d_Rd_standsInExpression_112 (by decide) ?_
                  replace h := lf_s h
                  obtain ⟨h, e1, e2⟩ := h
                  replace h := Prod.mk.inj h
                  obtain ⟨h9, h⟩ := h
                  subst h9
                  replace h := Prod.mk.inj h
                  obtain ⟨h9, h⟩ := h
                  subst h9
                  replace h := Prod.mk.inj h
                  obtain ⟨h9, h⟩ := h
                  subst h9
                  replace h := Prod.mk.inj h
                  obtain ⟨h9, h⟩ := h
                  subst h9
                  replace h := Prod.mk.inj h
                  obtain ⟨h9, h⟩ := h
                  subst h9
                  replace h := Prod.mk.inj h
                  obtain ⟨h9, h⟩ := h
                  subst h9
                  replace h := Prod.mk.inj h
                  obtain ⟨h9, h⟩ := h
                  subst h9
                  replace h := Prod.mk.inj h
                  obtain ⟨h9, h⟩ := h
                  subst h9
                  replace h := Prod.mk.inj h
                  obtain ⟨h9, h⟩ := h
                  subst h9
                  replace h := Prod.mk.inj h
                  obtain ⟨h9, h⟩ := h
                  subst h9
                  replace h := Prod.mk.inj h
                  obtain ⟨h9, h⟩ := h
                  subst h9
                  replace h := Prod.mk.inj h
                  obtain ⟨h9, h⟩ := h
                  subst h9
                  replace h := Prod.mk.inj h
                  obtain ⟨h9, h⟩ := h
                  subst h9
                  replace h := Prod.mk.inj h
                  obtain ⟨h9, h⟩ := h
                  subst h9
                  replace h := Prod.mk.inj h
                  obtain ⟨h9, h⟩ := h
                  subst h9
                  replace h := Prod.mk.inj h
                  obtain ⟨h9, h⟩ := h
                  subst h9
                  replace h := Prod.mk.inj h
                  obtain ⟨h9, h⟩ := h
                  subst h9
                  replace h := Prod.mk.inj h
                  obtain ⟨h9, h⟩ := h
                  subst h9
                  replace h := Prod.mk.inj h
                  obtain ⟨h9, h⟩ := h
                  subst h9
                  replace h := Prod.mk.inj h
                  obtain ⟨h9, h⟩ := h
                  subst h9
                  replace h := Prod.mk.inj h
                  obtain ⟨h9, h⟩ := h
                  subst h9
                  replace h := Prod.mk.inj h
                  obtain ⟨h9, h⟩ := h
                  subst h9
                  replace h := Prod.mk.inj h
                  obtain ⟨h9, h⟩ := h
                  subst h9
                  replace h := Prod.mk.inj h
                  obtain ⟨h9, h⟩ := h
                  subst h9
                  replace h := Prod.mk.inj h
                  obtain ⟨h9, h⟩ := h
                  subst h9
                  subst h
                  refine j_widen (cl' := mc) (sl' := ms) (by omega) (by omega) ?_
                  refine j_subP (w := [(h0, .inr (2, [.ref a_scanner_h0, .ref a_draft_h0, .ref a_waiting_h0, .ref a_functions_h0, .ref (fad 0), .ref (fad fd), .ref a_text_h0, .int mode_h0, .int levels_h0, .int signs_h0, .int loops_h0, .int token_h0, .int fault_h0])), ((fad fd), .inr (0, [(frB fad fd), (frA fad fn fd), .int kind_t, .int place_t, .int width_t, .int second_t, .int parts_t, .int innerParts_t, .int innerPlace_t, .int innerWidth_t, .int signs_t, .int waitingBelow_t, .int limited_t, .int targets_t, .int lastBlock_t])), (a_draft_h0, .inr (1, [.ref a_cells_a_draft_h0, .int count_a_draft_h0])), (a_scanner_h0, .inr (4, [.ref a_text_a_scanner_h0, .int next_a_scanner_h0, .int kind_a_scanner_h0, .int start_a_scanner_h0, .int width_a_scanner_h0])), (a_waiting_h0, .inr (5, [.ref a_cells_a_waiting_h0, .int count_a_waiting_h0])), (a_cells_a_draft_h0, .inl (cI, n_a_cells_a_draft_h0, .inl b_a_cells_a_draft_h0)), (a_cells_a_waiting_h0, .inl (cI, n_a_cells_a_waiting_h0, .inl b_a_cells_a_waiting_h0))]) (pl := fpo fad fn fd fcf) (lv' := []) [0, 1, 2, 4, 5, 3, 6] [] 7 rfl rfl (by decide) [] rfl ?_
                  exact j_zretE hr (zb_n zb0) d_Rd_standsInExpression_113 ⟨fad, a_cells_a_draft_h0, a_cells_a_waiting_h0, rfl, zb0, rfl⟩
                · replace h := it_t c219 h
                  refine j_aload_n d_Rd_standsInExpression_101 rfl 0 rfl ?_
                  replace h := bw_s h
                  obtain ⟨⟨r220, r221, r222, r223, r224, r225, r226, r227, r228, r229, r230, r231, r232, r233, r234, r235, r236, r237, r238, r239, r240, r241, r242, r243, r244, r245⟩, C250, S251, C252, S253, k254, h, e1, e2⟩ := h
                  replace hC : 0 + C250 + C252 ≤ mc := by omega
                  replace hS : 0 + S251 + S253 ≤ ms := by omega
                  clear e1 e2
                  refine j_callVg (n := 0) (As := []) (rest := []) (wr := []) (c_Rd_takeOperator l D cI cB cJ cS h0 fad a_scanner_h0 a_draft_h0 a_waiting_h0 a_functions_h0 a_text_h0 a_text_a_scanner_h0 a_cells_a_draft_h0 a_cells_a_waiting_h0 fn fd fcf mode_h0 levels_h0 signs_h0 loops_h0 token_h0 fault_h0 kind_t place_t width_t second_t parts_t innerParts_t innerPlace_t innerWidth_t signs_t waitingBelow_t limited_t targets_t lastBlock_t next_a_scanner_h0 kind_a_scanner_h0 start_a_scanner_h0 width_a_scanner_h0 count_a_draft_h0 n_a_cells_a_draft_h0 b_a_cells_a_draft_h0 count_a_waiting_h0 n_a_cells_a_waiting_h0 b_a_cells_a_waiting_h0  r220 r221 r222 r223 r224 r225 r226 r227 r228 r229 r230 r231 r232 r233 r234 r235 r236 r237 r238 r239 r240 r241 r242 r243 r244 r245 C250 S251 k254) k_Rd_306 (by decide) ⟨Nat.le_of_ble_eq_true rfl, Nat.le_of_ble_eq_true rfl⟩ rfl 0 rfl (pk_app (wr := []) (w0 := [(h0, .inr (2, [.ref a_scanner_h0, .ref a_draft_h0, .ref a_waiting_h0, .ref a_functions_h0, .ref (fad 0), .ref (fad fd), .ref a_text_h0, .int mode_h0, .int levels_h0, .int signs_h0, .int loops_h0, .int token_h0, .int fault_h0])), ((fad fd), .inr (0, [(frB fad fd), (frA fad fn fd), .int kind_t, .int place_t, .int width_t, .int second_t, .int parts_t, .int innerParts_t, .int innerPlace_t, .int innerWidth_t, .int signs_t, .int waitingBelow_t, .int limited_t, .int targets_t, .int lastBlock_t])), (a_scanner_h0, .inr (4, [.ref a_text_a_scanner_h0, .int next_a_scanner_h0, .int kind_a_scanner_h0, .int start_a_scanner_h0, .int width_a_scanner_h0])), (a_draft_h0, .inr (1, [.ref a_cells_a_draft_h0, .int count_a_draft_h0])), (a_cells_a_draft_h0, .inl (cI, n_a_cells_a_draft_h0, .inl b_a_cells_a_draft_h0)), (a_waiting_h0, .inr (5, [.ref a_cells_a_waiting_h0, .int count_a_waiting_h0])), (a_cells_a_waiting_h0, .inl (cI, n_a_cells_a_waiting_h0, .inl b_a_cells_a_waiting_h0))]) (pl := fpo fad fn fd fcf) [0, 1, 4, 2, 3, 5, 6] 7 rfl rfl rfl (by decide)) rfl rfl (Nat.le_of_ble_eq_true rfl) d_Rd_standsInExpression_102 ⟨show 0 + C250 ≤ mc by omega, show 0 + S251 ≤ ms by omega⟩ (fun v w hq => ?_)
                  obtain ⟨a246, q247, q248, rfl, z249, rfl⟩ := hq
                  refine j_norm (pc' := 105) (st' := [.int r223]) (ws' := ((h0, .inr (2, [.ref a_scanner_h0, .ref a_draft_h0, .ref a_waiting_h0, .ref a_functions_h0, .ref (a246 0), .ref (a246 r221), .ref a_text_h0, .int r224, .int r225, .int r226, .int loops_h0, .int token_h0, .int fault_h0])) :: ((a246 r221), .inr (0, [(frB a246 r221), (frA a246 r220 r221), .int r227, .int r228, .int r229, .int r230, .int r231, .int r232, .int r233, .int r234, .int r235, .int r236, .int r237, .int r238, .int r239])) :: (a_scanner_h0, .inr (4, [.ref a_text_a_scanner_h0, .int next_a_scanner_h0, .int kind_a_scanner_h0, .int start_a_scanner_h0, .int width_a_scanner_h0])) :: (a_draft_h0, .inr (1, [.ref q247, .int r240])) :: (a_waiting_h0, .inr (5, [.ref q248, .int r241])) :: (q247, .inl (cI, r242, .inl r243)) :: (q248, .inl (cI, r244, .inl r245)) :: fpo a246 r220 r221 r222)) (cl' := 0 + C250) (sl' := 0 + S251) rfl rfl rfl rfl rfl rfl ?_
                  refine j_if_eq (tgt := 112) d_Rd_standsInExpression_105 (by decide) (fun c255 => ?_) (fun c255 => ?_)
                  · replace h := it_t c255 h
                    refine j_iconst (v := 0) d_Rd_standsInExpression_112 (by decide) ?_
                    replace h := lf_s h
                    obtain ⟨h, e1, e2⟩ := h
                    replace h := Prod.mk.inj h
                    obtain ⟨h9, h⟩ := h
                    subst h9
                    replace h := Prod.mk.inj h
                    obtain ⟨h9, h⟩ := h
                    subst h9
                    replace h := Prod.mk.inj h
                    obtain ⟨h9, h⟩ := h
                    subst h9
                    replace h := Prod.mk.inj h
                    obtain ⟨h9, h⟩ := h
                    subst h9
                    replace h := Prod.mk.inj h
                    obtain ⟨h9, h⟩ := h
                    subst h9
                    replace h := Prod.mk.inj h
                    obtain ⟨h9, h⟩ := h
                    subst h9
                    replace h := Prod.mk.inj h
                    obtain ⟨h9, h⟩ := h
                    subst h9
                    replace h := Prod.mk.inj h
                    obtain ⟨h9, h⟩ := h
                    subst h9
                    replace h := Prod.mk.inj h
                    obtain ⟨h9, h⟩ := h
                    subst h9
                    replace h := Prod.mk.inj h
                    obtain ⟨h9, h⟩ := h
                    subst h9
                    replace h := Prod.mk.inj h
                    obtain ⟨h9, h⟩ := h
                    subst h9
                    replace h := Prod.mk.inj h
                    obtain ⟨h9, h⟩ := h
                    subst h9
                    replace h := Prod.mk.inj h
                    obtain ⟨h9, h⟩ := h
                    subst h9
                    replace h := Prod.mk.inj h
                    obtain ⟨h9, h⟩ := h
                    subst h9
                    replace h := Prod.mk.inj h
                    obtain ⟨h9, h⟩ := h
                    subst h9
                    replace h := Prod.mk.inj h
                    obtain ⟨h9, h⟩ := h
                    subst h9
                    replace h := Prod.mk.inj h
                    obtain ⟨h9, h⟩ := h
                    subst h9
                    replace h := Prod.mk.inj h
                    obtain ⟨h9, h⟩ := h
                    subst h9
                    replace h := Prod.mk.inj h
                    obtain ⟨h9, h⟩ := h
                    subst h9
                    replace h := Prod.mk.inj h
                    obtain ⟨h9, h⟩ := h
                    subst h9
                    replace h := Prod.mk.inj h
                    obtain ⟨h9, h⟩ := h
                    subst h9
                    replace h := Prod.mk.inj h
                    obtain ⟨h9, h⟩ := h
                    subst h9
                    replace h := Prod.mk.inj h
                    obtain ⟨h9, h⟩ := h
                    subst h9
                    replace h := Prod.mk.inj h
                    obtain ⟨h9, h⟩ := h
                    subst h9
                    replace h := Prod.mk.inj h
                    obtain ⟨h9, h⟩ := h
                    subst h9
                    subst h
                    refine j_widen (cl' := mc) (sl' := ms) (by omega) (by omega) ?_
                    refine j_subP (w := [(h0, .inr (2, [.ref a_scanner_h0, .ref a_draft_h0, .ref a_waiting_h0, .ref a_functions_h0, .ref (a246 0), .ref (a246 r221), .ref a_text_h0, .int r224, .int r225, .int r226, .int loops_h0, .int token_h0, .int fault_h0])), ((a246 r221), .inr (0, [(frB a246 r221), (frA a246 r220 r221), .int r227, .int r228, .int r229, .int r230, .int r231, .int r232, .int r233, .int r234, .int r235, .int r236, .int r237, .int r238, .int r239])), (a_draft_h0, .inr (1, [.ref q247, .int r240])), (a_scanner_h0, .inr (4, [.ref a_text_a_scanner_h0, .int next_a_scanner_h0, .int kind_a_scanner_h0, .int start_a_scanner_h0, .int width_a_scanner_h0])), (a_waiting_h0, .inr (5, [.ref q248, .int r241])), (q247, .inl (cI, r242, .inl r243)), (q248, .inl (cI, r244, .inl r245))]) (pl := fpo a246 r220 r221 r222) (lv' := []) [0, 1, 3, 2, 4, 5, 6] [] 7 rfl rfl (by decide) [] rfl ?_
                    exact j_zretE hr (zb_n zb0) d_Rd_standsInExpression_113 ⟨a246, q247, q248, rfl, zb0, rfl⟩
                  · replace h := it_f c255 h
                    refine j_iconst (v := 1) d_Rd_standsInExpression_108 (by decide) ?_
                    refine j_goto (tgt := 113) d_Rd_standsInExpression_109 (by decide) ?_
                    replace h := lf_s h
                    obtain ⟨h, e1, e2⟩ := h
                    replace h := Prod.mk.inj h
                    obtain ⟨h9, h⟩ := h
                    subst h9
                    replace h := Prod.mk.inj h
                    obtain ⟨h9, h⟩ := h
                    subst h9
                    replace h := Prod.mk.inj h
                    obtain ⟨h9, h⟩ := h
                    subst h9
                    replace h := Prod.mk.inj h
                    obtain ⟨h9, h⟩ := h
                    subst h9
                    replace h := Prod.mk.inj h
                    obtain ⟨h9, h⟩ := h
                    subst h9
                    replace h := Prod.mk.inj h
                    obtain ⟨h9, h⟩ := h
                    subst h9
                    replace h := Prod.mk.inj h
                    obtain ⟨h9, h⟩ := h
                    subst h9
                    replace h := Prod.mk.inj h
                    obtain ⟨h9, h⟩ := h
                    subst h9
                    replace h := Prod.mk.inj h
                    obtain ⟨h9, h⟩ := h
                    subst h9
                    replace h := Prod.mk.inj h
                    obtain ⟨h9, h⟩ := h
                    subst h9
                    replace h := Prod.mk.inj h
                    obtain ⟨h9, h⟩ := h
                    subst h9
                    replace h := Prod.mk.inj h
                    obtain ⟨h9, h⟩ := h
                    subst h9
                    replace h := Prod.mk.inj h
                    obtain ⟨h9, h⟩ := h
                    subst h9
                    replace h := Prod.mk.inj h
                    obtain ⟨h9, h⟩ := h
                    subst h9
                    replace h := Prod.mk.inj h
                    obtain ⟨h9, h⟩ := h
                    subst h9
                    replace h := Prod.mk.inj h
                    obtain ⟨h9, h⟩ := h
                    subst h9
                    replace h := Prod.mk.inj h
                    obtain ⟨h9, h⟩ := h
                    subst h9
                    replace h := Prod.mk.inj h
                    obtain ⟨h9, h⟩ := h
                    subst h9
                    replace h := Prod.mk.inj h
                    obtain ⟨h9, h⟩ := h
                    subst h9
                    replace h := Prod.mk.inj h
                    obtain ⟨h9, h⟩ := h
                    subst h9
                    replace h := Prod.mk.inj h
                    obtain ⟨h9, h⟩ := h
                    subst h9
                    replace h := Prod.mk.inj h
                    obtain ⟨h9, h⟩ := h
                    subst h9
                    replace h := Prod.mk.inj h
                    obtain ⟨h9, h⟩ := h
                    subst h9
                    replace h := Prod.mk.inj h
                    obtain ⟨h9, h⟩ := h
                    subst h9
                    replace h := Prod.mk.inj h
                    obtain ⟨h9, h⟩ := h
                    subst h9
                    subst h
                    refine j_widen (cl' := mc) (sl' := ms) (by omega) (by omega) ?_
                    refine j_subP (w := [(h0, .inr (2, [.ref a_scanner_h0, .ref a_draft_h0, .ref a_waiting_h0, .ref a_functions_h0, .ref (a246 0), .ref (a246 r221), .ref a_text_h0, .int r224, .int r225, .int r226, .int loops_h0, .int token_h0, .int fault_h0])), ((a246 r221), .inr (0, [(frB a246 r221), (frA a246 r220 r221), .int r227, .int r228, .int r229, .int r230, .int r231, .int r232, .int r233, .int r234, .int r235, .int r236, .int r237, .int r238, .int r239])), (a_draft_h0, .inr (1, [.ref q247, .int r240])), (a_scanner_h0, .inr (4, [.ref a_text_a_scanner_h0, .int next_a_scanner_h0, .int kind_a_scanner_h0, .int start_a_scanner_h0, .int width_a_scanner_h0])), (a_waiting_h0, .inr (5, [.ref q248, .int r241])), (q247, .inl (cI, r242, .inl r243)), (q248, .inl (cI, r244, .inl r245))]) (pl := fpo a246 r220 r221 r222) (lv' := []) [0, 1, 3, 2, 4, 5, 6] [] 7 rfl rfl (by decide) [] rfl ?_
                    exact j_zretE hr (zb_n zb1) d_Rd_standsInExpression_113 ⟨a246, q247, q248, rfl, zb1, rfl⟩
            · replace h := it_f c181 h
              by_cases c256 : mode_h0 = 36
              · replace h := it_t c256 h
                refine j_tabIn (tgt := 139) (off := 135) d_Rd_standsInExpression_4 36 c256 (by decide) (by decide) (by decide) (by decide) ?_
                refine j_iconst (v := 0) d_Rd_standsInExpression_139 (by decide) ?_
                replace h := lf_s h
                obtain ⟨h, e1, e2⟩ := h
                replace h := Prod.mk.inj h
                obtain ⟨h9, h⟩ := h
                subst h9
                replace h := Prod.mk.inj h
                obtain ⟨h9, h⟩ := h
                subst h9
                replace h := Prod.mk.inj h
                obtain ⟨h9, h⟩ := h
                subst h9
                replace h := Prod.mk.inj h
                obtain ⟨h9, h⟩ := h
                subst h9
                replace h := Prod.mk.inj h
                obtain ⟨h9, h⟩ := h
                subst h9
                replace h := Prod.mk.inj h
                obtain ⟨h9, h⟩ := h
                subst h9
                replace h := Prod.mk.inj h
                obtain ⟨h9, h⟩ := h
                subst h9
                replace h := Prod.mk.inj h
                obtain ⟨h9, h⟩ := h
                subst h9
                replace h := Prod.mk.inj h
                obtain ⟨h9, h⟩ := h
                subst h9
                replace h := Prod.mk.inj h
                obtain ⟨h9, h⟩ := h
                subst h9
                replace h := Prod.mk.inj h
                obtain ⟨h9, h⟩ := h
                subst h9
                replace h := Prod.mk.inj h
                obtain ⟨h9, h⟩ := h
                subst h9
                replace h := Prod.mk.inj h
                obtain ⟨h9, h⟩ := h
                subst h9
                replace h := Prod.mk.inj h
                obtain ⟨h9, h⟩ := h
                subst h9
                replace h := Prod.mk.inj h
                obtain ⟨h9, h⟩ := h
                subst h9
                replace h := Prod.mk.inj h
                obtain ⟨h9, h⟩ := h
                subst h9
                replace h := Prod.mk.inj h
                obtain ⟨h9, h⟩ := h
                subst h9
                replace h := Prod.mk.inj h
                obtain ⟨h9, h⟩ := h
                subst h9
                replace h := Prod.mk.inj h
                obtain ⟨h9, h⟩ := h
                subst h9
                replace h := Prod.mk.inj h
                obtain ⟨h9, h⟩ := h
                subst h9
                replace h := Prod.mk.inj h
                obtain ⟨h9, h⟩ := h
                subst h9
                replace h := Prod.mk.inj h
                obtain ⟨h9, h⟩ := h
                subst h9
                replace h := Prod.mk.inj h
                obtain ⟨h9, h⟩ := h
                subst h9
                replace h := Prod.mk.inj h
                obtain ⟨h9, h⟩ := h
                subst h9
                replace h := Prod.mk.inj h
                obtain ⟨h9, h⟩ := h
                subst h9
                subst h
                refine j_widen (cl' := mc) (sl' := ms) (by omega) (by omega) ?_
                refine j_subP (w := [(h0, .inr (2, [.ref a_scanner_h0, .ref a_draft_h0, .ref a_waiting_h0, .ref a_functions_h0, .ref (fad 0), .ref (fad fd), .ref a_text_h0, .int mode_h0, .int levels_h0, .int signs_h0, .int loops_h0, .int token_h0, .int fault_h0])), ((fad fd), .inr (0, [(frB fad fd), (frA fad fn fd), .int kind_t, .int place_t, .int width_t, .int second_t, .int parts_t, .int innerParts_t, .int innerPlace_t, .int innerWidth_t, .int signs_t, .int waitingBelow_t, .int limited_t, .int targets_t, .int lastBlock_t])), (a_draft_h0, .inr (1, [.ref a_cells_a_draft_h0, .int count_a_draft_h0])), (a_scanner_h0, .inr (4, [.ref a_text_a_scanner_h0, .int next_a_scanner_h0, .int kind_a_scanner_h0, .int start_a_scanner_h0, .int width_a_scanner_h0])), (a_waiting_h0, .inr (5, [.ref a_cells_a_waiting_h0, .int count_a_waiting_h0])), (a_cells_a_draft_h0, .inl (cI, n_a_cells_a_draft_h0, .inl b_a_cells_a_draft_h0)), (a_cells_a_waiting_h0, .inl (cI, n_a_cells_a_waiting_h0, .inl b_a_cells_a_waiting_h0))]) (pl := fpo fad fn fd fcf) (lv' := []) [0, 1, 2, 4, 5, 3, 6] [] 7 rfl rfl (by decide) [] rfl ?_
                exact j_zretE hr (zb_n zb0) d_Rd_standsInExpression_140 ⟨fad, a_cells_a_draft_h0, a_cells_a_waiting_h0, rfl, zb0, rfl⟩
              · replace h := it_f c256 h
                by_cases c257 : mode_h0 = 37
                · replace h := it_t c257 h
                  refine j_tabIn (tgt := 139) (off := 135) d_Rd_standsInExpression_4 37 c257 (by decide) (by decide) (by decide) (by decide) ?_
                  refine j_iconst (v := 0) d_Rd_standsInExpression_139 (by decide) ?_
                  replace h := lf_s h
                  obtain ⟨h, e1, e2⟩ := h
                  replace h := Prod.mk.inj h
                  obtain ⟨h9, h⟩ := h
                  subst h9
                  replace h := Prod.mk.inj h
                  obtain ⟨h9, h⟩ := h
                  subst h9
                  replace h := Prod.mk.inj h
                  obtain ⟨h9, h⟩ := h
                  subst h9
                  replace h := Prod.mk.inj h
                  obtain ⟨h9, h⟩ := h
                  subst h9
                  replace h := Prod.mk.inj h
                  obtain ⟨h9, h⟩ := h
                  subst h9
                  replace h := Prod.mk.inj h
                  obtain ⟨h9, h⟩ := h
                  subst h9
                  replace h := Prod.mk.inj h
                  obtain ⟨h9, h⟩ := h
                  subst h9
                  replace h := Prod.mk.inj h
                  obtain ⟨h9, h⟩ := h
                  subst h9
                  replace h := Prod.mk.inj h
                  obtain ⟨h9, h⟩ := h
                  subst h9
                  replace h := Prod.mk.inj h
                  obtain ⟨h9, h⟩ := h
                  subst h9
                  replace h := Prod.mk.inj h
                  obtain ⟨h9, h⟩ := h
                  subst h9
                  replace h := Prod.mk.inj h
                  obtain ⟨h9, h⟩ := h
                  subst h9
                  replace h := Prod.mk.inj h
                  obtain ⟨h9, h⟩ := h
                  subst h9
                  replace h := Prod.mk.inj h
                  obtain ⟨h9, h⟩ := h
                  subst h9
                  replace h := Prod.mk.inj h
                  obtain ⟨h9, h⟩ := h
                  subst h9
                  replace h := Prod.mk.inj h
                  obtain ⟨h9, h⟩ := h
                  subst h9
                  replace h := Prod.mk.inj h
                  obtain ⟨h9, h⟩ := h
                  subst h9
                  replace h := Prod.mk.inj h
                  obtain ⟨h9, h⟩ := h
                  subst h9
                  replace h := Prod.mk.inj h
                  obtain ⟨h9, h⟩ := h
                  subst h9
                  replace h := Prod.mk.inj h
                  obtain ⟨h9, h⟩ := h
                  subst h9
                  replace h := Prod.mk.inj h
                  obtain ⟨h9, h⟩ := h
                  subst h9
                  replace h := Prod.mk.inj h
                  obtain ⟨h9, h⟩ := h
                  subst h9
                  replace h := Prod.mk.inj h
                  obtain ⟨h9, h⟩ := h
                  subst h9
                  replace h := Prod.mk.inj h
                  obtain ⟨h9, h⟩ := h
                  subst h9
                  replace h := Prod.mk.inj h
                  obtain ⟨h9, h⟩ := h
                  subst h9
                  subst h
                  refine j_widen (cl' := mc) (sl' := ms) (by omega) (by omega) ?_
                  refine j_subP (w := [(h0, .inr (2, [.ref a_scanner_h0, .ref a_draft_h0, .ref a_waiting_h0, .ref a_functions_h0, .ref (fad 0), .ref (fad fd), .ref a_text_h0, .int mode_h0, .int levels_h0, .int signs_h0, .int loops_h0, .int token_h0, .int fault_h0])), ((fad fd), .inr (0, [(frB fad fd), (frA fad fn fd), .int kind_t, .int place_t, .int width_t, .int second_t, .int parts_t, .int innerParts_t, .int innerPlace_t, .int innerWidth_t, .int signs_t, .int waitingBelow_t, .int limited_t, .int targets_t, .int lastBlock_t])), (a_draft_h0, .inr (1, [.ref a_cells_a_draft_h0, .int count_a_draft_h0])), (a_scanner_h0, .inr (4, [.ref a_text_a_scanner_h0, .int next_a_scanner_h0, .int kind_a_scanner_h0, .int start_a_scanner_h0, .int width_a_scanner_h0])), (a_waiting_h0, .inr (5, [.ref a_cells_a_waiting_h0, .int count_a_waiting_h0])), (a_cells_a_draft_h0, .inl (cI, n_a_cells_a_draft_h0, .inl b_a_cells_a_draft_h0)), (a_cells_a_waiting_h0, .inl (cI, n_a_cells_a_waiting_h0, .inl b_a_cells_a_waiting_h0))]) (pl := fpo fad fn fd fcf) (lv' := []) [0, 1, 2, 4, 5, 3, 6] [] 7 rfl rfl (by decide) [] rfl ?_
                  exact j_zretE hr (zb_n zb0) d_Rd_standsInExpression_140 ⟨fad, a_cells_a_draft_h0, a_cells_a_waiting_h0, rfl, zb0, rfl⟩
                · replace h := it_f c257 h
                  by_cases c258 : mode_h0 = 38
                  · replace h := it_t c258 h
                    refine j_tabIn (tgt := 139) (off := 135) d_Rd_standsInExpression_4 38 c258 (by decide) (by decide) (by decide) (by decide) ?_
                    refine j_iconst (v := 0) d_Rd_standsInExpression_139 (by decide) ?_
                    replace h := lf_s h
                    obtain ⟨h, e1, e2⟩ := h
                    replace h := Prod.mk.inj h
                    obtain ⟨h9, h⟩ := h
                    subst h9
                    replace h := Prod.mk.inj h
                    obtain ⟨h9, h⟩ := h
                    subst h9
                    replace h := Prod.mk.inj h
                    obtain ⟨h9, h⟩ := h
                    subst h9
                    replace h := Prod.mk.inj h
                    obtain ⟨h9, h⟩ := h
                    subst h9
                    replace h := Prod.mk.inj h
                    obtain ⟨h9, h⟩ := h
                    subst h9
                    replace h := Prod.mk.inj h
                    obtain ⟨h9, h⟩ := h
                    subst h9
                    replace h := Prod.mk.inj h
                    obtain ⟨h9, h⟩ := h
                    subst h9
                    replace h := Prod.mk.inj h
                    obtain ⟨h9, h⟩ := h
                    subst h9
                    replace h := Prod.mk.inj h
                    obtain ⟨h9, h⟩ := h
                    subst h9
                    replace h := Prod.mk.inj h
                    obtain ⟨h9, h⟩ := h
                    subst h9
                    replace h := Prod.mk.inj h
                    obtain ⟨h9, h⟩ := h
                    subst h9
                    replace h := Prod.mk.inj h
                    obtain ⟨h9, h⟩ := h
                    subst h9
                    replace h := Prod.mk.inj h
                    obtain ⟨h9, h⟩ := h
                    subst h9
                    replace h := Prod.mk.inj h
                    obtain ⟨h9, h⟩ := h
                    subst h9
                    replace h := Prod.mk.inj h
                    obtain ⟨h9, h⟩ := h
                    subst h9
                    replace h := Prod.mk.inj h
                    obtain ⟨h9, h⟩ := h
                    subst h9
                    replace h := Prod.mk.inj h
                    obtain ⟨h9, h⟩ := h
                    subst h9
                    replace h := Prod.mk.inj h
                    obtain ⟨h9, h⟩ := h
                    subst h9
                    replace h := Prod.mk.inj h
                    obtain ⟨h9, h⟩ := h
                    subst h9
                    replace h := Prod.mk.inj h
                    obtain ⟨h9, h⟩ := h
                    subst h9
                    replace h := Prod.mk.inj h
                    obtain ⟨h9, h⟩ := h
                    subst h9
                    replace h := Prod.mk.inj h
                    obtain ⟨h9, h⟩ := h
                    subst h9
                    replace h := Prod.mk.inj h
                    obtain ⟨h9, h⟩ := h
                    subst h9
                    replace h := Prod.mk.inj h
                    obtain ⟨h9, h⟩ := h
                    subst h9
                    replace h := Prod.mk.inj h
                    obtain ⟨h9, h⟩ := h
                    subst h9
                    subst h
                    refine j_widen (cl' := mc) (sl' := ms) (by omega) (by omega) ?_
                    refine j_subP (w := [(h0, .inr (2, [.ref a_scanner_h0, .ref a_draft_h0, .ref a_waiting_h0, .ref a_functions_h0, .ref (fad 0), .ref (fad fd), .ref a_text_h0, .int mode_h0, .int levels_h0, .int signs_h0, .int loops_h0, .int token_h0, .int fault_h0])), ((fad fd), .inr (0, [(frB fad fd), (frA fad fn fd), .int kind_t, .int place_t, .int width_t, .int second_t, .int parts_t, .int innerParts_t, .int innerPlace_t, .int innerWidth_t, .int signs_t, .int waitingBelow_t, .int limited_t, .int targets_t, .int lastBlock_t])), (a_draft_h0, .inr (1, [.ref a_cells_a_draft_h0, .int count_a_draft_h0])), (a_scanner_h0, .inr (4, [.ref a_text_a_scanner_h0, .int next_a_scanner_h0, .int kind_a_scanner_h0, .int start_a_scanner_h0, .int width_a_scanner_h0])), (a_waiting_h0, .inr (5, [.ref a_cells_a_waiting_h0, .int count_a_waiting_h0])), (a_cells_a_draft_h0, .inl (cI, n_a_cells_a_draft_h0, .inl b_a_cells_a_draft_h0)), (a_cells_a_waiting_h0, .inl (cI, n_a_cells_a_waiting_h0, .inl b_a_cells_a_waiting_h0))]) (pl := fpo fad fn fd fcf) (lv' := []) [0, 1, 2, 4, 5, 3, 6] [] 7 rfl rfl (by decide) [] rfl ?_
                    exact j_zretE hr (zb_n zb0) d_Rd_standsInExpression_140 ⟨fad, a_cells_a_draft_h0, a_cells_a_waiting_h0, rfl, zb0, rfl⟩
                  · replace h := it_f c258 h
                    by_cases c259 : mode_h0 = 39
                    · replace h := it_t c259 h
                      refine j_tabIn (tgt := 139) (off := 135) d_Rd_standsInExpression_4 39 c259 (by decide) (by decide) (by decide) (by decide) ?_
                      refine j_iconst (v := 0) d_Rd_standsInExpression_139 (by decide) ?_
                      replace h := lf_s h
                      obtain ⟨h, e1, e2⟩ := h
                      replace h := Prod.mk.inj h
                      obtain ⟨h9, h⟩ := h
                      subst h9
                      replace h := Prod.mk.inj h
                      obtain ⟨h9, h⟩ := h
                      subst h9
                      replace h := Prod.mk.inj h
                      obtain ⟨h9, h⟩ := h
                      subst h9
                      replace h := Prod.mk.inj h
                      obtain ⟨h9, h⟩ := h
                      subst h9
                      replace h := Prod.mk.inj h
                      obtain ⟨h9, h⟩ := h
                      subst h9
                      replace h := Prod.mk.inj h
                      obtain ⟨h9, h⟩ := h
                      subst h9
                      replace h := Prod.mk.inj h
                      obtain ⟨h9, h⟩ := h
                      subst h9
                      replace h := Prod.mk.inj h
                      obtain ⟨h9, h⟩ := h
                      subst h9
                      replace h := Prod.mk.inj h
                      obtain ⟨h9, h⟩ := h
                      subst h9
                      replace h := Prod.mk.inj h
                      obtain ⟨h9, h⟩ := h
                      subst h9
                      replace h := Prod.mk.inj h
                      obtain ⟨h9, h⟩ := h
                      subst h9
                      replace h := Prod.mk.inj h
                      obtain ⟨h9, h⟩ := h
                      subst h9
                      replace h := Prod.mk.inj h
                      obtain ⟨h9, h⟩ := h
                      subst h9
                      replace h := Prod.mk.inj h
                      obtain ⟨h9, h⟩ := h
                      subst h9
                      replace h := Prod.mk.inj h
                      obtain ⟨h9, h⟩ := h
                      subst h9
                      replace h := Prod.mk.inj h
                      obtain ⟨h9, h⟩ := h
                      subst h9
                      replace h := Prod.mk.inj h
                      obtain ⟨h9, h⟩ := h
                      subst h9
                      replace h := Prod.mk.inj h
                      obtain ⟨h9, h⟩ := h
                      subst h9
                      replace h := Prod.mk.inj h
                      obtain ⟨h9, h⟩ := h
                      subst h9
                      replace h := Prod.mk.inj h
                      obtain ⟨h9, h⟩ := h
                      subst h9
                      replace h := Prod.mk.inj h
                      obtain ⟨h9, h⟩ := h
                      subst h9
                      replace h := Prod.mk.inj h
                      obtain ⟨h9, h⟩ := h
                      subst h9
                      replace h := Prod.mk.inj h
                      obtain ⟨h9, h⟩ := h
                      subst h9
                      replace h := Prod.mk.inj h
                      obtain ⟨h9, h⟩ := h
                      subst h9
                      replace h := Prod.mk.inj h
                      obtain ⟨h9, h⟩ := h
                      subst h9
                      subst h
                      refine j_widen (cl' := mc) (sl' := ms) (by omega) (by omega) ?_
                      refine j_subP (w := [(h0, .inr (2, [.ref a_scanner_h0, .ref a_draft_h0, .ref a_waiting_h0, .ref a_functions_h0, .ref (fad 0), .ref (fad fd), .ref a_text_h0, .int mode_h0, .int levels_h0, .int signs_h0, .int loops_h0, .int token_h0, .int fault_h0])), ((fad fd), .inr (0, [(frB fad fd), (frA fad fn fd), .int kind_t, .int place_t, .int width_t, .int second_t, .int parts_t, .int innerParts_t, .int innerPlace_t, .int innerWidth_t, .int signs_t, .int waitingBelow_t, .int limited_t, .int targets_t, .int lastBlock_t])), (a_draft_h0, .inr (1, [.ref a_cells_a_draft_h0, .int count_a_draft_h0])), (a_scanner_h0, .inr (4, [.ref a_text_a_scanner_h0, .int next_a_scanner_h0, .int kind_a_scanner_h0, .int start_a_scanner_h0, .int width_a_scanner_h0])), (a_waiting_h0, .inr (5, [.ref a_cells_a_waiting_h0, .int count_a_waiting_h0])), (a_cells_a_draft_h0, .inl (cI, n_a_cells_a_draft_h0, .inl b_a_cells_a_draft_h0)), (a_cells_a_waiting_h0, .inl (cI, n_a_cells_a_waiting_h0, .inl b_a_cells_a_waiting_h0))]) (pl := fpo fad fn fd fcf) (lv' := []) [0, 1, 2, 4, 5, 3, 6] [] 7 rfl rfl (by decide) [] rfl ?_
                      exact j_zretE hr (zb_n zb0) d_Rd_standsInExpression_140 ⟨fad, a_cells_a_draft_h0, a_cells_a_waiting_h0, rfl, zb0, rfl⟩
                    · replace h := it_f c259 h
                      by_cases c260 : mode_h0 = 40
                      · replace h := it_t c260 h
                        refine j_tabIn (tgt := 114) (off := 110) d_Rd_standsInExpression_4 40 c260 (by decide) (by decide) (by decide) (by decide) ?_
                        refine j_aload_n d_Rd_standsInExpression_114 rfl 0 rfl ?_
                        obtain ⟨⟨r261, r262⟩, k264⟩ : ∃ z, (F_Rd_goDeeper mode_h0 levels_h0 signs_h0 loops_h0 token_h0 fault_h0) = z := ⟨_, rfl⟩
                        replace h := nm_at k264 h
                        refine j_callVg (n := 0) (As := []) (rest := []) (wr := ([((fad fd), .inr (0, [(frB fad fd), (frA fad fn fd), .int kind_t, .int place_t, .int width_t, .int second_t, .int parts_t, .int innerParts_t, .int innerPlace_t, .int innerWidth_t, .int signs_t, .int waitingBelow_t, .int limited_t, .int targets_t, .int lastBlock_t])), (a_draft_h0, .inr (1, [.ref a_cells_a_draft_h0, .int count_a_draft_h0])), (a_cells_a_draft_h0, .inl (cI, n_a_cells_a_draft_h0, .inl b_a_cells_a_draft_h0)), (a_scanner_h0, .inr (4, [.ref a_text_a_scanner_h0, .int next_a_scanner_h0, .int kind_a_scanner_h0, .int start_a_scanner_h0, .int width_a_scanner_h0])), (a_waiting_h0, .inr (5, [.ref a_cells_a_waiting_h0, .int count_a_waiting_h0])), (a_cells_a_waiting_h0, .inl (cI, n_a_cells_a_waiting_h0, .inl b_a_cells_a_waiting_h0))] ++ fpo fad fn fd fcf)) (c_Rd_goDeeper l D cI cB cJ cS h0 a_scanner_h0 a_draft_h0 a_waiting_h0 a_functions_h0 (fad 0) (fad fd) a_text_h0 mode_h0 levels_h0 signs_h0 loops_h0 token_h0 fault_h0  r261 r262 k264) k_Rd_186 (by decide) ⟨Nat.le_of_ble_eq_true rfl, Nat.le_of_ble_eq_true rfl⟩ rfl 0 rfl (pk_mid (wr := [((fad fd), .inr (0, [(frB fad fd), (frA fad fn fd), .int kind_t, .int place_t, .int width_t, .int second_t, .int parts_t, .int innerParts_t, .int innerPlace_t, .int innerWidth_t, .int signs_t, .int waitingBelow_t, .int limited_t, .int targets_t, .int lastBlock_t])), (a_draft_h0, .inr (1, [.ref a_cells_a_draft_h0, .int count_a_draft_h0])), (a_cells_a_draft_h0, .inl (cI, n_a_cells_a_draft_h0, .inl b_a_cells_a_draft_h0)), (a_scanner_h0, .inr (4, [.ref a_text_a_scanner_h0, .int next_a_scanner_h0, .int kind_a_scanner_h0, .int start_a_scanner_h0, .int width_a_scanner_h0])), (a_waiting_h0, .inr (5, [.ref a_cells_a_waiting_h0, .int count_a_waiting_h0])), (a_cells_a_waiting_h0, .inl (cI, n_a_cells_a_waiting_h0, .inl b_a_cells_a_waiting_h0))]) (w0 := [(h0, .inr (2, [.ref a_scanner_h0, .ref a_draft_h0, .ref a_waiting_h0, .ref a_functions_h0, .ref (fad 0), .ref (fad fd), .ref a_text_h0, .int mode_h0, .int levels_h0, .int signs_h0, .int loops_h0, .int token_h0, .int fault_h0]))]) (pl := fpo fad fn fd fcf) [1, 2, 3, 4, 5, 6, 0] 7 rfl rfl (by decide)) rfl rfl (Nat.le_of_ble_eq_true rfl) d_Rd_standsInExpression_115 ⟨show 0 + 0 ≤ mc by omega, show 0 + 0 ≤ ms by omega⟩ (fun v w hq => ?_)
                        obtain ⟨rfl, z263, rfl⟩ := hq
                        refine j_perm (ws' := (((fad fd), .inr (0, [(frB fad fd), (frA fad fn fd), .int kind_t, .int place_t, .int width_t, .int second_t, .int parts_t, .int innerParts_t, .int innerPlace_t, .int innerWidth_t, .int signs_t, .int waitingBelow_t, .int limited_t, .int targets_t, .int lastBlock_t])) :: (a_draft_h0, .inr (1, [.ref a_cells_a_draft_h0, .int count_a_draft_h0])) :: (a_cells_a_draft_h0, .inl (cI, n_a_cells_a_draft_h0, .inl b_a_cells_a_draft_h0)) :: (a_scanner_h0, .inr (4, [.ref a_text_a_scanner_h0, .int next_a_scanner_h0, .int kind_a_scanner_h0, .int start_a_scanner_h0, .int width_a_scanner_h0])) :: (a_waiting_h0, .inr (5, [.ref a_cells_a_waiting_h0, .int count_a_waiting_h0])) :: (a_cells_a_waiting_h0, .inl (cI, n_a_cells_a_waiting_h0, .inl b_a_cells_a_waiting_h0)) :: (h0, .inr (2, [.ref a_scanner_h0, .ref a_draft_h0, .ref a_waiting_h0, .ref a_functions_h0, .ref (fad 0), .ref (fad fd), .ref a_text_h0, .int mode_h0, .int r262, .int signs_h0, .int loops_h0, .int token_h0, .int fault_h0])) :: fpo fad fn fd fcf)) (pm_eq (a := [((fad fd), .inr (0, [(frB fad fd), (frA fad fn fd), .int kind_t, .int place_t, .int width_t, .int second_t, .int parts_t, .int innerParts_t, .int innerPlace_t, .int innerWidth_t, .int signs_t, .int waitingBelow_t, .int limited_t, .int targets_t, .int lastBlock_t])), (a_draft_h0, .inr (1, [.ref a_cells_a_draft_h0, .int count_a_draft_h0])), (a_cells_a_draft_h0, .inl (cI, n_a_cells_a_draft_h0, .inl b_a_cells_a_draft_h0)), (a_scanner_h0, .inr (4, [.ref a_text_a_scanner_h0, .int next_a_scanner_h0, .int kind_a_scanner_h0, .int start_a_scanner_h0, .int width_a_scanner_h0])), (a_waiting_h0, .inr (5, [.ref a_cells_a_waiting_h0, .int count_a_waiting_h0])), (a_cells_a_waiting_h0, .inl (cI, n_a_cells_a_waiting_h0, .inl b_a_cells_a_waiting_h0))]) (b := fpo fad fn fd fcf) (c := [(h0, .inr (2, [.ref a_scanner_h0, .ref a_draft_h0, .ref a_waiting_h0, .ref a_functions_h0, .ref (fad 0), .ref (fad fd), .ref a_text_h0, .int mode_h0, .int r262, .int signs_h0, .int loops_h0, .int token_h0, .int fault_h0]))]) rfl) ?_
                        refine j_norm (pc' := 118) (st' := [.int r261]) (ws' := (((fad fd), .inr (0, [(frB fad fd), (frA fad fn fd), .int kind_t, .int place_t, .int width_t, .int second_t, .int parts_t, .int innerParts_t, .int innerPlace_t, .int innerWidth_t, .int signs_t, .int waitingBelow_t, .int limited_t, .int targets_t, .int lastBlock_t])) :: (a_draft_h0, .inr (1, [.ref a_cells_a_draft_h0, .int count_a_draft_h0])) :: (a_cells_a_draft_h0, .inl (cI, n_a_cells_a_draft_h0, .inl b_a_cells_a_draft_h0)) :: (a_scanner_h0, .inr (4, [.ref a_text_a_scanner_h0, .int next_a_scanner_h0, .int kind_a_scanner_h0, .int start_a_scanner_h0, .int width_a_scanner_h0])) :: (a_waiting_h0, .inr (5, [.ref a_cells_a_waiting_h0, .int count_a_waiting_h0])) :: (a_cells_a_waiting_h0, .inl (cI, n_a_cells_a_waiting_h0, .inl b_a_cells_a_waiting_h0)) :: (h0, .inr (2, [.ref a_scanner_h0, .ref a_draft_h0, .ref a_waiting_h0, .ref a_functions_h0, .ref (fad 0), .ref (fad fd), .ref a_text_h0, .int mode_h0, .int r262, .int signs_h0, .int loops_h0, .int token_h0, .int fault_h0])) :: fpo fad fn fd fcf)) (cl' := 0) (sl' := 0) rfl rfl rfl rfl rfl rfl ?_
                        refine j_if_eq (tgt := 132) d_Rd_standsInExpression_118 (by decide) (fun c265 => ?_) (fun c265 => ?_)
                        · replace h := it_t c265 h
                          refine j_iconst (v := 0) d_Rd_standsInExpression_132 (by decide) ?_
                          replace h := lf_s h
                          obtain ⟨h, e1, e2⟩ := h
                          replace h := Prod.mk.inj h
                          obtain ⟨h9, h⟩ := h
                          subst h9
                          replace h := Prod.mk.inj h
                          obtain ⟨h9, h⟩ := h
                          subst h9
                          replace h := Prod.mk.inj h
                          obtain ⟨h9, h⟩ := h
                          subst h9
                          replace h := Prod.mk.inj h
                          obtain ⟨h9, h⟩ := h
                          subst h9
                          replace h := Prod.mk.inj h
                          obtain ⟨h9, h⟩ := h
                          subst h9
                          replace h := Prod.mk.inj h
                          obtain ⟨h9, h⟩ := h
                          subst h9
                          replace h := Prod.mk.inj h
                          obtain ⟨h9, h⟩ := h
                          subst h9
                          replace h := Prod.mk.inj h
                          obtain ⟨h9, h⟩ := h
                          subst h9
                          replace h := Prod.mk.inj h
                          obtain ⟨h9, h⟩ := h
                          subst h9
                          replace h := Prod.mk.inj h
                          obtain ⟨h9, h⟩ := h
                          subst h9
                          replace h := Prod.mk.inj h
                          obtain ⟨h9, h⟩ := h
                          subst h9
                          replace h := Prod.mk.inj h
                          obtain ⟨h9, h⟩ := h
                          subst h9
                          replace h := Prod.mk.inj h
                          obtain ⟨h9, h⟩ := h
                          subst h9
                          replace h := Prod.mk.inj h
                          obtain ⟨h9, h⟩ := h
                          subst h9
                          replace h := Prod.mk.inj h
                          obtain ⟨h9, h⟩ := h
                          subst h9
                          replace h := Prod.mk.inj h
                          obtain ⟨h9, h⟩ := h
                          subst h9
                          replace h := Prod.mk.inj h
                          obtain ⟨h9, h⟩ := h
                          subst h9
                          replace h := Prod.mk.inj h
                          obtain ⟨h9, h⟩ := h
                          subst h9
                          replace h := Prod.mk.inj h
                          obtain ⟨h9, h⟩ := h
                          subst h9
                          replace h := Prod.mk.inj h
                          obtain ⟨h9, h⟩ := h
                          subst h9
                          replace h := Prod.mk.inj h
                          obtain ⟨h9, h⟩ := h
                          subst h9
                          replace h := Prod.mk.inj h
                          obtain ⟨h9, h⟩ := h
                          subst h9
                          replace h := Prod.mk.inj h
                          obtain ⟨h9, h⟩ := h
                          subst h9
                          replace h := Prod.mk.inj h
                          obtain ⟨h9, h⟩ := h
                          subst h9
                          replace h := Prod.mk.inj h
                          obtain ⟨h9, h⟩ := h
                          subst h9
                          subst h
                          refine j_widen (cl' := mc) (sl' := ms) (by omega) (by omega) ?_
                          refine j_subP (w := [(h0, .inr (2, [.ref a_scanner_h0, .ref a_draft_h0, .ref a_waiting_h0, .ref a_functions_h0, .ref (fad 0), .ref (fad fd), .ref a_text_h0, .int mode_h0, .int r262, .int signs_h0, .int loops_h0, .int token_h0, .int fault_h0])), ((fad fd), .inr (0, [(frB fad fd), (frA fad fn fd), .int kind_t, .int place_t, .int width_t, .int second_t, .int parts_t, .int innerParts_t, .int innerPlace_t, .int innerWidth_t, .int signs_t, .int waitingBelow_t, .int limited_t, .int targets_t, .int lastBlock_t])), (a_draft_h0, .inr (1, [.ref a_cells_a_draft_h0, .int count_a_draft_h0])), (a_scanner_h0, .inr (4, [.ref a_text_a_scanner_h0, .int next_a_scanner_h0, .int kind_a_scanner_h0, .int start_a_scanner_h0, .int width_a_scanner_h0])), (a_waiting_h0, .inr (5, [.ref a_cells_a_waiting_h0, .int count_a_waiting_h0])), (a_cells_a_draft_h0, .inl (cI, n_a_cells_a_draft_h0, .inl b_a_cells_a_draft_h0)), (a_cells_a_waiting_h0, .inl (cI, n_a_cells_a_waiting_h0, .inl b_a_cells_a_waiting_h0))]) (pl := fpo fad fn fd fcf) (lv' := []) [6, 0, 1, 3, 4, 2, 5] [] 7 rfl rfl (by decide) [] rfl ?_
                          exact j_zretE hr (zb_n zb0) d_Rd_standsInExpression_133 ⟨fad, a_cells_a_draft_h0, a_cells_a_waiting_h0, rfl, zb0, rfl⟩
                        · replace h := it_f c265 h
                          refine j_aload_n d_Rd_standsInExpression_121 rfl 0 rfl ?_
                          replace h := bw_s h
                          obtain ⟨⟨r266, r267, r268, r269, r270, r271⟩, C273, S274, C275, S276, k277, h, e1, e2⟩ := h
                          replace hC : 0 + C273 + C275 ≤ mc := by omega
                          replace hS : 0 + S274 + S276 ≤ ms := by omega
                          clear e1 e2
                          refine j_callVg (n := 0) (As := []) (rest := []) (wr := [(a_cells_a_waiting_h0, .inl (cI, n_a_cells_a_waiting_h0, .inl b_a_cells_a_waiting_h0))]) (c_Rd_openArguments l D cI cB cJ cS h0 fad a_scanner_h0 a_draft_h0 a_waiting_h0 a_functions_h0 a_text_h0 a_cells_a_draft_h0 a_text_a_scanner_h0 a_cells_a_waiting_h0 fn fd fcf mode_h0 r262 signs_h0 loops_h0 token_h0 fault_h0 kind_t place_t width_t second_t parts_t innerParts_t innerPlace_t innerWidth_t signs_t waitingBelow_t limited_t targets_t lastBlock_t count_a_draft_h0 n_a_cells_a_draft_h0 b_a_cells_a_draft_h0 next_a_scanner_h0 kind_a_scanner_h0 start_a_scanner_h0 width_a_scanner_h0 count_a_waiting_h0  r266 r267 r268 r269 r270 r271 C273 S274 k277) k_Rd_309 (by decide) ⟨Nat.le_of_ble_eq_true rfl, Nat.le_of_ble_eq_true rfl⟩ rfl 0 rfl (pk_app (wr := [(a_cells_a_waiting_h0, .inl (cI, n_a_cells_a_waiting_h0, .inl b_a_cells_a_waiting_h0))]) (w0 := [(h0, .inr (2, [.ref a_scanner_h0, .ref a_draft_h0, .ref a_waiting_h0, .ref a_functions_h0, .ref (fad 0), .ref (fad fd), .ref a_text_h0, .int mode_h0, .int r262, .int signs_h0, .int loops_h0, .int token_h0, .int fault_h0])), ((fad fd), .inr (0, [(frB fad fd), (frA fad fn fd), .int kind_t, .int place_t, .int width_t, .int second_t, .int parts_t, .int innerParts_t, .int innerPlace_t, .int innerWidth_t, .int signs_t, .int waitingBelow_t, .int limited_t, .int targets_t, .int lastBlock_t])), (a_draft_h0, .inr (1, [.ref a_cells_a_draft_h0, .int count_a_draft_h0])), (a_cells_a_draft_h0, .inl (cI, n_a_cells_a_draft_h0, .inl b_a_cells_a_draft_h0)), (a_scanner_h0, .inr (4, [.ref a_text_a_scanner_h0, .int next_a_scanner_h0, .int kind_a_scanner_h0, .int start_a_scanner_h0, .int width_a_scanner_h0])), (a_waiting_h0, .inr (5, [.ref a_cells_a_waiting_h0, .int count_a_waiting_h0]))]) (pl := fpo fad fn fd fcf) [5, 6, 0, 1, 2, 3, 4] 7 rfl rfl rfl (by decide)) rfl rfl (Nat.le_of_ble_eq_true rfl) d_Rd_standsInExpression_122 ⟨show 0 + C273 ≤ mc by omega, show 0 + S274 ≤ ms by omega⟩ (fun v w hq => ?_)
                          obtain ⟨a272, rfl, _, rfl⟩ := hq
                          refine j_norm (pc' := 125) (st' := [.int 1]) (ws' := ((a_cells_a_waiting_h0, .inl (cI, n_a_cells_a_waiting_h0, .inl b_a_cells_a_waiting_h0)) :: (h0, .inr (2, [.ref a_scanner_h0, .ref a_draft_h0, .ref a_waiting_h0, .ref a_functions_h0, .ref (a272 0), .ref (a272 r267), .ref a_text_h0, .int 30, .int r262, .int 0, .int loops_h0, .int token_h0, .int fault_h0])) :: ((a272 r267), .inr (0, [(frB a272 r267), (frA a272 r266 r267), .int 33, .int r269, .int r270, .int start_a_scanner_h0, .int 0, .int 0, .int start_a_scanner_h0, .int width_a_scanner_h0, .int signs_h0, .int count_a_waiting_h0, .int 0, .int 0, .int 0])) :: (a_draft_h0, .inr (1, [.ref a_cells_a_draft_h0, .int r271])) :: (a_cells_a_draft_h0, .inl (cI, n_a_cells_a_draft_h0, .inl b_a_cells_a_draft_h0)) :: (a_scanner_h0, .inr (4, [.ref a_text_a_scanner_h0, .int next_a_scanner_h0, .int kind_a_scanner_h0, .int start_a_scanner_h0, .int width_a_scanner_h0])) :: (a_waiting_h0, .inr (5, [.ref a_cells_a_waiting_h0, .int count_a_waiting_h0])) :: fpo a272 r266 r267 r268)) (cl' := 0 + C273) (sl' := 0 + S274) rfl rfl rfl rfl rfl rfl ?_
                          refine j_if_eq (tgt := 132) d_Rd_standsInExpression_125 (by decide) (fun c278 => absurd c278 (by decide)) (fun c278 => ?_)
                          refine j_iconst (v := 1) d_Rd_standsInExpression_128 (by decide) ?_
                          refine j_goto (tgt := 133) d_Rd_standsInExpression_129 (by decide) ?_
                          replace h := lf_s h
                          obtain ⟨h, e1, e2⟩ := h
                          replace h := Prod.mk.inj h
                          obtain ⟨h9, h⟩ := h
                          subst h9
                          replace h := Prod.mk.inj h
                          obtain ⟨h9, h⟩ := h
                          subst h9
                          replace h := Prod.mk.inj h
                          obtain ⟨h9, h⟩ := h
                          subst h9
                          replace h := Prod.mk.inj h
                          obtain ⟨h9, h⟩ := h
                          subst h9
                          replace h := Prod.mk.inj h
                          obtain ⟨h9, h⟩ := h
                          subst h9
                          replace h := Prod.mk.inj h
                          obtain ⟨h9, h⟩ := h
                          subst h9
                          replace h := Prod.mk.inj h
                          obtain ⟨h9, h⟩ := h
                          subst h9
                          replace h := Prod.mk.inj h
                          obtain ⟨h9, h⟩ := h
                          subst h9
                          replace h := Prod.mk.inj h
                          obtain ⟨h9, h⟩ := h
                          subst h9
                          replace h := Prod.mk.inj h
                          obtain ⟨h9, h⟩ := h
                          subst h9
                          replace h := Prod.mk.inj h
                          obtain ⟨h9, h⟩ := h
                          subst h9
                          replace h := Prod.mk.inj h
                          obtain ⟨h9, h⟩ := h
                          subst h9
                          replace h := Prod.mk.inj h
                          obtain ⟨h9, h⟩ := h
                          subst h9
                          replace h := Prod.mk.inj h
                          obtain ⟨h9, h⟩ := h
                          subst h9
                          replace h := Prod.mk.inj h
                          obtain ⟨h9, h⟩ := h
                          subst h9
                          replace h := Prod.mk.inj h
                          obtain ⟨h9, h⟩ := h
                          subst h9
                          replace h := Prod.mk.inj h
                          obtain ⟨h9, h⟩ := h
                          subst h9
                          replace h := Prod.mk.inj h
                          obtain ⟨h9, h⟩ := h
                          subst h9
                          replace h := Prod.mk.inj h
                          obtain ⟨h9, h⟩ := h
                          subst h9
                          replace h := Prod.mk.inj h
                          obtain ⟨h9, h⟩ := h
                          subst h9
                          replace h := Prod.mk.inj h
                          obtain ⟨h9, h⟩ := h
                          subst h9
                          replace h := Prod.mk.inj h
                          obtain ⟨h9, h⟩ := h
                          subst h9
                          replace h := Prod.mk.inj h
                          obtain ⟨h9, h⟩ := h
                          subst h9
                          replace h := Prod.mk.inj h
                          obtain ⟨h9, h⟩ := h
                          subst h9
                          replace h := Prod.mk.inj h
                          obtain ⟨h9, h⟩ := h
                          subst h9
                          subst h
                          refine j_widen (cl' := mc) (sl' := ms) (by omega) (by omega) ?_
                          refine j_subP (w := [(h0, .inr (2, [.ref a_scanner_h0, .ref a_draft_h0, .ref a_waiting_h0, .ref a_functions_h0, .ref (a272 0), .ref (a272 r267), .ref a_text_h0, .int 30, .int r262, .int 0, .int loops_h0, .int token_h0, .int fault_h0])), ((a272 r267), .inr (0, [(frB a272 r267), (frA a272 r266 r267), .int 33, .int r269, .int r270, .int start_a_scanner_h0, .int 0, .int 0, .int start_a_scanner_h0, .int width_a_scanner_h0, .int signs_h0, .int count_a_waiting_h0, .int 0, .int 0, .int 0])), (a_draft_h0, .inr (1, [.ref a_cells_a_draft_h0, .int r271])), (a_scanner_h0, .inr (4, [.ref a_text_a_scanner_h0, .int next_a_scanner_h0, .int kind_a_scanner_h0, .int start_a_scanner_h0, .int width_a_scanner_h0])), (a_waiting_h0, .inr (5, [.ref a_cells_a_waiting_h0, .int count_a_waiting_h0])), (a_cells_a_draft_h0, .inl (cI, n_a_cells_a_draft_h0, .inl b_a_cells_a_draft_h0)), (a_cells_a_waiting_h0, .inl (cI, n_a_cells_a_waiting_h0, .inl b_a_cells_a_waiting_h0))]) (pl := fpo a272 r266 r267 r268) (lv' := []) [1, 2, 3, 5, 6, 4, 0] [] 7 rfl rfl (by decide) [] rfl ?_
                          exact j_zretE hr (zb_n zb1) d_Rd_standsInExpression_133 ⟨a272, a_cells_a_draft_h0, a_cells_a_waiting_h0, rfl, zb1, rfl⟩
                      · replace h := it_f c260 h
                        by_cases c279 : mode_h0 = 41
                        · replace h := it_t c279 h
                          refine j_tabIn (tgt := 134) (off := 130) d_Rd_standsInExpression_4 41 c279 (by decide) (by decide) (by decide) (by decide) ?_
                          refine j_aload_n d_Rd_standsInExpression_134 rfl 0 rfl ?_
                          replace h := bw_s h
                          obtain ⟨⟨r280, r281, r282, r283⟩, C285, S286, C287, S288, k289, h, e1, e2⟩ := h
                          replace hC : 0 + C285 + C287 ≤ mc := by omega
                          replace hS : 0 + S286 + S288 ≤ ms := by omega
                          clear e1 e2
                          refine j_callVg (n := 0) (As := []) (rest := []) (wr := ([(a_waiting_h0, .inr (5, [.ref a_cells_a_waiting_h0, .int count_a_waiting_h0])), (a_cells_a_waiting_h0, .inl (cI, n_a_cells_a_waiting_h0, .inl b_a_cells_a_waiting_h0))] ++ fpo fad fn fd fcf)) (c_Rd_turnRowsToTargets l D cI cB cJ cS h0 a_scanner_h0 a_draft_h0 a_waiting_h0 a_functions_h0 (fad 0) (fad fd) a_text_h0 (frB fad fd) (frA fad fn fd) a_cells_a_draft_h0 a_text_a_scanner_h0 mode_h0 levels_h0 signs_h0 loops_h0 token_h0 fault_h0 kind_t place_t width_t second_t parts_t innerParts_t innerPlace_t innerWidth_t signs_t waitingBelow_t limited_t targets_t lastBlock_t count_a_draft_h0 n_a_cells_a_draft_h0 b_a_cells_a_draft_h0 next_a_scanner_h0 kind_a_scanner_h0 start_a_scanner_h0 width_a_scanner_h0  r280 r281 r282 r283 C285 S286 k289) k_Rd_312 (by decide) ⟨Nat.le_of_ble_eq_true rfl, Nat.le_of_ble_eq_true rfl⟩ rfl 0 rfl (pk_mid (wr := [(a_waiting_h0, .inr (5, [.ref a_cells_a_waiting_h0, .int count_a_waiting_h0])), (a_cells_a_waiting_h0, .inl (cI, n_a_cells_a_waiting_h0, .inl b_a_cells_a_waiting_h0))]) (w0 := [(h0, .inr (2, [.ref a_scanner_h0, .ref a_draft_h0, .ref a_waiting_h0, .ref a_functions_h0, .ref (fad 0), .ref (fad fd), .ref a_text_h0, .int mode_h0, .int levels_h0, .int signs_h0, .int loops_h0, .int token_h0, .int fault_h0])), ((fad fd), .inr (0, [(frB fad fd), (frA fad fn fd), .int kind_t, .int place_t, .int width_t, .int second_t, .int parts_t, .int innerParts_t, .int innerPlace_t, .int innerWidth_t, .int signs_t, .int waitingBelow_t, .int limited_t, .int targets_t, .int lastBlock_t])), (a_draft_h0, .inr (1, [.ref a_cells_a_draft_h0, .int count_a_draft_h0])), (a_cells_a_draft_h0, .inl (cI, n_a_cells_a_draft_h0, .inl b_a_cells_a_draft_h0)), (a_scanner_h0, .inr (4, [.ref a_text_a_scanner_h0, .int next_a_scanner_h0, .int kind_a_scanner_h0, .int start_a_scanner_h0, .int width_a_scanner_h0]))]) (pl := fpo fad fn fd fcf) [5, 6, 0, 1, 2, 3, 4] 7 rfl rfl (by decide)) rfl rfl (Nat.le_of_ble_eq_true rfl) d_Rd_standsInExpression_135 ⟨show 0 + C285 ≤ mc by omega, show 0 + S286 ≤ ms by omega⟩ (fun v w hq => ?_)
                          obtain ⟨q284, rfl, _, rfl⟩ := hq
                          refine j_perm (ws' := ((a_waiting_h0, .inr (5, [.ref a_cells_a_waiting_h0, .int count_a_waiting_h0])) :: (a_cells_a_waiting_h0, .inl (cI, n_a_cells_a_waiting_h0, .inl b_a_cells_a_waiting_h0)) :: (h0, .inr (2, [.ref a_scanner_h0, .ref a_draft_h0, .ref a_waiting_h0, .ref a_functions_h0, .ref (fad 0), .ref (fad fd), .ref a_text_h0, .int 23, .int levels_h0, .int signs_h0, .int loops_h0, .int token_h0, .int fault_h0])) :: ((fad fd), .inr (0, [(frB fad fd), (frA fad fn fd), .int 10, .int start_a_scanner_h0, .int width_a_scanner_h0, .int r280, .int parts_t, .int innerParts_t, .int innerPlace_t, .int innerWidth_t, .int signs_t, .int waitingBelow_t, .int limited_t, .int targets_t, .int lastBlock_t])) :: (a_draft_h0, .inr (1, [.ref q284, .int r281])) :: (a_scanner_h0, .inr (4, [.ref a_text_a_scanner_h0, .int next_a_scanner_h0, .int kind_a_scanner_h0, .int start_a_scanner_h0, .int width_a_scanner_h0])) :: (q284, .inl (cI, r282, .inl r283)) :: fpo fad fn fd fcf)) (pm_eq (a := [(a_waiting_h0, .inr (5, [.ref a_cells_a_waiting_h0, .int count_a_waiting_h0])), (a_cells_a_waiting_h0, .inl (cI, n_a_cells_a_waiting_h0, .inl b_a_cells_a_waiting_h0))]) (b := fpo fad fn fd fcf) (c := [(h0, .inr (2, [.ref a_scanner_h0, .ref a_draft_h0, .ref a_waiting_h0, .ref a_functions_h0, .ref (fad 0), .ref (fad fd), .ref a_text_h0, .int 23, .int levels_h0, .int signs_h0, .int loops_h0, .int token_h0, .int fault_h0])), ((fad fd), .inr (0, [(frB fad fd), (frA fad fn fd), .int 10, .int start_a_scanner_h0, .int width_a_scanner_h0, .int r280, .int parts_t, .int innerParts_t, .int innerPlace_t, .int innerWidth_t, .int signs_t, .int waitingBelow_t, .int limited_t, .int targets_t, .int lastBlock_t])), (a_draft_h0, .inr (1, [.ref q284, .int r281])), (a_scanner_h0, .inr (4, [.ref a_text_a_scanner_h0, .int next_a_scanner_h0, .int kind_a_scanner_h0, .int start_a_scanner_h0, .int width_a_scanner_h0])), (q284, .inl (cI, r282, .inl r283))]) rfl) ?_
                          refine j_norm (pc' := 138) (st' := [.int 1]) (ws' := ((a_waiting_h0, .inr (5, [.ref a_cells_a_waiting_h0, .int count_a_waiting_h0])) :: (a_cells_a_waiting_h0, .inl (cI, n_a_cells_a_waiting_h0, .inl b_a_cells_a_waiting_h0)) :: (h0, .inr (2, [.ref a_scanner_h0, .ref a_draft_h0, .ref a_waiting_h0, .ref a_functions_h0, .ref (fad 0), .ref (fad fd), .ref a_text_h0, .int 23, .int levels_h0, .int signs_h0, .int loops_h0, .int token_h0, .int fault_h0])) :: ((fad fd), .inr (0, [(frB fad fd), (frA fad fn fd), .int 10, .int start_a_scanner_h0, .int width_a_scanner_h0, .int r280, .int parts_t, .int innerParts_t, .int innerPlace_t, .int innerWidth_t, .int signs_t, .int waitingBelow_t, .int limited_t, .int targets_t, .int lastBlock_t])) :: (a_draft_h0, .inr (1, [.ref q284, .int r281])) :: (a_scanner_h0, .inr (4, [.ref a_text_a_scanner_h0, .int next_a_scanner_h0, .int kind_a_scanner_h0, .int start_a_scanner_h0, .int width_a_scanner_h0])) :: (q284, .inl (cI, r282, .inl r283)) :: fpo fad fn fd fcf)) (cl' := 0 + C285) (sl' := 0 + S286) rfl rfl rfl rfl rfl rfl ?_
                          replace h := lf_s h
                          obtain ⟨h, e1, e2⟩ := h
                          replace h := Prod.mk.inj h
                          obtain ⟨h9, h⟩ := h
                          subst h9
                          replace h := Prod.mk.inj h
                          obtain ⟨h9, h⟩ := h
                          subst h9
                          replace h := Prod.mk.inj h
                          obtain ⟨h9, h⟩ := h
                          subst h9
                          replace h := Prod.mk.inj h
                          obtain ⟨h9, h⟩ := h
                          subst h9
                          replace h := Prod.mk.inj h
                          obtain ⟨h9, h⟩ := h
                          subst h9
                          replace h := Prod.mk.inj h
                          obtain ⟨h9, h⟩ := h
                          subst h9
                          replace h := Prod.mk.inj h
                          obtain ⟨h9, h⟩ := h
                          subst h9
                          replace h := Prod.mk.inj h
                          obtain ⟨h9, h⟩ := h
                          subst h9
                          replace h := Prod.mk.inj h
                          obtain ⟨h9, h⟩ := h
                          subst h9
                          replace h := Prod.mk.inj h
                          obtain ⟨h9, h⟩ := h
                          subst h9
                          replace h := Prod.mk.inj h
                          obtain ⟨h9, h⟩ := h
                          subst h9
                          replace h := Prod.mk.inj h
                          obtain ⟨h9, h⟩ := h
                          subst h9
                          replace h := Prod.mk.inj h
                          obtain ⟨h9, h⟩ := h
                          subst h9
                          replace h := Prod.mk.inj h
                          obtain ⟨h9, h⟩ := h
                          subst h9
                          replace h := Prod.mk.inj h
                          obtain ⟨h9, h⟩ := h
                          subst h9
                          replace h := Prod.mk.inj h
                          obtain ⟨h9, h⟩ := h
                          subst h9
                          replace h := Prod.mk.inj h
                          obtain ⟨h9, h⟩ := h
                          subst h9
                          replace h := Prod.mk.inj h
                          obtain ⟨h9, h⟩ := h
                          subst h9
                          replace h := Prod.mk.inj h
                          obtain ⟨h9, h⟩ := h
                          subst h9
                          replace h := Prod.mk.inj h
                          obtain ⟨h9, h⟩ := h
                          subst h9
                          replace h := Prod.mk.inj h
                          obtain ⟨h9, h⟩ := h
                          subst h9
                          replace h := Prod.mk.inj h
                          obtain ⟨h9, h⟩ := h
                          subst h9
                          replace h := Prod.mk.inj h
                          obtain ⟨h9, h⟩ := h
                          subst h9
                          replace h := Prod.mk.inj h
                          obtain ⟨h9, h⟩ := h
                          subst h9
                          replace h := Prod.mk.inj h
                          obtain ⟨h9, h⟩ := h
                          subst h9
                          subst h
                          refine j_widen (cl' := mc) (sl' := ms) (by omega) (by omega) ?_
                          refine j_subP (w := [(h0, .inr (2, [.ref a_scanner_h0, .ref a_draft_h0, .ref a_waiting_h0, .ref a_functions_h0, .ref (fad 0), .ref (fad fd), .ref a_text_h0, .int 23, .int levels_h0, .int signs_h0, .int loops_h0, .int token_h0, .int fault_h0])), ((fad fd), .inr (0, [(frB fad fd), (frA fad fn fd), .int 10, .int start_a_scanner_h0, .int width_a_scanner_h0, .int r280, .int parts_t, .int innerParts_t, .int innerPlace_t, .int innerWidth_t, .int signs_t, .int waitingBelow_t, .int limited_t, .int targets_t, .int lastBlock_t])), (a_draft_h0, .inr (1, [.ref q284, .int r281])), (a_scanner_h0, .inr (4, [.ref a_text_a_scanner_h0, .int next_a_scanner_h0, .int kind_a_scanner_h0, .int start_a_scanner_h0, .int width_a_scanner_h0])), (a_waiting_h0, .inr (5, [.ref a_cells_a_waiting_h0, .int count_a_waiting_h0])), (q284, .inl (cI, r282, .inl r283)), (a_cells_a_waiting_h0, .inl (cI, n_a_cells_a_waiting_h0, .inl b_a_cells_a_waiting_h0))]) (pl := fpo fad fn fd fcf) (lv' := []) [2, 3, 4, 5, 0, 6, 1] [] 7 rfl rfl (by decide) [] rfl ?_
                          exact j_zretE hr (zb_n zb1) d_Rd_standsInExpression_138 ⟨fad, q284, a_cells_a_waiting_h0, rfl, zb1, rfl⟩
                        · replace h := it_f c279 h
                          refine j_tabOut (tgt := 139) d_Rd_standsInExpression_4 (by have := lv_neT c1 (by decide : (30 : Int32).toInt = 30); have := lv_neT c37 (by decide : (31 : Int32).toInt = 31); have := lv_neT c73 (by decide : (32 : Int32).toInt = 32); have := lv_neT c109 (by decide : (33 : Int32).toInt = 33); have := lv_neT c145 (by decide : (34 : Int32).toInt = 34); have := lv_neT c181 (by decide : (35 : Int32).toInt = 35); have := lv_neT c256 (by decide : (36 : Int32).toInt = 36); have := lv_neT c257 (by decide : (37 : Int32).toInt = 37); have := lv_neT c258 (by decide : (38 : Int32).toInt = 38); have := lv_neT c259 (by decide : (39 : Int32).toInt = 39); have := lv_neT c260 (by decide : (40 : Int32).toInt = 40); have := lv_neT c279 (by decide : (41 : Int32).toInt = 41); omega) (by decide) ?_
                          refine j_iconst (v := 0) d_Rd_standsInExpression_139 (by decide) ?_
                          replace h := lf_s h
                          obtain ⟨h, e1, e2⟩ := h
                          replace h := Prod.mk.inj h
                          obtain ⟨h9, h⟩ := h
                          subst h9
                          replace h := Prod.mk.inj h
                          obtain ⟨h9, h⟩ := h
                          subst h9
                          replace h := Prod.mk.inj h
                          obtain ⟨h9, h⟩ := h
                          subst h9
                          replace h := Prod.mk.inj h
                          obtain ⟨h9, h⟩ := h
                          subst h9
                          replace h := Prod.mk.inj h
                          obtain ⟨h9, h⟩ := h
                          subst h9
                          replace h := Prod.mk.inj h
                          obtain ⟨h9, h⟩ := h
                          subst h9
                          replace h := Prod.mk.inj h
                          obtain ⟨h9, h⟩ := h
                          subst h9
                          replace h := Prod.mk.inj h
                          obtain ⟨h9, h⟩ := h
                          subst h9
                          replace h := Prod.mk.inj h
                          obtain ⟨h9, h⟩ := h
                          subst h9
                          replace h := Prod.mk.inj h
                          obtain ⟨h9, h⟩ := h
                          subst h9
                          replace h := Prod.mk.inj h
                          obtain ⟨h9, h⟩ := h
                          subst h9
                          replace h := Prod.mk.inj h
                          obtain ⟨h9, h⟩ := h
                          subst h9
                          replace h := Prod.mk.inj h
                          obtain ⟨h9, h⟩ := h
                          subst h9
                          replace h := Prod.mk.inj h
                          obtain ⟨h9, h⟩ := h
                          subst h9
                          replace h := Prod.mk.inj h
                          obtain ⟨h9, h⟩ := h
                          subst h9
                          replace h := Prod.mk.inj h
                          obtain ⟨h9, h⟩ := h
                          subst h9
                          replace h := Prod.mk.inj h
                          obtain ⟨h9, h⟩ := h
                          subst h9
                          replace h := Prod.mk.inj h
                          obtain ⟨h9, h⟩ := h
                          subst h9
                          replace h := Prod.mk.inj h
                          obtain ⟨h9, h⟩ := h
                          subst h9
                          replace h := Prod.mk.inj h
                          obtain ⟨h9, h⟩ := h
                          subst h9
                          replace h := Prod.mk.inj h
                          obtain ⟨h9, h⟩ := h
                          subst h9
                          replace h := Prod.mk.inj h
                          obtain ⟨h9, h⟩ := h
                          subst h9
                          replace h := Prod.mk.inj h
                          obtain ⟨h9, h⟩ := h
                          subst h9
                          replace h := Prod.mk.inj h
                          obtain ⟨h9, h⟩ := h
                          subst h9
                          replace h := Prod.mk.inj h
                          obtain ⟨h9, h⟩ := h
                          subst h9
                          subst h
                          refine j_widen (cl' := mc) (sl' := ms) (by omega) (by omega) ?_
                          refine j_subP (w := [(h0, .inr (2, [.ref a_scanner_h0, .ref a_draft_h0, .ref a_waiting_h0, .ref a_functions_h0, .ref (fad 0), .ref (fad fd), .ref a_text_h0, .int mode_h0, .int levels_h0, .int signs_h0, .int loops_h0, .int token_h0, .int fault_h0])), ((fad fd), .inr (0, [(frB fad fd), (frA fad fn fd), .int kind_t, .int place_t, .int width_t, .int second_t, .int parts_t, .int innerParts_t, .int innerPlace_t, .int innerWidth_t, .int signs_t, .int waitingBelow_t, .int limited_t, .int targets_t, .int lastBlock_t])), (a_draft_h0, .inr (1, [.ref a_cells_a_draft_h0, .int count_a_draft_h0])), (a_scanner_h0, .inr (4, [.ref a_text_a_scanner_h0, .int next_a_scanner_h0, .int kind_a_scanner_h0, .int start_a_scanner_h0, .int width_a_scanner_h0])), (a_waiting_h0, .inr (5, [.ref a_cells_a_waiting_h0, .int count_a_waiting_h0])), (a_cells_a_draft_h0, .inl (cI, n_a_cells_a_draft_h0, .inl b_a_cells_a_draft_h0)), (a_cells_a_waiting_h0, .inl (cI, n_a_cells_a_waiting_h0, .inl b_a_cells_a_waiting_h0))]) (pl := fpo fad fn fd fcf) (lv' := []) [0, 1, 2, 4, 5, 3, 6] [] 7 rfl rfl (by decide) [] rfl ?_
                          exact j_zretE hr (zb_n zb0) d_Rd_standsInExpression_140 ⟨fad, a_cells_a_draft_h0, a_cells_a_waiting_h0, rfl, zb0, rfl⟩
