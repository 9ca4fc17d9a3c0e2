noncomputable def F_Rd_standsInFunctionHead (mode_h0 : Int32) (levels_h0 : Int32) (signs_h0 : Int32) (loops_h0 : Int32) (token_h0 : Int32) (fault_h0 : Int32) (next_a_scanner_h0 : Int32) (kind_a_scanner_h0 : Int32) (start_a_scanner_h0 : Int32) (width_a_scanner_h0 : Int32) (kind_a_top_h0 : Int32) (place_a_top_h0 : Int32) (width_a_top_h0 : Int32) (second_a_top_h0 : Int32) (parts_a_top_h0 : Int32) (innerParts_a_top_h0 : Int32) (innerPlace_a_top_h0 : Int32) (innerWidth_a_top_h0 : Int32) (signs_a_top_h0 : Int32) (waitingBelow_a_top_h0 : Int32) (limited_a_top_h0 : Int32) (targets_a_top_h0 : Int32) (lastBlock_a_top_h0 : Int32) (count_a_functions_h0 : Int32) (n_a_cells_a_functions_h0 : Nat) (b_a_cells_a_functions_h0 : Nat → Int32) (count_a_draft_h0 : Int32) (n_a_cells_a_draft_h0 : Nat) (b_a_cells_a_draft_h0 : Nat → Int32) (size_a_text_h0 : Int32) (n_a_bytes_a_text_h0 : Nat) (b_a_bytes_a_text_h0 : Nat → Int32) : Option ((Int32 × Int32 × Int32 × Int32 × Int32 × Int32 × Int32 × Int32 × Int32 × Nat × (Nat → Int32) × Nat × (Nat → Int32)) × Nat × Nat) :=
  if mode_h0 = 10 then (if token_h0 = 91 then (some ((1, 12, width_a_top_h0, second_a_top_h0, parts_a_top_h0, innerParts_a_top_h0, innerPlace_a_top_h0, count_a_functions_h0, count_a_draft_h0, n_a_cells_a_functions_h0, b_a_cells_a_functions_h0, n_a_cells_a_draft_h0, b_a_cells_a_draft_h0), 0, 0))
    else if token_h0 = 2 then (some ((1, 11, width_a_scanner_h0, start_a_scanner_h0, parts_a_top_h0, innerParts_a_top_h0, innerPlace_a_top_h0, count_a_functions_h0, count_a_draft_h0, n_a_cells_a_functions_h0, b_a_cells_a_functions_h0, n_a_cells_a_draft_h0, b_a_cells_a_draft_h0), 0, 0))
    else (some ((0, mode_h0, width_a_top_h0, second_a_top_h0, parts_a_top_h0, innerParts_a_top_h0, innerPlace_a_top_h0, count_a_functions_h0, count_a_draft_h0, n_a_cells_a_functions_h0, b_a_cells_a_functions_h0, n_a_cells_a_draft_h0, b_a_cells_a_draft_h0), 0, 0)))
  else if mode_h0 = 11 then (if token_h0 = 61 then (bw (F_Rd_takeFirstAsResult mode_h0 levels_h0 signs_h0 loops_h0 token_h0 fault_h0 kind_a_top_h0 place_a_top_h0 width_a_top_h0 second_a_top_h0 parts_a_top_h0 innerParts_a_top_h0 innerPlace_a_top_h0 innerWidth_a_top_h0 signs_a_top_h0 waitingBelow_a_top_h0 limited_a_top_h0 targets_a_top_h0 lastBlock_a_top_h0 count_a_draft_h0 n_a_cells_a_draft_h0 b_a_cells_a_draft_h0) fun ⟨r30, r31, r32⟩ =>
      (some ((1, 15, width_a_top_h0, second_a_top_h0, parts_a_top_h0, 1, innerPlace_a_top_h0, count_a_functions_h0, r30, n_a_cells_a_functions_h0, b_a_cells_a_functions_h0, r31, r32), 0, 0)))
    else if token_h0 = 40 then (bw (F_Rd_takeFirstAsName mode_h0 levels_h0 signs_h0 loops_h0 token_h0 fault_h0 count_a_functions_h0 kind_a_top_h0 place_a_top_h0 width_a_top_h0 second_a_top_h0 parts_a_top_h0 innerParts_a_top_h0 innerPlace_a_top_h0 innerWidth_a_top_h0 signs_a_top_h0 waitingBelow_a_top_h0 limited_a_top_h0 targets_a_top_h0 lastBlock_a_top_h0 n_a_cells_a_functions_h0 b_a_cells_a_functions_h0 count_a_draft_h0 n_a_cells_a_draft_h0 b_a_cells_a_draft_h0 size_a_text_h0 n_a_bytes_a_text_h0 b_a_bytes_a_text_h0 next_a_scanner_h0 kind_a_scanner_h0 start_a_scanner_h0 width_a_scanner_h0) fun ⟨r10, r11, r12, r13, r14, r15, r16, r17, r18, r19, r20⟩ =>
      if r10 = 0 then (some ((0, r11, width_a_top_h0, second_a_top_h0, r13, r14, r15, r12, r16, r17, r18, r19, r20), 0, 0))
      else (some ((1, r11, width_a_top_h0, second_a_top_h0, r13, r14, r15, r12, r16, r17, r18, r19, r20), 0, 0)))
    else (some ((0, mode_h0, width_a_top_h0, second_a_top_h0, parts_a_top_h0, innerParts_a_top_h0, innerPlace_a_top_h0, count_a_functions_h0, count_a_draft_h0, n_a_cells_a_functions_h0, b_a_cells_a_functions_h0, n_a_cells_a_draft_h0, b_a_cells_a_draft_h0), 0, 0)))
  else if mode_h0 = 12 then (bw (F_Rd_addDifferentName 13 mode_h0 levels_h0 signs_h0 loops_h0 token_h0 fault_h0 kind_a_top_h0 place_a_top_h0 width_a_top_h0 second_a_top_h0 parts_a_top_h0 innerParts_a_top_h0 innerPlace_a_top_h0 innerWidth_a_top_h0 signs_a_top_h0 waitingBelow_a_top_h0 limited_a_top_h0 targets_a_top_h0 lastBlock_a_top_h0 next_a_scanner_h0 kind_a_scanner_h0 start_a_scanner_h0 width_a_scanner_h0 count_a_draft_h0 n_a_cells_a_draft_h0 b_a_cells_a_draft_h0 size_a_text_h0 n_a_bytes_a_text_h0 b_a_bytes_a_text_h0) fun ⟨r40, r41, r42, r43, r44, r45⟩ =>
    (some ((r40, r41, width_a_top_h0, second_a_top_h0, parts_a_top_h0, r42, innerPlace_a_top_h0, count_a_functions_h0, r43, n_a_cells_a_functions_h0, b_a_cells_a_functions_h0, r44, r45), 0, 0)))
  else if mode_h0 = 13 then (if token_h0 = 93 then (some ((1, 14, width_a_top_h0, second_a_top_h0, parts_a_top_h0, innerParts_a_top_h0, innerPlace_a_top_h0, count_a_functions_h0, count_a_draft_h0, n_a_cells_a_functions_h0, b_a_cells_a_functions_h0, n_a_cells_a_draft_h0, b_a_cells_a_draft_h0), 0, 0))
    else if token_h0 = 44 then (nm (F_Rd_hasRoomForName mode_h0 levels_h0 signs_h0 loops_h0 token_h0 fault_h0 kind_a_top_h0 place_a_top_h0 width_a_top_h0 second_a_top_h0 parts_a_top_h0 innerParts_a_top_h0 innerPlace_a_top_h0 innerWidth_a_top_h0 signs_a_top_h0 waitingBelow_a_top_h0 limited_a_top_h0 targets_a_top_h0 lastBlock_a_top_h0) fun r56 =>
      if r56 = 0 then (some ((0, mode_h0, width_a_top_h0, second_a_top_h0, parts_a_top_h0, innerParts_a_top_h0, innerPlace_a_top_h0, count_a_functions_h0, count_a_draft_h0, n_a_cells_a_functions_h0, b_a_cells_a_functions_h0, n_a_cells_a_draft_h0, b_a_cells_a_draft_h0), 0, 0))
      else (some ((1, 12, width_a_top_h0, second_a_top_h0, parts_a_top_h0, innerParts_a_top_h0, innerPlace_a_top_h0, count_a_functions_h0, count_a_draft_h0, n_a_cells_a_functions_h0, b_a_cells_a_functions_h0, n_a_cells_a_draft_h0, b_a_cells_a_draft_h0), 0, 0)))
    else (some ((0, mode_h0, width_a_top_h0, second_a_top_h0, parts_a_top_h0, innerParts_a_top_h0, innerPlace_a_top_h0, count_a_functions_h0, count_a_draft_h0, n_a_cells_a_functions_h0, b_a_cells_a_functions_h0, n_a_cells_a_draft_h0, b_a_cells_a_draft_h0), 0, 0)))
  else if mode_h0 = 14 then (if token_h0 = 61 then (some ((1, 15, width_a_top_h0, second_a_top_h0, parts_a_top_h0, innerParts_a_top_h0, innerPlace_a_top_h0, count_a_functions_h0, count_a_draft_h0, n_a_cells_a_functions_h0, b_a_cells_a_functions_h0, n_a_cells_a_draft_h0, b_a_cells_a_draft_h0), 0, 0))
    else (some ((0, mode_h0, width_a_top_h0, second_a_top_h0, parts_a_top_h0, innerParts_a_top_h0, innerPlace_a_top_h0, count_a_functions_h0, count_a_draft_h0, n_a_cells_a_functions_h0, b_a_cells_a_functions_h0, n_a_cells_a_draft_h0, b_a_cells_a_draft_h0), 0, 0)))
  else if mode_h0 = 15 then (if token_h0 = 2 then (bw (F_Rd_nameFunction 16 levels_h0 signs_h0 loops_h0 token_h0 fault_h0 count_a_functions_h0 kind_a_top_h0 place_a_top_h0 width_a_scanner_h0 start_a_scanner_h0 parts_a_top_h0 innerParts_a_top_h0 innerPlace_a_top_h0 innerWidth_a_top_h0 signs_a_top_h0 waitingBelow_a_top_h0 limited_a_top_h0 targets_a_top_h0 lastBlock_a_top_h0 n_a_cells_a_functions_h0 b_a_cells_a_functions_h0 count_a_draft_h0 n_a_cells_a_draft_h0 b_a_cells_a_draft_h0 size_a_text_h0 n_a_bytes_a_text_h0 b_a_bytes_a_text_h0) fun ⟨r71, r72, r73, r74, r75, r76, r77, r78, r79⟩ =>
      if r71 = 0 then (some ((0, 16, width_a_scanner_h0, start_a_scanner_h0, r73, r74, innerPlace_a_top_h0, r72, r75, r76, r77, r78, r79), 0, 0))
      else (some ((1, 16, width_a_scanner_h0, start_a_scanner_h0, r73, r74, innerPlace_a_top_h0, r72, r75, r76, r77, r78, r79), 0, 0)))
    else (some ((0, mode_h0, width_a_top_h0, second_a_top_h0, parts_a_top_h0, innerParts_a_top_h0, innerPlace_a_top_h0, count_a_functions_h0, count_a_draft_h0, n_a_cells_a_functions_h0, b_a_cells_a_functions_h0, n_a_cells_a_draft_h0, b_a_cells_a_draft_h0), 0, 0)))
  else if mode_h0 = 16 then (if token_h0 = 40 then (some ((1, 17, width_a_top_h0, second_a_top_h0, parts_a_top_h0, innerParts_a_top_h0, start_a_scanner_h0, count_a_functions_h0, count_a_draft_h0, n_a_cells_a_functions_h0, b_a_cells_a_functions_h0, n_a_cells_a_draft_h0, b_a_cells_a_draft_h0), 0, 0))
    else (some ((0, mode_h0, width_a_top_h0, second_a_top_h0, parts_a_top_h0, innerParts_a_top_h0, innerPlace_a_top_h0, count_a_functions_h0, count_a_draft_h0, n_a_cells_a_functions_h0, b_a_cells_a_functions_h0, n_a_cells_a_draft_h0, b_a_cells_a_draft_h0), 0, 0)))
  else if mode_h0 = 17 then (if token_h0 = 41 then (bw (F_Rd_endParameters mode_h0 levels_h0 signs_h0 loops_h0 token_h0 fault_h0 kind_a_top_h0 place_a_top_h0 width_a_top_h0 second_a_top_h0 parts_a_top_h0 innerParts_a_top_h0 innerPlace_a_top_h0 innerWidth_a_top_h0 signs_a_top_h0 waitingBelow_a_top_h0 limited_a_top_h0 targets_a_top_h0 lastBlock_a_top_h0 count_a_draft_h0 n_a_cells_a_draft_h0 b_a_cells_a_draft_h0 next_a_scanner_h0 kind_a_scanner_h0 start_a_scanner_h0 width_a_scanner_h0) fun ⟨r108, r109, r110⟩ =>
      (some ((1, 0, width_a_top_h0, second_a_top_h0, (parts_a_top_h0 + 1), 0, start_a_scanner_h0, count_a_functions_h0, r108, n_a_cells_a_functions_h0, b_a_cells_a_functions_h0, r109, r110), 0, 0)))
    else (bw (F_Rd_addDifferentName 19 mode_h0 levels_h0 signs_h0 loops_h0 token_h0 fault_h0 kind_a_top_h0 place_a_top_h0 width_a_top_h0 second_a_top_h0 parts_a_top_h0 innerParts_a_top_h0 innerPlace_a_top_h0 innerWidth_a_top_h0 signs_a_top_h0 waitingBelow_a_top_h0 limited_a_top_h0 targets_a_top_h0 lastBlock_a_top_h0 next_a_scanner_h0 kind_a_scanner_h0 start_a_scanner_h0 width_a_scanner_h0 count_a_draft_h0 n_a_cells_a_draft_h0 b_a_cells_a_draft_h0 size_a_text_h0 n_a_bytes_a_text_h0 b_a_bytes_a_text_h0) fun ⟨r95, r96, r97, r98, r99, r100⟩ =>
      (some ((r95, r96, width_a_top_h0, second_a_top_h0, parts_a_top_h0, r97, innerPlace_a_top_h0, count_a_functions_h0, r98, n_a_cells_a_functions_h0, b_a_cells_a_functions_h0, r99, r100), 0, 0))))
  else if mode_h0 = 18 then (bw (F_Rd_addDifferentName 19 mode_h0 levels_h0 signs_h0 loops_h0 token_h0 fault_h0 kind_a_top_h0 place_a_top_h0 width_a_top_h0 second_a_top_h0 parts_a_top_h0 innerParts_a_top_h0 innerPlace_a_top_h0 innerWidth_a_top_h0 signs_a_top_h0 waitingBelow_a_top_h0 limited_a_top_h0 targets_a_top_h0 lastBlock_a_top_h0 next_a_scanner_h0 kind_a_scanner_h0 start_a_scanner_h0 width_a_scanner_h0 count_a_draft_h0 n_a_cells_a_draft_h0 b_a_cells_a_draft_h0 size_a_text_h0 n_a_bytes_a_text_h0 b_a_bytes_a_text_h0) fun ⟨r118, r119, r120, r121, r122, r123⟩ =>
    (some ((r118, r119, width_a_top_h0, second_a_top_h0, parts_a_top_h0, r120, innerPlace_a_top_h0, count_a_functions_h0, r121, n_a_cells_a_functions_h0, b_a_cells_a_functions_h0, r122, r123), 0, 0)))
  else if mode_h0 = 19 then (if token_h0 = 41 then (bw (F_Rd_endParameters mode_h0 levels_h0 signs_h0 loops_h0 token_h0 fault_h0 kind_a_top_h0 place_a_top_h0 width_a_top_h0 second_a_top_h0 parts_a_top_h0 innerParts_a_top_h0 innerPlace_a_top_h0 innerWidth_a_top_h0 signs_a_top_h0 waitingBelow_a_top_h0 limited_a_top_h0 targets_a_top_h0 lastBlock_a_top_h0 count_a_draft_h0 n_a_cells_a_draft_h0 b_a_cells_a_draft_h0 next_a_scanner_h0 kind_a_scanner_h0 start_a_scanner_h0 width_a_scanner_h0) fun ⟨r140, r141, r142⟩ =>
      (some ((1, 0, width_a_top_h0, second_a_top_h0, (parts_a_top_h0 + 1), 0, start_a_scanner_h0, count_a_functions_h0, r140, n_a_cells_a_functions_h0, b_a_cells_a_functions_h0, r141, r142), 0, 0)))
    else if token_h0 = 44 then (nm (F_Rd_hasRoomForName mode_h0 levels_h0 signs_h0 loops_h0 token_h0 fault_h0 kind_a_top_h0 place_a_top_h0 width_a_top_h0 second_a_top_h0 parts_a_top_h0 innerParts_a_top_h0 innerPlace_a_top_h0 innerWidth_a_top_h0 signs_a_top_h0 waitingBelow_a_top_h0 limited_a_top_h0 targets_a_top_h0 lastBlock_a_top_h0) fun r134 =>
      if r134 = 0 then (some ((0, mode_h0, width_a_top_h0, second_a_top_h0, parts_a_top_h0, innerParts_a_top_h0, innerPlace_a_top_h0, count_a_functions_h0, count_a_draft_h0, n_a_cells_a_functions_h0, b_a_cells_a_functions_h0, n_a_cells_a_draft_h0, b_a_cells_a_draft_h0), 0, 0))
      else (some ((1, 18, width_a_top_h0, second_a_top_h0, parts_a_top_h0, innerParts_a_top_h0, innerPlace_a_top_h0, count_a_functions_h0, count_a_draft_h0, n_a_cells_a_functions_h0, b_a_cells_a_functions_h0, n_a_cells_a_draft_h0, b_a_cells_a_draft_h0), 0, 0)))
    else (some ((0, mode_h0, width_a_top_h0, second_a_top_h0, parts_a_top_h0, innerParts_a_top_h0, innerPlace_a_top_h0, count_a_functions_h0, count_a_draft_h0, n_a_cells_a_functions_h0, b_a_cells_a_functions_h0, n_a_cells_a_draft_h0, b_a_cells_a_draft_h0), 0, 0)))
  else (some ((0, mode_h0, width_a_top_h0, second_a_top_h0, parts_a_top_h0, innerParts_a_top_h0, innerPlace_a_top_h0, count_a_functions_h0, count_a_draft_h0, n_a_cells_a_functions_h0, b_a_cells_a_functions_h0, n_a_cells_a_draft_h0, b_a_cells_a_draft_h0), 0, 0))
theorem d_Rd_standsInFunctionHead_0 : decode prog_6_method_26_code 0 = .ok (.aload_n 0, 1) := by decide +kernel
theorem d_Rd_standsInFunctionHead_1 : decode prog_6_method_26_code 1 = .ok (.getfield 56, 3) := by decide +kernel
theorem d_Rd_standsInFunctionHead_4 : decode prog_6_method_26_code 4 = .ok (.tableswitch 344 10 19 #[56, 97, 135, 142, 191, 215, 245, 267, 290, 297], 56) := by decide +kernel
theorem d_Rd_standsInFunctionHead_60 : decode prog_6_method_26_code 60 = .ok (.aload_n 0, 1) := by decide +kernel
theorem d_Rd_standsInFunctionHead_61 : decode prog_6_method_26_code 61 = .ok (.getfield 69, 3) := by decide +kernel
theorem d_Rd_standsInFunctionHead_64 : decode prog_6_method_26_code 64 = .ok (.bipush 91, 2) := by decide +kernel
theorem d_Rd_standsInFunctionHead_66 : decode prog_6_method_26_code 66 = .ok (.if_icmp .ne 12, 3) := by decide +kernel
theorem d_Rd_standsInFunctionHead_69 : decode prog_6_method_26_code 69 = .ok (.aload_n 0, 1) := by decide +kernel
theorem d_Rd_standsInFunctionHead_70 : decode prog_6_method_26_code 70 = .ok (.bipush 12, 2) := by decide +kernel
theorem d_Rd_standsInFunctionHead_72 : decode prog_6_method_26_code 72 = .ok (.invokevirtual 130, 3) := by decide +kernel
theorem d_Rd_standsInFunctionHead_75 : decode prog_6_method_26_code 75 = .ok (.goto 25, 3) := by decide +kernel
theorem d_Rd_standsInFunctionHead_78 : decode prog_6_method_26_code 78 = .ok (.aload_n 0, 1) := by decide +kernel
theorem d_Rd_standsInFunctionHead_79 : decode prog_6_method_26_code 79 = .ok (.getfield 69, 3) := by decide +kernel
theorem d_Rd_standsInFunctionHead_82 : decode prog_6_method_26_code 82 = .ok (.iconst 2, 1) := by decide +kernel
theorem d_Rd_standsInFunctionHead_83 : decode prog_6_method_26_code 83 = .ok (.if_icmp .ne 16, 3) := by decide +kernel
theorem d_Rd_standsInFunctionHead_86 : decode prog_6_method_26_code 86 = .ok (.aload_n 0, 1) := by decide +kernel
theorem d_Rd_standsInFunctionHead_87 : decode prog_6_method_26_code 87 = .ok (.bipush 11, 2) := by decide +kernel
theorem d_Rd_standsInFunctionHead_89 : decode prog_6_method_26_code 89 = .ok (.invokevirtual 235, 3) := by decide +kernel
theorem d_Rd_standsInFunctionHead_92 : decode prog_6_method_26_code 92 = .ok (.ifCond .eq 7, 3) := by decide +kernel
theorem d_Rd_standsInFunctionHead_95 : decode prog_6_method_26_code 95 = .ok (.iconst 1, 1) := by decide +kernel
theorem d_Rd_standsInFunctionHead_96 : decode prog_6_method_26_code 96 = .ok (.goto 4, 3) := by decide +kernel
theorem d_Rd_standsInFunctionHead_99 : decode prog_6_method_26_code 99 = .ok (.iconst 0, 1) := by decide +kernel
theorem d_Rd_standsInFunctionHead_100 : decode prog_6_method_26_code 100 = .ok (.ireturn, 1) := by decide +kernel
theorem d_Rd_standsInFunctionHead_101 : decode prog_6_method_26_code 101 = .ok (.aload_n 0, 1) := by decide +kernel
theorem d_Rd_standsInFunctionHead_102 : decode prog_6_method_26_code 102 = .ok (.getfield 69, 3) := by decide +kernel
theorem d_Rd_standsInFunctionHead_105 : decode prog_6_method_26_code 105 = .ok (.bipush 61, 2) := by decide +kernel
theorem d_Rd_standsInFunctionHead_107 : decode prog_6_method_26_code 107 = .ok (.if_icmp .ne 10, 3) := by decide +kernel
theorem d_Rd_standsInFunctionHead_110 : decode prog_6_method_26_code 110 = .ok (.aload_n 0, 1) := by decide +kernel
theorem d_Rd_standsInFunctionHead_111 : decode prog_6_method_26_code 111 = .ok (.invokevirtual 238, 3) := by decide +kernel
theorem d_Rd_standsInFunctionHead_114 : decode prog_6_method_26_code 114 = .ok (.goto 24, 3) := by decide +kernel
theorem d_Rd_standsInFunctionHead_117 : decode prog_6_method_26_code 117 = .ok (.aload_n 0, 1) := by decide +kernel
theorem d_Rd_standsInFunctionHead_118 : decode prog_6_method_26_code 118 = .ok (.getfield 69, 3) := by decide +kernel
theorem d_Rd_standsInFunctionHead_121 : decode prog_6_method_26_code 121 = .ok (.bipush 40, 2) := by decide +kernel
theorem d_Rd_standsInFunctionHead_123 : decode prog_6_method_26_code 123 = .ok (.if_icmp .ne 14, 3) := by decide +kernel
theorem d_Rd_standsInFunctionHead_126 : decode prog_6_method_26_code 126 = .ok (.aload_n 0, 1) := by decide +kernel
theorem d_Rd_standsInFunctionHead_127 : decode prog_6_method_26_code 127 = .ok (.invokevirtual 241, 3) := by decide +kernel
theorem d_Rd_standsInFunctionHead_130 : decode prog_6_method_26_code 130 = .ok (.ifCond .eq 7, 3) := by decide +kernel
theorem d_Rd_standsInFunctionHead_133 : decode prog_6_method_26_code 133 = .ok (.iconst 1, 1) := by decide +kernel
theorem d_Rd_standsInFunctionHead_134 : decode prog_6_method_26_code 134 = .ok (.goto 4, 3) := by decide +kernel
theorem d_Rd_standsInFunctionHead_137 : decode prog_6_method_26_code 137 = .ok (.iconst 0, 1) := by decide +kernel
theorem d_Rd_standsInFunctionHead_138 : decode prog_6_method_26_code 138 = .ok (.ireturn, 1) := by decide +kernel
theorem d_Rd_standsInFunctionHead_139 : decode prog_6_method_26_code 139 = .ok (.aload_n 0, 1) := by decide +kernel
theorem d_Rd_standsInFunctionHead_140 : decode prog_6_method_26_code 140 = .ok (.bipush 13, 2) := by decide +kernel
theorem d_Rd_standsInFunctionHead_142 : decode prog_6_method_26_code 142 = .ok (.invokevirtual 244, 3) := by decide +kernel
theorem d_Rd_standsInFunctionHead_145 : decode prog_6_method_26_code 145 = .ok (.ireturn, 1) := by decide +kernel
theorem d_Rd_standsInFunctionHead_146 : decode prog_6_method_26_code 146 = .ok (.aload_n 0, 1) := by decide +kernel
theorem d_Rd_standsInFunctionHead_147 : decode prog_6_method_26_code 147 = .ok (.getfield 69, 3) := by decide +kernel
theorem d_Rd_standsInFunctionHead_150 : decode prog_6_method_26_code 150 = .ok (.bipush 93, 2) := by decide +kernel
theorem d_Rd_standsInFunctionHead_152 : decode prog_6_method_26_code 152 = .ok (.if_icmp .ne 12, 3) := by decide +kernel
theorem d_Rd_standsInFunctionHead_155 : decode prog_6_method_26_code 155 = .ok (.aload_n 0, 1) := by decide +kernel
theorem d_Rd_standsInFunctionHead_156 : decode prog_6_method_26_code 156 = .ok (.bipush 14, 2) := by decide +kernel
theorem d_Rd_standsInFunctionHead_158 : decode prog_6_method_26_code 158 = .ok (.invokevirtual 130, 3) := by decide +kernel
theorem d_Rd_standsInFunctionHead_161 : decode prog_6_method_26_code 161 = .ok (.goto 33, 3) := by decide +kernel
theorem d_Rd_standsInFunctionHead_164 : decode prog_6_method_26_code 164 = .ok (.aload_n 0, 1) := by decide +kernel
theorem d_Rd_standsInFunctionHead_165 : decode prog_6_method_26_code 165 = .ok (.getfield 69, 3) := by decide +kernel
theorem d_Rd_standsInFunctionHead_168 : decode prog_6_method_26_code 168 = .ok (.bipush 44, 2) := by decide +kernel
theorem d_Rd_standsInFunctionHead_170 : decode prog_6_method_26_code 170 = .ok (.if_icmp .ne 23, 3) := by decide +kernel
theorem d_Rd_standsInFunctionHead_173 : decode prog_6_method_26_code 173 = .ok (.aload_n 0, 1) := by decide +kernel
theorem d_Rd_standsInFunctionHead_174 : decode prog_6_method_26_code 174 = .ok (.invokevirtual 247, 3) := by decide +kernel
theorem d_Rd_standsInFunctionHead_177 : decode prog_6_method_26_code 177 = .ok (.ifCond .eq 16, 3) := by decide +kernel
theorem d_Rd_standsInFunctionHead_180 : decode prog_6_method_26_code 180 = .ok (.aload_n 0, 1) := by decide +kernel
theorem d_Rd_standsInFunctionHead_181 : decode prog_6_method_26_code 181 = .ok (.bipush 12, 2) := by decide +kernel
theorem d_Rd_standsInFunctionHead_183 : decode prog_6_method_26_code 183 = .ok (.invokevirtual 130, 3) := by decide +kernel
theorem d_Rd_standsInFunctionHead_186 : decode prog_6_method_26_code 186 = .ok (.ifCond .eq 7, 3) := by decide +kernel
theorem d_Rd_standsInFunctionHead_189 : decode prog_6_method_26_code 189 = .ok (.iconst 1, 1) := by decide +kernel
theorem d_Rd_standsInFunctionHead_190 : decode prog_6_method_26_code 190 = .ok (.goto 4, 3) := by decide +kernel
theorem d_Rd_standsInFunctionHead_193 : decode prog_6_method_26_code 193 = .ok (.iconst 0, 1) := by decide +kernel
theorem d_Rd_standsInFunctionHead_194 : decode prog_6_method_26_code 194 = .ok (.ireturn, 1) := by decide +kernel
theorem d_Rd_standsInFunctionHead_195 : decode prog_6_method_26_code 195 = .ok (.aload_n 0, 1) := by decide +kernel
theorem d_Rd_standsInFunctionHead_196 : decode prog_6_method_26_code 196 = .ok (.getfield 69, 3) := by decide +kernel
theorem d_Rd_standsInFunctionHead_199 : decode prog_6_method_26_code 199 = .ok (.bipush 61, 2) := by decide +kernel
theorem d_Rd_standsInFunctionHead_201 : decode prog_6_method_26_code 201 = .ok (.if_icmp .ne 16, 3) := by decide +kernel
theorem d_Rd_standsInFunctionHead_204 : decode prog_6_method_26_code 204 = .ok (.aload_n 0, 1) := by decide +kernel
theorem d_Rd_standsInFunctionHead_205 : decode prog_6_method_26_code 205 = .ok (.bipush 15, 2) := by decide +kernel
theorem d_Rd_standsInFunctionHead_207 : decode prog_6_method_26_code 207 = .ok (.invokevirtual 130, 3) := by decide +kernel
theorem d_Rd_standsInFunctionHead_210 : decode prog_6_method_26_code 210 = .ok (.ifCond .eq 7, 3) := by decide +kernel
theorem d_Rd_standsInFunctionHead_213 : decode prog_6_method_26_code 213 = .ok (.iconst 1, 1) := by decide +kernel
theorem d_Rd_standsInFunctionHead_214 : decode prog_6_method_26_code 214 = .ok (.goto 4, 3) := by decide +kernel
theorem d_Rd_standsInFunctionHead_217 : decode prog_6_method_26_code 217 = .ok (.iconst 0, 1) := by decide +kernel
theorem d_Rd_standsInFunctionHead_218 : decode prog_6_method_26_code 218 = .ok (.ireturn, 1) := by decide +kernel
theorem d_Rd_standsInFunctionHead_219 : decode prog_6_method_26_code 219 = .ok (.aload_n 0, 1) := by decide +kernel
theorem d_Rd_standsInFunctionHead_220 : decode prog_6_method_26_code 220 = .ok (.getfield 69, 3) := by decide +kernel
theorem d_Rd_standsInFunctionHead_223 : decode prog_6_method_26_code 223 = .ok (.iconst 2, 1) := by decide +kernel
theorem d_Rd_standsInFunctionHead_224 : decode prog_6_method_26_code 224 = .ok (.if_icmp .ne 23, 3) := by decide +kernel
theorem d_Rd_standsInFunctionHead_227 : decode prog_6_method_26_code 227 = .ok (.aload_n 0, 1) := by decide +kernel
theorem d_Rd_standsInFunctionHead_228 : decode prog_6_method_26_code 228 = .ok (.bipush 16, 2) := by decide +kernel
theorem d_Rd_standsInFunctionHead_230 : decode prog_6_method_26_code 230 = .ok (.invokevirtual 235, 3) := by decide +kernel
theorem d_Rd_standsInFunctionHead_233 : decode prog_6_method_26_code 233 = .ok (.ifCond .eq 14, 3) := by decide +kernel
theorem d_Rd_standsInFunctionHead_236 : decode prog_6_method_26_code 236 = .ok (.aload_n 0, 1) := by decide +kernel
theorem d_Rd_standsInFunctionHead_237 : decode prog_6_method_26_code 237 = .ok (.invokevirtual 250, 3) := by decide +kernel
theorem d_Rd_standsInFunctionHead_240 : decode prog_6_method_26_code 240 = .ok (.ifCond .eq 7, 3) := by decide +kernel
theorem d_Rd_standsInFunctionHead_243 : decode prog_6_method_26_code 243 = .ok (.iconst 1, 1) := by decide +kernel
theorem d_Rd_standsInFunctionHead_244 : decode prog_6_method_26_code 244 = .ok (.goto 4, 3) := by decide +kernel
theorem d_Rd_standsInFunctionHead_247 : decode prog_6_method_26_code 247 = .ok (.iconst 0, 1) := by decide +kernel
theorem d_Rd_standsInFunctionHead_248 : decode prog_6_method_26_code 248 = .ok (.ireturn, 1) := by decide +kernel
theorem d_Rd_standsInFunctionHead_249 : decode prog_6_method_26_code 249 = .ok (.aload_n 0, 1) := by decide +kernel
theorem d_Rd_standsInFunctionHead_250 : decode prog_6_method_26_code 250 = .ok (.getfield 69, 3) := by decide +kernel
theorem d_Rd_standsInFunctionHead_253 : decode prog_6_method_26_code 253 = .ok (.bipush 40, 2) := by decide +kernel
theorem d_Rd_standsInFunctionHead_255 : decode prog_6_method_26_code 255 = .ok (.if_icmp .ne 14, 3) := by decide +kernel
theorem d_Rd_standsInFunctionHead_258 : decode prog_6_method_26_code 258 = .ok (.aload_n 0, 1) := by decide +kernel
theorem d_Rd_standsInFunctionHead_259 : decode prog_6_method_26_code 259 = .ok (.invokevirtual 253, 3) := by decide +kernel
theorem d_Rd_standsInFunctionHead_262 : decode prog_6_method_26_code 262 = .ok (.ifCond .eq 7, 3) := by decide +kernel
theorem d_Rd_standsInFunctionHead_265 : decode prog_6_method_26_code 265 = .ok (.iconst 1, 1) := by decide +kernel
theorem d_Rd_standsInFunctionHead_266 : decode prog_6_method_26_code 266 = .ok (.goto 4, 3) := by decide +kernel
theorem d_Rd_standsInFunctionHead_269 : decode prog_6_method_26_code 269 = .ok (.iconst 0, 1) := by decide +kernel
theorem d_Rd_standsInFunctionHead_270 : decode prog_6_method_26_code 270 = .ok (.ireturn, 1) := by decide +kernel
theorem d_Rd_standsInFunctionHead_271 : decode prog_6_method_26_code 271 = .ok (.aload_n 0, 1) := by decide +kernel
theorem d_Rd_standsInFunctionHead_272 : decode prog_6_method_26_code 272 = .ok (.getfield 69, 3) := by decide +kernel
theorem d_Rd_standsInFunctionHead_275 : decode prog_6_method_26_code 275 = .ok (.bipush 41, 2) := by decide +kernel
theorem d_Rd_standsInFunctionHead_277 : decode prog_6_method_26_code 277 = .ok (.if_icmp .ne 10, 3) := by decide +kernel
theorem d_Rd_standsInFunctionHead_280 : decode prog_6_method_26_code 280 = .ok (.aload_n 0, 1) := by decide +kernel
theorem d_Rd_standsInFunctionHead_281 : decode prog_6_method_26_code 281 = .ok (.invokevirtual 256, 3) := by decide +kernel
theorem d_Rd_standsInFunctionHead_284 : decode prog_6_method_26_code 284 = .ok (.goto 9, 3) := by decide +kernel
theorem d_Rd_standsInFunctionHead_287 : decode prog_6_method_26_code 287 = .ok (.aload_n 0, 1) := by decide +kernel
theorem d_Rd_standsInFunctionHead_288 : decode prog_6_method_26_code 288 = .ok (.bipush 19, 2) := by decide +kernel
theorem d_Rd_standsInFunctionHead_290 : decode prog_6_method_26_code 290 = .ok (.invokevirtual 244, 3) := by decide +kernel
theorem d_Rd_standsInFunctionHead_293 : decode prog_6_method_26_code 293 = .ok (.ireturn, 1) := by decide +kernel
theorem d_Rd_standsInFunctionHead_294 : decode prog_6_method_26_code 294 = .ok (.aload_n 0, 1) := by decide +kernel
theorem d_Rd_standsInFunctionHead_295 : decode prog_6_method_26_code 295 = .ok (.bipush 19, 2) := by decide +kernel
theorem d_Rd_standsInFunctionHead_297 : decode prog_6_method_26_code 297 = .ok (.invokevirtual 244, 3) := by decide +kernel
theorem d_Rd_standsInFunctionHead_300 : decode prog_6_method_26_code 300 = .ok (.ireturn, 1) := by decide +kernel
theorem d_Rd_standsInFunctionHead_301 : decode prog_6_method_26_code 301 = .ok (.aload_n 0, 1) := by decide +kernel
theorem d_Rd_standsInFunctionHead_302 : decode prog_6_method_26_code 302 = .ok (.getfield 69, 3) := by decide +kernel
theorem d_Rd_standsInFunctionHead_305 : decode prog_6_method_26_code 305 = .ok (.bipush 41, 2) := by decide +kernel
theorem d_Rd_standsInFunctionHead_307 : decode prog_6_method_26_code 307 = .ok (.if_icmp .ne 10, 3) := by decide +kernel
theorem d_Rd_standsInFunctionHead_310 : decode prog_6_method_26_code 310 = .ok (.aload_n 0, 1) := by decide +kernel
theorem d_Rd_standsInFunctionHead_311 : decode prog_6_method_26_code 311 = .ok (.invokevirtual 256, 3) := by decide +kernel
theorem d_Rd_standsInFunctionHead_314 : decode prog_6_method_26_code 314 = .ok (.goto 33, 3) := by decide +kernel
theorem d_Rd_standsInFunctionHead_317 : decode prog_6_method_26_code 317 = .ok (.aload_n 0, 1) := by decide +kernel
theorem d_Rd_standsInFunctionHead_318 : decode prog_6_method_26_code 318 = .ok (.getfield 69, 3) := by decide +kernel
theorem d_Rd_standsInFunctionHead_321 : decode prog_6_method_26_code 321 = .ok (.bipush 44, 2) := by decide +kernel
theorem d_Rd_standsInFunctionHead_323 : decode prog_6_method_26_code 323 = .ok (.if_icmp .ne 23, 3) := by decide +kernel
theorem d_Rd_standsInFunctionHead_326 : decode prog_6_method_26_code 326 = .ok (.aload_n 0, 1) := by decide +kernel
theorem d_Rd_standsInFunctionHead_327 : decode prog_6_method_26_code 327 = .ok (.invokevirtual 247, 3) := by decide +kernel
theorem d_Rd_standsInFunctionHead_330 : decode prog_6_method_26_code 330 = .ok (.ifCond .eq 16, 3) := by decide +kernel
theorem d_Rd_standsInFunctionHead_333 : decode prog_6_method_26_code 333 = .ok (.aload_n 0, 1) := by decide +kernel
theorem d_Rd_standsInFunctionHead_334 : decode prog_6_method_26_code 334 = .ok (.bipush 18, 2) := by decide +kernel
theorem d_Rd_standsInFunctionHead_336 : decode prog_6_method_26_code 336 = .ok (.invokevirtual 130, 3) := by decide +kernel
theorem d_Rd_standsInFunctionHead_339 : decode prog_6_method_26_code 339 = .ok (.ifCond .eq 7, 3) := by decide +kernel
theorem d_Rd_standsInFunctionHead_342 : decode prog_6_method_26_code 342 = .ok (.iconst 1, 1) := by decide +kernel
theorem d_Rd_standsInFunctionHead_343 : decode prog_6_method_26_code 343 = .ok (.goto 4, 3) := by decide +kernel
theorem d_Rd_standsInFunctionHead_346 : decode prog_6_method_26_code 346 = .ok (.iconst 0, 1) := by decide +kernel
theorem d_Rd_standsInFunctionHead_347 : decode prog_6_method_26_code 347 = .ok (.ireturn, 1) := by decide +kernel
theorem d_Rd_standsInFunctionHead_348 : decode prog_6_method_26_code 348 = .ok (.iconst 0, 1) := by decide +kernel
theorem d_Rd_standsInFunctionHead_349 : decode prog_6_method_26_code 349 = .ok (.ireturn, 1) := by decide +kernel
set_option maxHeartbeats 4000000 in
set_option maxRecDepth 100000 in
theorem c_Rd_standsInFunctionHead (l : Launch) (D : va_G) (cI cB cJ cS : ClassId) (h0 : Nat) (a_scanner_h0 : Nat) (a_draft_h0 : Nat) (a_waiting_h0 : Nat) (a_functions_h0 : Nat) (a_bottom_h0 : Nat) (a_top_h0 : Nat) (a_text_h0 : Nat) (a_text_a_scanner_h0 : Nat) (V_below_a_top_h0 : Value) (V_above_a_top_h0 : Value) (a_cells_a_functions_h0 : Nat) (a_cells_a_draft_h0 : Nat) (a_bytes_a_text_h0 : Nat) (mode_h0 : Int32) (levels_h0 : Int32) (signs_h0 : Int32) (loops_h0 : Int32) (token_h0 : Int32) (fault_h0 : Int32) (next_a_scanner_h0 : Int32) (kind_a_scanner_h0 : Int32) (start_a_scanner_h0 : Int32) (width_a_scanner_h0 : Int32) (kind_a_top_h0 : Int32) (place_a_top_h0 : Int32) (width_a_top_h0 : Int32) (second_a_top_h0 : Int32) (parts_a_top_h0 : Int32) (innerParts_a_top_h0 : Int32) (innerPlace_a_top_h0 : Int32) (innerWidth_a_top_h0 : Int32) (signs_a_top_h0 : Int32) (waitingBelow_a_top_h0 : Int32) (limited_a_top_h0 : Int32) (targets_a_top_h0 : Int32) (lastBlock_a_top_h0 : Int32) (count_a_functions_h0 : Int32) (n_a_cells_a_functions_h0 : Nat) (b_a_cells_a_functions_h0 : Nat → Int32) (count_a_draft_h0 : Int32) (n_a_cells_a_draft_h0 : Nat) (b_a_cells_a_draft_h0 : Nat → Int32) (size_a_text_h0 : Int32) (n_a_bytes_a_text_h0 : Nat) (b_a_bytes_a_text_h0 : Nat → Int32) (ret : Int32) (o_0_7 : Int32) (o_2_4 : Int32) (o_2_5 : Int32) (o_2_6 : Int32) (o_2_7 : Int32) (o_2_8 : Int32) (o_3_1 : Int32) (o_5_1 : Int32) (on_nq_3_0 : Nat) (ob_nq_3_0 : Nat → Int32) (on_nq_5_0 : Nat) (ob_nq_5_0 : Nat → Int32) (mc ms : Nat) (h : F_Rd_standsInFunctionHead mode_h0 levels_h0 signs_h0 loops_h0 token_h0 fault_h0 next_a_scanner_h0 kind_a_scanner_h0 start_a_scanner_h0 width_a_scanner_h0 kind_a_top_h0 place_a_top_h0 width_a_top_h0 second_a_top_h0 parts_a_top_h0 innerParts_a_top_h0 innerPlace_a_top_h0 innerWidth_a_top_h0 signs_a_top_h0 waitingBelow_a_top_h0 limited_a_top_h0 targets_a_top_h0 lastBlock_a_top_h0 count_a_functions_h0 n_a_cells_a_functions_h0 b_a_cells_a_functions_h0 count_a_draft_h0 n_a_cells_a_draft_h0 b_a_cells_a_draft_h0 size_a_text_h0 n_a_bytes_a_text_h0 b_a_bytes_a_text_h0 = some ((ret, o_0_7, o_2_4, o_2_5, o_2_6, o_2_7, o_2_8, o_3_1, o_5_1, on_nq_3_0, ob_nq_3_0, on_nq_5_0, ob_nq_5_0), mc, ms)) : Ct l D (gT cI cB cJ cS) y_Rd_standsInFunctionHead prog_6_method_26_code 1 (Option.some Jvm.ClassFile.FieldType.boolean) 6 177 mc ms [.ref h0] [(h0, .inr (2, [.ref a_scanner_h0, .ref a_draft_h0, .ref a_waiting_h0, .ref a_functions_h0, .ref a_bottom_h0, .ref a_top_h0, .ref a_text_h0, .int mode_h0, .int levels_h0, .int signs_h0, .int loops_h0, .int token_h0, .int fault_h0])), (a_scanner_h0, .inr (4, [.ref a_text_a_scanner_h0, .int next_a_scanner_h0, .int kind_a_scanner_h0, .int start_a_scanner_h0, .int width_a_scanner_h0])), (a_top_h0, .inr (0, [V_below_a_top_h0, V_above_a_top_h0, .int kind_a_top_h0, .int place_a_top_h0, .int width_a_top_h0, .int second_a_top_h0, .int parts_a_top_h0, .int innerParts_a_top_h0, .int innerPlace_a_top_h0, .int innerWidth_a_top_h0, .int signs_a_top_h0, .int waitingBelow_a_top_h0, .int limited_a_top_h0, .int targets_a_top_h0, .int lastBlock_a_top_h0])), (a_functions_h0, .inr (5, [.ref a_cells_a_functions_h0, .int count_a_functions_h0])), (a_cells_a_functions_h0, .inl (cI, n_a_cells_a_functions_h0, .inl b_a_cells_a_functions_h0)), (a_draft_h0, .inr (1, [.ref a_cells_a_draft_h0, .int count_a_draft_h0])), (a_cells_a_draft_h0, .inl (cI, n_a_cells_a_draft_h0, .inl b_a_cells_a_draft_h0)), (a_text_h0, .inr (3, [.ref a_bytes_a_text_h0, .int size_a_text_h0])), (a_bytes_a_text_h0, .inl (cB, n_a_bytes_a_text_h0, .inl b_a_bytes_a_text_h0))] (fun v w => ∃ nq_3_0 : Nat, ∃ nq_5_0 : Nat, v = some (.int ret) ∧ zb ret ∧ w = [(h0, .inr (2, [.ref a_scanner_h0, .ref a_draft_h0, .ref a_waiting_h0, .ref a_functions_h0, .ref a_bottom_h0, .ref a_top_h0, .ref a_text_h0, .int o_0_7, .int levels_h0, .int signs_h0, .int loops_h0, .int token_h0, .int fault_h0])), (a_scanner_h0, .inr (4, [.ref a_text_a_scanner_h0, .int next_a_scanner_h0, .int kind_a_scanner_h0, .int start_a_scanner_h0, .int width_a_scanner_h0])), (a_top_h0, .inr (0, [V_below_a_top_h0, V_above_a_top_h0, .int kind_a_top_h0, .int place_a_top_h0, .int o_2_4, .int o_2_5, .int o_2_6, .int o_2_7, .int o_2_8, .int innerWidth_a_top_h0, .int signs_a_top_h0, .int waitingBelow_a_top_h0, .int limited_a_top_h0, .int targets_a_top_h0, .int lastBlock_a_top_h0])), (a_functions_h0, .inr (5, [.ref nq_3_0, .int o_3_1])), (a_draft_h0, .inr (1, [.ref nq_5_0, .int o_5_1])), (a_text_h0, .inr (3, [.ref a_bytes_a_text_h0, .int size_a_text_h0])), (a_bytes_a_text_h0, .inl (cB, n_a_bytes_a_text_h0, .inl b_a_bytes_a_text_h0)), (nq_3_0, .inl (cI, on_nq_3_0, .inl ob_nq_3_0)), (nq_5_0, .inl (cI, on_nq_5_0, .inl ob_nq_5_0))]) := by
  refine Ct.mk (by decide) (Nat.le_of_ble_eq_true rfl) ?_
  intro p e s m below meth c hr hnm
  refine j_norm (pc' := 0) (lv' := [(0, .ref h0)]) (st' := []) (ws' := [(h0, .inr (2, [.ref a_scanner_h0, .ref a_draft_h0, .ref a_waiting_h0, .ref a_functions_h0, .ref a_bottom_h0, .ref a_top_h0, .ref a_text_h0, .int mode_h0, .int levels_h0, .int signs_h0, .int loops_h0, .int token_h0, .int fault_h0])), (a_scanner_h0, .inr (4, [.ref a_text_a_scanner_h0, .int next_a_scanner_h0, .int kind_a_scanner_h0, .int start_a_scanner_h0, .int width_a_scanner_h0])), (a_top_h0, .inr (0, [V_below_a_top_h0, V_above_a_top_h0, .int kind_a_top_h0, .int place_a_top_h0, .int width_a_top_h0, .int second_a_top_h0, .int parts_a_top_h0, .int innerParts_a_top_h0, .int innerPlace_a_top_h0, .int innerWidth_a_top_h0, .int signs_a_top_h0, .int waitingBelow_a_top_h0, .int limited_a_top_h0, .int targets_a_top_h0, .int lastBlock_a_top_h0])), (a_functions_h0, .inr (5, [.ref a_cells_a_functions_h0, .int count_a_functions_h0])), (a_cells_a_functions_h0, .inl (cI, n_a_cells_a_functions_h0, .inl b_a_cells_a_functions_h0)), (a_draft_h0, .inr (1, [.ref a_cells_a_draft_h0, .int count_a_draft_h0])), (a_cells_a_draft_h0, .inl (cI, n_a_cells_a_draft_h0, .inl b_a_cells_a_draft_h0)), (a_text_h0, .inr (3, [.ref a_bytes_a_text_h0, .int size_a_text_h0])), (a_bytes_a_text_h0, .inl (cB, n_a_bytes_a_text_h0, .inl b_a_bytes_a_text_h0))]) (cl' := 0) (sl' := 0) rfl rfl rfl rfl rfl rfl ?_
  unfold F_Rd_standsInFunctionHead at h
  have hC : 0 + mc ≤ mc := by omega
  have hS : 0 + ms ≤ ms := by omega
  refine j_aload_n d_Rd_standsInFunctionHead_0 rfl 0 rfl ?_
  refine j_get ig_Rd rfl 0 rfl 7 (by decide) rfl m_176 rfl d_Rd_standsInFunctionHead_1 ?_
  by_cases c1 : mode_h0 = 10
  · replace h := it_t c1 h
    refine j_tabIn (tgt := 60) (off := 56) d_Rd_standsInFunctionHead_4 10 c1 (by decide) (by decide) (by decide) (by decide) ?_
    refine j_aload_n d_Rd_standsInFunctionHead_60 rfl 0 rfl ?_
    refine j_get ig_Rd rfl 0 rfl 11 (by decide) rfl m_180 rfl d_Rd_standsInFunctionHead_61 ?_
    refine j_bipush (v := 91) d_Rd_standsInFunctionHead_64 (by decide) ?_
    refine j_icmp_ne (tgt := 78) d_Rd_standsInFunctionHead_66 (by decide) (fun c2 => ?_) (fun c2 => ?_)
    · replace h := it_f c2 h
      refine j_aload_n d_Rd_standsInFunctionHead_78 rfl 0 rfl ?_
      refine j_get ig_Rd rfl 0 rfl 11 (by decide) rfl m_180 rfl d_Rd_standsInFunctionHead_79 ?_
      refine j_iconst (v := 2) d_Rd_standsInFunctionHead_82 (by decide) ?_
      refine j_icmp_ne (tgt := 99) d_Rd_standsInFunctionHead_83 (by decide) (fun c3 => ?_) (fun c3 => ?_)
      · replace h := it_f c3 h
        refine j_iconst (v := 0) d_Rd_standsInFunctionHead_99 (by decide) ?_
        replace h := lf_s h
        obtain ⟨h, e1, e2⟩ := h
        replace h := Prod.mk.inj h
        obtain ⟨h9, h⟩ := h
        subst h9
        replace h := Prod.mk.inj h
        obtain ⟨h9, h⟩ := h
        subst h9
        replace h := Prod.mk.inj h
        obtain ⟨h9, h⟩ := h
        subst h9
        replace h := Prod.mk.inj h
        obtain ⟨h9, h⟩ := h
        subst h9
        replace h := Prod.mk.inj h
        obtain ⟨h9, h⟩ := h
        subst h9
        replace h := Prod.mk.inj h
        obtain ⟨h9, h⟩ := h
        subst h9
        replace h := Prod.mk.inj h
        obtain ⟨h9, h⟩ := h
        subst h9
        replace h := Prod.mk.inj h
        obtain ⟨h9, h⟩ := h
        subst h9
        replace h := Prod.mk.inj h
        obtain ⟨h9, h⟩ := h
        subst h9
        replace h := Prod.mk.inj h
        obtain ⟨h9, h⟩ := h
        subst h9
        replace h := Prod.mk.inj h
        obtain ⟨h9, h⟩ := h
        subst h9
        replace h := Prod.mk.inj h
        obtain ⟨h9, h⟩ := h
        subst h9
        subst h
        refine j_widen (cl' := mc) (sl' := ms) (by omega) (by omega) ?_
        exact j_zret (w := [(h0, .inr (2, [.ref a_scanner_h0, .ref a_draft_h0, .ref a_waiting_h0, .ref a_functions_h0, .ref a_bottom_h0, .ref a_top_h0, .ref a_text_h0, .int mode_h0, .int levels_h0, .int signs_h0, .int loops_h0, .int token_h0, .int fault_h0])), (a_scanner_h0, .inr (4, [.ref a_text_a_scanner_h0, .int next_a_scanner_h0, .int kind_a_scanner_h0, .int start_a_scanner_h0, .int width_a_scanner_h0])), (a_top_h0, .inr (0, [V_below_a_top_h0, V_above_a_top_h0, .int kind_a_top_h0, .int place_a_top_h0, .int width_a_top_h0, .int second_a_top_h0, .int parts_a_top_h0, .int innerParts_a_top_h0, .int innerPlace_a_top_h0, .int innerWidth_a_top_h0, .int signs_a_top_h0, .int waitingBelow_a_top_h0, .int limited_a_top_h0, .int targets_a_top_h0, .int lastBlock_a_top_h0])), (a_functions_h0, .inr (5, [.ref a_cells_a_functions_h0, .int count_a_functions_h0])), (a_draft_h0, .inr (1, [.ref a_cells_a_draft_h0, .int count_a_draft_h0])), (a_text_h0, .inr (3, [.ref a_bytes_a_text_h0, .int size_a_text_h0])), (a_bytes_a_text_h0, .inl (cB, n_a_bytes_a_text_h0, .inl b_a_bytes_a_text_h0)), (a_cells_a_functions_h0, .inl (cI, n_a_cells_a_functions_h0, .inl b_a_cells_a_functions_h0)), (a_cells_a_draft_h0, .inl (cI, n_a_cells_a_draft_h0, .inl b_a_cells_a_draft_h0))]) hr (zb_n zb0) d_Rd_standsInFunctionHead_100 [0, 1, 2, 3, 5, 7, 8, 4, 6] rfl (by decide) ⟨a_cells_a_functions_h0, a_cells_a_draft_h0, rfl, zb0, rfl⟩
      · replace h := it_t c3 h
        refine j_aload_n d_Rd_standsInFunctionHead_86 rfl 0 rfl ?_
        refine j_bipush (v := 11) d_Rd_standsInFunctionHead_87 (by decide) ?_
        refine j_callV (n := 1) (As := [.int 11]) (rest := []) (wr := [(a_functions_h0, .inr (5, [.ref a_cells_a_functions_h0, .int count_a_functions_h0])), (a_cells_a_functions_h0, .inl (cI, n_a_cells_a_functions_h0, .inl b_a_cells_a_functions_h0)), (a_draft_h0, .inr (1, [.ref a_cells_a_draft_h0, .int count_a_draft_h0])), (a_cells_a_draft_h0, .inl (cI, n_a_cells_a_draft_h0, .inl b_a_cells_a_draft_h0)), (a_text_h0, .inr (3, [.ref a_bytes_a_text_h0, .int size_a_text_h0])), (a_bytes_a_text_h0, .inl (cB, n_a_bytes_a_text_h0, .inl b_a_bytes_a_text_h0))]) (c_Rd_keepName l D cI cB cJ cS h0 a_scanner_h0 a_draft_h0 a_waiting_h0 a_functions_h0 a_bottom_h0 a_top_h0 a_text_h0 a_text_a_scanner_h0 V_below_a_top_h0 V_above_a_top_h0 11 mode_h0 levels_h0 signs_h0 loops_h0 token_h0 fault_h0 next_a_scanner_h0 kind_a_scanner_h0 start_a_scanner_h0 width_a_scanner_h0 kind_a_top_h0 place_a_top_h0 width_a_top_h0 second_a_top_h0 parts_a_top_h0 innerParts_a_top_h0 innerPlace_a_top_h0 innerWidth_a_top_h0 signs_a_top_h0 waitingBelow_a_top_h0 limited_a_top_h0 targets_a_top_h0 lastBlock_a_top_h0  ) k_Rd_235 (by decide) ⟨Nat.le_of_ble_eq_true rfl, Nat.le_of_ble_eq_true rfl⟩ rfl 0 rfl [0, 1, 2] [3, 4, 5, 6, 7, 8] rfl (by decide) rfl (by decide) (by decide) rfl rfl (Nat.le_of_ble_eq_true rfl) d_Rd_standsInFunctionHead_89 ⟨show 0 + 0 ≤ mc by omega, show 0 + 0 ≤ ms by omega⟩ (fun v w hq => ?_)
        obtain ⟨rfl, _, rfl⟩ := hq
        refine j_norm (pc' := 92) (st' := [.int 1]) (ws' := [(a_functions_h0, .inr (5, [.ref a_cells_a_functions_h0, .int count_a_functions_h0])), (a_cells_a_functions_h0, .inl (cI, n_a_cells_a_functions_h0, .inl b_a_cells_a_functions_h0)), (a_draft_h0, .inr (1, [.ref a_cells_a_draft_h0, .int count_a_draft_h0])), (a_cells_a_draft_h0, .inl (cI, n_a_cells_a_draft_h0, .inl b_a_cells_a_draft_h0)), (a_text_h0, .inr (3, [.ref a_bytes_a_text_h0, .int size_a_text_h0])), (a_bytes_a_text_h0, .inl (cB, n_a_bytes_a_text_h0, .inl b_a_bytes_a_text_h0)), (h0, .inr (2, [.ref a_scanner_h0, .ref a_draft_h0, .ref a_waiting_h0, .ref a_functions_h0, .ref a_bottom_h0, .ref a_top_h0, .ref a_text_h0, .int 11, .int levels_h0, .int signs_h0, .int loops_h0, .int token_h0, .int fault_h0])), (a_scanner_h0, .inr (4, [.ref a_text_a_scanner_h0, .int next_a_scanner_h0, .int kind_a_scanner_h0, .int start_a_scanner_h0, .int width_a_scanner_h0])), (a_top_h0, .inr (0, [V_below_a_top_h0, V_above_a_top_h0, .int kind_a_top_h0, .int place_a_top_h0, .int width_a_scanner_h0, .int start_a_scanner_h0, .int parts_a_top_h0, .int innerParts_a_top_h0, .int innerPlace_a_top_h0, .int innerWidth_a_top_h0, .int signs_a_top_h0, .int waitingBelow_a_top_h0, .int limited_a_top_h0, .int targets_a_top_h0, .int lastBlock_a_top_h0]))]) (cl' := 0) (sl' := 0) rfl rfl rfl rfl rfl rfl ?_
        refine j_if_eq (tgt := 99) d_Rd_standsInFunctionHead_92 (by decide) (fun c5 => absurd c5 (by decide)) (fun c5 => ?_)
        refine j_iconst (v := 1) d_Rd_standsInFunctionHead_95 (by decide) ?_
        refine j_goto (tgt := 100) d_Rd_standsInFunctionHead_96 (by decide) ?_
        replace h := lf_s h
        obtain ⟨h, e1, e2⟩ := h
        replace h := Prod.mk.inj h
        obtain ⟨h9, h⟩ := h
        subst h9
        replace h := Prod.mk.inj h
        obtain ⟨h9, h⟩ := h
        subst h9
        replace h := Prod.mk.inj h
        obtain ⟨h9, h⟩ := h
        subst h9
        replace h := Prod.mk.inj h
        obtain ⟨h9, h⟩ := h
        subst h9
        replace h := Prod.mk.inj h
        obtain ⟨h9, h⟩ := h
        subst h9
        replace h := Prod.mk.inj h
        obtain ⟨h9, h⟩ := h
        subst h9
        replace h := Prod.mk.inj h
        obtain ⟨h9, h⟩ := h
        subst h9
        replace h := Prod.mk.inj h
        obtain ⟨h9, h⟩ := h
        subst h9
        replace h := Prod.mk.inj h
        obtain ⟨h9, h⟩ := h
        subst h9
        replace h := Prod.mk.inj h
        obtain ⟨h9, h⟩ := h
        subst h9
        replace h := Prod.mk.inj h
        obtain ⟨h9, h⟩ := h
        subst h9
        replace h := Prod.mk.inj h
        obtain ⟨h9, h⟩ := h
        subst h9
        subst h
        refine j_widen (cl' := mc) (sl' := ms) (by omega) (by omega) ?_
        exact j_zret (w := [(h0, .inr (2, [.ref a_scanner_h0, .ref a_draft_h0, .ref a_waiting_h0, .ref a_functions_h0, .ref a_bottom_h0, .ref a_top_h0, .ref a_text_h0, .int 11, .int levels_h0, .int signs_h0, .int loops_h0, .int token_h0, .int fault_h0])), (a_scanner_h0, .inr (4, [.ref a_text_a_scanner_h0, .int next_a_scanner_h0, .int kind_a_scanner_h0, .int start_a_scanner_h0, .int width_a_scanner_h0])), (a_top_h0, .inr (0, [V_below_a_top_h0, V_above_a_top_h0, .int kind_a_top_h0, .int place_a_top_h0, .int width_a_scanner_h0, .int start_a_scanner_h0, .int parts_a_top_h0, .int innerParts_a_top_h0, .int innerPlace_a_top_h0, .int innerWidth_a_top_h0, .int signs_a_top_h0, .int waitingBelow_a_top_h0, .int limited_a_top_h0, .int targets_a_top_h0, .int lastBlock_a_top_h0])), (a_functions_h0, .inr (5, [.ref a_cells_a_functions_h0, .int count_a_functions_h0])), (a_draft_h0, .inr (1, [.ref a_cells_a_draft_h0, .int count_a_draft_h0])), (a_text_h0, .inr (3, [.ref a_bytes_a_text_h0, .int size_a_text_h0])), (a_bytes_a_text_h0, .inl (cB, n_a_bytes_a_text_h0, .inl b_a_bytes_a_text_h0)), (a_cells_a_functions_h0, .inl (cI, n_a_cells_a_functions_h0, .inl b_a_cells_a_functions_h0)), (a_cells_a_draft_h0, .inl (cI, n_a_cells_a_draft_h0, .inl b_a_cells_a_draft_h0))]) hr (zb_n zb1) d_Rd_standsInFunctionHead_100 [6, 7, 8, 0, 2, 4, 5, 1, 3] rfl (by decide) ⟨a_cells_a_functions_h0, a_cells_a_draft_h0, rfl, zb1, rfl⟩
    · replace h := it_t c2 h
      refine j_aload_n d_Rd_standsInFunctionHead_69 rfl 0 rfl ?_
      refine j_bipush (v := 12) d_Rd_standsInFunctionHead_70 (by decide) ?_
      refine j_callV (n := 1) (As := [.int 12]) (rest := []) (wr := [(a_scanner_h0, .inr (4, [.ref a_text_a_scanner_h0, .int next_a_scanner_h0, .int kind_a_scanner_h0, .int start_a_scanner_h0, .int width_a_scanner_h0])), (a_top_h0, .inr (0, [V_below_a_top_h0, V_above_a_top_h0, .int kind_a_top_h0, .int place_a_top_h0, .int width_a_top_h0, .int second_a_top_h0, .int parts_a_top_h0, .int innerParts_a_top_h0, .int innerPlace_a_top_h0, .int innerWidth_a_top_h0, .int signs_a_top_h0, .int waitingBelow_a_top_h0, .int limited_a_top_h0, .int targets_a_top_h0, .int lastBlock_a_top_h0])), (a_functions_h0, .inr (5, [.ref a_cells_a_functions_h0, .int count_a_functions_h0])), (a_cells_a_functions_h0, .inl (cI, n_a_cells_a_functions_h0, .inl b_a_cells_a_functions_h0)), (a_draft_h0, .inr (1, [.ref a_cells_a_draft_h0, .int count_a_draft_h0])), (a_cells_a_draft_h0, .inl (cI, n_a_cells_a_draft_h0, .inl b_a_cells_a_draft_h0)), (a_text_h0, .inr (3, [.ref a_bytes_a_text_h0, .int size_a_text_h0])), (a_bytes_a_text_h0, .inl (cB, n_a_bytes_a_text_h0, .inl b_a_bytes_a_text_h0))]) (c_Rd_goOn l D cI cB cJ cS h0 a_scanner_h0 a_draft_h0 a_waiting_h0 a_functions_h0 a_bottom_h0 a_top_h0 a_text_h0 12 mode_h0 levels_h0 signs_h0 loops_h0 token_h0 fault_h0  ) k_Rd_130 (by decide) ⟨Nat.le_of_ble_eq_true rfl, Nat.le_of_ble_eq_true rfl⟩ rfl 0 rfl [0] [1, 2, 3, 4, 5, 6, 7, 8] rfl (by decide) rfl (by decide) (by decide) rfl rfl (Nat.le_of_ble_eq_true rfl) d_Rd_standsInFunctionHead_72 ⟨show 0 + 0 ≤ mc by omega, show 0 + 0 ≤ ms by omega⟩ (fun v w hq => ?_)
      obtain ⟨rfl, _, rfl⟩ := hq
      refine j_norm (pc' := 75) (st' := [.int 1]) (ws' := [(a_scanner_h0, .inr (4, [.ref a_text_a_scanner_h0, .int next_a_scanner_h0, .int kind_a_scanner_h0, .int start_a_scanner_h0, .int width_a_scanner_h0])), (a_top_h0, .inr (0, [V_below_a_top_h0, V_above_a_top_h0, .int kind_a_top_h0, .int place_a_top_h0, .int width_a_top_h0, .int second_a_top_h0, .int parts_a_top_h0, .int innerParts_a_top_h0, .int innerPlace_a_top_h0, .int innerWidth_a_top_h0, .int signs_a_top_h0, .int waitingBelow_a_top_h0, .int limited_a_top_h0, .int targets_a_top_h0, .int lastBlock_a_top_h0])), (a_functions_h0, .inr (5, [.ref a_cells_a_functions_h0, .int count_a_functions_h0])), (a_cells_a_functions_h0, .inl (cI, n_a_cells_a_functions_h0, .inl b_a_cells_a_functions_h0)), (a_draft_h0, .inr (1, [.ref a_cells_a_draft_h0, .int count_a_draft_h0])), (a_cells_a_draft_h0, .inl (cI, n_a_cells_a_draft_h0, .inl b_a_cells_a_draft_h0)), (a_text_h0, .inr (3, [.ref a_bytes_a_text_h0, .int size_a_text_h0])), (a_bytes_a_text_h0, .inl (cB, n_a_bytes_a_text_h0, .inl b_a_bytes_a_text_h0)), (h0, .inr (2, [.ref a_scanner_h0, .ref a_draft_h0, .ref a_waiting_h0, .ref a_functions_h0, .ref a_bottom_h0, .ref a_top_h0, .ref a_text_h0, .int 12, .int levels_h0, .int signs_h0, .int loops_h0, .int token_h0, .int fault_h0]))]) (cl' := 0) (sl' := 0) rfl rfl rfl rfl rfl rfl ?_
      refine j_goto (tgt := 100) d_Rd_standsInFunctionHead_75 (by decide) ?_
      replace h := lf_s h
      obtain ⟨h, e1, e2⟩ := h
      replace h := Prod.mk.inj h
      obtain ⟨h9, h⟩ := h
      subst h9
      replace h := Prod.mk.inj h
      obtain ⟨h9, h⟩ := h
      subst h9
      replace h := Prod.mk.inj h
      obtain ⟨h9, h⟩ := h
      subst h9
      replace h := Prod.mk.inj h
      obtain ⟨h9, h⟩ := h
      subst h9
      replace h := Prod.mk.inj h
      obtain ⟨h9, h⟩ := h
      subst h9
      replace h := Prod.mk.inj h
      obtain ⟨h9, h⟩ := h
      subst h9
      replace h := Prod.mk.inj h
      obtain ⟨h9, h⟩ := h
      subst h9
      replace h := Prod.mk.inj h
      obtain ⟨h9, h⟩ := h
      subst h9
      replace h := Prod.mk.inj h
      obtain ⟨h9, h⟩ := h
      subst h9
      replace h := Prod.mk.inj h
      obtain ⟨h9, h⟩ := h
      subst h9
      replace h := Prod.mk.inj h
      obtain ⟨h9, h⟩ := h
      subst h9
      replace h := Prod.mk.inj h
      obtain ⟨h9, h⟩ := h
      subst h9
      subst h
      refine j_widen (cl' := mc) (sl' := ms) (by omega) (by omega) ?_
      exact j_zret (w := [(h0, .inr (2, [.ref a_scanner_h0, .ref a_draft_h0, .ref a_waiting_h0, .ref a_functions_h0, .ref a_bottom_h0, .ref a_top_h0, .ref a_text_h0, .int 12, .int levels_h0, .int signs_h0, .int loops_h0, .int token_h0, .int fault_h0])), (a_scanner_h0, .inr (4, [.ref a_text_a_scanner_h0, .int next_a_scanner_h0, .int kind_a_scanner_h0, .int start_a_scanner_h0, .int width_a_scanner_h0])), (a_top_h0, .inr (0, [V_below_a_top_h0, V_above_a_top_h0, .int kind_a_top_h0, .int place_a_top_h0, .int width_a_top_h0, .int second_a_top_h0, .int parts_a_top_h0, .int innerParts_a_top_h0, .int innerPlace_a_top_h0, .int innerWidth_a_top_h0, .int signs_a_top_h0, .int waitingBelow_a_top_h0, .int limited_a_top_h0, .int targets_a_top_h0, .int lastBlock_a_top_h0])), (a_functions_h0, .inr (5, [.ref a_cells_a_functions_h0, .int count_a_functions_h0])), (a_draft_h0, .inr (1, [.ref a_cells_a_draft_h0, .int count_a_draft_h0])), (a_text_h0, .inr (3, [.ref a_bytes_a_text_h0, .int size_a_text_h0])), (a_bytes_a_text_h0, .inl (cB, n_a_bytes_a_text_h0, .inl b_a_bytes_a_text_h0)), (a_cells_a_functions_h0, .inl (cI, n_a_cells_a_functions_h0, .inl b_a_cells_a_functions_h0)), (a_cells_a_draft_h0, .inl (cI, n_a_cells_a_draft_h0, .inl b_a_cells_a_draft_h0))]) hr (zb_n zb1) d_Rd_standsInFunctionHead_100 [8, 0, 1, 2, 4, 6, 7, 3, 5] rfl (by decide) ⟨a_cells_a_functions_h0, a_cells_a_draft_h0, rfl, zb1, rfl⟩
  · replace h := it_f c1 h
    by_cases c7 : mode_h0 = 11
    · replace h := it_t c7 h
      refine j_tabIn (tgt := 101) (off := 97) d_Rd_standsInFunctionHead_4 11 c7 (by decide) (by decide) (by decide) (by decide) ?_
      refine j_aload_n d_Rd_standsInFunctionHead_101 rfl 0 rfl ?_
      refine j_get ig_Rd rfl 0 rfl 11 (by decide) rfl m_180 rfl d_Rd_standsInFunctionHead_102 ?_
      refine j_bipush (v := 61) d_Rd_standsInFunctionHead_105 (by decide) ?_
      refine j_icmp_ne (tgt := 117) d_Rd_standsInFunctionHead_107 (by decide) (fun c8 => ?_) (fun c8 => ?_)
      · replace h := it_f c8 h
        refine j_aload_n d_Rd_standsInFunctionHead_117 rfl 0 rfl ?_
        refine j_get ig_Rd rfl 0 rfl 11 (by decide) rfl m_180 rfl d_Rd_standsInFunctionHead_118 ?_
        refine j_bipush (v := 40) d_Rd_standsInFunctionHead_121 (by decide) ?_
        refine j_icmp_ne (tgt := 137) d_Rd_standsInFunctionHead_123 (by decide) (fun c9 => ?_) (fun c9 => ?_)
        · replace h := it_f c9 h
          refine j_iconst (v := 0) d_Rd_standsInFunctionHead_137 (by decide) ?_
          replace h := lf_s h
          obtain ⟨h, e1, e2⟩ := h
          replace h := Prod.mk.inj h
          obtain ⟨h9, h⟩ := h
          subst h9
          replace h := Prod.mk.inj h
          obtain ⟨h9, h⟩ := h
          subst h9
          replace h := Prod.mk.inj h
          obtain ⟨h9, h⟩ := h
          subst h9
          replace h := Prod.mk.inj h
          obtain ⟨h9, h⟩ := h
          subst h9
          replace h := Prod.mk.inj h
          obtain ⟨h9, h⟩ := h
          subst h9
          replace h := Prod.mk.inj h
          obtain ⟨h9, h⟩ := h
          subst h9
          replace h := Prod.mk.inj h
          obtain ⟨h9, h⟩ := h
          subst h9
          replace h := Prod.mk.inj h
          obtain ⟨h9, h⟩ := h
          subst h9
          replace h := Prod.mk.inj h
          obtain ⟨h9, h⟩ := h
          subst h9
          replace h := Prod.mk.inj h
          obtain ⟨h9, h⟩ := h
          subst h9
          replace h := Prod.mk.inj h
          obtain ⟨h9, h⟩ := h
          subst h9
          replace h := Prod.mk.inj h
          obtain ⟨h9, h⟩ := h
          subst h9
          subst h
          refine j_widen (cl' := mc) (sl' := ms) (by omega) (by omega) ?_
          exact j_zret (w := [(h0, .inr (2, [.ref a_scanner_h0, .ref a_draft_h0, .ref a_waiting_h0, .ref a_functions_h0, .ref a_bottom_h0, .ref a_top_h0, .ref a_text_h0, .int mode_h0, .int levels_h0, .int signs_h0, .int loops_h0, .int token_h0, .int fault_h0])), (a_scanner_h0, .inr (4, [.ref a_text_a_scanner_h0, .int next_a_scanner_h0, .int kind_a_scanner_h0, .int start_a_scanner_h0, .int width_a_scanner_h0])), (a_top_h0, .inr (0, [V_below_a_top_h0, V_above_a_top_h0, .int kind_a_top_h0, .int place_a_top_h0, .int width_a_top_h0, .int second_a_top_h0, .int parts_a_top_h0, .int innerParts_a_top_h0, .int innerPlace_a_top_h0, .int innerWidth_a_top_h0, .int signs_a_top_h0, .int waitingBelow_a_top_h0, .int limited_a_top_h0, .int targets_a_top_h0, .int lastBlock_a_top_h0])), (a_functions_h0, .inr (5, [.ref a_cells_a_functions_h0, .int count_a_functions_h0])), (a_draft_h0, .inr (1, [.ref a_cells_a_draft_h0, .int count_a_draft_h0])), (a_text_h0, .inr (3, [.ref a_bytes_a_text_h0, .int size_a_text_h0])), (a_bytes_a_text_h0, .inl (cB, n_a_bytes_a_text_h0, .inl b_a_bytes_a_text_h0)), (a_cells_a_functions_h0, .inl (cI, n_a_cells_a_functions_h0, .inl b_a_cells_a_functions_h0)), (a_cells_a_draft_h0, .inl (cI, n_a_cells_a_draft_h0, .inl b_a_cells_a_draft_h0))]) hr (zb_n zb0) d_Rd_standsInFunctionHead_138 [0, 1, 2, 3, 5, 7, 8, 4, 6] rfl (by decide) ⟨a_cells_a_functions_h0, a_cells_a_draft_h0, rfl, zb0, rfl⟩
        · replace h := it_t c9 h
          refine j_aload_n d_Rd_standsInFunctionHead_126 rfl 0 rfl ?_
          replace h := bw_s h
          obtain ⟨⟨r10, r11, r12, r13, r14, r15, r16, r17, r18, r19, r20⟩, C24, S25, C26, S27, k28, h, e1, e2⟩ := h
          replace hC : 0 + C24 + C26 ≤ mc := by omega
          replace hS : 0 + S25 + S27 ≤ ms := by omega
          clear e1 e2
          refine j_callV (n := 0) (As := []) (rest := []) (wr := []) (c_Rd_takeFirstAsName l D cI cB cJ cS h0 a_scanner_h0 a_draft_h0 a_waiting_h0 a_functions_h0 a_bottom_h0 a_top_h0 a_text_h0 a_cells_a_functions_h0 V_below_a_top_h0 V_above_a_top_h0 a_cells_a_draft_h0 a_bytes_a_text_h0 a_text_a_scanner_h0 mode_h0 levels_h0 signs_h0 loops_h0 token_h0 fault_h0 count_a_functions_h0 kind_a_top_h0 place_a_top_h0 width_a_top_h0 second_a_top_h0 parts_a_top_h0 innerParts_a_top_h0 innerPlace_a_top_h0 innerWidth_a_top_h0 signs_a_top_h0 waitingBelow_a_top_h0 limited_a_top_h0 targets_a_top_h0 lastBlock_a_top_h0 n_a_cells_a_functions_h0 b_a_cells_a_functions_h0 count_a_draft_h0 n_a_cells_a_draft_h0 b_a_cells_a_draft_h0 size_a_text_h0 n_a_bytes_a_text_h0 b_a_bytes_a_text_h0 next_a_scanner_h0 kind_a_scanner_h0 start_a_scanner_h0 width_a_scanner_h0  r10 r11 r12 r13 r14 r15 r16 r17 r18 r19 r20 C24 S25 k28) k_Rd_241 (by decide) ⟨Nat.le_of_ble_eq_true rfl, Nat.le_of_ble_eq_true rfl⟩ rfl 0 rfl [0, 3, 2, 4, 5, 6, 7, 8, 1] [] rfl (by decide) rfl (by decide) (by decide) rfl rfl (Nat.le_of_ble_eq_true rfl) d_Rd_standsInFunctionHead_127 ⟨show 0 + C24 ≤ mc by omega, show 0 + S25 ≤ ms by omega⟩ (fun v w hq => ?_)
          obtain ⟨q21, q22, rfl, z23, rfl⟩ := hq
          refine j_norm (pc' := 130) (st' := [.int r10]) (ws' := [(h0, .inr (2, [.ref a_scanner_h0, .ref a_draft_h0, .ref a_waiting_h0, .ref a_functions_h0, .ref a_bottom_h0, .ref a_top_h0, .ref a_text_h0, .int r11, .int levels_h0, .int signs_h0, .int loops_h0, .int token_h0, .int fault_h0])), (a_functions_h0, .inr (5, [.ref q21, .int r12])), (a_top_h0, .inr (0, [V_below_a_top_h0, V_above_a_top_h0, .int kind_a_top_h0, .int place_a_top_h0, .int width_a_top_h0, .int second_a_top_h0, .int r13, .int r14, .int r15, .int innerWidth_a_top_h0, .int signs_a_top_h0, .int waitingBelow_a_top_h0, .int limited_a_top_h0, .int targets_a_top_h0, .int lastBlock_a_top_h0])), (a_draft_h0, .inr (1, [.ref q22, .int r16])), (a_text_h0, .inr (3, [.ref a_bytes_a_text_h0, .int size_a_text_h0])), (a_bytes_a_text_h0, .inl (cB, n_a_bytes_a_text_h0, .inl b_a_bytes_a_text_h0)), (a_scanner_h0, .inr (4, [.ref a_text_a_scanner_h0, .int next_a_scanner_h0, .int kind_a_scanner_h0, .int start_a_scanner_h0, .int width_a_scanner_h0])), (q21, .inl (cI, r17, .inl r18)), (q22, .inl (cI, r19, .inl r20))]) (cl' := 0 + C24) (sl' := 0 + S25) rfl rfl rfl rfl rfl rfl ?_
          refine j_if_eq (tgt := 137) d_Rd_standsInFunctionHead_130 (by decide) (fun c29 => ?_) (fun c29 => ?_)
          · replace h := it_t c29 h
            refine j_iconst (v := 0) d_Rd_standsInFunctionHead_137 (by decide) ?_
            replace h := lf_s h
            obtain ⟨h, e1, e2⟩ := h
            replace h := Prod.mk.inj h
            obtain ⟨h9, h⟩ := h
            subst h9
            replace h := Prod.mk.inj h
            obtain ⟨h9, h⟩ := h
            subst h9
            replace h := Prod.mk.inj h
            obtain ⟨h9, h⟩ := h
            subst h9
            replace h := Prod.mk.inj h
            obtain ⟨h9, h⟩ := h
            subst h9
            replace h := Prod.mk.inj h
            obtain ⟨h9, h⟩ := h
            subst h9
            replace h := Prod.mk.inj h
            obtain ⟨h9, h⟩ := h
            subst h9
            replace h := Prod.mk.inj h
            obtain ⟨h9, h⟩ := h
            subst h9
            replace h := Prod.mk.inj h
            obtain ⟨h9, h⟩ := h
            subst h9
            replace h := Prod.mk.inj h
            obtain ⟨h9, h⟩ := h
            subst h9
            replace h := Prod.mk.inj h
            obtain ⟨h9, h⟩ := h
            subst h9
            replace h := Prod.mk.inj h
            obtain ⟨h9, h⟩ := h
            subst h9
            replace h := Prod.mk.inj h
            obtain ⟨h9, h⟩ := h
            subst h9
            subst h
            refine j_widen (cl' := mc) (sl' := ms) (by omega) (by omega) ?_
            exact j_zret (w := [(h0, .inr (2, [.ref a_scanner_h0, .ref a_draft_h0, .ref a_waiting_h0, .ref a_functions_h0, .ref a_bottom_h0, .ref a_top_h0, .ref a_text_h0, .int r11, .int levels_h0, .int signs_h0, .int loops_h0, .int token_h0, .int fault_h0])), (a_scanner_h0, .inr (4, [.ref a_text_a_scanner_h0, .int next_a_scanner_h0, .int kind_a_scanner_h0, .int start_a_scanner_h0, .int width_a_scanner_h0])), (a_top_h0, .inr (0, [V_below_a_top_h0, V_above_a_top_h0, .int kind_a_top_h0, .int place_a_top_h0, .int width_a_top_h0, .int second_a_top_h0, .int r13, .int r14, .int r15, .int innerWidth_a_top_h0, .int signs_a_top_h0, .int waitingBelow_a_top_h0, .int limited_a_top_h0, .int targets_a_top_h0, .int lastBlock_a_top_h0])), (a_functions_h0, .inr (5, [.ref q21, .int r12])), (a_draft_h0, .inr (1, [.ref q22, .int r16])), (a_text_h0, .inr (3, [.ref a_bytes_a_text_h0, .int size_a_text_h0])), (a_bytes_a_text_h0, .inl (cB, n_a_bytes_a_text_h0, .inl b_a_bytes_a_text_h0)), (q21, .inl (cI, r17, .inl r18)), (q22, .inl (cI, r19, .inl r20))]) hr (zb_n zb0) d_Rd_standsInFunctionHead_138 [0, 6, 2, 1, 3, 4, 5, 7, 8] rfl (by decide) ⟨q21, q22, rfl, zb0, rfl⟩
          · replace h := it_f c29 h
            refine j_iconst (v := 1) d_Rd_standsInFunctionHead_133 (by decide) ?_
            refine j_goto (tgt := 138) d_Rd_standsInFunctionHead_134 (by decide) ?_
            replace h := lf_s h
            obtain ⟨h, e1, e2⟩ := h
            replace h := Prod.mk.inj h
            obtain ⟨h9, h⟩ := h
            subst h9
            replace h := Prod.mk.inj h
            obtain ⟨h9, h⟩ := h
            subst h9
            replace h := Prod.mk.inj h
            obtain ⟨h9, h⟩ := h
            subst h9
            replace h := Prod.mk.inj h
            obtain ⟨h9, h⟩ := h
            subst h9
            replace h := Prod.mk.inj h
            obtain ⟨h9, h⟩ := h
            subst h9
            replace h := Prod.mk.inj h
            obtain ⟨h9, h⟩ := h
            subst h9
            replace h := Prod.mk.inj h
            obtain ⟨h9, h⟩ := h
            subst h9
            replace h := Prod.mk.inj h
            obtain ⟨h9, h⟩ := h
            subst h9
            replace h := Prod.mk.inj h
            obtain ⟨h9, h⟩ := h
            subst h9
            replace h := Prod.mk.inj h
            obtain ⟨h9, h⟩ := h
            subst h9
            replace h := Prod.mk.inj h
            obtain ⟨h9, h⟩ := h
            subst h9
            replace h := Prod.mk.inj h
            obtain ⟨h9, h⟩ := h
            subst h9
            subst h
            refine j_widen (cl' := mc) (sl' := ms) (by omega) (by omega) ?_
            exact j_zret (w := [(h0, .inr (2, [.ref a_scanner_h0, .ref a_draft_h0, .ref a_waiting_h0, .ref a_functions_h0, .ref a_bottom_h0, .ref a_top_h0, .ref a_text_h0, .int r11, .int levels_h0, .int signs_h0, .int loops_h0, .int token_h0, .int fault_h0])), (a_scanner_h0, .inr (4, [.ref a_text_a_scanner_h0, .int next_a_scanner_h0, .int kind_a_scanner_h0, .int start_a_scanner_h0, .int width_a_scanner_h0])), (a_top_h0, .inr (0, [V_below_a_top_h0, V_above_a_top_h0, .int kind_a_top_h0, .int place_a_top_h0, .int width_a_top_h0, .int second_a_top_h0, .int r13, .int r14, .int r15, .int innerWidth_a_top_h0, .int signs_a_top_h0, .int waitingBelow_a_top_h0, .int limited_a_top_h0, .int targets_a_top_h0, .int lastBlock_a_top_h0])), (a_functions_h0, .inr (5, [.ref q21, .int r12])), (a_draft_h0, .inr (1, [.ref q22, .int r16])), (a_text_h0, .inr (3, [.ref a_bytes_a_text_h0, .int size_a_text_h0])), (a_bytes_a_text_h0, .inl (cB, n_a_bytes_a_text_h0, .inl b_a_bytes_a_text_h0)), (q21, .inl (cI, r17, .inl r18)), (q22, .inl (cI, r19, .inl r20))]) hr (zb_n zb1) d_Rd_standsInFunctionHead_138 [0, 6, 2, 1, 3, 4, 5, 7, 8] rfl (by decide) ⟨q21, q22, rfl, zb1, rfl⟩
      · replace h := it_t c8 h
        refine j_aload_n d_Rd_standsInFunctionHead_110 rfl 0 rfl ?_
        replace h := bw_s h
        obtain ⟨⟨r30, r31, r32⟩, C34, S35, C36, S37, k38, h, e1, e2⟩ := h
        replace hC : 0 + C34 + C36 ≤ mc := by omega
        replace hS : 0 + S35 + S37 ≤ ms := by omega
        clear e1 e2
        refine j_callV (n := 0) (As := []) (rest := []) (wr := [(a_scanner_h0, .inr (4, [.ref a_text_a_scanner_h0, .int next_a_scanner_h0, .int kind_a_scanner_h0, .int start_a_scanner_h0, .int width_a_scanner_h0])), (a_functions_h0, .inr (5, [.ref a_cells_a_functions_h0, .int count_a_functions_h0])), (a_cells_a_functions_h0, .inl (cI, n_a_cells_a_functions_h0, .inl b_a_cells_a_functions_h0)), (a_text_h0, .inr (3, [.ref a_bytes_a_text_h0, .int size_a_text_h0])), (a_bytes_a_text_h0, .inl (cB, n_a_bytes_a_text_h0, .inl b_a_bytes_a_text_h0))]) (c_Rd_takeFirstAsResult l D cI cB cJ cS h0 a_scanner_h0 a_draft_h0 a_waiting_h0 a_functions_h0 a_bottom_h0 a_top_h0 a_text_h0 V_below_a_top_h0 V_above_a_top_h0 a_cells_a_draft_h0 mode_h0 levels_h0 signs_h0 loops_h0 token_h0 fault_h0 kind_a_top_h0 place_a_top_h0 width_a_top_h0 second_a_top_h0 parts_a_top_h0 innerParts_a_top_h0 innerPlace_a_top_h0 innerWidth_a_top_h0 signs_a_top_h0 waitingBelow_a_top_h0 limited_a_top_h0 targets_a_top_h0 lastBlock_a_top_h0 count_a_draft_h0 n_a_cells_a_draft_h0 b_a_cells_a_draft_h0  r30 r31 r32 C34 S35 k38) k_Rd_238 (by decide) ⟨Nat.le_of_ble_eq_true rfl, Nat.le_of_ble_eq_true rfl⟩ rfl 0 rfl [0, 2, 5, 6] [1, 3, 4, 7, 8] rfl (by decide) rfl (by decide) (by decide) rfl rfl (Nat.le_of_ble_eq_true rfl) d_Rd_standsInFunctionHead_111 ⟨show 0 + C34 ≤ mc by omega, show 0 + S35 ≤ ms by omega⟩ (fun v w hq => ?_)
        obtain ⟨q33, rfl, _, rfl⟩ := hq
        refine j_norm (pc' := 114) (st' := [.int 1]) (ws' := [(a_scanner_h0, .inr (4, [.ref a_text_a_scanner_h0, .int next_a_scanner_h0, .int kind_a_scanner_h0, .int start_a_scanner_h0, .int width_a_scanner_h0])), (a_functions_h0, .inr (5, [.ref a_cells_a_functions_h0, .int count_a_functions_h0])), (a_cells_a_functions_h0, .inl (cI, n_a_cells_a_functions_h0, .inl b_a_cells_a_functions_h0)), (a_text_h0, .inr (3, [.ref a_bytes_a_text_h0, .int size_a_text_h0])), (a_bytes_a_text_h0, .inl (cB, n_a_bytes_a_text_h0, .inl b_a_bytes_a_text_h0)), (h0, .inr (2, [.ref a_scanner_h0, .ref a_draft_h0, .ref a_waiting_h0, .ref a_functions_h0, .ref a_bottom_h0, .ref a_top_h0, .ref a_text_h0, .int 15, .int levels_h0, .int signs_h0, .int loops_h0, .int token_h0, .int fault_h0])), (a_top_h0, .inr (0, [V_below_a_top_h0, V_above_a_top_h0, .int kind_a_top_h0, .int place_a_top_h0, .int width_a_top_h0, .int second_a_top_h0, .int parts_a_top_h0, .int 1, .int innerPlace_a_top_h0, .int innerWidth_a_top_h0, .int signs_a_top_h0, .int waitingBelow_a_top_h0, .int limited_a_top_h0, .int targets_a_top_h0, .int lastBlock_a_top_h0])), (a_draft_h0, .inr (1, [.ref q33, .int r30])), (q33, .inl (cI, r31, .inl r32))]) (cl' := 0 + C34) (sl' := 0 + S35) rfl rfl rfl rfl rfl rfl ?_
        refine j_goto (tgt := 138) d_Rd_standsInFunctionHead_114 (by decide) ?_
        replace h := lf_s h
        obtain ⟨h, e1, e2⟩ := h
        replace h := Prod.mk.inj h
        obtain ⟨h9, h⟩ := h
        subst h9
        replace h := Prod.mk.inj h
        obtain ⟨h9, h⟩ := h
        subst h9
        replace h := Prod.mk.inj h
        obtain ⟨h9, h⟩ := h
        subst h9
        replace h := Prod.mk.inj h
        obtain ⟨h9, h⟩ := h
        subst h9
        replace h := Prod.mk.inj h
        obtain ⟨h9, h⟩ := h
        subst h9
        replace h := Prod.mk.inj h
        obtain ⟨h9, h⟩ := h
        subst h9
        replace h := Prod.mk.inj h
        obtain ⟨h9, h⟩ := h
        subst h9
        replace h := Prod.mk.inj h
        obtain ⟨h9, h⟩ := h
        subst h9
        replace h := Prod.mk.inj h
        obtain ⟨h9, h⟩ := h
        subst h9
        replace h := Prod.mk.inj h
        obtain ⟨h9, h⟩ := h
        subst h9
        replace h := Prod.mk.inj h
        obtain ⟨h9, h⟩ := h
        subst h9
        replace h := Prod.mk.inj h
        obtain ⟨h9, h⟩ := h
        subst h9
        subst h
        refine j_widen (cl' := mc) (sl' := ms) (by omega) (by omega) ?_
        exact j_zret (w := [(h0, .inr (2, [.ref a_scanner_h0, .ref a_draft_h0, .ref a_waiting_h0, .ref a_functions_h0, .ref a_bottom_h0, .ref a_top_h0, .ref a_text_h0, .int 15, .int levels_h0, .int signs_h0, .int loops_h0, .int token_h0, .int fault_h0])), (a_scanner_h0, .inr (4, [.ref a_text_a_scanner_h0, .int next_a_scanner_h0, .int kind_a_scanner_h0, .int start_a_scanner_h0, .int width_a_scanner_h0])), (a_top_h0, .inr (0, [V_below_a_top_h0, V_above_a_top_h0, .int kind_a_top_h0, .int place_a_top_h0, .int width_a_top_h0, .int second_a_top_h0, .int parts_a_top_h0, .int 1, .int innerPlace_a_top_h0, .int innerWidth_a_top_h0, .int signs_a_top_h0, .int waitingBelow_a_top_h0, .int limited_a_top_h0, .int targets_a_top_h0, .int lastBlock_a_top_h0])), (a_functions_h0, .inr (5, [.ref a_cells_a_functions_h0, .int count_a_functions_h0])), (a_draft_h0, .inr (1, [.ref q33, .int r30])), (a_text_h0, .inr (3, [.ref a_bytes_a_text_h0, .int size_a_text_h0])), (a_bytes_a_text_h0, .inl (cB, n_a_bytes_a_text_h0, .inl b_a_bytes_a_text_h0)), (a_cells_a_functions_h0, .inl (cI, n_a_cells_a_functions_h0, .inl b_a_cells_a_functions_h0)), (q33, .inl (cI, r31, .inl r32))]) hr (zb_n zb1) d_Rd_standsInFunctionHead_138 [5, 0, 6, 1, 7, 3, 4, 2, 8] rfl (by decide) ⟨a_cells_a_functions_h0, q33, rfl, zb1, rfl⟩
    · replace h := it_f c7 h
      by_cases c39 : mode_h0 = 12
      · replace h := it_t c39 h
        refine j_tabIn (tgt := 139) (off := 135) d_Rd_standsInFunctionHead_4 12 c39 (by decide) (by decide) (by decide) (by decide) ?_
        refine j_aload_n d_Rd_standsInFunctionHead_139 rfl 0 rfl ?_
        refine j_bipush (v := 13) d_Rd_standsInFunctionHead_140 (by decide) ?_
        replace h := bw_s h
        obtain ⟨⟨r40, r41, r42, r43, r44, r45⟩, C48, S49, C50, S51, k52, h, e1, e2⟩ := h
        replace hC : 0 + C48 + C50 ≤ mc := by omega
        replace hS : 0 + S49 + S51 ≤ ms := by omega
        clear e1 e2
        refine j_callV (n := 1) (As := [.int 13]) (rest := []) (wr := [(a_functions_h0, .inr (5, [.ref a_cells_a_functions_h0, .int count_a_functions_h0])), (a_cells_a_functions_h0, .inl (cI, n_a_cells_a_functions_h0, .inl b_a_cells_a_functions_h0))]) (c_Rd_addDifferentName l D cI cB cJ cS h0 a_scanner_h0 a_draft_h0 a_waiting_h0 a_functions_h0 a_bottom_h0 a_top_h0 a_text_h0 V_below_a_top_h0 V_above_a_top_h0 a_text_a_scanner_h0 a_cells_a_draft_h0 a_bytes_a_text_h0 13 mode_h0 levels_h0 signs_h0 loops_h0 token_h0 fault_h0 kind_a_top_h0 place_a_top_h0 width_a_top_h0 second_a_top_h0 parts_a_top_h0 innerParts_a_top_h0 innerPlace_a_top_h0 innerWidth_a_top_h0 signs_a_top_h0 waitingBelow_a_top_h0 limited_a_top_h0 targets_a_top_h0 lastBlock_a_top_h0 next_a_scanner_h0 kind_a_scanner_h0 start_a_scanner_h0 width_a_scanner_h0 count_a_draft_h0 n_a_cells_a_draft_h0 b_a_cells_a_draft_h0 size_a_text_h0 n_a_bytes_a_text_h0 b_a_bytes_a_text_h0  r40 r41 r42 r43 r44 r45 C48 S49 k52) k_Rd_244 (by decide) ⟨Nat.le_of_ble_eq_true rfl, Nat.le_of_ble_eq_true rfl⟩ rfl 0 rfl [0, 2, 1, 5, 6, 7, 8] [3, 4] rfl (by decide) rfl (by decide) (by decide) rfl rfl (Nat.le_of_ble_eq_true rfl) d_Rd_standsInFunctionHead_142 ⟨show 0 + C48 ≤ mc by omega, show 0 + S49 ≤ ms by omega⟩ (fun v w hq => ?_)
        obtain ⟨q46, rfl, z47, rfl⟩ := hq
        refine j_norm (pc' := 145) (st' := [.int r40]) (ws' := [(a_functions_h0, .inr (5, [.ref a_cells_a_functions_h0, .int count_a_functions_h0])), (a_cells_a_functions_h0, .inl (cI, n_a_cells_a_functions_h0, .inl b_a_cells_a_functions_h0)), (h0, .inr (2, [.ref a_scanner_h0, .ref a_draft_h0, .ref a_waiting_h0, .ref a_functions_h0, .ref a_bottom_h0, .ref a_top_h0, .ref a_text_h0, .int r41, .int levels_h0, .int signs_h0, .int loops_h0, .int token_h0, .int fault_h0])), (a_top_h0, .inr (0, [V_below_a_top_h0, V_above_a_top_h0, .int kind_a_top_h0, .int place_a_top_h0, .int width_a_top_h0, .int second_a_top_h0, .int parts_a_top_h0, .int r42, .int innerPlace_a_top_h0, .int innerWidth_a_top_h0, .int signs_a_top_h0, .int waitingBelow_a_top_h0, .int limited_a_top_h0, .int targets_a_top_h0, .int lastBlock_a_top_h0])), (a_scanner_h0, .inr (4, [.ref a_text_a_scanner_h0, .int next_a_scanner_h0, .int kind_a_scanner_h0, .int start_a_scanner_h0, .int width_a_scanner_h0])), (a_draft_h0, .inr (1, [.ref q46, .int r43])), (a_text_h0, .inr (3, [.ref a_bytes_a_text_h0, .int size_a_text_h0])), (a_bytes_a_text_h0, .inl (cB, n_a_bytes_a_text_h0, .inl b_a_bytes_a_text_h0)), (q46, .inl (cI, r44, .inl r45))]) (cl' := 0 + C48) (sl' := 0 + S49) rfl rfl rfl rfl rfl rfl ?_
        replace h := lf_s h
        obtain ⟨h, e1, e2⟩ := h
        replace h := Prod.mk.inj h
        obtain ⟨h9, h⟩ := h
        subst h9
        replace h := Prod.mk.inj h
        obtain ⟨h9, h⟩ := h
        subst h9
        replace h := Prod.mk.inj h
        obtain ⟨h9, h⟩ := h
        subst h9
        replace h := Prod.mk.inj h
        obtain ⟨h9, h⟩ := h
        subst h9
        replace h := Prod.mk.inj h
        obtain ⟨h9, h⟩ := h
        subst h9
        replace h := Prod.mk.inj h
        obtain ⟨h9, h⟩ := h
        subst h9
        replace h := Prod.mk.inj h
        obtain ⟨h9, h⟩ := h
        subst h9
        replace h := Prod.mk.inj h
        obtain ⟨h9, h⟩ := h
        subst h9
        replace h := Prod.mk.inj h
        obtain ⟨h9, h⟩ := h
        subst h9
        replace h := Prod.mk.inj h
        obtain ⟨h9, h⟩ := h
        subst h9
        replace h := Prod.mk.inj h
        obtain ⟨h9, h⟩ := h
        subst h9
        replace h := Prod.mk.inj h
        obtain ⟨h9, h⟩ := h
        subst h9
        subst h
        refine j_widen (cl' := mc) (sl' := ms) (by omega) (by omega) ?_
        exact j_zret (w := [(h0, .inr (2, [.ref a_scanner_h0, .ref a_draft_h0, .ref a_waiting_h0, .ref a_functions_h0, .ref a_bottom_h0, .ref a_top_h0, .ref a_text_h0, .int r41, .int levels_h0, .int signs_h0, .int loops_h0, .int token_h0, .int fault_h0])), (a_scanner_h0, .inr (4, [.ref a_text_a_scanner_h0, .int next_a_scanner_h0, .int kind_a_scanner_h0, .int start_a_scanner_h0, .int width_a_scanner_h0])), (a_top_h0, .inr (0, [V_below_a_top_h0, V_above_a_top_h0, .int kind_a_top_h0, .int place_a_top_h0, .int width_a_top_h0, .int second_a_top_h0, .int parts_a_top_h0, .int r42, .int innerPlace_a_top_h0, .int innerWidth_a_top_h0, .int signs_a_top_h0, .int waitingBelow_a_top_h0, .int limited_a_top_h0, .int targets_a_top_h0, .int lastBlock_a_top_h0])), (a_functions_h0, .inr (5, [.ref a_cells_a_functions_h0, .int count_a_functions_h0])), (a_draft_h0, .inr (1, [.ref q46, .int r43])), (a_text_h0, .inr (3, [.ref a_bytes_a_text_h0, .int size_a_text_h0])), (a_bytes_a_text_h0, .inl (cB, n_a_bytes_a_text_h0, .inl b_a_bytes_a_text_h0)), (a_cells_a_functions_h0, .inl (cI, n_a_cells_a_functions_h0, .inl b_a_cells_a_functions_h0)), (q46, .inl (cI, r44, .inl r45))]) hr (zb_n z47) d_Rd_standsInFunctionHead_145 [2, 4, 3, 0, 5, 6, 7, 1, 8] rfl (by decide) ⟨a_cells_a_functions_h0, q46, rfl, z47, rfl⟩
      · replace h := it_f c39 h
        by_cases c53 : mode_h0 = 13
        · replace h := it_t c53 h
          refine j_tabIn (tgt := 146) (off := 142) d_Rd_standsInFunctionHead_4 13 c53 (by decide) (by decide) (by decide) (by decide) ?_
          refine j_aload_n d_Rd_standsInFunctionHead_146 rfl 0 rfl ?_
          refine j_get ig_Rd rfl 0 rfl 11 (by decide) rfl m_180 rfl d_Rd_standsInFunctionHead_147 ?_
          refine j_bipush (v := 93) d_Rd_standsInFunctionHead_150 (by decide) ?_
          refine j_icmp_ne (tgt := 164) d_Rd_standsInFunctionHead_152 (by decide) (fun c54 => ?_) (fun c54 => ?_)
          · replace h := it_f c54 h
            refine j_aload_n d_Rd_standsInFunctionHead_164 rfl 0 rfl ?_
            refine j_get ig_Rd rfl 0 rfl 11 (by decide) rfl m_180 rfl d_Rd_standsInFunctionHead_165 ?_
            refine j_bipush (v := 44) d_Rd_standsInFunctionHead_168 (by decide) ?_
            refine j_icmp_ne (tgt := 193) d_Rd_standsInFunctionHead_170 (by decide) (fun c55 => ?_) (fun c55 => ?_)
            · replace h := it_f c55 h
              refine j_iconst (v := 0) d_Rd_standsInFunctionHead_193 (by decide) ?_
              replace h := lf_s h
              obtain ⟨h, e1, e2⟩ := h
              replace h := Prod.mk.inj h
              obtain ⟨h9, h⟩ := h
              subst h9
              replace h := Prod.mk.inj h
              obtain ⟨h9, h⟩ := h
              subst h9
              replace h := Prod.mk.inj h
              obtain ⟨h9, h⟩ := h
              subst h9
              replace h := Prod.mk.inj h
              obtain ⟨h9, h⟩ := h
              subst h9
              replace h := Prod.mk.inj h
              obtain ⟨h9, h⟩ := h
              subst h9
              replace h := Prod.mk.inj h
              obtain ⟨h9, h⟩ := h
              subst h9
              replace h := Prod.mk.inj h
              obtain ⟨h9, h⟩ := h
              subst h9
              replace h := Prod.mk.inj h
              obtain ⟨h9, h⟩ := h
              subst h9
              replace h := Prod.mk.inj h
              obtain ⟨h9, h⟩ := h
              subst h9
              replace h := Prod.mk.inj h
              obtain ⟨h9, h⟩ := h
              subst h9
              replace h := Prod.mk.inj h
              obtain ⟨h9, h⟩ := h
              subst h9
              replace h := Prod.mk.inj h
              obtain ⟨h9, h⟩ := h
              subst h9
              subst h
              refine j_widen (cl' := mc) (sl' := ms) (by omega) (by omega) ?_
              exact j_zret (w := [(h0, .inr (2, [.ref a_scanner_h0, .ref a_draft_h0, .ref a_waiting_h0, .ref a_functions_h0, .ref a_bottom_h0, .ref a_top_h0, .ref a_text_h0, .int mode_h0, .int levels_h0, .int signs_h0, .int loops_h0, .int token_h0, .int fault_h0])), (a_scanner_h0, .inr (4, [.ref a_text_a_scanner_h0, .int next_a_scanner_h0, .int kind_a_scanner_h0, .int start_a_scanner_h0, .int width_a_scanner_h0])), (a_top_h0, .inr (0, [V_below_a_top_h0, V_above_a_top_h0, .int kind_a_top_h0, .int place_a_top_h0, .int width_a_top_h0, .int second_a_top_h0, .int parts_a_top_h0, .int innerParts_a_top_h0, .int innerPlace_a_top_h0, .int innerWidth_a_top_h0, .int signs_a_top_h0, .int waitingBelow_a_top_h0, .int limited_a_top_h0, .int targets_a_top_h0, .int lastBlock_a_top_h0])), (a_functions_h0, .inr (5, [.ref a_cells_a_functions_h0, .int count_a_functions_h0])), (a_draft_h0, .inr (1, [.ref a_cells_a_draft_h0, .int count_a_draft_h0])), (a_text_h0, .inr (3, [.ref a_bytes_a_text_h0, .int size_a_text_h0])), (a_bytes_a_text_h0, .inl (cB, n_a_bytes_a_text_h0, .inl b_a_bytes_a_text_h0)), (a_cells_a_functions_h0, .inl (cI, n_a_cells_a_functions_h0, .inl b_a_cells_a_functions_h0)), (a_cells_a_draft_h0, .inl (cI, n_a_cells_a_draft_h0, .inl b_a_cells_a_draft_h0))]) hr (zb_n zb0) d_Rd_standsInFunctionHead_194 [0, 1, 2, 3, 5, 7, 8, 4, 6] rfl (by decide) ⟨a_cells_a_functions_h0, a_cells_a_draft_h0, rfl, zb0, rfl⟩
            · replace h := it_t c55 h
              refine j_aload_n d_Rd_standsInFunctionHead_173 rfl 0 rfl ?_
              obtain ⟨r56, k58⟩ : ∃ z, (F_Rd_hasRoomForName mode_h0 levels_h0 signs_h0 loops_h0 token_h0 fault_h0 kind_a_top_h0 place_a_top_h0 width_a_top_h0 second_a_top_h0 parts_a_top_h0 innerParts_a_top_h0 innerPlace_a_top_h0 innerWidth_a_top_h0 signs_a_top_h0 waitingBelow_a_top_h0 limited_a_top_h0 targets_a_top_h0 lastBlock_a_top_h0) = z := ⟨_, rfl⟩
              replace h := nm_at k58 h
              refine j_callV (n := 0) (As := []) (rest := []) (wr := [(a_scanner_h0, .inr (4, [.ref a_text_a_scanner_h0, .int next_a_scanner_h0, .int kind_a_scanner_h0, .int start_a_scanner_h0, .int width_a_scanner_h0])), (a_functions_h0, .inr (5, [.ref a_cells_a_functions_h0, .int count_a_functions_h0])), (a_cells_a_functions_h0, .inl (cI, n_a_cells_a_functions_h0, .inl b_a_cells_a_functions_h0)), (a_draft_h0, .inr (1, [.ref a_cells_a_draft_h0, .int count_a_draft_h0])), (a_cells_a_draft_h0, .inl (cI, n_a_cells_a_draft_h0, .inl b_a_cells_a_draft_h0)), (a_text_h0, .inr (3, [.ref a_bytes_a_text_h0, .int size_a_text_h0])), (a_bytes_a_text_h0, .inl (cB, n_a_bytes_a_text_h0, .inl b_a_bytes_a_text_h0))]) (c_Rd_hasRoomForName l D cI cB cJ cS h0 a_scanner_h0 a_draft_h0 a_waiting_h0 a_functions_h0 a_bottom_h0 a_top_h0 a_text_h0 V_below_a_top_h0 V_above_a_top_h0 mode_h0 levels_h0 signs_h0 loops_h0 token_h0 fault_h0 kind_a_top_h0 place_a_top_h0 width_a_top_h0 second_a_top_h0 parts_a_top_h0 innerParts_a_top_h0 innerPlace_a_top_h0 innerWidth_a_top_h0 signs_a_top_h0 waitingBelow_a_top_h0 limited_a_top_h0 targets_a_top_h0 lastBlock_a_top_h0  r56 k58) k_Rd_247 (by decide) ⟨Nat.le_of_ble_eq_true rfl, Nat.le_of_ble_eq_true rfl⟩ rfl 0 rfl [0, 2] [1, 3, 4, 5, 6, 7, 8] rfl (by decide) rfl (by decide) (by decide) rfl rfl (Nat.le_of_ble_eq_true rfl) d_Rd_standsInFunctionHead_174 ⟨show 0 + 0 ≤ mc by omega, show 0 + 0 ≤ ms by omega⟩ (fun v w hq => ?_)
              obtain ⟨rfl, z57, rfl⟩ := hq
              refine j_norm (pc' := 177) (st' := [.int r56]) (ws' := [(a_scanner_h0, .inr (4, [.ref a_text_a_scanner_h0, .int next_a_scanner_h0, .int kind_a_scanner_h0, .int start_a_scanner_h0, .int width_a_scanner_h0])), (a_functions_h0, .inr (5, [.ref a_cells_a_functions_h0, .int count_a_functions_h0])), (a_cells_a_functions_h0, .inl (cI, n_a_cells_a_functions_h0, .inl b_a_cells_a_functions_h0)), (a_draft_h0, .inr (1, [.ref a_cells_a_draft_h0, .int count_a_draft_h0])), (a_cells_a_draft_h0, .inl (cI, n_a_cells_a_draft_h0, .inl b_a_cells_a_draft_h0)), (a_text_h0, .inr (3, [.ref a_bytes_a_text_h0, .int size_a_text_h0])), (a_bytes_a_text_h0, .inl (cB, n_a_bytes_a_text_h0, .inl b_a_bytes_a_text_h0)), (h0, .inr (2, [.ref a_scanner_h0, .ref a_draft_h0, .ref a_waiting_h0, .ref a_functions_h0, .ref a_bottom_h0, .ref a_top_h0, .ref a_text_h0, .int mode_h0, .int levels_h0, .int signs_h0, .int loops_h0, .int token_h0, .int fault_h0])), (a_top_h0, .inr (0, [V_below_a_top_h0, V_above_a_top_h0, .int kind_a_top_h0, .int place_a_top_h0, .int width_a_top_h0, .int second_a_top_h0, .int parts_a_top_h0, .int innerParts_a_top_h0, .int innerPlace_a_top_h0, .int innerWidth_a_top_h0, .int signs_a_top_h0, .int waitingBelow_a_top_h0, .int limited_a_top_h0, .int targets_a_top_h0, .int lastBlock_a_top_h0]))]) (cl' := 0) (sl' := 0) rfl rfl rfl rfl rfl rfl ?_
              refine j_if_eq (tgt := 193) d_Rd_standsInFunctionHead_177 (by decide) (fun c59 => ?_) (fun c59 => ?_)
              · replace h := it_t c59 h
                refine j_iconst (v := 0) d_Rd_standsInFunctionHead_193 (by decide) ?_
                replace h := lf_s h
                obtain ⟨h, e1, e2⟩ := h
                replace h := Prod.mk.inj h
                obtain ⟨h9, h⟩ := h
                subst h9
                replace h := Prod.mk.inj h
                obtain ⟨h9, h⟩ := h
                subst h9
                replace h := Prod.mk.inj h
                obtain ⟨h9, h⟩ := h
                subst h9
                replace h := Prod.mk.inj h
                obtain ⟨h9, h⟩ := h
                subst h9
                replace h := Prod.mk.inj h
                obtain ⟨h9, h⟩ := h
                subst h9
                replace h := Prod.mk.inj h
                obtain ⟨h9, h⟩ := h
                subst h9
                replace h := Prod.mk.inj h
                obtain ⟨h9, h⟩ := h
                subst h9
                replace h := Prod.mk.inj h
                obtain ⟨h9, h⟩ := h
                subst h9
                replace h := Prod.mk.inj h
                obtain ⟨h9, h⟩ := h
                subst h9
                replace h := Prod.mk.inj h
                obtain ⟨h9, h⟩ := h
                subst h9
                replace h := Prod.mk.inj h
                obtain ⟨h9, h⟩ := h
                subst h9
                replace h := Prod.mk.inj h
                obtain ⟨h9, h⟩ := h
                subst h9
                subst h
                refine j_widen (cl' := mc) (sl' := ms) (by omega) (by omega) ?_
                exact j_zret (w := [(h0, .inr (2, [.ref a_scanner_h0, .ref a_draft_h0, .ref a_waiting_h0, .ref a_functions_h0, .ref a_bottom_h0, .ref a_top_h0, .ref a_text_h0, .int mode_h0, .int levels_h0, .int signs_h0, .int loops_h0, .int token_h0, .int fault_h0])), (a_scanner_h0, .inr (4, [.ref a_text_a_scanner_h0, .int next_a_scanner_h0, .int kind_a_scanner_h0, .int start_a_scanner_h0, .int width_a_scanner_h0])), (a_top_h0, .inr (0, [V_below_a_top_h0, V_above_a_top_h0, .int kind_a_top_h0, .int place_a_top_h0, .int width_a_top_h0, .int second_a_top_h0, .int parts_a_top_h0, .int innerParts_a_top_h0, .int innerPlace_a_top_h0, .int innerWidth_a_top_h0, .int signs_a_top_h0, .int waitingBelow_a_top_h0, .int limited_a_top_h0, .int targets_a_top_h0, .int lastBlock_a_top_h0])), (a_functions_h0, .inr (5, [.ref a_cells_a_functions_h0, .int count_a_functions_h0])), (a_draft_h0, .inr (1, [.ref a_cells_a_draft_h0, .int count_a_draft_h0])), (a_text_h0, .inr (3, [.ref a_bytes_a_text_h0, .int size_a_text_h0])), (a_bytes_a_text_h0, .inl (cB, n_a_bytes_a_text_h0, .inl b_a_bytes_a_text_h0)), (a_cells_a_functions_h0, .inl (cI, n_a_cells_a_functions_h0, .inl b_a_cells_a_functions_h0)), (a_cells_a_draft_h0, .inl (cI, n_a_cells_a_draft_h0, .inl b_a_cells_a_draft_h0))]) hr (zb_n zb0) d_Rd_standsInFunctionHead_194 [7, 0, 8, 1, 3, 5, 6, 2, 4] rfl (by decide) ⟨a_cells_a_functions_h0, a_cells_a_draft_h0, rfl, zb0, rfl⟩
              · replace h := it_f c59 h
                refine j_aload_n d_Rd_standsInFunctionHead_180 rfl 0 rfl ?_
                refine j_bipush (v := 12) d_Rd_standsInFunctionHead_181 (by decide) ?_
                refine j_callV (n := 1) (As := [.int 12]) (rest := []) (wr := [(a_scanner_h0, .inr (4, [.ref a_text_a_scanner_h0, .int next_a_scanner_h0, .int kind_a_scanner_h0, .int start_a_scanner_h0, .int width_a_scanner_h0])), (a_functions_h0, .inr (5, [.ref a_cells_a_functions_h0, .int count_a_functions_h0])), (a_cells_a_functions_h0, .inl (cI, n_a_cells_a_functions_h0, .inl b_a_cells_a_functions_h0)), (a_draft_h0, .inr (1, [.ref a_cells_a_draft_h0, .int count_a_draft_h0])), (a_cells_a_draft_h0, .inl (cI, n_a_cells_a_draft_h0, .inl b_a_cells_a_draft_h0)), (a_text_h0, .inr (3, [.ref a_bytes_a_text_h0, .int size_a_text_h0])), (a_bytes_a_text_h0, .inl (cB, n_a_bytes_a_text_h0, .inl b_a_bytes_a_text_h0)), (a_top_h0, .inr (0, [V_below_a_top_h0, V_above_a_top_h0, .int kind_a_top_h0, .int place_a_top_h0, .int width_a_top_h0, .int second_a_top_h0, .int parts_a_top_h0, .int innerParts_a_top_h0, .int innerPlace_a_top_h0, .int innerWidth_a_top_h0, .int signs_a_top_h0, .int waitingBelow_a_top_h0, .int limited_a_top_h0, .int targets_a_top_h0, .int lastBlock_a_top_h0]))]) (c_Rd_goOn l D cI cB cJ cS h0 a_scanner_h0 a_draft_h0 a_waiting_h0 a_functions_h0 a_bottom_h0 a_top_h0 a_text_h0 12 mode_h0 levels_h0 signs_h0 loops_h0 token_h0 fault_h0  ) k_Rd_130 (by decide) ⟨Nat.le_of_ble_eq_true rfl, Nat.le_of_ble_eq_true rfl⟩ rfl 0 rfl [7] [0, 1, 2, 3, 4, 5, 6, 8] rfl (by decide) rfl (by decide) (by decide) rfl rfl (Nat.le_of_ble_eq_true rfl) d_Rd_standsInFunctionHead_183 ⟨show 0 + 0 ≤ mc by omega, show 0 + 0 ≤ ms by omega⟩ (fun v w hq => ?_)
                obtain ⟨rfl, _, rfl⟩ := hq
                refine j_norm (pc' := 186) (st' := [.int 1]) (ws' := [(a_scanner_h0, .inr (4, [.ref a_text_a_scanner_h0, .int next_a_scanner_h0, .int kind_a_scanner_h0, .int start_a_scanner_h0, .int width_a_scanner_h0])), (a_functions_h0, .inr (5, [.ref a_cells_a_functions_h0, .int count_a_functions_h0])), (a_cells_a_functions_h0, .inl (cI, n_a_cells_a_functions_h0, .inl b_a_cells_a_functions_h0)), (a_draft_h0, .inr (1, [.ref a_cells_a_draft_h0, .int count_a_draft_h0])), (a_cells_a_draft_h0, .inl (cI, n_a_cells_a_draft_h0, .inl b_a_cells_a_draft_h0)), (a_text_h0, .inr (3, [.ref a_bytes_a_text_h0, .int size_a_text_h0])), (a_bytes_a_text_h0, .inl (cB, n_a_bytes_a_text_h0, .inl b_a_bytes_a_text_h0)), (a_top_h0, .inr (0, [V_below_a_top_h0, V_above_a_top_h0, .int kind_a_top_h0, .int place_a_top_h0, .int width_a_top_h0, .int second_a_top_h0, .int parts_a_top_h0, .int innerParts_a_top_h0, .int innerPlace_a_top_h0, .int innerWidth_a_top_h0, .int signs_a_top_h0, .int waitingBelow_a_top_h0, .int limited_a_top_h0, .int targets_a_top_h0, .int lastBlock_a_top_h0])), (h0, .inr (2, [.ref a_scanner_h0, .ref a_draft_h0, .ref a_waiting_h0, .ref a_functions_h0, .ref a_bottom_h0, .ref a_top_h0, .ref a_text_h0, .int 12, .int levels_h0, .int signs_h0, .int loops_h0, .int token_h0, .int fault_h0]))]) (cl' := 0) (sl' := 0) rfl rfl rfl rfl rfl rfl ?_
                refine j_if_eq (tgt := 193) d_Rd_standsInFunctionHead_186 (by decide) (fun c61 => absurd c61 (by decide)) (fun c61 => ?_)
                refine j_iconst (v := 1) d_Rd_standsInFunctionHead_189 (by decide) ?_
                refine j_goto (tgt := 194) d_Rd_standsInFunctionHead_190 (by decide) ?_
                replace h := lf_s h
                obtain ⟨h, e1, e2⟩ := h
                replace h := Prod.mk.inj h
                obtain ⟨h9, h⟩ := h
                subst h9
                replace h := Prod.mk.inj h
                obtain ⟨h9, h⟩ := h
                subst h9
                replace h := Prod.mk.inj h
                obtain ⟨h9, h⟩ := h
                subst h9
                replace h := Prod.mk.inj h
                obtain ⟨h9, h⟩ := h
                subst h9
                replace h := Prod.mk.inj h
                obtain ⟨h9, h⟩ := h
                subst h9
                replace h := Prod.mk.inj h
                obtain ⟨h9, h⟩ := h
                subst h9
                replace h := Prod.mk.inj h
                obtain ⟨h9, h⟩ := h
                subst h9
                replace h := Prod.mk.inj h
                obtain ⟨h9, h⟩ := h
                subst h9
                replace h := Prod.mk.inj h
                obtain ⟨h9, h⟩ := h
                subst h9
                replace h := Prod.mk.inj h
                obtain ⟨h9, h⟩ := h
                subst h9
                replace h := Prod.mk.inj h
                obtain ⟨h9, h⟩ := h
                subst h9
                replace h := Prod.mk.inj h
                obtain ⟨h9, h⟩ := h
                subst h9
                subst h
                refine j_widen (cl' := mc) (sl' := ms) (by omega) (by omega) ?_
                exact j_zret (w := [(h0, .inr (2, [.ref a_scanner_h0, .ref a_draft_h0, .ref a_waiting_h0, .ref a_functions_h0, .ref a_bottom_h0, .ref a_top_h0, .ref a_text_h0, .int 12, .int levels_h0, .int signs_h0, .int loops_h0, .int token_h0, .int fault_h0])), (a_scanner_h0, .inr (4, [.ref a_text_a_scanner_h0, .int next_a_scanner_h0, .int kind_a_scanner_h0, .int start_a_scanner_h0, .int width_a_scanner_h0])), (a_top_h0, .inr (0, [V_below_a_top_h0, V_above_a_top_h0, .int kind_a_top_h0, .int place_a_top_h0, .int width_a_top_h0, .int second_a_top_h0, .int parts_a_top_h0, .int innerParts_a_top_h0, .int innerPlace_a_top_h0, .int innerWidth_a_top_h0, .int signs_a_top_h0, .int waitingBelow_a_top_h0, .int limited_a_top_h0, .int targets_a_top_h0, .int lastBlock_a_top_h0])), (a_functions_h0, .inr (5, [.ref a_cells_a_functions_h0, .int count_a_functions_h0])), (a_draft_h0, .inr (1, [.ref a_cells_a_draft_h0, .int count_a_draft_h0])), (a_text_h0, .inr (3, [.ref a_bytes_a_text_h0, .int size_a_text_h0])), (a_bytes_a_text_h0, .inl (cB, n_a_bytes_a_text_h0, .inl b_a_bytes_a_text_h0)), (a_cells_a_functions_h0, .inl (cI, n_a_cells_a_functions_h0, .inl b_a_cells_a_functions_h0)), (a_cells_a_draft_h0, .inl (cI, n_a_cells_a_draft_h0, .inl b_a_cells_a_draft_h0))]) hr (zb_n zb1) d_Rd_standsInFunctionHead_194 [8, 0, 7, 1, 3, 5, 6, 2, 4] rfl (by decide) ⟨a_cells_a_functions_h0, a_cells_a_draft_h0, rfl, zb1, rfl⟩
          · replace h := it_t c54 h
            refine j_aload_n d_Rd_standsInFunctionHead_155 rfl 0 rfl ?_
            refine j_bipush (v := 14) d_Rd_standsInFunctionHead_156 (by decide) ?_
            refine j_callV (n := 1) (As := [.int 14]) (rest := []) (wr := [(a_scanner_h0, .inr (4, [.ref a_text_a_scanner_h0, .int next_a_scanner_h0, .int kind_a_scanner_h0, .int start_a_scanner_h0, .int width_a_scanner_h0])), (a_top_h0, .inr (0, [V_below_a_top_h0, V_above_a_top_h0, .int kind_a_top_h0, .int place_a_top_h0, .int width_a_top_h0, .int second_a_top_h0, .int parts_a_top_h0, .int innerParts_a_top_h0, .int innerPlace_a_top_h0, .int innerWidth_a_top_h0, .int signs_a_top_h0, .int waitingBelow_a_top_h0, .int limited_a_top_h0, .int targets_a_top_h0, .int lastBlock_a_top_h0])), (a_functions_h0, .inr (5, [.ref a_cells_a_functions_h0, .int count_a_functions_h0])), (a_cells_a_functions_h0, .inl (cI, n_a_cells_a_functions_h0, .inl b_a_cells_a_functions_h0)), (a_draft_h0, .inr (1, [.ref a_cells_a_draft_h0, .int count_a_draft_h0])), (a_cells_a_draft_h0, .inl (cI, n_a_cells_a_draft_h0, .inl b_a_cells_a_draft_h0)), (a_text_h0, .inr (3, [.ref a_bytes_a_text_h0, .int size_a_text_h0])), (a_bytes_a_text_h0, .inl (cB, n_a_bytes_a_text_h0, .inl b_a_bytes_a_text_h0))]) (c_Rd_goOn l D cI cB cJ cS h0 a_scanner_h0 a_draft_h0 a_waiting_h0 a_functions_h0 a_bottom_h0 a_top_h0 a_text_h0 14 mode_h0 levels_h0 signs_h0 loops_h0 token_h0 fault_h0  ) k_Rd_130 (by decide) ⟨Nat.le_of_ble_eq_true rfl, Nat.le_of_ble_eq_true rfl⟩ rfl 0 rfl [0] [1, 2, 3, 4, 5, 6, 7, 8] rfl (by decide) rfl (by decide) (by decide) rfl rfl (Nat.le_of_ble_eq_true rfl) d_Rd_standsInFunctionHead_158 ⟨show 0 + 0 ≤ mc by omega, show 0 + 0 ≤ ms by omega⟩ (fun v w hq => ?_)
            obtain ⟨rfl, _, rfl⟩ := hq
            refine j_norm (pc' := 161) (st' := [.int 1]) (ws' := [(a_scanner_h0, .inr (4, [.ref a_text_a_scanner_h0, .int next_a_scanner_h0, .int kind_a_scanner_h0, .int start_a_scanner_h0, .int width_a_scanner_h0])), (a_top_h0, .inr (0, [V_below_a_top_h0, V_above_a_top_h0, .int kind_a_top_h0, .int place_a_top_h0, .int width_a_top_h0, .int second_a_top_h0, .int parts_a_top_h0, .int innerParts_a_top_h0, .int innerPlace_a_top_h0, .int innerWidth_a_top_h0, .int signs_a_top_h0, .int waitingBelow_a_top_h0, .int limited_a_top_h0, .int targets_a_top_h0, .int lastBlock_a_top_h0])), (a_functions_h0, .inr (5, [.ref a_cells_a_functions_h0, .int count_a_functions_h0])), (a_cells_a_functions_h0, .inl (cI, n_a_cells_a_functions_h0, .inl b_a_cells_a_functions_h0)), (a_draft_h0, .inr (1, [.ref a_cells_a_draft_h0, .int count_a_draft_h0])), (a_cells_a_draft_h0, .inl (cI, n_a_cells_a_draft_h0, .inl b_a_cells_a_draft_h0)), (a_text_h0, .inr (3, [.ref a_bytes_a_text_h0, .int size_a_text_h0])), (a_bytes_a_text_h0, .inl (cB, n_a_bytes_a_text_h0, .inl b_a_bytes_a_text_h0)), (h0, .inr (2, [.ref a_scanner_h0, .ref a_draft_h0, .ref a_waiting_h0, .ref a_functions_h0, .ref a_bottom_h0, .ref a_top_h0, .ref a_text_h0, .int 14, .int levels_h0, .int signs_h0, .int loops_h0, .int token_h0, .int fault_h0]))]) (cl' := 0) (sl' := 0) rfl rfl rfl rfl rfl rfl ?_
            refine j_goto (tgt := 194) d_Rd_standsInFunctionHead_161 (by decide) ?_
            replace h := lf_s h
            obtain ⟨h, e1, e2⟩ := h
            replace h := Prod.mk.inj h
            obtain ⟨h9, h⟩ := h
            subst h9
            replace h := Prod.mk.inj h
            obtain ⟨h9, h⟩ := h
            subst h9
            replace h := Prod.mk.inj h
            obtain ⟨h9, h⟩ := h
            subst h9
            replace h := Prod.mk.inj h
            obtain ⟨h9, h⟩ := h
            subst h9
            replace h := Prod.mk.inj h
            obtain ⟨h9, h⟩ := h
            subst h9
            replace h := Prod.mk.inj h
            obtain ⟨h9, h⟩ := h
            subst h9
            replace h := Prod.mk.inj h
            obtain ⟨h9, h⟩ := h
            subst h9
            replace h := Prod.mk.inj h
            obtain ⟨h9, h⟩ := h
            subst h9
            replace h := Prod.mk.inj h
            obtain ⟨h9, h⟩ := h
            subst h9
            replace h := Prod.mk.inj h
            obtain ⟨h9, h⟩ := h
            subst h9
            replace h := Prod.mk.inj h
            obtain ⟨h9, h⟩ := h
            subst h9
            replace h := Prod.mk.inj h
            obtain ⟨h9, h⟩ := h
            subst h9
            subst h
            refine j_widen (cl' := mc) (sl' := ms) (by omega) (by omega) ?_
            exact j_zret (w := [(h0, .inr (2, [.ref a_scanner_h0, .ref a_draft_h0, .ref a_waiting_h0, .ref a_functions_h0, .ref a_bottom_h0, .ref a_top_h0, .ref a_text_h0, .int 14, .int levels_h0, .int signs_h0, .int loops_h0, .int token_h0, .int fault_h0])), (a_scanner_h0, .inr (4, [.ref a_text_a_scanner_h0, .int next_a_scanner_h0, .int kind_a_scanner_h0, .int start_a_scanner_h0, .int width_a_scanner_h0])), (a_top_h0, .inr (0, [V_below_a_top_h0, V_above_a_top_h0, .int kind_a_top_h0, .int place_a_top_h0, .int width_a_top_h0, .int second_a_top_h0, .int parts_a_top_h0, .int innerParts_a_top_h0, .int innerPlace_a_top_h0, .int innerWidth_a_top_h0, .int signs_a_top_h0, .int waitingBelow_a_top_h0, .int limited_a_top_h0, .int targets_a_top_h0, .int lastBlock_a_top_h0])), (a_functions_h0, .inr (5, [.ref a_cells_a_functions_h0, .int count_a_functions_h0])), (a_draft_h0, .inr (1, [.ref a_cells_a_draft_h0, .int count_a_draft_h0])), (a_text_h0, .inr (3, [.ref a_bytes_a_text_h0, .int size_a_text_h0])), (a_bytes_a_text_h0, .inl (cB, n_a_bytes_a_text_h0, .inl b_a_bytes_a_text_h0)), (a_cells_a_functions_h0, .inl (cI, n_a_cells_a_functions_h0, .inl b_a_cells_a_functions_h0)), (a_cells_a_draft_h0, .inl (cI, n_a_cells_a_draft_h0, .inl b_a_cells_a_draft_h0))]) hr (zb_n zb1) d_Rd_standsInFunctionHead_194 [8, 0, 1, 2, 4, 6, 7, 3, 5] rfl (by decide) ⟨a_cells_a_functions_h0, a_cells_a_draft_h0, rfl, zb1, rfl⟩
        · replace h := it_f c53 h
          by_cases c63 : mode_h0 = 14
          · replace h := it_t c63 h
            refine j_tabIn (tgt := 195) (off := 191) d_Rd_standsInFunctionHead_4 14 c63 (by decide) (by decide) (by decide) (by decide) ?_
            refine j_aload_n d_Rd_standsInFunctionHead_195 rfl 0 rfl ?_
            refine j_get ig_Rd rfl 0 rfl 11 (by decide) rfl m_180 rfl d_Rd_standsInFunctionHead_196 ?_
            refine j_bipush (v := 61) d_Rd_standsInFunctionHead_199 (by decide) ?_
            refine j_icmp_ne (tgt := 217) d_Rd_standsInFunctionHead_201 (by decide) (fun c64 => ?_) (fun c64 => ?_)
            · replace h := it_f c64 h
              refine j_iconst (v := 0) d_Rd_standsInFunctionHead_217 (by decide) ?_
              replace h := lf_s h
              obtain ⟨h, e1, e2⟩ := h
              replace h := Prod.mk.inj h
              obtain ⟨h9, h⟩ := h
              subst h9
              replace h := Prod.mk.inj h
              obtain ⟨h9, h⟩ := h
              subst h9
              replace h := Prod.mk.inj h
              obtain ⟨h9, h⟩ := h
              subst h9
              replace h := Prod.mk.inj h
              obtain ⟨h9, h⟩ := h
              subst h9
              replace h := Prod.mk.inj h
              obtain ⟨h9, h⟩ := h
              subst h9
              replace h := Prod.mk.inj h
              obtain ⟨h9, h⟩ := h
              subst h9
              replace h := Prod.mk.inj h
              obtain ⟨h9, h⟩ := h
              subst h9
              replace h := Prod.mk.inj h
              obtain ⟨h9, h⟩ := h
              subst h9
              replace h := Prod.mk.inj h
              obtain ⟨h9, h⟩ := h
              subst h9
              replace h := Prod.mk.inj h
              obtain ⟨h9, h⟩ := h
              subst h9
              replace h := Prod.mk.inj h
              obtain ⟨h9, h⟩ := h
              subst h9
              replace h := Prod.mk.inj h
              obtain ⟨h9, h⟩ := h
              subst h9
              subst h
              refine j_widen (cl' := mc) (sl' := ms) (by omega) (by omega) ?_
              exact j_zret (w := [(h0, .inr (2, [.ref a_scanner_h0, .ref a_draft_h0, .ref a_waiting_h0, .ref a_functions_h0, .ref a_bottom_h0, .ref a_top_h0, .ref a_text_h0, .int mode_h0, .int levels_h0, .int signs_h0, .int loops_h0, .int token_h0, .int fault_h0])), (a_scanner_h0, .inr (4, [.ref a_text_a_scanner_h0, .int next_a_scanner_h0, .int kind_a_scanner_h0, .int start_a_scanner_h0, .int width_a_scanner_h0])), (a_top_h0, .inr (0, [V_below_a_top_h0, V_above_a_top_h0, .int kind_a_top_h0, .int place_a_top_h0, .int width_a_top_h0, .int second_a_top_h0, .int parts_a_top_h0, .int innerParts_a_top_h0, .int innerPlace_a_top_h0, .int innerWidth_a_top_h0, .int signs_a_top_h0, .int waitingBelow_a_top_h0, .int limited_a_top_h0, .int targets_a_top_h0, .int lastBlock_a_top_h0])), (a_functions_h0, .inr (5, [.ref a_cells_a_functions_h0, .int count_a_functions_h0])), (a_draft_h0, .inr (1, [.ref a_cells_a_draft_h0, .int count_a_draft_h0])), (a_text_h0, .inr (3, [.ref a_bytes_a_text_h0, .int size_a_text_h0])), (a_bytes_a_text_h0, .inl (cB, n_a_bytes_a_text_h0, .inl b_a_bytes_a_text_h0)), (a_cells_a_functions_h0, .inl (cI, n_a_cells_a_functions_h0, .inl b_a_cells_a_functions_h0)), (a_cells_a_draft_h0, .inl (cI, n_a_cells_a_draft_h0, .inl b_a_cells_a_draft_h0))]) hr (zb_n zb0) d_Rd_standsInFunctionHead_218 [0, 1, 2, 3, 5, 7, 8, 4, 6] rfl (by decide) ⟨a_cells_a_functions_h0, a_cells_a_draft_h0, rfl, zb0, rfl⟩
            · replace h := it_t c64 h
              refine j_aload_n d_Rd_standsInFunctionHead_204 rfl 0 rfl ?_
              refine j_bipush (v := 15) d_Rd_standsInFunctionHead_205 (by decide) ?_
              refine j_callV (n := 1) (As := [.int 15]) (rest := []) (wr := [(a_scanner_h0, .inr (4, [.ref a_text_a_scanner_h0, .int next_a_scanner_h0, .int kind_a_scanner_h0, .int start_a_scanner_h0, .int width_a_scanner_h0])), (a_top_h0, .inr (0, [V_below_a_top_h0, V_above_a_top_h0, .int kind_a_top_h0, .int place_a_top_h0, .int width_a_top_h0, .int second_a_top_h0, .int parts_a_top_h0, .int innerParts_a_top_h0, .int innerPlace_a_top_h0, .int innerWidth_a_top_h0, .int signs_a_top_h0, .int waitingBelow_a_top_h0, .int limited_a_top_h0, .int targets_a_top_h0, .int lastBlock_a_top_h0])), (a_functions_h0, .inr (5, [.ref a_cells_a_functions_h0, .int count_a_functions_h0])), (a_cells_a_functions_h0, .inl (cI, n_a_cells_a_functions_h0, .inl b_a_cells_a_functions_h0)), (a_draft_h0, .inr (1, [.ref a_cells_a_draft_h0, .int count_a_draft_h0])), (a_cells_a_draft_h0, .inl (cI, n_a_cells_a_draft_h0, .inl b_a_cells_a_draft_h0)), (a_text_h0, .inr (3, [.ref a_bytes_a_text_h0, .int size_a_text_h0])), (a_bytes_a_text_h0, .inl (cB, n_a_bytes_a_text_h0, .inl b_a_bytes_a_text_h0))]) (c_Rd_goOn l D cI cB cJ cS h0 a_scanner_h0 a_draft_h0 a_waiting_h0 a_functions_h0 a_bottom_h0 a_top_h0 a_text_h0 15 mode_h0 levels_h0 signs_h0 loops_h0 token_h0 fault_h0  ) k_Rd_130 (by decide) ⟨Nat.le_of_ble_eq_true rfl, Nat.le_of_ble_eq_true rfl⟩ rfl 0 rfl [0] [1, 2, 3, 4, 5, 6, 7, 8] rfl (by decide) rfl (by decide) (by decide) rfl rfl (Nat.le_of_ble_eq_true rfl) d_Rd_standsInFunctionHead_207 ⟨show 0 + 0 ≤ mc by omega, show 0 + 0 ≤ ms by omega⟩ (fun v w hq => ?_)
              obtain ⟨rfl, _, rfl⟩ := hq
              refine j_norm (pc' := 210) (st' := [.int 1]) (ws' := [(a_scanner_h0, .inr (4, [.ref a_text_a_scanner_h0, .int next_a_scanner_h0, .int kind_a_scanner_h0, .int start_a_scanner_h0, .int width_a_scanner_h0])), (a_top_h0, .inr (0, [V_below_a_top_h0, V_above_a_top_h0, .int kind_a_top_h0, .int place_a_top_h0, .int width_a_top_h0, .int second_a_top_h0, .int parts_a_top_h0, .int innerParts_a_top_h0, .int innerPlace_a_top_h0, .int innerWidth_a_top_h0, .int signs_a_top_h0, .int waitingBelow_a_top_h0, .int limited_a_top_h0, .int targets_a_top_h0, .int lastBlock_a_top_h0])), (a_functions_h0, .inr (5, [.ref a_cells_a_functions_h0, .int count_a_functions_h0])), (a_cells_a_functions_h0, .inl (cI, n_a_cells_a_functions_h0, .inl b_a_cells_a_functions_h0)), (a_draft_h0, .inr (1, [.ref a_cells_a_draft_h0, .int count_a_draft_h0])), (a_cells_a_draft_h0, .inl (cI, n_a_cells_a_draft_h0, .inl b_a_cells_a_draft_h0)), (a_text_h0, .inr (3, [.ref a_bytes_a_text_h0, .int size_a_text_h0])), (a_bytes_a_text_h0, .inl (cB, n_a_bytes_a_text_h0, .inl b_a_bytes_a_text_h0)), (h0, .inr (2, [.ref a_scanner_h0, .ref a_draft_h0, .ref a_waiting_h0, .ref a_functions_h0, .ref a_bottom_h0, .ref a_top_h0, .ref a_text_h0, .int 15, .int levels_h0, .int signs_h0, .int loops_h0, .int token_h0, .int fault_h0]))]) (cl' := 0) (sl' := 0) rfl rfl rfl rfl rfl rfl ?_
              refine j_if_eq (tgt := 217) d_Rd_standsInFunctionHead_210 (by decide) (fun c66 => absurd c66 (by decide)) (fun c66 => ?_)
              refine j_iconst (v := 1) d_Rd_standsInFunctionHead_213 (by decide) ?_
              refine j_goto (tgt := 218) d_Rd_standsInFunctionHead_214 (by decide) ?_
              replace h := lf_s h
              obtain ⟨h, e1, e2⟩ := h
              replace h := Prod.mk.inj h
              obtain ⟨h9, h⟩ := h
              subst h9
              replace h := Prod.mk.inj h
              obtain ⟨h9, h⟩ := h
              subst h9
              replace h := Prod.mk.inj h
              obtain ⟨h9, h⟩ := h
              subst h9
              replace h := Prod.mk.inj h
              obtain ⟨h9, h⟩ := h
              subst h9
              replace h := Prod.mk.inj h
              obtain ⟨h9, h⟩ := h
              subst h9
              replace h := Prod.mk.inj h
              obtain ⟨h9, h⟩ := h
              subst h9
              replace h := Prod.mk.inj h
              obtain ⟨h9, h⟩ := h
              subst h9
              replace h := Prod.mk.inj h
              obtain ⟨h9, h⟩ := h
              subst h9
              replace h := Prod.mk.inj h
              obtain ⟨h9, h⟩ := h
              subst h9
              replace h := Prod.mk.inj h
              obtain ⟨h9, h⟩ := h
              subst h9
              replace h := Prod.mk.inj h
              obtain ⟨h9, h⟩ := h
              subst h9
              replace h := Prod.mk.inj h
              obtain ⟨h9, h⟩ := h
              subst h9
              subst h
              refine j_widen (cl' := mc) (sl' := ms) (by omega) (by omega) ?_
              exact j_zret (w := [(h0, .inr (2, [.ref a_scanner_h0, .ref a_draft_h0, .ref a_waiting_h0, .ref a_functions_h0, .ref a_bottom_h0, .ref a_top_h0, .ref a_text_h0, .int 15, .int levels_h0, .int signs_h0, .int loops_h0, .int token_h0, .int fault_h0])), (a_scanner_h0, .inr (4, [.ref a_text_a_scanner_h0, .int next_a_scanner_h0, .int kind_a_scanner_h0, .int start_a_scanner_h0, .int width_a_scanner_h0])), (a_top_h0, .inr (0, [V_below_a_top_h0, V_above_a_top_h0, .int kind_a_top_h0, .int place_a_top_h0, .int width_a_top_h0, .int second_a_top_h0, .int parts_a_top_h0, .int innerParts_a_top_h0, .int innerPlace_a_top_h0, .int innerWidth_a_top_h0, .int signs_a_top_h0, .int waitingBelow_a_top_h0, .int limited_a_top_h0, .int targets_a_top_h0, .int lastBlock_a_top_h0])), (a_functions_h0, .inr (5, [.ref a_cells_a_functions_h0, .int count_a_functions_h0])), (a_draft_h0, .inr (1, [.ref a_cells_a_draft_h0, .int count_a_draft_h0])), (a_text_h0, .inr (3, [.ref a_bytes_a_text_h0, .int size_a_text_h0])), (a_bytes_a_text_h0, .inl (cB, n_a_bytes_a_text_h0, .inl b_a_bytes_a_text_h0)), (a_cells_a_functions_h0, .inl (cI, n_a_cells_a_functions_h0, .inl b_a_cells_a_functions_h0)), (a_cells_a_draft_h0, .inl (cI, n_a_cells_a_draft_h0, .inl b_a_cells_a_draft_h0))]) hr (zb_n zb1) d_Rd_standsInFunctionHead_218 [8, 0, 1, 2, 4, 6, 7, 3, 5] rfl (by decide) ⟨a_cells_a_functions_h0, a_cells_a_draft_h0, rfl, zb1, rfl⟩
          · replace h := it_f c63 h
            by_cases c67 : mode_h0 = 15
            · replace h := it_t c67 h
              refine j_tabIn (tgt := 219) (off := 215) d_Rd_standsInFunctionHead_4 15 c67 (by decide) (by decide) (by decide) (by decide) ?_
              refine j_aload_n d_Rd_standsInFunctionHead_219 rfl 0 rfl ?_
              refine j_get ig_Rd rfl 0 rfl 11 (by decide) rfl m_180 rfl d_Rd_standsInFunctionHead_220 ?_
              refine j_iconst (v := 2) d_Rd_standsInFunctionHead_223 (by decide) ?_
              refine j_icmp_ne (tgt := 247) d_Rd_standsInFunctionHead_224 (by decide) (fun c68 => ?_) (fun c68 => ?_)
              · replace h := it_f c68 h
                refine j_iconst (v := 0) d_Rd_standsInFunctionHead_247 (by decide) ?_
                replace h := lf_s h
                obtain ⟨h, e1, e2⟩ := h
                replace h := Prod.mk.inj h
                obtain ⟨h9, h⟩ := h
                subst h9
                replace h := Prod.mk.inj h
                obtain ⟨h9, h⟩ := h
                subst h9
                replace h := Prod.mk.inj h
                obtain ⟨h9, h⟩ := h
                subst h9
                replace h := Prod.mk.inj h
                obtain ⟨h9, h⟩ := h
                subst h9
                replace h := Prod.mk.inj h
                obtain ⟨h9, h⟩ := h
                subst h9
                replace h := Prod.mk.inj h
                obtain ⟨h9, h⟩ := h
                subst h9
                replace h := Prod.mk.inj h
                obtain ⟨h9, h⟩ := h
                subst h9
                replace h := Prod.mk.inj h
                obtain ⟨h9, h⟩ := h
                subst h9
                replace h := Prod.mk.inj h
                obtain ⟨h9, h⟩ := h
                subst h9
                replace h := Prod.mk.inj h
                obtain ⟨h9, h⟩ := h
                subst h9
                replace h := Prod.mk.inj h
                obtain ⟨h9, h⟩ := h
                subst h9
                replace h := Prod.mk.inj h
                obtain ⟨h9, h⟩ := h
                subst h9
                subst h
                refine j_widen (cl' := mc) (sl' := ms) (by omega) (by omega) ?_
                exact j_zret (w := [(h0, .inr (2, [.ref a_scanner_h0, .ref a_draft_h0, .ref a_waiting_h0, .ref a_functions_h0, .ref a_bottom_h0, .ref a_top_h0, .ref a_text_h0, .int mode_h0, .int levels_h0, .int signs_h0, .int loops_h0, .int token_h0, .int fault_h0])), (a_scanner_h0, .inr (4, [.ref a_text_a_scanner_h0, .int next_a_scanner_h0, .int kind_a_scanner_h0, .int start_a_scanner_h0, .int width_a_scanner_h0])), (a_top_h0, .inr (0, [V_below_a_top_h0, V_above_a_top_h0, .int kind_a_top_h0, .int place_a_top_h0, .int width_a_top_h0, .int second_a_top_h0, .int parts_a_top_h0, .int innerParts_a_top_h0, .int innerPlace_a_top_h0, .int innerWidth_a_top_h0, .int signs_a_top_h0, .int waitingBelow_a_top_h0, .int limited_a_top_h0, .int targets_a_top_h0, .int lastBlock_a_top_h0])), (a_functions_h0, .inr (5, [.ref a_cells_a_functions_h0, .int count_a_functions_h0])), (a_draft_h0, .inr (1, [.ref a_cells_a_draft_h0, .int count_a_draft_h0])), (a_text_h0, .inr (3, [.ref a_bytes_a_text_h0, .int size_a_text_h0])), (a_bytes_a_text_h0, .inl (cB, n_a_bytes_a_text_h0, .inl b_a_bytes_a_text_h0)), (a_cells_a_functions_h0, .inl (cI, n_a_cells_a_functions_h0, .inl b_a_cells_a_functions_h0)), (a_cells_a_draft_h0, .inl (cI, n_a_cells_a_draft_h0, .inl b_a_cells_a_draft_h0))]) hr (zb_n zb0) d_Rd_standsInFunctionHead_248 [0, 1, 2, 3, 5, 7, 8, 4, 6] rfl (by decide) ⟨a_cells_a_functions_h0, a_cells_a_draft_h0, rfl, zb0, rfl⟩
              · replace h := it_t c68 h
                refine j_aload_n d_Rd_standsInFunctionHead_227 rfl 0 rfl ?_
                refine j_bipush (v := 16) d_Rd_standsInFunctionHead_228 (by decide) ?_
                refine j_callV (n := 1) (As := [.int 16]) (rest := []) (wr := [(a_functions_h0, .inr (5, [.ref a_cells_a_functions_h0, .int count_a_functions_h0])), (a_cells_a_functions_h0, .inl (cI, n_a_cells_a_functions_h0, .inl b_a_cells_a_functions_h0)), (a_draft_h0, .inr (1, [.ref a_cells_a_draft_h0, .int count_a_draft_h0])), (a_cells_a_draft_h0, .inl (cI, n_a_cells_a_draft_h0, .inl b_a_cells_a_draft_h0)), (a_text_h0, .inr (3, [.ref a_bytes_a_text_h0, .int size_a_text_h0])), (a_bytes_a_text_h0, .inl (cB, n_a_bytes_a_text_h0, .inl b_a_bytes_a_text_h0))]) (c_Rd_keepName l D cI cB cJ cS h0 a_scanner_h0 a_draft_h0 a_waiting_h0 a_functions_h0 a_bottom_h0 a_top_h0 a_text_h0 a_text_a_scanner_h0 V_below_a_top_h0 V_above_a_top_h0 16 mode_h0 levels_h0 signs_h0 loops_h0 token_h0 fault_h0 next_a_scanner_h0 kind_a_scanner_h0 start_a_scanner_h0 width_a_scanner_h0 kind_a_top_h0 place_a_top_h0 width_a_top_h0 second_a_top_h0 parts_a_top_h0 innerParts_a_top_h0 innerPlace_a_top_h0 innerWidth_a_top_h0 signs_a_top_h0 waitingBelow_a_top_h0 limited_a_top_h0 targets_a_top_h0 lastBlock_a_top_h0  ) k_Rd_235 (by decide) ⟨Nat.le_of_ble_eq_true rfl, Nat.le_of_ble_eq_true rfl⟩ rfl 0 rfl [0, 1, 2] [3, 4, 5, 6, 7, 8] rfl (by decide) rfl (by decide) (by decide) rfl rfl (Nat.le_of_ble_eq_true rfl) d_Rd_standsInFunctionHead_230 ⟨show 0 + 0 ≤ mc by omega, show 0 + 0 ≤ ms by omega⟩ (fun v w hq => ?_)
                obtain ⟨rfl, _, rfl⟩ := hq
                refine j_norm (pc' := 233) (st' := [.int 1]) (ws' := [(a_functions_h0, .inr (5, [.ref a_cells_a_functions_h0, .int count_a_functions_h0])), (a_cells_a_functions_h0, .inl (cI, n_a_cells_a_functions_h0, .inl b_a_cells_a_functions_h0)), (a_draft_h0, .inr (1, [.ref a_cells_a_draft_h0, .int count_a_draft_h0])), (a_cells_a_draft_h0, .inl (cI, n_a_cells_a_draft_h0, .inl b_a_cells_a_draft_h0)), (a_text_h0, .inr (3, [.ref a_bytes_a_text_h0, .int size_a_text_h0])), (a_bytes_a_text_h0, .inl (cB, n_a_bytes_a_text_h0, .inl b_a_bytes_a_text_h0)), (h0, .inr (2, [.ref a_scanner_h0, .ref a_draft_h0, .ref a_waiting_h0, .ref a_functions_h0, .ref a_bottom_h0, .ref a_top_h0, .ref a_text_h0, .int 16, .int levels_h0, .int signs_h0, .int loops_h0, .int token_h0, .int fault_h0])), (a_scanner_h0, .inr (4, [.ref a_text_a_scanner_h0, .int next_a_scanner_h0, .int kind_a_scanner_h0, .int start_a_scanner_h0, .int width_a_scanner_h0])), (a_top_h0, .inr (0, [V_below_a_top_h0, V_above_a_top_h0, .int kind_a_top_h0, .int place_a_top_h0, .int width_a_scanner_h0, .int start_a_scanner_h0, .int parts_a_top_h0, .int innerParts_a_top_h0, .int innerPlace_a_top_h0, .int innerWidth_a_top_h0, .int signs_a_top_h0, .int waitingBelow_a_top_h0, .int limited_a_top_h0, .int targets_a_top_h0, .int lastBlock_a_top_h0]))]) (cl' := 0) (sl' := 0) rfl rfl rfl rfl rfl rfl ?_
                refine j_if_eq (tgt := 247) d_Rd_standsInFunctionHead_233 (by decide) (fun c70 => absurd c70 (by decide)) (fun c70 => ?_)
                refine j_aload_n d_Rd_standsInFunctionHead_236 rfl 0 rfl ?_
                replace h := bw_s h
                obtain ⟨⟨r71, r72, r73, r74, r75, r76, r77, r78, r79⟩, C83, S84, C85, S86, k87, h, e1, e2⟩ := h
                replace hC : 0 + C83 + C85 ≤ mc := by omega
                replace hS : 0 + S84 + S86 ≤ ms := by omega
                clear e1 e2
                refine j_callV (n := 0) (As := []) (rest := []) (wr := [(a_scanner_h0, .inr (4, [.ref a_text_a_scanner_h0, .int next_a_scanner_h0, .int kind_a_scanner_h0, .int start_a_scanner_h0, .int width_a_scanner_h0]))]) (c_Rd_nameFunction l D cI cB cJ cS h0 a_scanner_h0 a_draft_h0 a_waiting_h0 a_functions_h0 a_bottom_h0 a_top_h0 a_text_h0 a_cells_a_functions_h0 V_below_a_top_h0 V_above_a_top_h0 a_cells_a_draft_h0 a_bytes_a_text_h0 16 levels_h0 signs_h0 loops_h0 token_h0 fault_h0 count_a_functions_h0 kind_a_top_h0 place_a_top_h0 width_a_scanner_h0 start_a_scanner_h0 parts_a_top_h0 innerParts_a_top_h0 innerPlace_a_top_h0 innerWidth_a_top_h0 signs_a_top_h0 waitingBelow_a_top_h0 limited_a_top_h0 targets_a_top_h0 lastBlock_a_top_h0 n_a_cells_a_functions_h0 b_a_cells_a_functions_h0 count_a_draft_h0 n_a_cells_a_draft_h0 b_a_cells_a_draft_h0 size_a_text_h0 n_a_bytes_a_text_h0 b_a_bytes_a_text_h0  r71 r72 r73 r74 r75 r76 r77 r78 r79 C83 S84 k87) k_Rd_250 (by decide) ⟨Nat.le_of_ble_eq_true rfl, Nat.le_of_ble_eq_true rfl⟩ rfl 0 rfl [6, 0, 8, 1, 2, 3, 4, 5] [7] rfl (by decide) rfl (by decide) (by decide) rfl rfl (Nat.le_of_ble_eq_true rfl) d_Rd_standsInFunctionHead_237 ⟨show 0 + C83 ≤ mc by omega, show 0 + S84 ≤ ms by omega⟩ (fun v w hq => ?_)
                obtain ⟨q80, q81, rfl, z82, rfl⟩ := hq
                refine j_norm (pc' := 240) (st' := [.int r71]) (ws' := [(a_scanner_h0, .inr (4, [.ref a_text_a_scanner_h0, .int next_a_scanner_h0, .int kind_a_scanner_h0, .int start_a_scanner_h0, .int width_a_scanner_h0])), (h0, .inr (2, [.ref a_scanner_h0, .ref a_draft_h0, .ref a_waiting_h0, .ref a_functions_h0, .ref a_bottom_h0, .ref a_top_h0, .ref a_text_h0, .int 16, .int levels_h0, .int signs_h0, .int loops_h0, .int token_h0, .int fault_h0])), (a_functions_h0, .inr (5, [.ref q80, .int r72])), (a_top_h0, .inr (0, [V_below_a_top_h0, V_above_a_top_h0, .int kind_a_top_h0, .int place_a_top_h0, .int width_a_scanner_h0, .int start_a_scanner_h0, .int r73, .int r74, .int innerPlace_a_top_h0, .int innerWidth_a_top_h0, .int signs_a_top_h0, .int waitingBelow_a_top_h0, .int limited_a_top_h0, .int targets_a_top_h0, .int lastBlock_a_top_h0])), (a_draft_h0, .inr (1, [.ref q81, .int r75])), (a_text_h0, .inr (3, [.ref a_bytes_a_text_h0, .int size_a_text_h0])), (a_bytes_a_text_h0, .inl (cB, n_a_bytes_a_text_h0, .inl b_a_bytes_a_text_h0)), (q80, .inl (cI, r76, .inl r77)), (q81, .inl (cI, r78, .inl r79))]) (cl' := 0 + C83) (sl' := 0 + S84) rfl rfl rfl rfl rfl rfl ?_
                refine j_if_eq (tgt := 247) d_Rd_standsInFunctionHead_240 (by decide) (fun c88 => ?_) (fun c88 => ?_)
                · replace h := it_t c88 h
                  refine j_iconst (v := 0) d_Rd_standsInFunctionHead_247 (by decide) ?_
                  replace h := lf_s h
                  obtain ⟨h, e1, e2⟩ := h
                  replace h := Prod.mk.inj h
                  obtain ⟨h9, h⟩ := h
                  subst h9
                  replace h := Prod.mk.inj h
                  obtain ⟨h9, h⟩ := h
                  subst h9
                  replace h := Prod.mk.inj h
                  obtain ⟨h9, h⟩ := h
                  subst h9
                  replace h := Prod.mk.inj h
                  obtain ⟨h9, h⟩ := h
                  subst h9
                  replace h := Prod.mk.inj h
                  obtain ⟨h9, h⟩ := h
                  subst h9
                  replace h := Prod.mk.inj h
                  obtain ⟨h9, h⟩ := h
                  subst h9
                  replace h := Prod.mk.inj h
                  obtain ⟨h9, h⟩ := h
                  subst h9
                  replace h := Prod.mk.inj h
                  obtain ⟨h9, h⟩ := h
                  subst h9
                  replace h := Prod.mk.inj h
                  obtain ⟨h9, h⟩ := h
                  subst h9
                  replace h := Prod.mk.inj h
                  obtain ⟨h9, h⟩ := h
                  subst h9
                  replace h := Prod.mk.inj h
                  obtain ⟨h9, h⟩ := h
                  subst h9
                  replace h := Prod.mk.inj h
                  obtain ⟨h9, h⟩ := h
                  subst h9
                  subst h
                  refine j_widen (cl' := mc) (sl' := ms) (by omega) (by omega) ?_
                  exact j_zret (w := [(h0, .inr (2, [.ref a_scanner_h0, .ref a_draft_h0, .ref a_waiting_h0, .ref a_functions_h0, .ref a_bottom_h0, .ref a_top_h0, .ref a_text_h0, .int 16, .int levels_h0, .int signs_h0, .int loops_h0, .int token_h0, .int fault_h0])), (a_scanner_h0, .inr (4, [.ref a_text_a_scanner_h0, .int next_a_scanner_h0, .int kind_a_scanner_h0, .int start_a_scanner_h0, .int width_a_scanner_h0])), (a_top_h0, .inr (0, [V_below_a_top_h0, V_above_a_top_h0, .int kind_a_top_h0, .int place_a_top_h0, .int width_a_scanner_h0, .int start_a_scanner_h0, .int r73, .int r74, .int innerPlace_a_top_h0, .int innerWidth_a_top_h0, .int signs_a_top_h0, .int waitingBelow_a_top_h0, .int limited_a_top_h0, .int targets_a_top_h0, .int lastBlock_a_top_h0])), (a_functions_h0, .inr (5, [.ref q80, .int r72])), (a_draft_h0, .inr (1, [.ref q81, .int r75])), (a_text_h0, .inr (3, [.ref a_bytes_a_text_h0, .int size_a_text_h0])), (a_bytes_a_text_h0, .inl (cB, n_a_bytes_a_text_h0, .inl b_a_bytes_a_text_h0)), (q80, .inl (cI, r76, .inl r77)), (q81, .inl (cI, r78, .inl r79))]) hr (zb_n zb0) d_Rd_standsInFunctionHead_248 [1, 0, 3, 2, 4, 5, 6, 7, 8] rfl (by decide) ⟨q80, q81, rfl, zb0, rfl⟩
                · replace h := it_f c88 h
                  refine j_iconst (v := 1) d_Rd_standsInFunctionHead_243 (by decide) ?_
                  refine j_goto (tgt := 248) d_Rd_standsInFunctionHead_244 (by decide) ?_
                  replace h := lf_s h
                  obtain ⟨h, e1, e2⟩ := h
                  replace h := Prod.mk.inj h
                  obtain ⟨h9, h⟩ := h
                  subst h9
                  replace h := Prod.mk.inj h
                  obtain ⟨h9, h⟩ := h
                  subst h9
                  replace h := Prod.mk.inj h
                  obtain ⟨h9, h⟩ := h
                  subst h9
                  replace h := Prod.mk.inj h
                  obtain ⟨h9, h⟩ := h
                  subst h9
                  replace h := Prod.mk.inj h
                  obtain ⟨h9, h⟩ := h
                  subst h9
                  replace h := Prod.mk.inj h
                  obtain ⟨h9, h⟩ := h
                  subst h9
                  replace h := Prod.mk.inj h
                  obtain ⟨h9, h⟩ := h
                  subst h9
                  replace h := Prod.mk.inj h
                  obtain ⟨h9, h⟩ := h
                  subst h9
                  replace h := Prod.mk.inj h
                  obtain ⟨h9, h⟩ := h
                  subst h9
                  replace h := Prod.mk.inj h
                  obtain ⟨h9, h⟩ := h
                  subst h9
                  replace h := Prod.mk.inj h
                  obtain ⟨h9, h⟩ := h
                  subst h9
                  replace h := Prod.mk.inj h
                  obtain ⟨h9, h⟩ := h
                  subst h9
                  subst h
                  refine j_widen (cl' := mc) (sl' := ms) (by omega) (by omega) ?_
                  exact j_zret (w := [(h0, .inr (2, [.ref a_scanner_h0, .ref a_draft_h0, .ref a_waiting_h0, .ref a_functions_h0, .ref a_bottom_h0, .ref a_top_h0, .ref a_text_h0, .int 16, .int levels_h0, .int signs_h0, .int loops_h0, .int token_h0, .int fault_h0])), (a_scanner_h0, .inr (4, [.ref a_text_a_scanner_h0, .int next_a_scanner_h0, .int kind_a_scanner_h0, .int start_a_scanner_h0, .int width_a_scanner_h0])), (a_top_h0, .inr (0, [V_below_a_top_h0, V_above_a_top_h0, .int kind_a_top_h0, .int place_a_top_h0, .int width_a_scanner_h0, .int start_a_scanner_h0, .int r73, .int r74, .int innerPlace_a_top_h0, .int innerWidth_a_top_h0, .int signs_a_top_h0, .int waitingBelow_a_top_h0, .int limited_a_top_h0, .int targets_a_top_h0, .int lastBlock_a_top_h0])), (a_functions_h0, .inr (5, [.ref q80, .int r72])), (a_draft_h0, .inr (1, [.ref q81, .int r75])), (a_text_h0, .inr (3, [.ref a_bytes_a_text_h0, .int size_a_text_h0])), (a_bytes_a_text_h0, .inl (cB, n_a_bytes_a_text_h0, .inl b_a_bytes_a_text_h0)), (q80, .inl (cI, r76, .inl r77)), (q81, .inl (cI, r78, .inl r79))]) hr (zb_n zb1) d_Rd_standsInFunctionHead_248 [1, 0, 3, 2, 4, 5, 6, 7, 8] rfl (by decide) ⟨q80, q81, rfl, zb1, rfl⟩
            · replace h := it_f c67 h
              by_cases c89 : mode_h0 = 16
              · replace h := it_t c89 h
                refine j_tabIn (tgt := 249) (off := 245) d_Rd_standsInFunctionHead_4 16 c89 (by decide) (by decide) (by decide) (by decide) ?_
                refine j_aload_n d_Rd_standsInFunctionHead_249 rfl 0 rfl ?_
                refine j_get ig_Rd rfl 0 rfl 11 (by decide) rfl m_180 rfl d_Rd_standsInFunctionHead_250 ?_
                refine j_bipush (v := 40) d_Rd_standsInFunctionHead_253 (by decide) ?_
                refine j_icmp_ne (tgt := 269) d_Rd_standsInFunctionHead_255 (by decide) (fun c90 => ?_) (fun c90 => ?_)
                · replace h := it_f c90 h
                  refine j_iconst (v := 0) d_Rd_standsInFunctionHead_269 (by decide) ?_
                  replace h := lf_s h
                  obtain ⟨h, e1, e2⟩ := h
                  replace h := Prod.mk.inj h
                  obtain ⟨h9, h⟩ := h
                  subst h9
                  replace h := Prod.mk.inj h
                  obtain ⟨h9, h⟩ := h
                  subst h9
                  replace h := Prod.mk.inj h
                  obtain ⟨h9, h⟩ := h
                  subst h9
                  replace h := Prod.mk.inj h
                  obtain ⟨h9, h⟩ := h
                  subst h9
                  replace h := Prod.mk.inj h
                  obtain ⟨h9, h⟩ := h
                  subst h9
                  replace h := Prod.mk.inj h
                  obtain ⟨h9, h⟩ := h
                  subst h9
                  replace h := Prod.mk.inj h
                  obtain ⟨h9, h⟩ := h
                  subst h9
                  replace h := Prod.mk.inj h
                  obtain ⟨h9, h⟩ := h
                  subst h9
                  replace h := Prod.mk.inj h
                  obtain ⟨h9, h⟩ := h
                  subst h9
                  replace h := Prod.mk.inj h
                  obtain ⟨h9, h⟩ := h
                  subst h9
                  replace h := Prod.mk.inj h
                  obtain ⟨h9, h⟩ := h
                  subst h9
                  replace h := Prod.mk.inj h
                  obtain ⟨h9, h⟩ := h
                  subst h9
                  subst h
                  refine j_widen (cl' := mc) (sl' := ms) (by omega) (by omega) ?_
                  exact j_zret (w := [(h0, .inr (2, [.ref a_scanner_h0, .ref a_draft_h0, .ref a_waiting_h0, .ref a_functions_h0, .ref a_bottom_h0, .ref a_top_h0, .ref a_text_h0, .int mode_h0, .int levels_h0, .int signs_h0, .int loops_h0, .int token_h0, .int fault_h0])), (a_scanner_h0, .inr (4, [.ref a_text_a_scanner_h0, .int next_a_scanner_h0, .int kind_a_scanner_h0, .int start_a_scanner_h0, .int width_a_scanner_h0])), (a_top_h0, .inr (0, [V_below_a_top_h0, V_above_a_top_h0, .int kind_a_top_h0, .int place_a_top_h0, .int width_a_top_h0, .int second_a_top_h0, .int parts_a_top_h0, .int innerParts_a_top_h0, .int innerPlace_a_top_h0, .int innerWidth_a_top_h0, .int signs_a_top_h0, .int waitingBelow_a_top_h0, .int limited_a_top_h0, .int targets_a_top_h0, .int lastBlock_a_top_h0])), (a_functions_h0, .inr (5, [.ref a_cells_a_functions_h0, .int count_a_functions_h0])), (a_draft_h0, .inr (1, [.ref a_cells_a_draft_h0, .int count_a_draft_h0])), (a_text_h0, .inr (3, [.ref a_bytes_a_text_h0, .int size_a_text_h0])), (a_bytes_a_text_h0, .inl (cB, n_a_bytes_a_text_h0, .inl b_a_bytes_a_text_h0)), (a_cells_a_functions_h0, .inl (cI, n_a_cells_a_functions_h0, .inl b_a_cells_a_functions_h0)), (a_cells_a_draft_h0, .inl (cI, n_a_cells_a_draft_h0, .inl b_a_cells_a_draft_h0))]) hr (zb_n zb0) d_Rd_standsInFunctionHead_270 [0, 1, 2, 3, 5, 7, 8, 4, 6] rfl (by decide) ⟨a_cells_a_functions_h0, a_cells_a_draft_h0, rfl, zb0, rfl⟩
                · replace h := it_t c90 h
                  refine j_aload_n d_Rd_standsInFunctionHead_258 rfl 0 rfl ?_
                  refine j_callV (n := 0) (As := []) (rest := []) (wr := [(a_functions_h0, .inr (5, [.ref a_cells_a_functions_h0, .int count_a_functions_h0])), (a_cells_a_functions_h0, .inl (cI, n_a_cells_a_functions_h0, .inl b_a_cells_a_functions_h0)), (a_draft_h0, .inr (1, [.ref a_cells_a_draft_h0, .int count_a_draft_h0])), (a_cells_a_draft_h0, .inl (cI, n_a_cells_a_draft_h0, .inl b_a_cells_a_draft_h0)), (a_text_h0, .inr (3, [.ref a_bytes_a_text_h0, .int size_a_text_h0])), (a_bytes_a_text_h0, .inl (cB, n_a_bytes_a_text_h0, .inl b_a_bytes_a_text_h0))]) (c_Rd_openParameters l D cI cB cJ cS h0 a_scanner_h0 a_draft_h0 a_waiting_h0 a_functions_h0 a_bottom_h0 a_top_h0 a_text_h0 a_text_a_scanner_h0 V_below_a_top_h0 V_above_a_top_h0 mode_h0 levels_h0 signs_h0 loops_h0 token_h0 fault_h0 next_a_scanner_h0 kind_a_scanner_h0 start_a_scanner_h0 width_a_scanner_h0 kind_a_top_h0 place_a_top_h0 width_a_top_h0 second_a_top_h0 parts_a_top_h0 innerParts_a_top_h0 innerPlace_a_top_h0 innerWidth_a_top_h0 signs_a_top_h0 waitingBelow_a_top_h0 limited_a_top_h0 targets_a_top_h0 lastBlock_a_top_h0  ) k_Rd_253 (by decide) ⟨Nat.le_of_ble_eq_true rfl, Nat.le_of_ble_eq_true rfl⟩ rfl 0 rfl [0, 1, 2] [3, 4, 5, 6, 7, 8] rfl (by decide) rfl (by decide) (by decide) rfl rfl (Nat.le_of_ble_eq_true rfl) d_Rd_standsInFunctionHead_259 ⟨show 0 + 0 ≤ mc by omega, show 0 + 0 ≤ ms by omega⟩ (fun v w hq => ?_)
                  obtain ⟨rfl, _, rfl⟩ := hq
                  refine j_norm (pc' := 262) (st' := [.int 1]) (ws' := [(a_functions_h0, .inr (5, [.ref a_cells_a_functions_h0, .int count_a_functions_h0])), (a_cells_a_functions_h0, .inl (cI, n_a_cells_a_functions_h0, .inl b_a_cells_a_functions_h0)), (a_draft_h0, .inr (1, [.ref a_cells_a_draft_h0, .int count_a_draft_h0])), (a_cells_a_draft_h0, .inl (cI, n_a_cells_a_draft_h0, .inl b_a_cells_a_draft_h0)), (a_text_h0, .inr (3, [.ref a_bytes_a_text_h0, .int size_a_text_h0])), (a_bytes_a_text_h0, .inl (cB, n_a_bytes_a_text_h0, .inl b_a_bytes_a_text_h0)), (h0, .inr (2, [.ref a_scanner_h0, .ref a_draft_h0, .ref a_waiting_h0, .ref a_functions_h0, .ref a_bottom_h0, .ref a_top_h0, .ref a_text_h0, .int 17, .int levels_h0, .int signs_h0, .int loops_h0, .int token_h0, .int fault_h0])), (a_scanner_h0, .inr (4, [.ref a_text_a_scanner_h0, .int next_a_scanner_h0, .int kind_a_scanner_h0, .int start_a_scanner_h0, .int width_a_scanner_h0])), (a_top_h0, .inr (0, [V_below_a_top_h0, V_above_a_top_h0, .int kind_a_top_h0, .int place_a_top_h0, .int width_a_top_h0, .int second_a_top_h0, .int parts_a_top_h0, .int innerParts_a_top_h0, .int start_a_scanner_h0, .int innerWidth_a_top_h0, .int signs_a_top_h0, .int waitingBelow_a_top_h0, .int limited_a_top_h0, .int targets_a_top_h0, .int lastBlock_a_top_h0]))]) (cl' := 0) (sl' := 0) rfl rfl rfl rfl rfl rfl ?_
                  refine j_if_eq (tgt := 269) d_Rd_standsInFunctionHead_262 (by decide) (fun c92 => absurd c92 (by decide)) (fun c92 => ?_)
                  refine j_iconst (v := 1) d_Rd_standsInFunctionHead_265 (by decide) ?_
                  refine j_goto (tgt := 270) d_Rd_standsInFunctionHead_266 (by decide) ?_
                  replace h := lf_s h
                  obtain ⟨h, e1, e2⟩ := h
                  replace h := Prod.mk.inj h
                  obtain ⟨h9, h⟩ := h
                  subst h9
                  replace h := Prod.mk.inj h
                  obtain ⟨h9, h⟩ := h
                  subst h9
                  replace h := Prod.mk.inj h
                  obtain ⟨h9, h⟩ := h
                  subst h9
                  replace h := Prod.mk.inj h
                  obtain ⟨h9, h⟩ := h
                  subst h9
                  replace h := Prod.mk.inj h
                  obtain ⟨h9, h⟩ := h
                  subst h9
                  replace h := Prod.mk.inj h
                  obtain ⟨h9, h⟩ := h
                  subst h9
                  replace h := Prod.mk.inj h
                  obtain ⟨h9, h⟩ := h
                  subst h9
                  replace h := Prod.mk.inj h
                  obtain ⟨h9, h⟩ := h
                  subst h9
                  replace h := Prod.mk.inj h
                  obtain ⟨h9, h⟩ := h
                  subst h9
                  replace h := Prod.mk.inj h
                  obtain ⟨h9, h⟩ := h
                  subst h9
                  replace h := Prod.mk.inj h
                  obtain ⟨h9, h⟩ := h
                  subst h9
                  replace h := Prod.mk.inj h
                  obtain ⟨h9, h⟩ := h
                  subst h9
                  subst h
                  refine j_widen (cl' := mc) (sl' := ms) (by omega) (by omega) ?_
                  exact j_zret (w := [(h0, .inr (2, [.ref a_scanner_h0, .ref a_draft_h0, .ref a_waiting_h0, .ref a_functions_h0, .ref a_bottom_h0, .ref a_top_h0, .ref a_text_h0, .int 17, .int levels_h0, .int signs_h0, .int loops_h0, .int token_h0, .int fault_h0])), (a_scanner_h0, .inr (4, [.ref a_text_a_scanner_h0, .int next_a_scanner_h0, .int kind_a_scanner_h0, .int start_a_scanner_h0, .int width_a_scanner_h0])), (a_top_h0, .inr (0, [V_below_a_top_h0, V_above_a_top_h0, .int kind_a_top_h0, .int place_a_top_h0, .int width_a_top_h0, .int second_a_top_h0, .int parts_a_top_h0, .int innerParts_a_top_h0, .int start_a_scanner_h0, .int innerWidth_a_top_h0, .int signs_a_top_h0, .int waitingBelow_a_top_h0, .int limited_a_top_h0, .int targets_a_top_h0, .int lastBlock_a_top_h0])), (a_functions_h0, .inr (5, [.ref a_cells_a_functions_h0, .int count_a_functions_h0])), (a_draft_h0, .inr (1, [.ref a_cells_a_draft_h0, .int count_a_draft_h0])), (a_text_h0, .inr (3, [.ref a_bytes_a_text_h0, .int size_a_text_h0])), (a_bytes_a_text_h0, .inl (cB, n_a_bytes_a_text_h0, .inl b_a_bytes_a_text_h0)), (a_cells_a_functions_h0, .inl (cI, n_a_cells_a_functions_h0, .inl b_a_cells_a_functions_h0)), (a_cells_a_draft_h0, .inl (cI, n_a_cells_a_draft_h0, .inl b_a_cells_a_draft_h0))]) hr (zb_n zb1) d_Rd_standsInFunctionHead_270 [6, 7, 8, 0, 2, 4, 5, 1, 3] rfl (by decide) ⟨a_cells_a_functions_h0, a_cells_a_draft_h0, rfl, zb1, rfl⟩
              · replace h := it_f c89 h
                by_cases c93 : mode_h0 = 17
                · replace h := it_t c93 h
                  refine j_tabIn (tgt := 271) (off := 267) d_Rd_standsInFunctionHead_4 17 c93 (by decide) (by decide) (by decide) (by decide) ?_
                  refine j_aload_n d_Rd_standsInFunctionHead_271 rfl 0 rfl ?_
                  refine j_get ig_Rd rfl 0 rfl 11 (by decide) rfl m_180 rfl d_Rd_standsInFunctionHead_272 ?_
                  refine j_bipush (v := 41) d_Rd_standsInFunctionHead_275 (by decide) ?_
                  refine j_icmp_ne (tgt := 287) d_Rd_standsInFunctionHead_277 (by decide) (fun c94 => ?_) (fun c94 => ?_)
                  · replace h := it_f c94 h
                    refine j_aload_n d_Rd_standsInFunctionHead_287 rfl 0 rfl ?_
                    refine j_bipush (v := 19) d_Rd_standsInFunctionHead_288 (by decide) ?_
                    replace h := bw_s h
                    obtain ⟨⟨r95, r96, r97, r98, r99, r100⟩, C103, S104, C105, S106, k107, h, e1, e2⟩ := h
                    replace hC : 0 + C103 + C105 ≤ mc := by omega
                    replace hS : 0 + S104 + S106 ≤ ms := by omega
                    clear e1 e2
                    refine j_callV (n := 1) (As := [.int 19]) (rest := []) (wr := [(a_functions_h0, .inr (5, [.ref a_cells_a_functions_h0, .int count_a_functions_h0])), (a_cells_a_functions_h0, .inl (cI, n_a_cells_a_functions_h0, .inl b_a_cells_a_functions_h0))]) (c_Rd_addDifferentName l D cI cB cJ cS h0 a_scanner_h0 a_draft_h0 a_waiting_h0 a_functions_h0 a_bottom_h0 a_top_h0 a_text_h0 V_below_a_top_h0 V_above_a_top_h0 a_text_a_scanner_h0 a_cells_a_draft_h0 a_bytes_a_text_h0 19 mode_h0 levels_h0 signs_h0 loops_h0 token_h0 fault_h0 kind_a_top_h0 place_a_top_h0 width_a_top_h0 second_a_top_h0 parts_a_top_h0 innerParts_a_top_h0 innerPlace_a_top_h0 innerWidth_a_top_h0 signs_a_top_h0 waitingBelow_a_top_h0 limited_a_top_h0 targets_a_top_h0 lastBlock_a_top_h0 next_a_scanner_h0 kind_a_scanner_h0 start_a_scanner_h0 width_a_scanner_h0 count_a_draft_h0 n_a_cells_a_draft_h0 b_a_cells_a_draft_h0 size_a_text_h0 n_a_bytes_a_text_h0 b_a_bytes_a_text_h0  r95 r96 r97 r98 r99 r100 C103 S104 k107) k_Rd_244 (by decide) ⟨Nat.le_of_ble_eq_true rfl, Nat.le_of_ble_eq_true rfl⟩ rfl 0 rfl [0, 2, 1, 5, 6, 7, 8] [3, 4] rfl (by decide) rfl (by decide) (by decide) rfl rfl (Nat.le_of_ble_eq_true rfl) d_Rd_standsInFunctionHead_290 ⟨show 0 + C103 ≤ mc by omega, show 0 + S104 ≤ ms by omega⟩ (fun v w hq => ?_)
                    obtain ⟨q101, rfl, z102, rfl⟩ := hq
                    refine j_norm (pc' := 293) (st' := [.int r95]) (ws' := [(a_functions_h0, .inr (5, [.ref a_cells_a_functions_h0, .int count_a_functions_h0])), (a_cells_a_functions_h0, .inl (cI, n_a_cells_a_functions_h0, .inl b_a_cells_a_functions_h0)), (h0, .inr (2, [.ref a_scanner_h0, .ref a_draft_h0, .ref a_waiting_h0, .ref a_functions_h0, .ref a_bottom_h0, .ref a_top_h0, .ref a_text_h0, .int r96, .int levels_h0, .int signs_h0, .int loops_h0, .int token_h0, .int fault_h0])), (a_top_h0, .inr (0, [V_below_a_top_h0, V_above_a_top_h0, .int kind_a_top_h0, .int place_a_top_h0, .int width_a_top_h0, .int second_a_top_h0, .int parts_a_top_h0, .int r97, .int innerPlace_a_top_h0, .int innerWidth_a_top_h0, .int signs_a_top_h0, .int waitingBelow_a_top_h0, .int limited_a_top_h0, .int targets_a_top_h0, .int lastBlock_a_top_h0])), (a_scanner_h0, .inr (4, [.ref a_text_a_scanner_h0, .int next_a_scanner_h0, .int kind_a_scanner_h0, .int start_a_scanner_h0, .int width_a_scanner_h0])), (a_draft_h0, .inr (1, [.ref q101, .int r98])), (a_text_h0, .inr (3, [.ref a_bytes_a_text_h0, .int size_a_text_h0])), (a_bytes_a_text_h0, .inl (cB, n_a_bytes_a_text_h0, .inl b_a_bytes_a_text_h0)), (q101, .inl (cI, r99, .inl r100))]) (cl' := 0 + C103) (sl' := 0 + S104) rfl rfl rfl rfl rfl rfl ?_
                    replace h := lf_s h
                    obtain ⟨h, e1, e2⟩ := h
                    replace h := Prod.mk.inj h
                    obtain ⟨h9, h⟩ := h
                    subst h9
                    replace h := Prod.mk.inj h
                    obtain ⟨h9, h⟩ := h
                    subst h9
                    replace h := Prod.mk.inj h
                    obtain ⟨h9, h⟩ := h
                    subst h9
                    replace h := Prod.mk.inj h
                    obtain ⟨h9, h⟩ := h
                    subst h9
                    replace h := Prod.mk.inj h
                    obtain ⟨h9, h⟩ := h
                    subst h9
                    replace h := Prod.mk.inj h
                    obtain ⟨h9, h⟩ := h
                    subst h9
                    replace h := Prod.mk.inj h
                    obtain ⟨h9, h⟩ := h
                    subst h9
                    replace h := Prod.mk.inj h
                    obtain ⟨h9, h⟩ := h
                    subst h9
                    replace h := Prod.mk.inj h
                    obtain ⟨h9, h⟩ := h
                    subst h9
                    replace h := Prod.mk.inj h
                    obtain ⟨h9, h⟩ := h
                    subst h9
                    replace h := Prod.mk.inj h
                    obtain ⟨h9, h⟩ := h
                    subst h9
                    replace h := Prod.mk.inj h
                    obtain ⟨h9, h⟩ := h
                    subst h9
                    subst h
                    refine j_widen (cl' := mc) (sl' := ms) (by omega) (by omega) ?_
                    exact j_zret (w := [(h0, .inr (2, [.ref a_scanner_h0, .ref a_draft_h0, .ref a_waiting_h0, .ref a_functions_h0, .ref a_bottom_h0, .ref a_top_h0, .ref a_text_h0, .int r96, .int levels_h0, .int signs_h0, .int loops_h0, .int token_h0, .int fault_h0])), (a_scanner_h0, .inr (4, [.ref a_text_a_scanner_h0, .int next_a_scanner_h0, .int kind_a_scanner_h0, .int start_a_scanner_h0, .int width_a_scanner_h0])), (a_top_h0, .inr (0, [V_below_a_top_h0, V_above_a_top_h0, .int kind_a_top_h0, .int place_a_top_h0, .int width_a_top_h0, .int second_a_top_h0, .int parts_a_top_h0, .int r97, .int innerPlace_a_top_h0, .int innerWidth_a_top_h0, .int signs_a_top_h0, .int waitingBelow_a_top_h0, .int limited_a_top_h0, .int targets_a_top_h0, .int lastBlock_a_top_h0])), (a_functions_h0, .inr (5, [.ref a_cells_a_functions_h0, .int count_a_functions_h0])), (a_draft_h0, .inr (1, [.ref q101, .int r98])), (a_text_h0, .inr (3, [.ref a_bytes_a_text_h0, .int size_a_text_h0])), (a_bytes_a_text_h0, .inl (cB, n_a_bytes_a_text_h0, .inl b_a_bytes_a_text_h0)), (a_cells_a_functions_h0, .inl (cI, n_a_cells_a_functions_h0, .inl b_a_cells_a_functions_h0)), (q101, .inl (cI, r99, .inl r100))]) hr (zb_n z102) d_Rd_standsInFunctionHead_293 [2, 4, 3, 0, 5, 6, 7, 1, 8] rfl (by decide) ⟨a_cells_a_functions_h0, q101, rfl, z102, rfl⟩
                  · replace h := it_t c94 h
                    refine j_aload_n d_Rd_standsInFunctionHead_280 rfl 0 rfl ?_
                    replace h := bw_s h
                    obtain ⟨⟨r108, r109, r110⟩, C112, S113, C114, S115, k116, h, e1, e2⟩ := h
                    replace hC : 0 + C112 + C114 ≤ mc := by omega
                    replace hS : 0 + S113 + S115 ≤ ms := by omega
                    clear e1 e2
                    refine j_callV (n := 0) (As := []) (rest := []) (wr := [(a_functions_h0, .inr (5, [.ref a_cells_a_functions_h0, .int count_a_functions_h0])), (a_cells_a_functions_h0, .inl (cI, n_a_cells_a_functions_h0, .inl b_a_cells_a_functions_h0)), (a_text_h0, .inr (3, [.ref a_bytes_a_text_h0, .int size_a_text_h0])), (a_bytes_a_text_h0, .inl (cB, n_a_bytes_a_text_h0, .inl b_a_bytes_a_text_h0))]) (c_Rd_endParameters l D cI cB cJ cS h0 a_scanner_h0 a_draft_h0 a_waiting_h0 a_functions_h0 a_bottom_h0 a_top_h0 a_text_h0 V_below_a_top_h0 V_above_a_top_h0 a_cells_a_draft_h0 a_text_a_scanner_h0 mode_h0 levels_h0 signs_h0 loops_h0 token_h0 fault_h0 kind_a_top_h0 place_a_top_h0 width_a_top_h0 second_a_top_h0 parts_a_top_h0 innerParts_a_top_h0 innerPlace_a_top_h0 innerWidth_a_top_h0 signs_a_top_h0 waitingBelow_a_top_h0 limited_a_top_h0 targets_a_top_h0 lastBlock_a_top_h0 count_a_draft_h0 n_a_cells_a_draft_h0 b_a_cells_a_draft_h0 next_a_scanner_h0 kind_a_scanner_h0 start_a_scanner_h0 width_a_scanner_h0  r108 r109 r110 C112 S113 k116) k_Rd_256 (by decide) ⟨Nat.le_of_ble_eq_true rfl, Nat.le_of_ble_eq_true rfl⟩ rfl 0 rfl [0, 2, 5, 6, 1] [3, 4, 7, 8] rfl (by decide) rfl (by decide) (by decide) rfl rfl (Nat.le_of_ble_eq_true rfl) d_Rd_standsInFunctionHead_281 ⟨show 0 + C112 ≤ mc by omega, show 0 + S113 ≤ ms by omega⟩ (fun v w hq => ?_)
                    obtain ⟨q111, rfl, _, rfl⟩ := hq
                    refine j_norm (pc' := 284) (st' := [.int 1]) (ws' := [(a_functions_h0, .inr (5, [.ref a_cells_a_functions_h0, .int count_a_functions_h0])), (a_cells_a_functions_h0, .inl (cI, n_a_cells_a_functions_h0, .inl b_a_cells_a_functions_h0)), (a_text_h0, .inr (3, [.ref a_bytes_a_text_h0, .int size_a_text_h0])), (a_bytes_a_text_h0, .inl (cB, n_a_bytes_a_text_h0, .inl b_a_bytes_a_text_h0)), (h0, .inr (2, [.ref a_scanner_h0, .ref a_draft_h0, .ref a_waiting_h0, .ref a_functions_h0, .ref a_bottom_h0, .ref a_top_h0, .ref a_text_h0, .int 0, .int levels_h0, .int signs_h0, .int loops_h0, .int token_h0, .int fault_h0])), (a_top_h0, .inr (0, [V_below_a_top_h0, V_above_a_top_h0, .int kind_a_top_h0, .int place_a_top_h0, .int width_a_top_h0, .int second_a_top_h0, .int (parts_a_top_h0 + 1), .int 0, .int start_a_scanner_h0, .int innerWidth_a_top_h0, .int signs_a_top_h0, .int waitingBelow_a_top_h0, .int limited_a_top_h0, .int targets_a_top_h0, .int lastBlock_a_top_h0])), (a_draft_h0, .inr (1, [.ref q111, .int r108])), (a_scanner_h0, .inr (4, [.ref a_text_a_scanner_h0, .int next_a_scanner_h0, .int kind_a_scanner_h0, .int start_a_scanner_h0, .int width_a_scanner_h0])), (q111, .inl (cI, r109, .inl r110))]) (cl' := 0 + C112) (sl' := 0 + S113) rfl rfl rfl rfl rfl rfl ?_
                    refine j_goto (tgt := 293) d_Rd_standsInFunctionHead_284 (by decide) ?_
                    replace h := lf_s h
                    obtain ⟨h, e1, e2⟩ := h
                    replace h := Prod.mk.inj h
                    obtain ⟨h9, h⟩ := h
                    subst h9
                    replace h := Prod.mk.inj h
                    obtain ⟨h9, h⟩ := h
                    subst h9
                    replace h := Prod.mk.inj h
                    obtain ⟨h9, h⟩ := h
                    subst h9
                    replace h := Prod.mk.inj h
                    obtain ⟨h9, h⟩ := h
                    subst h9
                    replace h := Prod.mk.inj h
                    obtain ⟨h9, h⟩ := h
                    subst h9
                    replace h := Prod.mk.inj h
                    obtain ⟨h9, h⟩ := h
                    subst h9
                    replace h := Prod.mk.inj h
                    obtain ⟨h9, h⟩ := h
                    subst h9
                    replace h := Prod.mk.inj h
                    obtain ⟨h9, h⟩ := h
                    subst h9
                    replace h := Prod.mk.inj h
                    obtain ⟨h9, h⟩ := h
                    subst h9
                    replace h := Prod.mk.inj h
                    obtain ⟨h9, h⟩ := h
                    subst h9
                    replace h := Prod.mk.inj h
                    obtain ⟨h9, h⟩ := h
                    subst h9
                    replace h := Prod.mk.inj h
                    obtain ⟨h9, h⟩ := h
                    subst h9
                    subst h
                    refine j_widen (cl' := mc) (sl' := ms) (by omega) (by omega) ?_
                    exact j_zret (w := [(h0, .inr (2, [.ref a_scanner_h0, .ref a_draft_h0, .ref a_waiting_h0, .ref a_functions_h0, .ref a_bottom_h0, .ref a_top_h0, .ref a_text_h0, .int 0, .int levels_h0, .int signs_h0, .int loops_h0, .int token_h0, .int fault_h0])), (a_scanner_h0, .inr (4, [.ref a_text_a_scanner_h0, .int next_a_scanner_h0, .int kind_a_scanner_h0, .int start_a_scanner_h0, .int width_a_scanner_h0])), (a_top_h0, .inr (0, [V_below_a_top_h0, V_above_a_top_h0, .int kind_a_top_h0, .int place_a_top_h0, .int width_a_top_h0, .int second_a_top_h0, .int (parts_a_top_h0 + 1), .int 0, .int start_a_scanner_h0, .int innerWidth_a_top_h0, .int signs_a_top_h0, .int waitingBelow_a_top_h0, .int limited_a_top_h0, .int targets_a_top_h0, .int lastBlock_a_top_h0])), (a_functions_h0, .inr (5, [.ref a_cells_a_functions_h0, .int count_a_functions_h0])), (a_draft_h0, .inr (1, [.ref q111, .int r108])), (a_text_h0, .inr (3, [.ref a_bytes_a_text_h0, .int size_a_text_h0])), (a_bytes_a_text_h0, .inl (cB, n_a_bytes_a_text_h0, .inl b_a_bytes_a_text_h0)), (a_cells_a_functions_h0, .inl (cI, n_a_cells_a_functions_h0, .inl b_a_cells_a_functions_h0)), (q111, .inl (cI, r109, .inl r110))]) hr (zb_n zb1) d_Rd_standsInFunctionHead_293 [4, 7, 5, 0, 6, 2, 3, 1, 8] rfl (by decide) ⟨a_cells_a_functions_h0, q111, rfl, zb1, rfl⟩
                · replace h := it_f c93 h
                  by_cases c117 : mode_h0 = 18
                  · replace h := it_t c117 h
                    refine j_tabIn (tgt := 294) (off := 290) d_Rd_standsInFunctionHead_4 18 c117 (by decide) (by decide) (by decide) (by decide) ?_
                    refine j_aload_n d_Rd_standsInFunctionHead_294 rfl 0 rfl ?_
                    refine j_bipush (v := 19) d_Rd_standsInFunctionHead_295 (by decide) ?_
                    replace h := bw_s h
                    obtain ⟨⟨r118, r119, r120, r121, r122, r123⟩, C126, S127, C128, S129, k130, h, e1, e2⟩ := h
                    replace hC : 0 + C126 + C128 ≤ mc := by omega
                    replace hS : 0 + S127 + S129 ≤ ms := by omega
                    clear e1 e2
                    refine j_callV (n := 1) (As := [.int 19]) (rest := []) (wr := [(a_functions_h0, .inr (5, [.ref a_cells_a_functions_h0, .int count_a_functions_h0])), (a_cells_a_functions_h0, .inl (cI, n_a_cells_a_functions_h0, .inl b_a_cells_a_functions_h0))]) (c_Rd_addDifferentName l D cI cB cJ cS h0 a_scanner_h0 a_draft_h0 a_waiting_h0 a_functions_h0 a_bottom_h0 a_top_h0 a_text_h0 V_below_a_top_h0 V_above_a_top_h0 a_text_a_scanner_h0 a_cells_a_draft_h0 a_bytes_a_text_h0 19 mode_h0 levels_h0 signs_h0 loops_h0 token_h0 fault_h0 kind_a_top_h0 place_a_top_h0 width_a_top_h0 second_a_top_h0 parts_a_top_h0 innerParts_a_top_h0 innerPlace_a_top_h0 innerWidth_a_top_h0 signs_a_top_h0 waitingBelow_a_top_h0 limited_a_top_h0 targets_a_top_h0 lastBlock_a_top_h0 next_a_scanner_h0 kind_a_scanner_h0 start_a_scanner_h0 width_a_scanner_h0 count_a_draft_h0 n_a_cells_a_draft_h0 b_a_cells_a_draft_h0 size_a_text_h0 n_a_bytes_a_text_h0 b_a_bytes_a_text_h0  r118 r119 r120 r121 r122 r123 C126 S127 k130) k_Rd_244 (by decide) ⟨Nat.le_of_ble_eq_true rfl, Nat.le_of_ble_eq_true rfl⟩ rfl 0 rfl [0, 2, 1, 5, 6, 7, 8] [3, 4] rfl (by decide) rfl (by decide) (by decide) rfl rfl (Nat.le_of_ble_eq_true rfl) d_Rd_standsInFunctionHead_297 ⟨show 0 + C126 ≤ mc by omega, show 0 + S127 ≤ ms by omega⟩ (fun v w hq => ?_)
                    obtain ⟨q124, rfl, z125, rfl⟩ := hq
                    refine j_norm (pc' := 300) (st' := [.int r118]) (ws' := [(a_functions_h0, .inr (5, [.ref a_cells_a_functions_h0, .int count_a_functions_h0])), (a_cells_a_functions_h0, .inl (cI, n_a_cells_a_functions_h0, .inl b_a_cells_a_functions_h0)), (h0, .inr (2, [.ref a_scanner_h0, .ref a_draft_h0, .ref a_waiting_h0, .ref a_functions_h0, .ref a_bottom_h0, .ref a_top_h0, .ref a_text_h0, .int r119, .int levels_h0, .int signs_h0, .int loops_h0, .int token_h0, .int fault_h0])), (a_top_h0, .inr (0, [V_below_a_top_h0, V_above_a_top_h0, .int kind_a_top_h0, .int place_a_top_h0, .int width_a_top_h0, .int second_a_top_h0, .int parts_a_top_h0, .int r120, .int innerPlace_a_top_h0, .int innerWidth_a_top_h0, .int signs_a_top_h0, .int waitingBelow_a_top_h0, .int limited_a_top_h0, .int targets_a_top_h0, .int lastBlock_a_top_h0])), (a_scanner_h0, .inr (4, [.ref a_text_a_scanner_h0, .int next_a_scanner_h0, .int kind_a_scanner_h0, .int start_a_scanner_h0, .int width_a_scanner_h0])), (a_draft_h0, .inr (1, [.ref q124, .int r121])), (a_text_h0, .inr (3, [.ref a_bytes_a_text_h0, .int size_a_text_h0])), (a_bytes_a_text_h0, .inl (cB, n_a_bytes_a_text_h0, .inl b_a_bytes_a_text_h0)), (q124, .inl (cI, r122, .inl r123))]) (cl' := 0 + C126) (sl' := 0 + S127) rfl rfl rfl rfl rfl rfl ?_
                    replace h := lf_s h
                    obtain ⟨h, e1, e2⟩ := h
                    replace h := Prod.mk.inj h
                    obtain ⟨h9, h⟩ := h
                    subst h9
                    replace h := Prod.mk.inj h
                    obtain ⟨h9, h⟩ := h
                    subst h9
                    replace h := Prod.mk.inj h
                    obtain ⟨h9, h⟩ := h
                    subst h9
                    replace h := Prod.mk.inj h
                    obtain ⟨h9, h⟩ := h
                    subst h9
                    replace h := Prod.mk.inj h
                    obtain ⟨h9, h⟩ := h
                    subst h9
                    replace h := Prod.mk.inj h
                    obtain ⟨h9, h⟩ := h
                    subst h9
                    replace h := Prod.mk.inj h
                    obtain ⟨h9, h⟩ := h
                    subst h9
                    replace h := Prod.mk.inj h
                    obtain ⟨h9, h⟩ := h
                    subst h9
                    replace h := Prod.mk.inj h
                    obtain ⟨h9, h⟩ := h
                    subst h9
                    replace h := Prod.mk.inj h
                    obtain ⟨h9, h⟩ := h
                    subst h9
                    replace h := Prod.mk.inj h
                    obtain ⟨h9, h⟩ := h
                    subst h9
                    replace h := Prod.mk.inj h
                    obtain ⟨h9, h⟩ := h
                    subst h9
                    subst h
                    refine j_widen (cl' := mc) (sl' := ms) (by omega) (by omega) ?_
                    exact j_zret (w := [(h0, .inr (2, [.ref a_scanner_h0, .ref a_draft_h0, .ref a_waiting_h0, .ref a_functions_h0, .ref a_bottom_h0, .ref a_top_h0, .ref a_text_h0, .int r119, .int levels_h0, .int signs_h0, .int loops_h0, .int token_h0, .int fault_h0])), (a_scanner_h0, .inr (4, [.ref a_text_a_scanner_h0, .int next_a_scanner_h0, .int kind_a_scanner_h0, .int start_a_scanner_h0, .int width_a_scanner_h0])), (a_top_h0, .inr (0, [V_below_a_top_h0, V_above_a_top_h0, .int kind_a_top_h0, .int place_a_top_h0, .int width_a_top_h0, .int second_a_top_h0, .int parts_a_top_h0, .int r120, .int innerPlace_a_top_h0, .int innerWidth_a_top_h0, .int signs_a_top_h0, .int waitingBelow_a_top_h0, .int limited_a_top_h0, .int targets_a_top_h0, .int lastBlock_a_top_h0])), (a_functions_h0, .inr (5, [.ref a_cells_a_functions_h0, .int count_a_functions_h0])), (a_draft_h0, .inr (1, [.ref q124, .int r121])), (a_text_h0, .inr (3, [.ref a_bytes_a_text_h0, .int size_a_text_h0])), (a_bytes_a_text_h0, .inl (cB, n_a_bytes_a_text_h0, .inl b_a_bytes_a_text_h0)), (a_cells_a_functions_h0, .inl (cI, n_a_cells_a_functions_h0, .inl b_a_cells_a_functions_h0)), (q124, .inl (cI, r122, .inl r123))]) hr (zb_n z125) d_Rd_standsInFunctionHead_300 [2, 4, 3, 0, 5, 6, 7, 1, 8] rfl (by decide) ⟨a_cells_a_functions_h0, q124, rfl, z125, rfl⟩
                  · replace h := it_f c117 h
                    by_cases c131 : mode_h0 = 19
                    · replace h := it_t c131 h
                      refine j_tabIn (tgt := 301) (off := 297) d_Rd_standsInFunctionHead_4 19 c131 (by decide) (by decide) (by decide) (by decide) ?_
                      refine j_aload_n d_Rd_standsInFunctionHead_301 rfl 0 rfl ?_
                      refine j_get ig_Rd rfl 0 rfl 11 (by decide) rfl m_180 rfl d_Rd_standsInFunctionHead_302 ?_
                      refine j_bipush (v := 41) d_Rd_standsInFunctionHead_305 (by decide) ?_
                      refine j_icmp_ne (tgt := 317) d_Rd_standsInFunctionHead_307 (by decide) (fun c132 => ?_) (fun c132 => ?_)
                      · replace h := it_f c132 h
                        refine j_aload_n d_Rd_standsInFunctionHead_317 rfl 0 rfl ?_
                        refine j_get ig_Rd rfl 0 rfl 11 (by decide) rfl m_180 rfl d_Rd_standsInFunctionHead_318 ?_
                        refine j_bipush (v := 44) d_Rd_standsInFunctionHead_321 (by decide) ?_
                        refine j_icmp_ne (tgt := 346) d_Rd_standsInFunctionHead_323 (by decide) (fun c133 => ?_) (fun c133 => ?_)
                        · replace h := it_f c133 h
                          refine j_iconst (v := 0) d_Rd_standsInFunctionHead_346 (by decide) ?_
                          replace h := lf_s h
                          obtain ⟨h, e1, e2⟩ := h
                          replace h := Prod.mk.inj h
                          obtain ⟨h9, h⟩ := h
                          subst h9
                          replace h := Prod.mk.inj h
                          obtain ⟨h9, h⟩ := h
                          subst h9
                          replace h := Prod.mk.inj h
                          obtain ⟨h9, h⟩ := h
                          subst h9
                          replace h := Prod.mk.inj h
                          obtain ⟨h9, h⟩ := h
                          subst h9
                          replace h := Prod.mk.inj h
                          obtain ⟨h9, h⟩ := h
                          subst h9
                          replace h := Prod.mk.inj h
                          obtain ⟨h9, h⟩ := h
                          subst h9
                          replace h := Prod.mk.inj h
                          obtain ⟨h9, h⟩ := h
                          subst h9
                          replace h := Prod.mk.inj h
                          obtain ⟨h9, h⟩ := h
                          subst h9
                          replace h := Prod.mk.inj h
                          obtain ⟨h9, h⟩ := h
                          subst h9
                          replace h := Prod.mk.inj h
                          obtain ⟨h9, h⟩ := h
                          subst h9
                          replace h := Prod.mk.inj h
                          obtain ⟨h9, h⟩ := h
                          subst h9
                          replace h := Prod.mk.inj h
                          obtain ⟨h9, h⟩ := h
                          subst h9
                          subst h
                          refine j_widen (cl' := mc) (sl' := ms) (by omega) (by omega) ?_
                          exact j_zret (w := [(h0, .inr (2, [.ref a_scanner_h0, .ref a_draft_h0, .ref a_waiting_h0, .ref a_functions_h0, .ref a_bottom_h0, .ref a_top_h0, .ref a_text_h0, .int mode_h0, .int levels_h0, .int signs_h0, .int loops_h0, .int token_h0, .int fault_h0])), (a_scanner_h0, .inr (4, [.ref a_text_a_scanner_h0, .int next_a_scanner_h0, .int kind_a_scanner_h0, .int start_a_scanner_h0, .int width_a_scanner_h0])), (a_top_h0, .inr (0, [V_below_a_top_h0, V_above_a_top_h0, .int kind_a_top_h0, .int place_a_top_h0, .int width_a_top_h0, .int second_a_top_h0, .int parts_a_top_h0, .int innerParts_a_top_h0, .int innerPlace_a_top_h0, .int innerWidth_a_top_h0, .int signs_a_top_h0, .int waitingBelow_a_top_h0, .int limited_a_top_h0, .int targets_a_top_h0, .int lastBlock_a_top_h0])), (a_functions_h0, .inr (5, [.ref a_cells_a_functions_h0, .int count_a_functions_h0])), (a_draft_h0, .inr (1, [.ref a_cells_a_draft_h0, .int count_a_draft_h0])), (a_text_h0, .inr (3, [.ref a_bytes_a_text_h0, .int size_a_text_h0])), (a_bytes_a_text_h0, .inl (cB, n_a_bytes_a_text_h0, .inl b_a_bytes_a_text_h0)), (a_cells_a_functions_h0, .inl (cI, n_a_cells_a_functions_h0, .inl b_a_cells_a_functions_h0)), (a_cells_a_draft_h0, .inl (cI, n_a_cells_a_draft_h0, .inl b_a_cells_a_draft_h0))]) hr (zb_n zb0) d_Rd_standsInFunctionHead_347 [0, 1, 2, 3, 5, 7, 8, 4, 6] rfl (by decide) ⟨a_cells_a_functions_h0, a_cells_a_draft_h0, rfl, zb0, rfl⟩
                        · replace h := it_t c133 h
                          refine j_aload_n d_Rd_standsInFunctionHead_326 rfl 0 rfl ?_
                          obtain ⟨r134, k136⟩ : ∃ z, (F_Rd_hasRoomForName mode_h0 levels_h0 signs_h0 loops_h0 token_h0 fault_h0 kind_a_top_h0 place_a_top_h0 width_a_top_h0 second_a_top_h0 parts_a_top_h0 innerParts_a_top_h0 innerPlace_a_top_h0 innerWidth_a_top_h0 signs_a_top_h0 waitingBelow_a_top_h0 limited_a_top_h0 targets_a_top_h0 lastBlock_a_top_h0) = z := ⟨_, rfl⟩
                          replace h := nm_at k136 h
                          refine j_callV (n := 0) (As := []) (rest := []) (wr := [(a_scanner_h0, .inr (4, [.ref a_text_a_scanner_h0, .int next_a_scanner_h0, .int kind_a_scanner_h0, .int start_a_scanner_h0, .int width_a_scanner_h0])), (a_functions_h0, .inr (5, [.ref a_cells_a_functions_h0, .int count_a_functions_h0])), (a_cells_a_functions_h0, .inl (cI, n_a_cells_a_functions_h0, .inl b_a_cells_a_functions_h0)), (a_draft_h0, .inr (1, [.ref a_cells_a_draft_h0, .int count_a_draft_h0])), (a_cells_a_draft_h0, .inl (cI, n_a_cells_a_draft_h0, .inl b_a_cells_a_draft_h0)), (a_text_h0, .inr (3, [.ref a_bytes_a_text_h0, .int size_a_text_h0])), (a_bytes_a_text_h0, .inl (cB, n_a_bytes_a_text_h0, .inl b_a_bytes_a_text_h0))]) (c_Rd_hasRoomForName l D cI cB cJ cS h0 a_scanner_h0 a_draft_h0 a_waiting_h0 a_functions_h0 a_bottom_h0 a_top_h0 a_text_h0 V_below_a_top_h0 V_above_a_top_h0 mode_h0 levels_h0 signs_h0 loops_h0 token_h0 fault_h0 kind_a_top_h0 place_a_top_h0 width_a_top_h0 second_a_top_h0 parts_a_top_h0 innerParts_a_top_h0 innerPlace_a_top_h0 innerWidth_a_top_h0 signs_a_top_h0 waitingBelow_a_top_h0 limited_a_top_h0 targets_a_top_h0 lastBlock_a_top_h0  r134 k136) k_Rd_247 (by decide) ⟨Nat.le_of_ble_eq_true rfl, Nat.le_of_ble_eq_true rfl⟩ rfl 0 rfl [0, 2] [1, 3, 4, 5, 6, 7, 8] rfl (by decide) rfl (by decide) (by decide) rfl rfl (Nat.le_of_ble_eq_true rfl) d_Rd_standsInFunctionHead_327 ⟨show 0 + 0 ≤ mc by omega, show 0 + 0 ≤ ms by omega⟩ (fun v w hq => ?_)
                          obtain ⟨rfl, z135, rfl⟩ := hq
                          refine j_norm (pc' := 330) (st' := [.int r134]) (ws' := [(a_scanner_h0, .inr (4, [.ref a_text_a_scanner_h0, .int next_a_scanner_h0, .int kind_a_scanner_h0, .int start_a_scanner_h0, .int width_a_scanner_h0])), (a_functions_h0, .inr (5, [.ref a_cells_a_functions_h0, .int count_a_functions_h0])), (a_cells_a_functions_h0, .inl (cI, n_a_cells_a_functions_h0, .inl b_a_cells_a_functions_h0)), (a_draft_h0, .inr (1, [.ref a_cells_a_draft_h0, .int count_a_draft_h0])), (a_cells_a_draft_h0, .inl (cI, n_a_cells_a_draft_h0, .inl b_a_cells_a_draft_h0)), (a_text_h0, .inr (3, [.ref a_bytes_a_text_h0, .int size_a_text_h0])), (a_bytes_a_text_h0, .inl (cB, n_a_bytes_a_text_h0, .inl b_a_bytes_a_text_h0)), (h0, .inr (2, [.ref a_scanner_h0, .ref a_draft_h0, .ref a_waiting_h0, .ref a_functions_h0, .ref a_bottom_h0, .ref a_top_h0, .ref a_text_h0, .int mode_h0, .int levels_h0, .int signs_h0, .int loops_h0, .int token_h0, .int fault_h0])), (a_top_h0, .inr (0, [V_below_a_top_h0, V_above_a_top_h0, .int kind_a_top_h0, .int place_a_top_h0, .int width_a_top_h0, .int second_a_top_h0, .int parts_a_top_h0, .int innerParts_a_top_h0, .int innerPlace_a_top_h0, .int innerWidth_a_top_h0, .int signs_a_top_h0, .int waitingBelow_a_top_h0, .int limited_a_top_h0, .int targets_a_top_h0, .int lastBlock_a_top_h0]))]) (cl' := 0) (sl' := 0) rfl rfl rfl rfl rfl rfl ?_
                          refine j_if_eq (tgt := 346) d_Rd_standsInFunctionHead_330 (by decide) (fun c137 => ?_) (fun c137 => ?_)
                          · replace h := it_t c137 h
                            refine j_iconst (v := 0) d_Rd_standsInFunctionHead_346 (by decide) ?_
                            replace h := lf_s h
                            obtain ⟨h, e1, e2⟩ := h
                            replace h := Prod.mk.inj h
                            obtain ⟨h9, h⟩ := h
                            subst h9
                            replace h := Prod.mk.inj h
                            obtain ⟨h9, h⟩ := h
                            subst h9
                            replace h := Prod.mk.inj h
                            obtain ⟨h9, h⟩ := h
                            subst h9
                            replace h := Prod.mk.inj h
                            obtain ⟨h9, h⟩ := h
                            subst h9
                            replace h := Prod.mk.inj h
                            obtain ⟨h9, h⟩ := h
                            subst h9
                            replace h := Prod.mk.inj h
                            obtain ⟨h9, h⟩ := h
                            subst h9
                            replace h := Prod.mk.inj h
                            obtain ⟨h9, h⟩ := h
                            subst h9
                            replace h := Prod.mk.inj h
                            obtain ⟨h9, h⟩ := h
                            subst h9
                            replace h := Prod.mk.inj h
                            obtain ⟨h9, h⟩ := h
                            subst h9
                            replace h := Prod.mk.inj h
                            obtain ⟨h9, h⟩ := h
                            subst h9
                            replace h := Prod.mk.inj h
                            obtain ⟨h9, h⟩ := h
                            subst h9
                            replace h := Prod.mk.inj h
                            obtain ⟨h9, h⟩ := h
                            subst h9
                            subst h
                            refine j_widen (cl' := mc) (sl' := ms) (by omega) (by omega) ?_
                            exact j_zret (w := [(h0, .inr (2, [.ref a_scanner_h0, .ref a_draft_h0, .ref a_waiting_h0, .ref a_functions_h0, .ref a_bottom_h0, .ref a_top_h0, .ref a_text_h0, .int mode_h0, .int levels_h0, .int signs_h0, .int loops_h0, .int token_h0, .int fault_h0])), (a_scanner_h0, .inr (4, [.ref a_text_a_scanner_h0, .int next_a_scanner_h0, .int kind_a_scanner_h0, .int start_a_scanner_h0, .int width_a_scanner_h0])), (a_top_h0, .inr (0, [V_below_a_top_h0, V_above_a_top_h0, .int kind_a_top_h0, .int place_a_top_h0, .int width_a_top_h0, .int second_a_top_h0, .int parts_a_top_h0, .int innerParts_a_top_h0, .int innerPlace_a_top_h0, .int innerWidth_a_top_h0, .int signs_a_top_h0, .int waitingBelow_a_top_h0, .int limited_a_top_h0, .int targets_a_top_h0, .int lastBlock_a_top_h0])), (a_functions_h0, .inr (5, [.ref a_cells_a_functions_h0, .int count_a_functions_h0])), (a_draft_h0, .inr (1, [.ref a_cells_a_draft_h0, .int count_a_draft_h0])), (a_text_h0, .inr (3, [.ref a_bytes_a_text_h0, .int size_a_text_h0])), (a_bytes_a_text_h0, .inl (cB, n_a_bytes_a_text_h0, .inl b_a_bytes_a_text_h0)), (a_cells_a_functions_h0, .inl (cI, n_a_cells_a_functions_h0, .inl b_a_cells_a_functions_h0)), (a_cells_a_draft_h0, .inl (cI, n_a_cells_a_draft_h0, .inl b_a_cells_a_draft_h0))]) hr (zb_n zb0) d_Rd_standsInFunctionHead_347 [7, 0, 8, 1, 3, 5, 6, 2, 4] rfl (by decide) ⟨a_cells_a_functions_h0, a_cells_a_draft_h0, rfl, zb0, rfl⟩
                          · replace h := it_f c137 h
                            refine j_aload_n d_Rd_standsInFunctionHead_333 rfl 0 rfl ?_
                            refine j_bipush (v := 18) d_Rd_standsInFunctionHead_334 (by decide) ?_
                            refine j_callV (n := 1) (As := [.int 18]) (rest := []) (wr := [(a_scanner_h0, .inr (4, [.ref a_text_a_scanner_h0, .int next_a_scanner_h0, .int kind_a_scanner_h0, .int start_a_scanner_h0, .int width_a_scanner_h0])), (a_functions_h0, .inr (5, [.ref a_cells_a_functions_h0, .int count_a_functions_h0])), (a_cells_a_functions_h0, .inl (cI, n_a_cells_a_functions_h0, .inl b_a_cells_a_functions_h0)), (a_draft_h0, .inr (1, [.ref a_cells_a_draft_h0, .int count_a_draft_h0])), (a_cells_a_draft_h0, .inl (cI, n_a_cells_a_draft_h0, .inl b_a_cells_a_draft_h0)), (a_text_h0, .inr (3, [.ref a_bytes_a_text_h0, .int size_a_text_h0])), (a_bytes_a_text_h0, .inl (cB, n_a_bytes_a_text_h0, .inl b_a_bytes_a_text_h0)), (a_top_h0, .inr (0, [V_below_a_top_h0, V_above_a_top_h0, .int kind_a_top_h0, .int place_a_top_h0, .int width_a_top_h0, .int second_a_top_h0, .int parts_a_top_h0, .int innerParts_a_top_h0, .int innerPlace_a_top_h0, .int innerWidth_a_top_h0, .int signs_a_top_h0, .int waitingBelow_a_top_h0, .int limited_a_top_h0, .int targets_a_top_h0, .int lastBlock_a_top_h0]))]) (c_Rd_goOn l D cI cB cJ cS h0 a_scanner_h0 a_draft_h0 a_waiting_h0 a_functions_h0 a_bottom_h0 a_top_h0 a_text_h0 18 mode_h0 levels_h0 signs_h0 loops_h0 token_h0 fault_h0  ) k_Rd_130 (by decide) ⟨Nat.le_of_ble_eq_true rfl, Nat.le_of_ble_eq_true rfl⟩ rfl 0 rfl [7] [0, 1, 2, 3, 4, 5, 6, 8] rfl (by decide) rfl (by decide) (by decide) rfl rfl (Nat.le_of_ble_eq_true rfl) d_Rd_standsInFunctionHead_336 ⟨show 0 + 0 ≤ mc by omega, show 0 + 0 ≤ ms by omega⟩ (fun v w hq => ?_)
                            obtain ⟨rfl, _, rfl⟩ := hq
                            refine j_norm (pc' := 339) (st' := [.int 1]) (ws' := [(a_scanner_h0, .inr (4, [.ref a_text_a_scanner_h0, .int next_a_scanner_h0, .int kind_a_scanner_h0, .int start_a_scanner_h0, .int width_a_scanner_h0])), (a_functions_h0, .inr (5, [.ref a_cells_a_functions_h0, .int count_a_functions_h0])), (a_cells_a_functions_h0, .inl (cI, n_a_cells_a_functions_h0, .inl b_a_cells_a_functions_h0)), (a_draft_h0, .inr (1, [.ref a_cells_a_draft_h0, .int count_a_draft_h0])), (a_cells_a_draft_h0, .inl (cI, n_a_cells_a_draft_h0, .inl b_a_cells_a_draft_h0)), (a_text_h0, .inr (3, [.ref a_bytes_a_text_h0, .int size_a_text_h0])), (a_bytes_a_text_h0, .inl (cB, n_a_bytes_a_text_h0, .inl b_a_bytes_a_text_h0)), (a_top_h0, .inr (0, [V_below_a_top_h0, V_above_a_top_h0, .int kind_a_top_h0, .int place_a_top_h0, .int width_a_top_h0, .int second_a_top_h0, .int parts_a_top_h0, .int innerParts_a_top_h0, .int innerPlace_a_top_h0, .int innerWidth_a_top_h0, .int signs_a_top_h0, .int waitingBelow_a_top_h0, .int limited_a_top_h0, .int targets_a_top_h0, .int lastBlock_a_top_h0])), (h0, .inr (2, [.ref a_scanner_h0, .ref a_draft_h0, .ref a_waiting_h0, .ref a_functions_h0, .ref a_bottom_h0, .ref a_top_h0, .ref a_text_h0, .int 18, .int levels_h0, .int signs_h0, .int loops_h0, .int token_h0, .int fault_h0]))]) (cl' := 0) (sl' := 0) rfl rfl rfl rfl rfl rfl ?_
                            refine j_if_eq (tgt := 346) d_Rd_standsInFunctionHead_339 (by decide) (fun c139 => absurd c139 (by decide)) (fun c139 => ?_)
                            refine j_iconst (v := 1) d_Rd_standsInFunctionHead_342 (by decide) ?_
                            refine j_goto (tgt := 347) d_Rd_standsInFunctionHead_343 (by decide) ?_
                            replace h := lf_s h
                            obtain ⟨h, e1, e2⟩ := h
                            replace h := Prod.mk.inj h
                            obtain ⟨h9, h⟩ := h
                            subst h9
                            replace h := Prod.mk.inj h
                            obtain ⟨h9, h⟩ := h
                            subst h9
                            replace h := Prod.mk.inj h
                            obtain ⟨h9, h⟩ := h
                            subst h9
                            replace h := Prod.mk.inj h
                            obtain ⟨h9, h⟩ := h
                            subst h9
                            replace h := Prod.mk.inj h
                            obtain ⟨h9, h⟩ := h
                            subst h9
                            replace h := Prod.mk.inj h
                            obtain ⟨h9, h⟩ := h
                            subst h9
                            replace h := Prod.mk.inj h
                            obtain ⟨h9, h⟩ := h
                            subst h9
                            replace h := Prod.mk.inj h
                            obtain ⟨h9, h⟩ := h
                            subst h9
                            replace h := Prod.mk.inj h
                            obtain ⟨h9, h⟩ := h
                            subst h9
                            replace h := Prod.mk.inj h
                            obtain ⟨h9, h⟩ := h
                            subst h9
                            replace h := Prod.mk.inj h
                            obtain ⟨h9, h⟩ := h
                            subst h9
                            replace h := Prod.mk.inj h
                            obtain ⟨h9, h⟩ := h
                            subst h9
                            subst h
                            refine j_widen (cl' := mc) (sl' := ms) (by omega) (by omega) ?_
                            exact j_zret (w := [(h0, .inr (2, [.ref a_scanner_h0, .ref a_draft_h0, .ref a_waiting_h0, .ref a_functions_h0, .ref a_bottom_h0, .ref a_top_h0, .ref a_text_h0, .int 18, .int levels_h0, .int signs_h0, .int loops_h0, .int token_h0, .int fault_h0])), (a_scanner_h0, .inr (4, [.ref a_text_a_scanner_h0, .int next_a_scanner_h0, .int kind_a_scanner_h0, .int start_a_scanner_h0, .int width_a_scanner_h0])), (a_top_h0, .inr (0, [V_below_a_top_h0, V_above_a_top_h0, .int kind_a_top_h0, .int place_a_top_h0, .int width_a_top_h0, .int second_a_top_h0, .int parts_a_top_h0, .int innerParts_a_top_h0, .int innerPlace_a_top_h0, .int innerWidth_a_top_h0, .int signs_a_top_h0, .int waitingBelow_a_top_h0, .int limited_a_top_h0, .int targets_a_top_h0, .int lastBlock_a_top_h0])), (a_functions_h0, .inr (5, [.ref a_cells_a_functions_h0, .int count_a_functions_h0])), (a_draft_h0, .inr (1, [.ref a_cells_a_draft_h0, .int count_a_draft_h0])), (a_text_h0, .inr (3, [.ref a_bytes_a_text_h0, .int size_a_text_h0])), (a_bytes_a_text_h0, .inl (cB, n_a_bytes_a_text_h0, .inl b_a_bytes_a_text_h0)), (a_cells_a_functions_h0, .inl (cI, n_a_cells_a_functions_h0, .inl b_a_cells_a_functions_h0)), (a_cells_a_draft_h0, .inl (cI, n_a_cells_a_draft_h0, .inl b_a_cells_a_draft_h0))]) hr (zb_n zb1) d_Rd_standsInFunctionHead_347 [8, 0, 7, 1, 3, 5, 6, 2, 4] rfl (by decide) ⟨a_cells_a_functions_h0, a_cells_a_draft_h0, rfl, zb1, rfl⟩
                      · replace h := it_t c132 h
                        refine j_aload_n d_Rd_standsInFunctionHead_310 rfl 0 rfl ?_
                        replace h := bw_s h
                        obtain ⟨⟨r140, r141, r142⟩, C144, S145, C146, S147, k148, h, e1, e2⟩ := h
                        replace hC : 0 + C144 + C146 ≤ mc := by omega
                        replace hS : 0 + S145 + S147 ≤ ms := by omega
                        clear e1 e2
                        refine j_callV (n := 0) (As := []) (rest := []) (wr := [(a_functions_h0, .inr (5, [.ref a_cells_a_functions_h0, .int count_a_functions_h0])), (a_cells_a_functions_h0, .inl (cI, n_a_cells_a_functions_h0, .inl b_a_cells_a_functions_h0)), (a_text_h0, .inr (3, [.ref a_bytes_a_text_h0, .int size_a_text_h0])), (a_bytes_a_text_h0, .inl (cB, n_a_bytes_a_text_h0, .inl b_a_bytes_a_text_h0))]) (c_Rd_endParameters l D cI cB cJ cS h0 a_scanner_h0 a_draft_h0 a_waiting_h0 a_functions_h0 a_bottom_h0 a_top_h0 a_text_h0 V_below_a_top_h0 V_above_a_top_h0 a_cells_a_draft_h0 a_text_a_scanner_h0 mode_h0 levels_h0 signs_h0 loops_h0 token_h0 fault_h0 kind_a_top_h0 place_a_top_h0 width_a_top_h0 second_a_top_h0 parts_a_top_h0 innerParts_a_top_h0 innerPlace_a_top_h0 innerWidth_a_top_h0 signs_a_top_h0 waitingBelow_a_top_h0 limited_a_top_h0 targets_a_top_h0 lastBlock_a_top_h0 count_a_draft_h0 n_a_cells_a_draft_h0 b_a_cells_a_draft_h0 next_a_scanner_h0 kind_a_scanner_h0 start_a_scanner_h0 width_a_scanner_h0  r140 r141 r142 C144 S145 k148) k_Rd_256 (by decide) ⟨Nat.le_of_ble_eq_true rfl, Nat.le_of_ble_eq_true rfl⟩ rfl 0 rfl [0, 2, 5, 6, 1] [3, 4, 7, 8] rfl (by decide) rfl (by decide) (by decide) rfl rfl (Nat.le_of_ble_eq_true rfl) d_Rd_standsInFunctionHead_311 ⟨show 0 + C144 ≤ mc by omega, show 0 + S145 ≤ ms by omega⟩ (fun v w hq => ?_)
                        obtain ⟨q143, rfl, _, rfl⟩ := hq
                        refine j_norm (pc' := 314) (st' := [.int 1]) (ws' := [(a_functions_h0, .inr (5, [.ref a_cells_a_functions_h0, .int count_a_functions_h0])), (a_cells_a_functions_h0, .inl (cI, n_a_cells_a_functions_h0, .inl b_a_cells_a_functions_h0)), (a_text_h0, .inr (3, [.ref a_bytes_a_text_h0, .int size_a_text_h0])), (a_bytes_a_text_h0, .inl (cB, n_a_bytes_a_text_h0, .inl b_a_bytes_a_text_h0)), (h0, .inr (2, [.ref a_scanner_h0, .ref a_draft_h0, .ref a_waiting_h0, .ref a_functions_h0, .ref a_bottom_h0, .ref a_top_h0, .ref a_text_h0, .int 0, .int levels_h0, .int signs_h0, .int loops_h0, .int token_h0, .int fault_h0])), (a_top_h0, .inr (0, [V_below_a_top_h0, V_above_a_top_h0, .int kind_a_top_h0, .int place_a_top_h0, .int width_a_top_h0, .int second_a_top_h0, .int (parts_a_top_h0 + 1), .int 0, .int start_a_scanner_h0, .int innerWidth_a_top_h0, .int signs_a_top_h0, .int waitingBelow_a_top_h0, .int limited_a_top_h0, .int targets_a_top_h0, .int lastBlock_a_top_h0])), (a_draft_h0, .inr (1, [.ref q143, .int r140])), (a_scanner_h0, .inr (4, [.ref a_text_a_scanner_h0, .int next_a_scanner_h0, .int kind_a_scanner_h0, .int start_a_scanner_h0, .int width_a_scanner_h0])), (q143, .inl (cI, r141, .inl r142))]) (cl' := 0 + C144) (sl' := 0 + S145) rfl rfl rfl rfl rfl rfl ?_
                        refine j_goto (tgt := 347) d_Rd_standsInFunctionHead_314 (by decide) ?_
                        replace h := lf_s h
                        obtain ⟨h, e1, e2⟩ := h
                        replace h := Prod.mk.inj h
                        obtain ⟨h9, h⟩ := h
                        subst h9
                        replace h := Prod.mk.inj h
                        obtain ⟨h9, h⟩ := h
                        subst h9
                        replace h := Prod.mk.inj h
                        obtain ⟨h9, h⟩ := h
                        subst h9
                        replace h := Prod.mk.inj h
                        obtain ⟨h9, h⟩ := h
                        subst h9
                        replace h := Prod.mk.inj h
                        obtain ⟨h9, h⟩ := h
                        subst h9
                        replace h := Prod.mk.inj h
                        obtain ⟨h9, h⟩ := h
                        subst h9
                        replace h := Prod.mk.inj h
                        obtain ⟨h9, h⟩ := h
                        subst h9
                        replace h := Prod.mk.inj h
                        obtain ⟨h9, h⟩ := h
                        subst h9
                        replace h := Prod.mk.inj h
                        obtain ⟨h9, h⟩ := h
                        subst h9
                        replace h := Prod.mk.inj h
                        obtain ⟨h9, h⟩ := h
                        subst h9
                        replace h := Prod.mk.inj h
                        obtain ⟨h9, h⟩ := h
                        subst h9
                        replace h := Prod.mk.inj h
                        obtain ⟨h9, h⟩ := h
                        subst h9
                        subst h
                        refine j_widen (cl' := mc) (sl' := ms) (by omega) (by omega) ?_
                        exact j_zret (w := [(h0, .inr (2, [.ref a_scanner_h0, .ref a_draft_h0, .ref a_waiting_h0, .ref a_functions_h0, .ref a_bottom_h0, .ref a_top_h0, .ref a_text_h0, .int 0, .int levels_h0, .int signs_h0, .int loops_h0, .int token_h0, .int fault_h0])), (a_scanner_h0, .inr (4, [.ref a_text_a_scanner_h0, .int next_a_scanner_h0, .int kind_a_scanner_h0, .int start_a_scanner_h0, .int width_a_scanner_h0])), (a_top_h0, .inr (0, [V_below_a_top_h0, V_above_a_top_h0, .int kind_a_top_h0, .int place_a_top_h0, .int width_a_top_h0, .int second_a_top_h0, .int (parts_a_top_h0 + 1), .int 0, .int start_a_scanner_h0, .int innerWidth_a_top_h0, .int signs_a_top_h0, .int waitingBelow_a_top_h0, .int limited_a_top_h0, .int targets_a_top_h0, .int lastBlock_a_top_h0])), (a_functions_h0, .inr (5, [.ref a_cells_a_functions_h0, .int count_a_functions_h0])), (a_draft_h0, .inr (1, [.ref q143, .int r140])), (a_text_h0, .inr (3, [.ref a_bytes_a_text_h0, .int size_a_text_h0])), (a_bytes_a_text_h0, .inl (cB, n_a_bytes_a_text_h0, .inl b_a_bytes_a_text_h0)), (a_cells_a_functions_h0, .inl (cI, n_a_cells_a_functions_h0, .inl b_a_cells_a_functions_h0)), (q143, .inl (cI, r141, .inl r142))]) hr (zb_n zb1) d_Rd_standsInFunctionHead_347 [4, 7, 5, 0, 6, 2, 3, 1, 8] rfl (by decide) ⟨a_cells_a_functions_h0, q143, rfl, zb1, rfl⟩
                    · replace h := it_f c131 h
                      refine j_tabOut (tgt := 348) d_Rd_standsInFunctionHead_4 (by have := lv_neT c1 (by decide : (10 : Int32).toInt = 10); have := lv_neT c7 (by decide : (11 : Int32).toInt = 11); have := lv_neT c39 (by decide : (12 : Int32).toInt = 12); have := lv_neT c53 (by decide : (13 : Int32).toInt = 13); have := lv_neT c63 (by decide : (14 : Int32).toInt = 14); have := lv_neT c67 (by decide : (15 : Int32).toInt = 15); have := lv_neT c89 (by decide : (16 : Int32).toInt = 16); have := lv_neT c93 (by decide : (17 : Int32).toInt = 17); have := lv_neT c117 (by decide : (18 : Int32).toInt = 18); have := lv_neT c131 (by decide : (19 : Int32).toInt = 19); omega) (by decide) ?_
                      refine j_iconst (v := 0) d_Rd_standsInFunctionHead_348 (by decide) ?_
                      replace h := lf_s h
                      obtain ⟨h, e1, e2⟩ := h
                      replace h := Prod.mk.inj h
                      obtain ⟨h9, h⟩ := h
                      subst h9
                      replace h := Prod.mk.inj h
                      obtain ⟨h9, h⟩ := h
                      subst h9
                      replace h := Prod.mk.inj h
                      obtain ⟨h9, h⟩ := h
                      subst h9
                      replace h := Prod.mk.inj h
                      obtain ⟨h9, h⟩ := h
                      subst h9
                      replace h := Prod.mk.inj h
                      obtain ⟨h9, h⟩ := h
                      subst h9
                      replace h := Prod.mk.inj h
                      obtain ⟨h9, h⟩ := h
                      subst h9
                      replace h := Prod.mk.inj h
                      obtain ⟨h9, h⟩ := h
                      subst h9
                      replace h := Prod.mk.inj h
                      obtain ⟨h9, h⟩ := h
                      subst h9
                      replace h := Prod.mk.inj h
                      obtain ⟨h9, h⟩ := h
                      subst h9
                      replace h := Prod.mk.inj h
                      obtain ⟨h9, h⟩ := h
                      subst h9
                      replace h := Prod.mk.inj h
                      obtain ⟨h9, h⟩ := h
                      subst h9
                      replace h := Prod.mk.inj h
                      obtain ⟨h9, h⟩ := h
                      subst h9
                      subst h
                      refine j_widen (cl' := mc) (sl' := ms) (by omega) (by omega) ?_
                      exact j_zret (w := [(h0, .inr (2, [.ref a_scanner_h0, .ref a_draft_h0, .ref a_waiting_h0, .ref a_functions_h0, .ref a_bottom_h0, .ref a_top_h0, .ref a_text_h0, .int mode_h0, .int levels_h0, .int signs_h0, .int loops_h0, .int token_h0, .int fault_h0])), (a_scanner_h0, .inr (4, [.ref a_text_a_scanner_h0, .int next_a_scanner_h0, .int kind_a_scanner_h0, .int start_a_scanner_h0, .int width_a_scanner_h0])), (a_top_h0, .inr (0, [V_below_a_top_h0, V_above_a_top_h0, .int kind_a_top_h0, .int place_a_top_h0, .int width_a_top_h0, .int second_a_top_h0, .int parts_a_top_h0, .int innerParts_a_top_h0, .int innerPlace_a_top_h0, .int innerWidth_a_top_h0, .int signs_a_top_h0, .int waitingBelow_a_top_h0, .int limited_a_top_h0, .int targets_a_top_h0, .int lastBlock_a_top_h0])), (a_functions_h0, .inr (5, [.ref a_cells_a_functions_h0, .int count_a_functions_h0])), (a_draft_h0, .inr (1, [.ref a_cells_a_draft_h0, .int count_a_draft_h0])), (a_text_h0, .inr (3, [.ref a_bytes_a_text_h0, .int size_a_text_h0])), (a_bytes_a_text_h0, .inl (cB, n_a_bytes_a_text_h0, .inl b_a_bytes_a_text_h0)), (a_cells_a_functions_h0, .inl (cI, n_a_cells_a_functions_h0, .inl b_a_cells_a_functions_h0)), (a_cells_a_draft_h0, .inl (cI, n_a_cells_a_draft_h0, .inl b_a_cells_a_draft_h0))]) hr (zb_n zb0) d_Rd_standsInFunctionHead_349 [0, 1, 2, 3, 5, 7, 8, 4, 6] rfl (by decide) ⟨a_cells_a_functions_h0, a_cells_a_draft_h0, rfl, zb0, rfl⟩
