noncomputable def F_Rd_takeOperator_81 (mode_h0 : Int32) (levels_h0 : Int32) (signs_h0 : Int32) (loops_h0 : Int32) (token_h0 : Int32) (fault_h0 : Int32) (kind_t : Int32) (place_t : Int32) (width_t : Int32) (second_t : Int32) (parts_t : Int32) (innerParts_t : Int32) (innerPlace_t : Int32) (innerWidth_t : Int32) (signs_t : Int32) (waitingBelow_t : Int32) (limited_t : Int32) (lastBlock_t : Int32) (next_a_scanner_h0 : Int32) (kind_a_scanner_h0 : Int32) (start_a_scanner_h0 : Int32) (width_a_scanner_h0 : Int32) (count_a_draft_h0 : Int32) (n_a_cells_a_draft_h0 : Nat) (b_a_cells_a_draft_h0 : Nat → Int32) (count_a_waiting_h0 : Int32) (n_a_cells_a_waiting_h0 : Nat) (b_a_cells_a_waiting_h0 : Nat → Int32) (v1_81 : Int32) (t0_81 : Int32) (n9_81 : Nat) (d9_81 : Nat) (c9_81 : Nat → FrC) (f1_13_81 : Int32) : Option ((Nat × Nat × (Nat → FrC) × Int32 × Int32 × Int32 × Int32 × Int32 × Int32 × Int32 × Int32 × Int32 × Int32 × Int32 × Int32 × Int32 × Int32 × Int32 × Int32 × Int32 × Int32 × Int32 × Nat × (Nat → Int32) × Nat × (Nat → Int32)) × Nat × Nat) :=
    bw (F_Rd_endWaiting t0_81 mode_h0 levels_h0 signs_h0 loops_h0 token_h0 fault_h0 count_a_waiting_h0 kind_t place_t width_t second_t parts_t innerParts_t innerPlace_t innerWidth_t signs_t waitingBelow_t limited_t f1_13_81 lastBlock_t n_a_cells_a_waiting_h0 b_a_cells_a_waiting_h0 count_a_draft_h0 n_a_cells_a_draft_h0 b_a_cells_a_draft_h0) fun ⟨r1, r2, r3, r4⟩ =>
    if token_h0 = 41 then (bw (F_Rd_closeBracket n9_81 d9_81 c9_81 mode_h0 levels_h0 signs_h0 loops_h0 token_h0 fault_h0 kind_t place_t width_t second_t parts_t innerParts_t innerPlace_t innerWidth_t signs_t waitingBelow_t limited_t f1_13_81 lastBlock_t r2 r3 r4 next_a_scanner_h0 kind_a_scanner_h0 start_a_scanner_h0 width_a_scanner_h0) fun ⟨r12, r13, r14, r15, r16, r17, r18, r19, r20, r21, r22, r23, r24, r25, r26, r27, r28, r29, r30, r31, r32, r33, r34⟩ =>
      (some ((r12, r13, r14, r15, r16, r17, r18, r19, r20, r21, r22, r23, r24, r25, r26, r27, r28, r29, r30, r31, r32, r1, r33, r34, n_a_cells_a_waiting_h0, b_a_cells_a_waiting_h0), 0, 0)))
    else if token_h0 = 44 then (nm (F_Rd_takeComma mode_h0 levels_h0 signs_h0 loops_h0 token_h0 fault_h0 kind_t place_t width_t second_t parts_t innerParts_t innerPlace_t innerWidth_t signs_t waitingBelow_t limited_t f1_13_81 lastBlock_t) fun ⟨r44, r45, r46, r47, r48⟩ =>
      (some ((n9_81, d9_81, c9_81, r44, r45, levels_h0, signs_h0, kind_t, place_t, width_t, second_t, r46, r47, innerPlace_t, innerWidth_t, signs_t, waitingBelow_t, limited_t, r48, lastBlock_t, r2, r1, r3, r4, n_a_cells_a_waiting_h0, b_a_cells_a_waiting_h0), 0, 0)))
    else if token_h0 = 58 then (bw (F_Rd_takeColon mode_h0 levels_h0 signs_h0 loops_h0 token_h0 fault_h0 r1 kind_t place_t width_t second_t parts_t innerParts_t innerPlace_t innerWidth_t signs_t waitingBelow_t limited_t f1_13_81 lastBlock_t next_a_scanner_h0 kind_a_scanner_h0 start_a_scanner_h0 width_a_scanner_h0 n_a_cells_a_waiting_h0 b_a_cells_a_waiting_h0) fun ⟨r52, r53, r54, r55, r56⟩ =>
      (some ((n9_81, d9_81, c9_81, r52, r53, levels_h0, signs_h0, kind_t, place_t, width_t, second_t, parts_t, innerParts_t, innerPlace_t, innerWidth_t, signs_t, waitingBelow_t, limited_t, f1_13_81, lastBlock_t, r2, r54, r3, r4, r55, r56), 0, 0)))
    else if token_h0 = 59 then (bw (F_Rd_takeSemicolon n9_81 d9_81 c9_81 mode_h0 levels_h0 signs_h0 loops_h0 token_h0 fault_h0 kind_t place_t width_t second_t parts_t innerParts_t innerPlace_t innerWidth_t signs_t waitingBelow_t limited_t f1_13_81 lastBlock_t r2 r3 r4) fun ⟨r65, r66, r67, r68, r69, r70, r71, r72, r73, r74, r75, r76, r77, r78, r79, r80, r81, r82, r83, r84, r85, r86⟩ =>
      (some ((r65, r66, r67, r68, r69, levels_h0, r70, r71, r72, r73, r74, r75, r76, r77, r78, r79, r80, r81, r82, r83, r84, r1, r85, r86, n_a_cells_a_waiting_h0, b_a_cells_a_waiting_h0), 0, 0)))
    else if token_h0 = 61 then (Option.bind (F_Rd_takeEquals mode_h0 levels_h0 signs_h0 loops_h0 token_h0 fault_h0 r2 r3 r4 kind_t place_t width_t second_t parts_t innerParts_t innerPlace_t innerWidth_t signs_t waitingBelow_t limited_t f1_13_81 lastBlock_t next_a_scanner_h0 kind_a_scanner_h0 start_a_scanner_h0 width_a_scanner_h0) fun ⟨r96, r97, r98, r99, r100, r101⟩ =>
      (some ((n9_81, d9_81, c9_81, r96, r97, levels_h0, signs_h0, r98, r99, r100, r101, parts_t, innerParts_t, innerPlace_t, innerWidth_t, signs_t, waitingBelow_t, limited_t, f1_13_81, lastBlock_t, r2, r1, r3, r4, n_a_cells_a_waiting_h0, b_a_cells_a_waiting_h0), 0, 0)))
    else if token_h0 = 93 then (if kind_t = 36 then (bw (F_Rd_endRow mode_h0 levels_h0 signs_h0 loops_h0 token_h0 fault_h0 kind_t place_t width_t second_t parts_t innerParts_t innerPlace_t innerWidth_t signs_t waitingBelow_t limited_t f1_13_81 lastBlock_t r2 r3 r4) fun ⟨r106, r107, r108⟩ =>
        bw (F_Rd_closeRows n9_81 d9_81 c9_81 mode_h0 levels_h0 signs_h0 loops_h0 token_h0 fault_h0 kind_t place_t width_t second_t (parts_t + 1) 0 innerPlace_t innerWidth_t signs_t waitingBelow_t limited_t f1_13_81 lastBlock_t r106 r107 r108) fun ⟨r116, r117, r118, r119, r120, r121, r122, r123, r124, r125, r126, r127, r128, r129, r130, r131, r132, r133, r134, r135⟩ =>
        (some ((r116, r117, r118, 1, r119, ((levels_h0 - 1) - signs_t), 0, r120, r121, r122, r123, r124, r125, r126, r127, r128, r129, r130, r131, r132, r133, r1, r134, r135, n_a_cells_a_waiting_h0, b_a_cells_a_waiting_h0), 0, 0)))
      else (some ((n9_81, d9_81, c9_81, 0, mode_h0, levels_h0, signs_h0, kind_t, place_t, width_t, second_t, parts_t, innerParts_t, innerPlace_t, innerWidth_t, signs_t, waitingBelow_t, limited_t, f1_13_81, lastBlock_t, r2, r1, r3, r4, n_a_cells_a_waiting_h0, b_a_cells_a_waiting_h0), 0, 0)))
    else if v1_81 = 0 then (some ((n9_81, d9_81, c9_81, 0, mode_h0, levels_h0, signs_h0, kind_t, place_t, width_t, second_t, parts_t, innerParts_t, innerPlace_t, innerWidth_t, signs_t, waitingBelow_t, limited_t, f1_13_81, lastBlock_t, r2, r1, r3, r4, n_a_cells_a_waiting_h0, b_a_cells_a_waiting_h0), 0, 0))
    else (bw (F_Rd_takeOperation v1_81 mode_h0 levels_h0 signs_h0 loops_h0 token_h0 fault_h0 next_a_scanner_h0 kind_a_scanner_h0 start_a_scanner_h0 width_a_scanner_h0 r1 n_a_cells_a_waiting_h0 b_a_cells_a_waiting_h0) fun ⟨r145, r146, r147, r148⟩ =>
      (some ((n9_81, d9_81, c9_81, 1, r145, levels_h0, signs_h0, kind_t, place_t, width_t, second_t, parts_t, innerParts_t, innerPlace_t, innerWidth_t, signs_t, waitingBelow_t, limited_t, f1_13_81, lastBlock_t, r2, r146, r3, r4, r147, r148), 0, 0)))
noncomputable def F_Rd_takeOperator_26 (mode_h0 : Int32) (levels_h0 : Int32) (signs_h0 : Int32) (loops_h0 : Int32) (token_h0 : Int32) (fault_h0 : Int32) (kind_t : Int32) (place_t : Int32) (width_t : Int32) (second_t : Int32) (parts_t : Int32) (innerParts_t : Int32) (innerPlace_t : Int32) (innerWidth_t : Int32) (signs_t : Int32) (waitingBelow_t : Int32) (limited_t : Int32) (lastBlock_t : Int32) (next_a_scanner_h0 : Int32) (kind_a_scanner_h0 : Int32) (start_a_scanner_h0 : Int32) (width_a_scanner_h0 : Int32) (count_a_draft_h0 : Int32) (n_a_cells_a_draft_h0 : Nat) (b_a_cells_a_draft_h0 : Nat → Int32) (count_a_waiting_h0 : Int32) (n_a_cells_a_waiting_h0 : Nat) (b_a_cells_a_waiting_h0 : Nat → Int32) (n9_26 : Nat) (d9_26 : Nat) (c9_26 : Nat → FrC) (f1_13_26 : Int32) : Option ((Nat × Nat × (Nat → FrC) × Int32 × Int32 × Int32 × Int32 × Int32 × Int32 × Int32 × Int32 × Int32 × Int32 × Int32 × Int32 × Int32 × Int32 × Int32 × Int32 × Int32 × Int32 × Int32 × Nat × (Nat → Int32) × Nat × (Nat → Int32)) × Nat × Nat) :=
    if token_h0 = 39 then (bw (F_Nd_add 38 start_a_scanner_h0 (-1) 1 width_a_scanner_h0 count_a_draft_h0 n_a_cells_a_draft_h0 b_a_cells_a_draft_h0) fun ⟨r162, r163, r164⟩ =>
      (some ((n9_26, d9_26, c9_26, 1, mode_h0, levels_h0, signs_h0, kind_t, place_t, width_t, second_t, parts_t, innerParts_t, innerPlace_t, innerWidth_t, signs_t, waitingBelow_t, limited_t, f1_13_26, lastBlock_t, r162, count_a_waiting_h0, r163, r164, n_a_cells_a_waiting_h0, b_a_cells_a_waiting_h0), 0, 0)))
    else (nm (F_Rk_of token_h0) fun r157 =>
      if r157 = 4 then (F_Rd_takeOperator_81 mode_h0 levels_h0 signs_h0 loops_h0 token_h0 fault_h0 kind_t place_t width_t second_t parts_t innerParts_t innerPlace_t innerWidth_t signs_t waitingBelow_t limited_t lastBlock_t next_a_scanner_h0 kind_a_scanner_h0 start_a_scanner_h0 width_a_scanner_h0 count_a_draft_h0 n_a_cells_a_draft_h0 b_a_cells_a_draft_h0 count_a_waiting_h0 n_a_cells_a_waiting_h0 b_a_cells_a_waiting_h0   r157 5 n9_26 d9_26 c9_26 f1_13_26)
      else (F_Rd_takeOperator_81 mode_h0 levels_h0 signs_h0 loops_h0 token_h0 fault_h0 kind_t place_t width_t second_t parts_t innerParts_t innerPlace_t innerWidth_t signs_t waitingBelow_t limited_t lastBlock_t next_a_scanner_h0 kind_a_scanner_h0 start_a_scanner_h0 width_a_scanner_h0 count_a_draft_h0 n_a_cells_a_draft_h0 b_a_cells_a_draft_h0 count_a_waiting_h0 n_a_cells_a_waiting_h0 b_a_cells_a_waiting_h0   r157 r157 n9_26 d9_26 c9_26 f1_13_26))
noncomputable def F_Rd_takeOperator (fn : Nat) (fd : Nat) (fcf : Nat → FrC) (mode_h0 : Int32) (levels_h0 : Int32) (signs_h0 : Int32) (loops_h0 : Int32) (token_h0 : Int32) (fault_h0 : Int32) (kind_t : Int32) (place_t : Int32) (width_t : Int32) (second_t : Int32) (parts_t : Int32) (innerParts_t : Int32) (innerPlace_t : Int32) (innerWidth_t : Int32) (signs_t : Int32) (waitingBelow_t : Int32) (limited_t : Int32) (targets_t : Int32) (lastBlock_t : Int32) (next_a_scanner_h0 : Int32) (kind_a_scanner_h0 : Int32) (start_a_scanner_h0 : Int32) (width_a_scanner_h0 : Int32) (count_a_draft_h0 : Int32) (n_a_cells_a_draft_h0 : Nat) (b_a_cells_a_draft_h0 : Nat → Int32) (count_a_waiting_h0 : Int32) (n_a_cells_a_waiting_h0 : Nat) (b_a_cells_a_waiting_h0 : Nat → Int32) : Option ((Nat × Nat × (Nat → FrC) × Int32 × Int32 × Int32 × Int32 × Int32 × Int32 × Int32 × Int32 × Int32 × Int32 × Int32 × Int32 × Int32 × Int32 × Int32 × Int32 × Int32 × Int32 × Int32 × Nat × (Nat → Int32) × Nat × (Nat → Int32)) × Nat × Nat) :=
  if token_h0 = 44 then (F_Rd_takeOperator_26 mode_h0 levels_h0 signs_h0 loops_h0 token_h0 fault_h0 kind_t place_t width_t second_t parts_t innerParts_t innerPlace_t innerWidth_t signs_t waitingBelow_t limited_t lastBlock_t next_a_scanner_h0 kind_a_scanner_h0 start_a_scanner_h0 width_a_scanner_h0 count_a_draft_h0 n_a_cells_a_draft_h0 b_a_cells_a_draft_h0 count_a_waiting_h0 n_a_cells_a_waiting_h0 b_a_cells_a_waiting_h0   fn fd fcf targets_t)
  else if token_h0 = 93 then (F_Rd_takeOperator_26 mode_h0 levels_h0 signs_h0 loops_h0 token_h0 fault_h0 kind_t place_t width_t second_t parts_t innerParts_t innerPlace_t innerWidth_t signs_t waitingBelow_t limited_t lastBlock_t next_a_scanner_h0 kind_a_scanner_h0 start_a_scanner_h0 width_a_scanner_h0 count_a_draft_h0 n_a_cells_a_draft_h0 b_a_cells_a_draft_h0 count_a_waiting_h0 n_a_cells_a_waiting_h0 b_a_cells_a_waiting_h0   fn fd fcf targets_t)
  else (F_Rd_takeOperator_26 mode_h0 levels_h0 signs_h0 loops_h0 token_h0 fault_h0 kind_t place_t width_t second_t parts_t innerParts_t innerPlace_t innerWidth_t signs_t waitingBelow_t limited_t lastBlock_t next_a_scanner_h0 kind_a_scanner_h0 start_a_scanner_h0 width_a_scanner_h0 count_a_draft_h0 n_a_cells_a_draft_h0 b_a_cells_a_draft_h0 count_a_waiting_h0 n_a_cells_a_waiting_h0 b_a_cells_a_waiting_h0   fn fd fcf 0)
theorem d_Rd_takeOperator_0 : decode prog_6_method_58_code 0 = .ok (.aload_n 0, 1) := by decide +kernel
theorem d_Rd_takeOperator_1 : decode prog_6_method_58_code 1 = .ok (.getfield 69, 3) := by decide +kernel
theorem d_Rd_takeOperator_4 : decode prog_6_method_58_code 4 = .ok (.bipush 44, 2) := by decide +kernel
theorem d_Rd_takeOperator_6 : decode prog_6_method_58_code 6 = .ok (.if_icmp .eq 20, 3) := by decide +kernel
theorem d_Rd_takeOperator_9 : decode prog_6_method_58_code 9 = .ok (.aload_n 0, 1) := by decide +kernel
theorem d_Rd_takeOperator_10 : decode prog_6_method_58_code 10 = .ok (.getfield 69, 3) := by decide +kernel
theorem d_Rd_takeOperator_13 : decode prog_6_method_58_code 13 = .ok (.bipush 93, 2) := by decide +kernel
theorem d_Rd_takeOperator_15 : decode prog_6_method_58_code 15 = .ok (.if_icmp .eq 11, 3) := by decide +kernel
theorem d_Rd_takeOperator_18 : decode prog_6_method_58_code 18 = .ok (.aload_n 0, 1) := by decide +kernel
theorem d_Rd_takeOperator_19 : decode prog_6_method_58_code 19 = .ok (.getfield 46, 3) := by decide +kernel
theorem d_Rd_takeOperator_22 : decode prog_6_method_58_code 22 = .ok (.iconst 0, 1) := by decide +kernel
theorem d_Rd_takeOperator_23 : decode prog_6_method_58_code 23 = .ok (.putfield 160, 3) := by decide +kernel
theorem d_Rd_takeOperator_26 : decode prog_6_method_58_code 26 = .ok (.aload_n 0, 1) := by decide +kernel
theorem d_Rd_takeOperator_27 : decode prog_6_method_58_code 27 = .ok (.getfield 69, 3) := by decide +kernel
theorem d_Rd_takeOperator_30 : decode prog_6_method_58_code 30 = .ok (.bipush 39, 2) := by decide +kernel
theorem d_Rd_takeOperator_32 : decode prog_6_method_58_code 32 = .ok (.if_icmp .ne 30, 3) := by decide +kernel
theorem d_Rd_takeOperator_35 : decode prog_6_method_58_code 35 = .ok (.aload_n 0, 1) := by decide +kernel
theorem d_Rd_takeOperator_36 : decode prog_6_method_58_code 36 = .ok (.getfield 23, 3) := by decide +kernel
theorem d_Rd_takeOperator_39 : decode prog_6_method_58_code 39 = .ok (.bipush 38, 2) := by decide +kernel
theorem d_Rd_takeOperator_41 : decode prog_6_method_58_code 41 = .ok (.aload_n 0, 1) := by decide +kernel
theorem d_Rd_takeOperator_42 : decode prog_6_method_58_code 42 = .ok (.getfield 14, 3) := by decide +kernel
theorem d_Rd_takeOperator_45 : decode prog_6_method_58_code 45 = .ok (.invokevirtual 113, 3) := by decide +kernel
theorem d_Rd_takeOperator_48 : decode prog_6_method_58_code 48 = .ok (.iconst (-1), 1) := by decide +kernel
theorem d_Rd_takeOperator_49 : decode prog_6_method_58_code 49 = .ok (.iconst 1, 1) := by decide +kernel
theorem d_Rd_takeOperator_50 : decode prog_6_method_58_code 50 = .ok (.aload_n 0, 1) := by decide +kernel
theorem d_Rd_takeOperator_51 : decode prog_6_method_58_code 51 = .ok (.getfield 14, 3) := by decide +kernel
theorem d_Rd_takeOperator_54 : decode prog_6_method_58_code 54 = .ok (.invokevirtual 124, 3) := by decide +kernel
theorem d_Rd_takeOperator_57 : decode prog_6_method_58_code 57 = .ok (.invokevirtual 93, 3) := by decide +kernel
theorem d_Rd_takeOperator_60 : decode prog_6_method_58_code 60 = .ok (.iconst 1, 1) := by decide +kernel
theorem d_Rd_takeOperator_61 : decode prog_6_method_58_code 61 = .ok (.ireturn, 1) := by decide +kernel
theorem d_Rd_takeOperator_62 : decode prog_6_method_58_code 62 = .ok (.aload_n 0, 1) := by decide +kernel
theorem d_Rd_takeOperator_63 : decode prog_6_method_58_code 63 = .ok (.getfield 69, 3) := by decide +kernel
theorem d_Rd_takeOperator_66 : decode prog_6_method_58_code 66 = .ok (.invokestatic 345, 3) := by decide +kernel
theorem d_Rd_takeOperator_69 : decode prog_6_method_58_code 69 = .ok (.istore_n 1, 1) := by decide +kernel
theorem d_Rd_takeOperator_70 : decode prog_6_method_58_code 70 = .ok (.aload_n 0, 1) := by decide +kernel
theorem d_Rd_takeOperator_71 : decode prog_6_method_58_code 71 = .ok (.iload_n 1, 1) := by decide +kernel
theorem d_Rd_takeOperator_72 : decode prog_6_method_58_code 72 = .ok (.iconst 4, 1) := by decide +kernel
theorem d_Rd_takeOperator_73 : decode prog_6_method_58_code 73 = .ok (.if_icmp .ne 7, 3) := by decide +kernel
theorem d_Rd_takeOperator_76 : decode prog_6_method_58_code 76 = .ok (.iconst 5, 1) := by decide +kernel
theorem d_Rd_takeOperator_77 : decode prog_6_method_58_code 77 = .ok (.goto 4, 3) := by decide +kernel
theorem d_Rd_takeOperator_80 : decode prog_6_method_58_code 80 = .ok (.iload_n 1, 1) := by decide +kernel
theorem d_Rd_takeOperator_81 : decode prog_6_method_58_code 81 = .ok (.invokevirtual 348, 3) := by decide +kernel
theorem d_Rd_takeOperator_84 : decode prog_6_method_58_code 84 = .ok (.aload_n 0, 1) := by decide +kernel
theorem d_Rd_takeOperator_85 : decode prog_6_method_58_code 85 = .ok (.getfield 69, 3) := by decide +kernel
theorem d_Rd_takeOperator_88 : decode prog_6_method_58_code 88 = .ok (.lookupswitch 117 #[(41, 70), (44, 60), (58, 112), (59, 65), (61, 107), (93, 75)], 60) := by decide +kernel
theorem d_Rd_takeOperator_148 : decode prog_6_method_58_code 148 = .ok (.aload_n 0, 1) := by decide +kernel
theorem d_Rd_takeOperator_149 : decode prog_6_method_58_code 149 = .ok (.invokevirtual 351, 3) := by decide +kernel
theorem d_Rd_takeOperator_152 : decode prog_6_method_58_code 152 = .ok (.ireturn, 1) := by decide +kernel
theorem d_Rd_takeOperator_153 : decode prog_6_method_58_code 153 = .ok (.aload_n 0, 1) := by decide +kernel
theorem d_Rd_takeOperator_154 : decode prog_6_method_58_code 154 = .ok (.invokevirtual 354, 3) := by decide +kernel
theorem d_Rd_takeOperator_157 : decode prog_6_method_58_code 157 = .ok (.ireturn, 1) := by decide +kernel
theorem d_Rd_takeOperator_158 : decode prog_6_method_58_code 158 = .ok (.aload_n 0, 1) := by decide +kernel
theorem d_Rd_takeOperator_159 : decode prog_6_method_58_code 159 = .ok (.invokevirtual 357, 3) := by decide +kernel
theorem d_Rd_takeOperator_162 : decode prog_6_method_58_code 162 = .ok (.ireturn, 1) := by decide +kernel
theorem d_Rd_takeOperator_163 : decode prog_6_method_58_code 163 = .ok (.aload_n 0, 1) := by decide +kernel
theorem d_Rd_takeOperator_164 : decode prog_6_method_58_code 164 = .ok (.getfield 46, 3) := by decide +kernel
theorem d_Rd_takeOperator_167 : decode prog_6_method_58_code 167 = .ok (.getfield 86, 3) := by decide +kernel
theorem d_Rd_takeOperator_170 : decode prog_6_method_58_code 170 = .ok (.bipush 36, 2) := by decide +kernel
theorem d_Rd_takeOperator_172 : decode prog_6_method_58_code 172 = .ok (.if_icmp .ne 21, 3) := by decide +kernel
theorem d_Rd_takeOperator_175 : decode prog_6_method_58_code 175 = .ok (.aload_n 0, 1) := by decide +kernel
theorem d_Rd_takeOperator_176 : decode prog_6_method_58_code 176 = .ok (.invokevirtual 360, 3) := by decide +kernel
theorem d_Rd_takeOperator_179 : decode prog_6_method_58_code 179 = .ok (.ifCond .eq 14, 3) := by decide +kernel
theorem d_Rd_takeOperator_182 : decode prog_6_method_58_code 182 = .ok (.aload_n 0, 1) := by decide +kernel
theorem d_Rd_takeOperator_183 : decode prog_6_method_58_code 183 = .ok (.invokevirtual 321, 3) := by decide +kernel
theorem d_Rd_takeOperator_186 : decode prog_6_method_58_code 186 = .ok (.ifCond .eq 7, 3) := by decide +kernel
theorem d_Rd_takeOperator_189 : decode prog_6_method_58_code 189 = .ok (.iconst 1, 1) := by decide +kernel
theorem d_Rd_takeOperator_190 : decode prog_6_method_58_code 190 = .ok (.goto 4, 3) := by decide +kernel
theorem d_Rd_takeOperator_193 : decode prog_6_method_58_code 193 = .ok (.iconst 0, 1) := by decide +kernel
theorem d_Rd_takeOperator_194 : decode prog_6_method_58_code 194 = .ok (.ireturn, 1) := by decide +kernel
theorem d_Rd_takeOperator_195 : decode prog_6_method_58_code 195 = .ok (.aload_n 0, 1) := by decide +kernel
theorem d_Rd_takeOperator_196 : decode prog_6_method_58_code 196 = .ok (.invokevirtual 363, 3) := by decide +kernel
theorem d_Rd_takeOperator_199 : decode prog_6_method_58_code 199 = .ok (.ireturn, 1) := by decide +kernel
theorem d_Rd_takeOperator_200 : decode prog_6_method_58_code 200 = .ok (.aload_n 0, 1) := by decide +kernel
theorem d_Rd_takeOperator_201 : decode prog_6_method_58_code 201 = .ok (.invokevirtual 366, 3) := by decide +kernel
theorem d_Rd_takeOperator_204 : decode prog_6_method_58_code 204 = .ok (.ireturn, 1) := by decide +kernel
theorem d_Rd_takeOperator_205 : decode prog_6_method_58_code 205 = .ok (.iload_n 1, 1) := by decide +kernel
theorem d_Rd_takeOperator_206 : decode prog_6_method_58_code 206 = .ok (.ifCond .eq 15, 3) := by decide +kernel
theorem d_Rd_takeOperator_209 : decode prog_6_method_58_code 209 = .ok (.aload_n 0, 1) := by decide +kernel
theorem d_Rd_takeOperator_210 : decode prog_6_method_58_code 210 = .ok (.iload_n 1, 1) := by decide +kernel
theorem d_Rd_takeOperator_211 : decode prog_6_method_58_code 211 = .ok (.invokevirtual 369, 3) := by decide +kernel
theorem d_Rd_takeOperator_214 : decode prog_6_method_58_code 214 = .ok (.ifCond .eq 7, 3) := by decide +kernel
theorem d_Rd_takeOperator_217 : decode prog_6_method_58_code 217 = .ok (.iconst 1, 1) := by decide +kernel
theorem d_Rd_takeOperator_218 : decode prog_6_method_58_code 218 = .ok (.goto 4, 3) := by decide +kernel
theorem d_Rd_takeOperator_221 : decode prog_6_method_58_code 221 = .ok (.iconst 0, 1) := by decide +kernel
theorem d_Rd_takeOperator_222 : decode prog_6_method_58_code 222 = .ok (.ireturn, 1) := by decide +kernel
set_option maxHeartbeats 4000000 in
set_option maxRecDepth 100000 in
theorem L_Rd_takeOperator_81 (l : Launch) (D : va_G) (cI cB cJ cS : ClassId) (h0 : Nat) (fad : Nat → Nat) (a_scanner_h0 : Nat) (a_draft_h0 : Nat) (a_waiting_h0 : Nat) (a_functions_h0 : Nat) (a_text_h0 : Nat) (a_text_a_scanner_h0 : Nat) (a_cells_a_draft_h0 : Nat) (a_cells_a_waiting_h0 : Nat) (fn : Nat) (fd : Nat) (fcf : Nat → FrC) (mode_h0 : Int32) (levels_h0 : Int32) (signs_h0 : Int32) (loops_h0 : Int32) (token_h0 : Int32) (fault_h0 : Int32) (kind_t : Int32) (place_t : Int32) (width_t : Int32) (second_t : Int32) (parts_t : Int32) (innerParts_t : Int32) (innerPlace_t : Int32) (innerWidth_t : Int32) (signs_t : Int32) (waitingBelow_t : Int32) (limited_t : Int32) (targets_t : Int32) (lastBlock_t : Int32) (next_a_scanner_h0 : Int32) (kind_a_scanner_h0 : Int32) (start_a_scanner_h0 : Int32) (width_a_scanner_h0 : Int32) (count_a_draft_h0 : Int32) (n_a_cells_a_draft_h0 : Nat) (b_a_cells_a_draft_h0 : Nat → Int32) (count_a_waiting_h0 : Int32) (n_a_cells_a_waiting_h0 : Nat) (b_a_cells_a_waiting_h0 : Nat → Int32) (on_p : Nat) (od_p : Nat) (ocf_p : Nat → FrC) (ret : Int32) (o_0_7 : Int32) (o_0_8 : Int32) (o_0_9 : Int32) (o_1_2 : Int32) (o_1_3 : Int32) (o_1_4 : Int32) (o_1_5 : Int32) (o_1_6 : Int32) (o_1_7 : Int32) (o_1_8 : Int32) (o_1_9 : Int32) (o_1_10 : Int32) (o_1_11 : Int32) (o_1_12 : Int32) (o_1_13 : Int32) (o_1_14 : Int32) (o_3_1 : Int32) (o_5_1 : Int32) (on_nq_3_0 : Nat) (ob_nq_3_0 : Nat → Int32) (on_nq_5_0 : Nat) (ob_nq_5_0 : Nat → Int32) (mc ms : Nat) (p : Program) (e : Env) (s : State) (m : MethodId) (below : List Frame) (meth : Method) (c : Code) (hr : meth.sig.returnType = (Option.some Jvm.ClassFile.FieldType.boolean)) (hnm : meth.name = y_Rd_takeOperator.name) : ∀ (a9_81 : Nat → Nat) (v1_81 : Int32) (t0_81 : Int32) (n9_81 : Nat) (d9_81 : Nat) (c9_81 : Nat → FrC) (f1_13_81 : Int32) (cl_81 sl_81 C_81 S_81 : Nat), F_Rd_takeOperator_81 mode_h0 levels_h0 signs_h0 loops_h0 token_h0 fault_h0 kind_t place_t width_t second_t parts_t innerParts_t innerPlace_t innerWidth_t signs_t waitingBelow_t limited_t lastBlock_t next_a_scanner_h0 kind_a_scanner_h0 start_a_scanner_h0 width_a_scanner_h0 count_a_draft_h0 n_a_cells_a_draft_h0 b_a_cells_a_draft_h0 count_a_waiting_h0 n_a_cells_a_waiting_h0 b_a_cells_a_waiting_h0   v1_81 t0_81 n9_81 d9_81 c9_81 f1_13_81 = some ((on_p, od_p, ocf_p, ret, o_0_7, o_0_8, o_0_9, o_1_2, o_1_3, o_1_4, o_1_5, o_1_6, o_1_7, o_1_8, o_1_9, o_1_10, o_1_11, o_1_12, o_1_13, o_1_14, o_3_1, o_5_1, on_nq_3_0, ob_nq_3_0, on_nq_5_0, ob_nq_5_0), C_81, S_81) → cl_81 + C_81 ≤ mc → sl_81 + S_81 ≤ ms → J (KxOf p l e { frames := 5, cells := mc, slots := ms, locals := 151 } s m [.ref h0].toArray below meth c D (gT cI cB cJ cS) ((h0, .inr (2, [.ref a_scanner_h0, .ref a_draft_h0, .ref a_waiting_h0, .ref a_functions_h0, .ref (fad 0), .ref (fad fd), .ref a_text_h0, .int mode_h0, .int levels_h0, .int signs_h0, .int loops_h0, .int token_h0, .int fault_h0])) :: ((fad fd), .inr (0, [(frB fad fd), (frA fad fn fd), .int kind_t, .int place_t, .int width_t, .int second_t, .int parts_t, .int innerParts_t, .int innerPlace_t, .int innerWidth_t, .int signs_t, .int waitingBelow_t, .int limited_t, .int targets_t, .int lastBlock_t])) :: (a_scanner_h0, .inr (4, [.ref a_text_a_scanner_h0, .int next_a_scanner_h0, .int kind_a_scanner_h0, .int start_a_scanner_h0, .int width_a_scanner_h0])) :: (a_draft_h0, .inr (1, [.ref a_cells_a_draft_h0, .int count_a_draft_h0])) :: (a_cells_a_draft_h0, .inl (cI, n_a_cells_a_draft_h0, .inl b_a_cells_a_draft_h0)) :: (a_waiting_h0, .inr (5, [.ref a_cells_a_waiting_h0, .int count_a_waiting_h0])) :: (a_cells_a_waiting_h0, .inl (cI, n_a_cells_a_waiting_h0, .inl b_a_cells_a_waiting_h0)) :: fpo fad fn fd fcf) (fun v w => ∃ nad : Nat → Nat, ∃ nq_3_0 : Nat, ∃ nq_5_0 : Nat, v = some (.int ret) ∧ zb ret ∧ w = ((h0, .inr (2, [.ref a_scanner_h0, .ref a_draft_h0, .ref a_waiting_h0, .ref a_functions_h0, .ref (nad 0), .ref (nad od_p), .ref a_text_h0, .int o_0_7, .int o_0_8, .int o_0_9, .int loops_h0, .int token_h0, .int fault_h0])) :: ((nad od_p), .inr (0, [(frB nad od_p), (frA nad on_p od_p), .int o_1_2, .int o_1_3, .int o_1_4, .int o_1_5, .int o_1_6, .int o_1_7, .int o_1_8, .int o_1_9, .int o_1_10, .int o_1_11, .int o_1_12, .int o_1_13, .int o_1_14])) :: (a_scanner_h0, .inr (4, [.ref a_text_a_scanner_h0, .int next_a_scanner_h0, .int kind_a_scanner_h0, .int start_a_scanner_h0, .int width_a_scanner_h0])) :: (a_draft_h0, .inr (1, [.ref nq_3_0, .int o_3_1])) :: (a_waiting_h0, .inr (5, [.ref nq_5_0, .int o_5_1])) :: (nq_3_0, .inl (cI, on_nq_3_0, .inl ob_nq_3_0)) :: (nq_5_0, .inl (cI, on_nq_5_0, .inl ob_nq_5_0)) :: fpo nad on_p od_p ocf_p)) mc ms) prog_6_method_58_code 2 R_Rd 81 [(1, .int v1_81), (0, .ref h0)] [.int t0_81, .ref h0] ((h0, .inr (2, [.ref a_scanner_h0, .ref a_draft_h0, .ref a_waiting_h0, .ref a_functions_h0, .ref (a9_81 0), .ref (a9_81 d9_81), .ref a_text_h0, .int mode_h0, .int levels_h0, .int signs_h0, .int loops_h0, .int token_h0, .int fault_h0])) :: ((a9_81 d9_81), .inr (0, [(frB a9_81 d9_81), (frA a9_81 n9_81 d9_81), .int kind_t, .int place_t, .int width_t, .int second_t, .int parts_t, .int innerParts_t, .int innerPlace_t, .int innerWidth_t, .int signs_t, .int waitingBelow_t, .int limited_t, .int f1_13_81, .int lastBlock_t])) :: (a_scanner_h0, .inr (4, [.ref a_text_a_scanner_h0, .int next_a_scanner_h0, .int kind_a_scanner_h0, .int start_a_scanner_h0, .int width_a_scanner_h0])) :: (a_draft_h0, .inr (1, [.ref a_cells_a_draft_h0, .int count_a_draft_h0])) :: (a_cells_a_draft_h0, .inl (cI, n_a_cells_a_draft_h0, .inl b_a_cells_a_draft_h0)) :: (a_waiting_h0, .inr (5, [.ref a_cells_a_waiting_h0, .int count_a_waiting_h0])) :: (a_cells_a_waiting_h0, .inl (cI, n_a_cells_a_waiting_h0, .inl b_a_cells_a_waiting_h0)) :: fpo a9_81 n9_81 d9_81 c9_81) cl_81 sl_81 := by
  intro a9_81 v1_81 t0_81 n9_81 d9_81 c9_81 f1_13_81 cl_81 sl_81 C_81 S_81 h hC hS
  unfold F_Rd_takeOperator_81 at h
  replace h := bw_s h
  obtain ⟨⟨r1, r2, r3, r4⟩, C6, S7, C8, S9, k10, h, e1, e2⟩ := h
  replace hC : cl_81 + C6 + C8 ≤ mc := by omega
  replace hS : sl_81 + S7 + S9 ≤ ms := by omega
  clear e1 e2
  refine j_callVg (n := 1) (As := [.int t0_81]) (rest := []) (wr := ([(a_scanner_h0, .inr (4, [.ref a_text_a_scanner_h0, .int next_a_scanner_h0, .int kind_a_scanner_h0, .int start_a_scanner_h0, .int width_a_scanner_h0]))] ++ fpo a9_81 n9_81 d9_81 c9_81)) (c_Rd_endWaiting l D cI cB cJ cS h0 a_scanner_h0 a_draft_h0 a_waiting_h0 a_functions_h0 (a9_81 0) (a9_81 d9_81) a_text_h0 a_cells_a_waiting_h0 (frB a9_81 d9_81) (frA a9_81 n9_81 d9_81) a_cells_a_draft_h0 t0_81 mode_h0 levels_h0 signs_h0 loops_h0 token_h0 fault_h0 count_a_waiting_h0 kind_t place_t width_t second_t parts_t innerParts_t innerPlace_t innerWidth_t signs_t waitingBelow_t limited_t f1_13_81 lastBlock_t n_a_cells_a_waiting_h0 b_a_cells_a_waiting_h0 count_a_draft_h0 n_a_cells_a_draft_h0 b_a_cells_a_draft_h0  r1 r2 r3 r4 C6 S7 k10) k_Rd_348 (by decide) ⟨Nat.le_of_ble_eq_true rfl, Nat.le_of_ble_eq_true rfl⟩ rfl 0 rfl (pk_mid (wr := [(a_scanner_h0, .inr (4, [.ref a_text_a_scanner_h0, .int next_a_scanner_h0, .int kind_a_scanner_h0, .int start_a_scanner_h0, .int width_a_scanner_h0]))]) (w0 := [(h0, .inr (2, [.ref a_scanner_h0, .ref a_draft_h0, .ref a_waiting_h0, .ref a_functions_h0, .ref (a9_81 0), .ref (a9_81 d9_81), .ref a_text_h0, .int mode_h0, .int levels_h0, .int signs_h0, .int loops_h0, .int token_h0, .int fault_h0])), (a_waiting_h0, .inr (5, [.ref a_cells_a_waiting_h0, .int count_a_waiting_h0])), ((a9_81 d9_81), .inr (0, [(frB a9_81 d9_81), (frA a9_81 n9_81 d9_81), .int kind_t, .int place_t, .int width_t, .int second_t, .int parts_t, .int innerParts_t, .int innerPlace_t, .int innerWidth_t, .int signs_t, .int waitingBelow_t, .int limited_t, .int f1_13_81, .int lastBlock_t])), (a_cells_a_waiting_h0, .inl (cI, n_a_cells_a_waiting_h0, .inl b_a_cells_a_waiting_h0)), (a_draft_h0, .inr (1, [.ref a_cells_a_draft_h0, .int count_a_draft_h0])), (a_cells_a_draft_h0, .inl (cI, n_a_cells_a_draft_h0, .inl b_a_cells_a_draft_h0))]) (pl := fpo a9_81 n9_81 d9_81 c9_81) [2, 0, 5, 1, 6, 3, 4] 7 rfl rfl (by decide)) rfl rfl (Nat.le_of_ble_eq_true rfl) d_Rd_takeOperator_81 ⟨show cl_81 + C6 ≤ mc by omega, show sl_81 + S7 ≤ ms by omega⟩ (fun v w hq => ?_)
  obtain ⟨q5, rfl, rfl⟩ := hq
  refine j_perm (ws' := ((a_scanner_h0, .inr (4, [.ref a_text_a_scanner_h0, .int next_a_scanner_h0, .int kind_a_scanner_h0, .int start_a_scanner_h0, .int width_a_scanner_h0])) :: (h0, .inr (2, [.ref a_scanner_h0, .ref a_draft_h0, .ref a_waiting_h0, .ref a_functions_h0, .ref (a9_81 0), .ref (a9_81 d9_81), .ref a_text_h0, .int mode_h0, .int levels_h0, .int signs_h0, .int loops_h0, .int token_h0, .int fault_h0])) :: (a_waiting_h0, .inr (5, [.ref a_cells_a_waiting_h0, .int r1])) :: ((a9_81 d9_81), .inr (0, [(frB a9_81 d9_81), (frA a9_81 n9_81 d9_81), .int kind_t, .int place_t, .int width_t, .int second_t, .int parts_t, .int innerParts_t, .int innerPlace_t, .int innerWidth_t, .int signs_t, .int waitingBelow_t, .int limited_t, .int f1_13_81, .int lastBlock_t])) :: (a_cells_a_waiting_h0, .inl (cI, n_a_cells_a_waiting_h0, .inl b_a_cells_a_waiting_h0)) :: (a_draft_h0, .inr (1, [.ref q5, .int r2])) :: (q5, .inl (cI, r3, .inl r4)) :: fpo a9_81 n9_81 d9_81 c9_81)) (pm_eq (a := [(a_scanner_h0, .inr (4, [.ref a_text_a_scanner_h0, .int next_a_scanner_h0, .int kind_a_scanner_h0, .int start_a_scanner_h0, .int width_a_scanner_h0]))]) (b := fpo a9_81 n9_81 d9_81 c9_81) (c := [(h0, .inr (2, [.ref a_scanner_h0, .ref a_draft_h0, .ref a_waiting_h0, .ref a_functions_h0, .ref (a9_81 0), .ref (a9_81 d9_81), .ref a_text_h0, .int mode_h0, .int levels_h0, .int signs_h0, .int loops_h0, .int token_h0, .int fault_h0])), (a_waiting_h0, .inr (5, [.ref a_cells_a_waiting_h0, .int r1])), ((a9_81 d9_81), .inr (0, [(frB a9_81 d9_81), (frA a9_81 n9_81 d9_81), .int kind_t, .int place_t, .int width_t, .int second_t, .int parts_t, .int innerParts_t, .int innerPlace_t, .int innerWidth_t, .int signs_t, .int waitingBelow_t, .int limited_t, .int f1_13_81, .int lastBlock_t])), (a_cells_a_waiting_h0, .inl (cI, n_a_cells_a_waiting_h0, .inl b_a_cells_a_waiting_h0)), (a_draft_h0, .inr (1, [.ref q5, .int r2])), (q5, .inl (cI, r3, .inl r4))]) rfl) ?_
  refine j_norm (pc' := 84) (st' := []) (ws' := ((a_scanner_h0, .inr (4, [.ref a_text_a_scanner_h0, .int next_a_scanner_h0, .int kind_a_scanner_h0, .int start_a_scanner_h0, .int width_a_scanner_h0])) :: (h0, .inr (2, [.ref a_scanner_h0, .ref a_draft_h0, .ref a_waiting_h0, .ref a_functions_h0, .ref (a9_81 0), .ref (a9_81 d9_81), .ref a_text_h0, .int mode_h0, .int levels_h0, .int signs_h0, .int loops_h0, .int token_h0, .int fault_h0])) :: (a_waiting_h0, .inr (5, [.ref a_cells_a_waiting_h0, .int r1])) :: ((a9_81 d9_81), .inr (0, [(frB a9_81 d9_81), (frA a9_81 n9_81 d9_81), .int kind_t, .int place_t, .int width_t, .int second_t, .int parts_t, .int innerParts_t, .int innerPlace_t, .int innerWidth_t, .int signs_t, .int waitingBelow_t, .int limited_t, .int f1_13_81, .int lastBlock_t])) :: (a_cells_a_waiting_h0, .inl (cI, n_a_cells_a_waiting_h0, .inl b_a_cells_a_waiting_h0)) :: (a_draft_h0, .inr (1, [.ref q5, .int r2])) :: (q5, .inl (cI, r3, .inl r4)) :: fpo a9_81 n9_81 d9_81 c9_81)) (cl' := cl_81 + C6) (sl' := sl_81 + S7) rfl rfl rfl rfl rfl rfl ?_
  refine j_aload_n d_Rd_takeOperator_84 rfl 1 rfl ?_
  refine j_get ig_Rd rfl 1 rfl 11 (by decide) rfl m_180 rfl d_Rd_takeOperator_85 ?_
  by_cases c11 : token_h0 = 41
  · replace h := it_t c11 h
    refine j_look (tgt := 158) (off := 70) d_Rd_takeOperator_88 (by decide) (by rw [c11]; decide) (by decide) ?_
    refine j_aload_n d_Rd_takeOperator_158 rfl 1 rfl ?_
    replace h := bw_s h
    obtain ⟨⟨r12, r13, r14, r15, r16, r17, r18, r19, r20, r21, r22, r23, r24, r25, r26, r27, r28, r29, r30, r31, r32, r33, r34⟩, C38, S39, C40, S41, k42, h, e1, e2⟩ := h
    replace hC : cl_81 + C6 + C38 + C40 ≤ mc := by omega
    replace hS : sl_81 + S7 + S39 + S41 ≤ ms := by omega
    clear e1 e2
    refine j_callVg (n := 0) (As := []) (rest := []) (wr := [(a_waiting_h0, .inr (5, [.ref a_cells_a_waiting_h0, .int r1])), (a_cells_a_waiting_h0, .inl (cI, n_a_cells_a_waiting_h0, .inl b_a_cells_a_waiting_h0))]) (c_Rd_closeBracket l D cI cB cJ cS h0 a9_81 a_scanner_h0 a_draft_h0 a_waiting_h0 a_functions_h0 a_text_h0 q5 a_text_a_scanner_h0 n9_81 d9_81 c9_81 mode_h0 levels_h0 signs_h0 loops_h0 token_h0 fault_h0 kind_t place_t width_t second_t parts_t innerParts_t innerPlace_t innerWidth_t signs_t waitingBelow_t limited_t f1_13_81 lastBlock_t r2 r3 r4 next_a_scanner_h0 kind_a_scanner_h0 start_a_scanner_h0 width_a_scanner_h0  r12 r13 r14 r15 r16 r17 r18 r19 r20 r21 r22 r23 r24 r25 r26 r27 r28 r29 r30 r31 r32 r33 r34 C38 S39 k42) k_Rd_357 (by decide) ⟨Nat.le_of_ble_eq_true rfl, Nat.le_of_ble_eq_true rfl⟩ rfl 0 rfl (pk_app (wr := [(a_waiting_h0, .inr (5, [.ref a_cells_a_waiting_h0, .int r1])), (a_cells_a_waiting_h0, .inl (cI, n_a_cells_a_waiting_h0, .inl b_a_cells_a_waiting_h0))]) (w0 := [(h0, .inr (2, [.ref a_scanner_h0, .ref a_draft_h0, .ref a_waiting_h0, .ref a_functions_h0, .ref (a9_81 0), .ref (a9_81 d9_81), .ref a_text_h0, .int mode_h0, .int levels_h0, .int signs_h0, .int loops_h0, .int token_h0, .int fault_h0])), ((a9_81 d9_81), .inr (0, [(frB a9_81 d9_81), (frA a9_81 n9_81 d9_81), .int kind_t, .int place_t, .int width_t, .int second_t, .int parts_t, .int innerParts_t, .int innerPlace_t, .int innerWidth_t, .int signs_t, .int waitingBelow_t, .int limited_t, .int f1_13_81, .int lastBlock_t])), (a_draft_h0, .inr (1, [.ref q5, .int r2])), (q5, .inl (cI, r3, .inl r4)), (a_scanner_h0, .inr (4, [.ref a_text_a_scanner_h0, .int next_a_scanner_h0, .int kind_a_scanner_h0, .int start_a_scanner_h0, .int width_a_scanner_h0]))]) (pl := fpo a9_81 n9_81 d9_81 c9_81) [2, 4, 1, 3, 5, 6, 0] 7 rfl rfl rfl (by decide)) rfl rfl (Nat.le_of_ble_eq_true rfl) d_Rd_takeOperator_159 ⟨show cl_81 + C6 + C38 ≤ mc by omega, show sl_81 + S7 + S39 ≤ ms by omega⟩ (fun v w hq => ?_)
    obtain ⟨a35, q36, rfl, z37, rfl⟩ := hq
    refine j_norm (pc' := 162) (st' := [.int r15]) (ws' := ((a_waiting_h0, .inr (5, [.ref a_cells_a_waiting_h0, .int r1])) :: (a_cells_a_waiting_h0, .inl (cI, n_a_cells_a_waiting_h0, .inl b_a_cells_a_waiting_h0)) :: (h0, .inr (2, [.ref a_scanner_h0, .ref a_draft_h0, .ref a_waiting_h0, .ref a_functions_h0, .ref (a35 0), .ref (a35 r13), .ref a_text_h0, .int r16, .int r17, .int r18, .int loops_h0, .int token_h0, .int fault_h0])) :: ((a35 r13), .inr (0, [(frB a35 r13), (frA a35 r12 r13), .int r19, .int r20, .int r21, .int r22, .int r23, .int r24, .int r25, .int r26, .int r27, .int r28, .int r29, .int r30, .int r31])) :: (a_draft_h0, .inr (1, [.ref q36, .int r32])) :: (a_scanner_h0, .inr (4, [.ref a_text_a_scanner_h0, .int next_a_scanner_h0, .int kind_a_scanner_h0, .int start_a_scanner_h0, .int width_a_scanner_h0])) :: (q36, .inl (cI, r33, .inl r34)) :: fpo a35 r12 r13 r14)) (cl' := cl_81 + C6 + C38) (sl' := sl_81 + S7 + S39) rfl rfl rfl rfl rfl rfl ?_
    replace h := lf_s h
    obtain ⟨h, e1, e2⟩ := h
    replace h := Prod.mk.inj h
    obtain ⟨h9, h⟩ := h
    subst h9
    replace h := Prod.mk.inj h
    obtain ⟨h9, h⟩ := h
    subst h9
    replace h := Prod.mk.inj h
    obtain ⟨h9, h⟩ := h
    subst h9
    replace h := Prod.mk.inj h
    obtain ⟨h9, h⟩ := h
    subst h9
    replace h := Prod.mk.inj h
    obtain ⟨h9, h⟩ := h
    subst h9
    replace h := Prod.mk.inj h
    obtain ⟨h9, h⟩ := h
    subst h9
    replace h := Prod.mk.inj h
    obtain ⟨h9, h⟩ := h
    subst h9
    replace h := Prod.mk.inj h
    obtain ⟨h9, h⟩ := h
    subst h9
    replace h := Prod.mk.inj h
    obtain ⟨h9, h⟩ := h
    subst h9
    replace h := Prod.mk.inj h
    obtain ⟨h9, h⟩ := h
    subst h9
    replace h := Prod.mk.inj h
    obtain ⟨h9, h⟩ := h
    subst h9
    replace h := Prod.mk.inj h
    obtain ⟨h9, h⟩ := h
    subst h9
    replace h := Prod.mk.inj h
    obtain ⟨h9, h⟩ := h
    subst h9
    replace h := Prod.mk.inj h
    obtain ⟨h9, h⟩ := h
    subst h9
    replace h := Prod.mk.inj h
    obtain ⟨h9, h⟩ := h
    subst h9
    replace h := Prod.mk.inj h
    obtain ⟨h9, h⟩ := h
    subst h9
    replace h := Prod.mk.inj h
    obtain ⟨h9, h⟩ := h
    subst h9
    replace h := Prod.mk.inj h
    obtain ⟨h9, h⟩ := h
    subst h9
    replace h := Prod.mk.inj h
    obtain ⟨h9, h⟩ := h
    subst h9
    replace h := Prod.mk.inj h
    obtain ⟨h9, h⟩ := h
    subst h9
    replace h := Prod.mk.inj h
    obtain ⟨h9, h⟩ := h
    subst h9
    replace h := Prod.mk.inj h
    obtain ⟨h9, h⟩ := h
    subst h9
    replace h := Prod.mk.inj h
    obtain ⟨h9, h⟩ := h
    subst h9
    replace h := Prod.mk.inj h
    obtain ⟨h9, h⟩ := h
    subst h9
    replace h := Prod.mk.inj h
    obtain ⟨h9, h⟩ := h
    subst h9
    subst h
    refine j_widen (cl' := mc) (sl' := ms) (by omega) (by omega) ?_
    refine j_subP (w := [(h0, .inr (2, [.ref a_scanner_h0, .ref a_draft_h0, .ref a_waiting_h0, .ref a_functions_h0, .ref (a35 0), .ref (a35 r13), .ref a_text_h0, .int r16, .int r17, .int r18, .int loops_h0, .int token_h0, .int fault_h0])), ((a35 r13), .inr (0, [(frB a35 r13), (frA a35 r12 r13), .int r19, .int r20, .int r21, .int r22, .int r23, .int r24, .int r25, .int r26, .int r27, .int r28, .int r29, .int r30, .int r31])), (a_scanner_h0, .inr (4, [.ref a_text_a_scanner_h0, .int next_a_scanner_h0, .int kind_a_scanner_h0, .int start_a_scanner_h0, .int width_a_scanner_h0])), (a_draft_h0, .inr (1, [.ref q36, .int r32])), (a_waiting_h0, .inr (5, [.ref a_cells_a_waiting_h0, .int r1])), (q36, .inl (cI, r33, .inl r34)), (a_cells_a_waiting_h0, .inl (cI, n_a_cells_a_waiting_h0, .inl b_a_cells_a_waiting_h0))]) (pl := fpo a35 r12 r13 r14) (lv' := []) [2, 3, 5, 4, 0, 6, 1] [] 7 rfl rfl (by decide) [] rfl ?_
    exact j_zretE hr (zb_n z37) d_Rd_takeOperator_162 ⟨a35, q36, a_cells_a_waiting_h0, rfl, z37, rfl⟩
  · replace h := it_f c11 h
    by_cases c43 : token_h0 = 44
    · replace h := it_t c43 h
      refine j_look (tgt := 148) (off := 60) d_Rd_takeOperator_88 (by decide) (by rw [c43]; decide) (by decide) ?_
      refine j_aload_n d_Rd_takeOperator_148 rfl 1 rfl ?_
      obtain ⟨⟨r44, r45, r46, r47, r48⟩, k50⟩ : ∃ z, (F_Rd_takeComma mode_h0 levels_h0 signs_h0 loops_h0 token_h0 fault_h0 kind_t place_t width_t second_t parts_t innerParts_t innerPlace_t innerWidth_t signs_t waitingBelow_t limited_t f1_13_81 lastBlock_t) = z := ⟨_, rfl⟩
      replace h := nm_at k50 h
      refine j_callVg (n := 0) (As := []) (rest := []) (wr := ([(a_scanner_h0, .inr (4, [.ref a_text_a_scanner_h0, .int next_a_scanner_h0, .int kind_a_scanner_h0, .int start_a_scanner_h0, .int width_a_scanner_h0])), (a_waiting_h0, .inr (5, [.ref a_cells_a_waiting_h0, .int r1])), (a_cells_a_waiting_h0, .inl (cI, n_a_cells_a_waiting_h0, .inl b_a_cells_a_waiting_h0)), (a_draft_h0, .inr (1, [.ref q5, .int r2])), (q5, .inl (cI, r3, .inl r4))] ++ fpo a9_81 n9_81 d9_81 c9_81)) (c_Rd_takeComma l D cI cB cJ cS h0 a_scanner_h0 a_draft_h0 a_waiting_h0 a_functions_h0 (a9_81 0) (a9_81 d9_81) a_text_h0 (frB a9_81 d9_81) (frA a9_81 n9_81 d9_81) mode_h0 levels_h0 signs_h0 loops_h0 token_h0 fault_h0 kind_t place_t width_t second_t parts_t innerParts_t innerPlace_t innerWidth_t signs_t waitingBelow_t limited_t f1_13_81 lastBlock_t  r44 r45 r46 r47 r48 k50) k_Rd_351 (by decide) ⟨Nat.le_of_ble_eq_true rfl, Nat.le_of_ble_eq_true rfl⟩ rfl 0 rfl (pk_mid (wr := [(a_scanner_h0, .inr (4, [.ref a_text_a_scanner_h0, .int next_a_scanner_h0, .int kind_a_scanner_h0, .int start_a_scanner_h0, .int width_a_scanner_h0])), (a_waiting_h0, .inr (5, [.ref a_cells_a_waiting_h0, .int r1])), (a_cells_a_waiting_h0, .inl (cI, n_a_cells_a_waiting_h0, .inl b_a_cells_a_waiting_h0)), (a_draft_h0, .inr (1, [.ref q5, .int r2])), (q5, .inl (cI, r3, .inl r4))]) (w0 := [(h0, .inr (2, [.ref a_scanner_h0, .ref a_draft_h0, .ref a_waiting_h0, .ref a_functions_h0, .ref (a9_81 0), .ref (a9_81 d9_81), .ref a_text_h0, .int mode_h0, .int levels_h0, .int signs_h0, .int loops_h0, .int token_h0, .int fault_h0])), ((a9_81 d9_81), .inr (0, [(frB a9_81 d9_81), (frA a9_81 n9_81 d9_81), .int kind_t, .int place_t, .int width_t, .int second_t, .int parts_t, .int innerParts_t, .int innerPlace_t, .int innerWidth_t, .int signs_t, .int waitingBelow_t, .int limited_t, .int f1_13_81, .int lastBlock_t]))]) (pl := fpo a9_81 n9_81 d9_81 c9_81) [0, 2, 4, 5, 6, 1, 3] 7 rfl rfl (by decide)) rfl rfl (Nat.le_of_ble_eq_true rfl) d_Rd_takeOperator_149 ⟨show cl_81 + C6 + 0 ≤ mc by omega, show sl_81 + S7 + 0 ≤ ms by omega⟩ (fun v w hq => ?_)
      obtain ⟨rfl, z49, rfl⟩ := hq
      refine j_perm (ws' := ((a_scanner_h0, .inr (4, [.ref a_text_a_scanner_h0, .int next_a_scanner_h0, .int kind_a_scanner_h0, .int start_a_scanner_h0, .int width_a_scanner_h0])) :: (a_waiting_h0, .inr (5, [.ref a_cells_a_waiting_h0, .int r1])) :: (a_cells_a_waiting_h0, .inl (cI, n_a_cells_a_waiting_h0, .inl b_a_cells_a_waiting_h0)) :: (a_draft_h0, .inr (1, [.ref q5, .int r2])) :: (q5, .inl (cI, r3, .inl r4)) :: (h0, .inr (2, [.ref a_scanner_h0, .ref a_draft_h0, .ref a_waiting_h0, .ref a_functions_h0, .ref (a9_81 0), .ref (a9_81 d9_81), .ref a_text_h0, .int r45, .int levels_h0, .int signs_h0, .int loops_h0, .int token_h0, .int fault_h0])) :: ((a9_81 d9_81), .inr (0, [(frB a9_81 d9_81), (frA a9_81 n9_81 d9_81), .int kind_t, .int place_t, .int width_t, .int second_t, .int r46, .int r47, .int innerPlace_t, .int innerWidth_t, .int signs_t, .int waitingBelow_t, .int limited_t, .int r48, .int lastBlock_t])) :: fpo a9_81 n9_81 d9_81 c9_81)) (pm_eq (a := [(a_scanner_h0, .inr (4, [.ref a_text_a_scanner_h0, .int next_a_scanner_h0, .int kind_a_scanner_h0, .int start_a_scanner_h0, .int width_a_scanner_h0])), (a_waiting_h0, .inr (5, [.ref a_cells_a_waiting_h0, .int r1])), (a_cells_a_waiting_h0, .inl (cI, n_a_cells_a_waiting_h0, .inl b_a_cells_a_waiting_h0)), (a_draft_h0, .inr (1, [.ref q5, .int r2])), (q5, .inl (cI, r3, .inl r4))]) (b := fpo a9_81 n9_81 d9_81 c9_81) (c := [(h0, .inr (2, [.ref a_scanner_h0, .ref a_draft_h0, .ref a_waiting_h0, .ref a_functions_h0, .ref (a9_81 0), .ref (a9_81 d9_81), .ref a_text_h0, .int r45, .int levels_h0, .int signs_h0, .int loops_h0, .int token_h0, .int fault_h0])), ((a9_81 d9_81), .inr (0, [(frB a9_81 d9_81), (frA a9_81 n9_81 d9_81), .int kind_t, .int place_t, .int width_t, .int second_t, .int r46, .int r47, .int innerPlace_t, .int innerWidth_t, .int signs_t, .int waitingBelow_t, .int limited_t, .int r48, .int lastBlock_t]))]) rfl) ?_
      refine j_norm (pc' := 152) (st' := [.int r44]) (ws' := ((a_scanner_h0, .inr (4, [.ref a_text_a_scanner_h0, .int next_a_scanner_h0, .int kind_a_scanner_h0, .int start_a_scanner_h0, .int width_a_scanner_h0])) :: (a_waiting_h0, .inr (5, [.ref a_cells_a_waiting_h0, .int r1])) :: (a_cells_a_waiting_h0, .inl (cI, n_a_cells_a_waiting_h0, .inl b_a_cells_a_waiting_h0)) :: (a_draft_h0, .inr (1, [.ref q5, .int r2])) :: (q5, .inl (cI, r3, .inl r4)) :: (h0, .inr (2, [.ref a_scanner_h0, .ref a_draft_h0, .ref a_waiting_h0, .ref a_functions_h0, .ref (a9_81 0), .ref (a9_81 d9_81), .ref a_text_h0, .int r45, .int levels_h0, .int signs_h0, .int loops_h0, .int token_h0, .int fault_h0])) :: ((a9_81 d9_81), .inr (0, [(frB a9_81 d9_81), (frA a9_81 n9_81 d9_81), .int kind_t, .int place_t, .int width_t, .int second_t, .int r46, .int r47, .int innerPlace_t, .int innerWidth_t, .int signs_t, .int waitingBelow_t, .int limited_t, .int r48, .int lastBlock_t])) :: fpo a9_81 n9_81 d9_81 c9_81)) (cl' := cl_81 + C6) (sl' := sl_81 + S7) rfl rfl rfl rfl rfl rfl ?_
      replace h := lf_s h
      obtain ⟨h, e1, e2⟩ := h
      replace h := Prod.mk.inj h
      obtain ⟨h9, h⟩ := h
      subst h9
      replace h := Prod.mk.inj h
      obtain ⟨h9, h⟩ := h
      subst h9
      replace h := Prod.mk.inj h
      obtain ⟨h9, h⟩ := h
      subst h9
      replace h := Prod.mk.inj h
      obtain ⟨h9, h⟩ := h
      subst h9
      replace h := Prod.mk.inj h
      obtain ⟨h9, h⟩ := h
      subst h9
      replace h := Prod.mk.inj h
      obtain ⟨h9, h⟩ := h
      subst h9
      replace h := Prod.mk.inj h
      obtain ⟨h9, h⟩ := h
      subst h9
      replace h := Prod.mk.inj h
      obtain ⟨h9, h⟩ := h
      subst h9
      replace h := Prod.mk.inj h
      obtain ⟨h9, h⟩ := h
      subst h9
      replace h := Prod.mk.inj h
      obtain ⟨h9, h⟩ := h
      subst h9
      replace h := Prod.mk.inj h
      obtain ⟨h9, h⟩ := h
      subst h9
      replace h := Prod.mk.inj h
      obtain ⟨h9, h⟩ := h
      subst h9
      replace h := Prod.mk.inj h
      obtain ⟨h9, h⟩ := h
      subst h9
      replace h := Prod.mk.inj h
      obtain ⟨h9, h⟩ := h
      subst h9
      replace h := Prod.mk.inj h
      obtain ⟨h9, h⟩ := h
      subst h9
      replace h := Prod.mk.inj h
      obtain ⟨h9, h⟩ := h
      subst h9
      replace h := Prod.mk.inj h
      obtain ⟨h9, h⟩ := h
      subst h9
      replace h := Prod.mk.inj h
      obtain ⟨h9, h⟩ := h
      subst h9
      replace h := Prod.mk.inj h
      obtain ⟨h9, h⟩ := h
      subst h9
      replace h := Prod.mk.inj h
      obtain ⟨h9, h⟩ := h
      subst h9
      replace h := Prod.mk.inj h
      obtain ⟨h9, h⟩ := h
      subst h9
      replace h := Prod.mk.inj h
      obtain ⟨h9, h⟩ := h
      subst h9
      replace h := Prod.mk.inj h
      obtain ⟨h9, h⟩ := h
      subst h9
      replace h := Prod.mk.inj h
      obtain ⟨h9, h⟩ := h
      subst h9
      replace h := Prod.mk.inj h
      obtain ⟨h9, h⟩ := h
      subst h9
      subst h
      refine j_widen (cl' := mc) (sl' := ms) (by omega) (by omega) ?_
      refine j_subP (w := [(h0, .inr (2, [.ref a_scanner_h0, .ref a_draft_h0, .ref a_waiting_h0, .ref a_functions_h0, .ref (a9_81 0), .ref (a9_81 d9_81), .ref a_text_h0, .int r45, .int levels_h0, .int signs_h0, .int loops_h0, .int token_h0, .int fault_h0])), ((a9_81 d9_81), .inr (0, [(frB a9_81 d9_81), (frA a9_81 n9_81 d9_81), .int kind_t, .int place_t, .int width_t, .int second_t, .int r46, .int r47, .int innerPlace_t, .int innerWidth_t, .int signs_t, .int waitingBelow_t, .int limited_t, .int r48, .int lastBlock_t])), (a_scanner_h0, .inr (4, [.ref a_text_a_scanner_h0, .int next_a_scanner_h0, .int kind_a_scanner_h0, .int start_a_scanner_h0, .int width_a_scanner_h0])), (a_draft_h0, .inr (1, [.ref q5, .int r2])), (a_waiting_h0, .inr (5, [.ref a_cells_a_waiting_h0, .int r1])), (q5, .inl (cI, r3, .inl r4)), (a_cells_a_waiting_h0, .inl (cI, n_a_cells_a_waiting_h0, .inl b_a_cells_a_waiting_h0))]) (pl := fpo a9_81 n9_81 d9_81 c9_81) (lv' := []) [5, 6, 0, 3, 1, 4, 2] [] 7 rfl rfl (by decide) [] rfl ?_
      exact j_zretE hr (zb_n z49) d_Rd_takeOperator_152 ⟨a9_81, q5, a_cells_a_waiting_h0, rfl, z49, rfl⟩
    · replace h := it_f c43 h
      by_cases c51 : token_h0 = 58
      · replace h := it_t c51 h
        refine j_look (tgt := 200) (off := 112) d_Rd_takeOperator_88 (by decide) (by rw [c51]; decide) (by decide) ?_
        refine j_aload_n d_Rd_takeOperator_200 rfl 1 rfl ?_
        replace h := bw_s h
        obtain ⟨⟨r52, r53, r54, r55, r56⟩, C59, S60, C61, S62, k63, h, e1, e2⟩ := h
        replace hC : cl_81 + C6 + C59 + C61 ≤ mc := by omega
        replace hS : sl_81 + S7 + S60 + S62 ≤ ms := by omega
        clear e1 e2
        refine j_callVg (n := 0) (As := []) (rest := []) (wr := ([(a_draft_h0, .inr (1, [.ref q5, .int r2])), (q5, .inl (cI, r3, .inl r4))] ++ fpo a9_81 n9_81 d9_81 c9_81)) (c_Rd_takeColon l D cI cB cJ cS h0 a_scanner_h0 a_draft_h0 a_waiting_h0 a_functions_h0 (a9_81 0) (a9_81 d9_81) a_text_h0 a_cells_a_waiting_h0 (frB a9_81 d9_81) (frA a9_81 n9_81 d9_81) a_text_a_scanner_h0 mode_h0 levels_h0 signs_h0 loops_h0 token_h0 fault_h0 r1 kind_t place_t width_t second_t parts_t innerParts_t innerPlace_t innerWidth_t signs_t waitingBelow_t limited_t f1_13_81 lastBlock_t next_a_scanner_h0 kind_a_scanner_h0 start_a_scanner_h0 width_a_scanner_h0 n_a_cells_a_waiting_h0 b_a_cells_a_waiting_h0  r52 r53 r54 r55 r56 C59 S60 k63) k_Rd_366 (by decide) ⟨Nat.le_of_ble_eq_true rfl, Nat.le_of_ble_eq_true rfl⟩ rfl 0 rfl (pk_mid (wr := [(a_draft_h0, .inr (1, [.ref q5, .int r2])), (q5, .inl (cI, r3, .inl r4))]) (w0 := [(h0, .inr (2, [.ref a_scanner_h0, .ref a_draft_h0, .ref a_waiting_h0, .ref a_functions_h0, .ref (a9_81 0), .ref (a9_81 d9_81), .ref a_text_h0, .int mode_h0, .int levels_h0, .int signs_h0, .int loops_h0, .int token_h0, .int fault_h0])), (a_waiting_h0, .inr (5, [.ref a_cells_a_waiting_h0, .int r1])), ((a9_81 d9_81), .inr (0, [(frB a9_81 d9_81), (frA a9_81 n9_81 d9_81), .int kind_t, .int place_t, .int width_t, .int second_t, .int parts_t, .int innerParts_t, .int innerPlace_t, .int innerWidth_t, .int signs_t, .int waitingBelow_t, .int limited_t, .int f1_13_81, .int lastBlock_t])), (a_scanner_h0, .inr (4, [.ref a_text_a_scanner_h0, .int next_a_scanner_h0, .int kind_a_scanner_h0, .int start_a_scanner_h0, .int width_a_scanner_h0])), (a_cells_a_waiting_h0, .inl (cI, n_a_cells_a_waiting_h0, .inl b_a_cells_a_waiting_h0))]) (pl := fpo a9_81 n9_81 d9_81 c9_81) [5, 6, 1, 2, 3, 0, 4] 7 rfl rfl (by decide)) rfl rfl (Nat.le_of_ble_eq_true rfl) d_Rd_takeOperator_201 ⟨show cl_81 + C6 + C59 ≤ mc by omega, show sl_81 + S7 + S60 ≤ ms by omega⟩ (fun v w hq => ?_)
        obtain ⟨q57, rfl, z58, rfl⟩ := hq
        refine j_perm (ws' := ((a_draft_h0, .inr (1, [.ref q5, .int r2])) :: (q5, .inl (cI, r3, .inl r4)) :: (h0, .inr (2, [.ref a_scanner_h0, .ref a_draft_h0, .ref a_waiting_h0, .ref a_functions_h0, .ref (a9_81 0), .ref (a9_81 d9_81), .ref a_text_h0, .int r53, .int levels_h0, .int signs_h0, .int loops_h0, .int token_h0, .int fault_h0])) :: (a_waiting_h0, .inr (5, [.ref q57, .int r54])) :: ((a9_81 d9_81), .inr (0, [(frB a9_81 d9_81), (frA a9_81 n9_81 d9_81), .int kind_t, .int place_t, .int width_t, .int second_t, .int parts_t, .int innerParts_t, .int innerPlace_t, .int innerWidth_t, .int signs_t, .int waitingBelow_t, .int limited_t, .int f1_13_81, .int lastBlock_t])) :: (a_scanner_h0, .inr (4, [.ref a_text_a_scanner_h0, .int next_a_scanner_h0, .int kind_a_scanner_h0, .int start_a_scanner_h0, .int width_a_scanner_h0])) :: (q57, .inl (cI, r55, .inl r56)) :: fpo a9_81 n9_81 d9_81 c9_81)) (pm_eq (a := [(a_draft_h0, .inr (1, [.ref q5, .int r2])), (q5, .inl (cI, r3, .inl r4))]) (b := fpo a9_81 n9_81 d9_81 c9_81) (c := [(h0, .inr (2, [.ref a_scanner_h0, .ref a_draft_h0, .ref a_waiting_h0, .ref a_functions_h0, .ref (a9_81 0), .ref (a9_81 d9_81), .ref a_text_h0, .int r53, .int levels_h0, .int signs_h0, .int loops_h0, .int token_h0, .int fault_h0])), (a_waiting_h0, .inr (5, [.ref q57, .int r54])), ((a9_81 d9_81), .inr (0, [(frB a9_81 d9_81), (frA a9_81 n9_81 d9_81), .int kind_t, .int place_t, .int width_t, .int second_t, .int parts_t, .int innerParts_t, .int innerPlace_t, .int innerWidth_t, .int signs_t, .int waitingBelow_t, .int limited_t, .int f1_13_81, .int lastBlock_t])), (a_scanner_h0, .inr (4, [.ref a_text_a_scanner_h0, .int next_a_scanner_h0, .int kind_a_scanner_h0, .int start_a_scanner_h0, .int width_a_scanner_h0])), (q57, .inl (cI, r55, .inl r56))]) rfl) ?_
        refine j_norm (pc' := 204) (st' := [.int r52]) (ws' := ((a_draft_h0, .inr (1, [.ref q5, .int r2])) :: (q5, .inl (cI, r3, .inl r4)) :: (h0, .inr (2, [.ref a_scanner_h0, .ref a_draft_h0, .ref a_waiting_h0, .ref a_functions_h0, .ref (a9_81 0), .ref (a9_81 d9_81), .ref a_text_h0, .int r53, .int levels_h0, .int signs_h0, .int loops_h0, .int token_h0, .int fault_h0])) :: (a_waiting_h0, .inr (5, [.ref q57, .int r54])) :: ((a9_81 d9_81), .inr (0, [(frB a9_81 d9_81), (frA a9_81 n9_81 d9_81), .int kind_t, .int place_t, .int width_t, .int second_t, .int parts_t, .int innerParts_t, .int innerPlace_t, .int innerWidth_t, .int signs_t, .int waitingBelow_t, .int limited_t, .int f1_13_81, .int lastBlock_t])) :: (a_scanner_h0, .inr (4, [.ref a_text_a_scanner_h0, .int next_a_scanner_h0, .int kind_a_scanner_h0, .int start_a_scanner_h0, .int width_a_scanner_h0])) :: (q57, .inl (cI, r55, .inl r56)) :: fpo a9_81 n9_81 d9_81 c9_81)) (cl' := cl_81 + C6 + C59) (sl' := sl_81 + S7 + S60) rfl rfl rfl rfl rfl rfl ?_
        replace h := lf_s h
        obtain ⟨h, e1, e2⟩ := h
        replace h := Prod.mk.inj h
        obtain ⟨h9, h⟩ := h
        subst h9
        replace h := Prod.mk.inj h
        obtain ⟨h9, h⟩ := h
        subst h9
        replace h := Prod.mk.inj h
        obtain ⟨h9, h⟩ := h
        subst h9
        replace h := Prod.mk.inj h
        obtain ⟨h9, h⟩ := h
        subst h9
        replace h := Prod.mk.inj h
        obtain ⟨h9, h⟩ := h
        subst h9
        replace h := Prod.mk.inj h
        obtain ⟨h9, h⟩ := h
        subst h9
        replace h := Prod.mk.inj h
        obtain ⟨h9, h⟩ := h
        subst h9
        replace h := Prod.mk.inj h
        obtain ⟨h9, h⟩ := h
        subst h9
        replace h := Prod.mk.inj h
        obtain ⟨h9, h⟩ := h
        subst h9
        replace h := Prod.mk.inj h
        obtain ⟨h9, h⟩ := h
        subst h9
        replace h := Prod.mk.inj h
        obtain ⟨h9, h⟩ := h
        subst h9
        replace h := Prod.mk.inj h
        obtain ⟨h9, h⟩ := h
        subst h9
        replace h := Prod.mk.inj h
        obtain ⟨h9, h⟩ := h
        subst h9
        replace h := Prod.mk.inj h
        obtain ⟨h9, h⟩ := h
        subst h9
        replace h := Prod.mk.inj h
        obtain ⟨h9, h⟩ := h
        subst h9
        replace h := Prod.mk.inj h
        obtain ⟨h9, h⟩ := h
        subst h9
        replace h := Prod.mk.inj h
        obtain ⟨h9, h⟩ := h
        subst h9
        replace h := Prod.mk.inj h
        obtain ⟨h9, h⟩ := h
        subst h9
        replace h := Prod.mk.inj h
        obtain ⟨h9, h⟩ := h
        subst h9
        replace h := Prod.mk.inj h
        obtain ⟨h9, h⟩ := h
        subst h9
        replace h := Prod.mk.inj h
        obtain ⟨h9, h⟩ := h
        subst h9
        replace h := Prod.mk.inj h
        obtain ⟨h9, h⟩ := h
        subst h9
        replace h := Prod.mk.inj h
        obtain ⟨h9, h⟩ := h
        subst h9
        replace h := Prod.mk.inj h
        obtain ⟨h9, h⟩ := h
        subst h9
        replace h := Prod.mk.inj h
        obtain ⟨h9, h⟩ := h
        subst h9
        subst h
        refine j_widen (cl' := mc) (sl' := ms) (by omega) (by omega) ?_
        refine j_subP (w := [(h0, .inr (2, [.ref a_scanner_h0, .ref a_draft_h0, .ref a_waiting_h0, .ref a_functions_h0, .ref (a9_81 0), .ref (a9_81 d9_81), .ref a_text_h0, .int r53, .int levels_h0, .int signs_h0, .int loops_h0, .int token_h0, .int fault_h0])), ((a9_81 d9_81), .inr (0, [(frB a9_81 d9_81), (frA a9_81 n9_81 d9_81), .int kind_t, .int place_t, .int width_t, .int second_t, .int parts_t, .int innerParts_t, .int innerPlace_t, .int innerWidth_t, .int signs_t, .int waitingBelow_t, .int limited_t, .int f1_13_81, .int lastBlock_t])), (a_scanner_h0, .inr (4, [.ref a_text_a_scanner_h0, .int next_a_scanner_h0, .int kind_a_scanner_h0, .int start_a_scanner_h0, .int width_a_scanner_h0])), (a_draft_h0, .inr (1, [.ref q5, .int r2])), (a_waiting_h0, .inr (5, [.ref q57, .int r54])), (q5, .inl (cI, r3, .inl r4)), (q57, .inl (cI, r55, .inl r56))]) (pl := fpo a9_81 n9_81 d9_81 c9_81) (lv' := []) [2, 4, 5, 0, 3, 1, 6] [] 7 rfl rfl (by decide) [] rfl ?_
        exact j_zretE hr (zb_n z58) d_Rd_takeOperator_204 ⟨a9_81, q5, q57, rfl, z58, rfl⟩
      · replace h := it_f c51 h
        by_cases c64 : token_h0 = 59
        · replace h := it_t c64 h
          refine j_look (tgt := 153) (off := 65) d_Rd_takeOperator_88 (by decide) (by rw [c64]; decide) (by decide) ?_
          refine j_aload_n d_Rd_takeOperator_153 rfl 1 rfl ?_
          replace h := bw_s h
          obtain ⟨⟨r65, r66, r67, r68, r69, r70, r71, r72, r73, r74, r75, r76, r77, r78, r79, r80, r81, r82, r83, r84, r85, r86⟩, C90, S91, C92, S93, k94, h, e1, e2⟩ := h
          replace hC : cl_81 + C6 + C90 + C92 ≤ mc := by omega
          replace hS : sl_81 + S7 + S91 + S93 ≤ ms := by omega
          clear e1 e2
          refine j_callVg (n := 0) (As := []) (rest := []) (wr := [(a_scanner_h0, .inr (4, [.ref a_text_a_scanner_h0, .int next_a_scanner_h0, .int kind_a_scanner_h0, .int start_a_scanner_h0, .int width_a_scanner_h0])), (a_waiting_h0, .inr (5, [.ref a_cells_a_waiting_h0, .int r1])), (a_cells_a_waiting_h0, .inl (cI, n_a_cells_a_waiting_h0, .inl b_a_cells_a_waiting_h0))]) (c_Rd_takeSemicolon l D cI cB cJ cS h0 a9_81 a_scanner_h0 a_draft_h0 a_waiting_h0 a_functions_h0 a_text_h0 q5 n9_81 d9_81 c9_81 mode_h0 levels_h0 signs_h0 loops_h0 token_h0 fault_h0 kind_t place_t width_t second_t parts_t innerParts_t innerPlace_t innerWidth_t signs_t waitingBelow_t limited_t f1_13_81 lastBlock_t r2 r3 r4  r65 r66 r67 r68 r69 r70 r71 r72 r73 r74 r75 r76 r77 r78 r79 r80 r81 r82 r83 r84 r85 r86 C90 S91 k94) k_Rd_354 (by decide) ⟨Nat.le_of_ble_eq_true rfl, Nat.le_of_ble_eq_true rfl⟩ rfl 0 rfl (pk_app (wr := [(a_scanner_h0, .inr (4, [.ref a_text_a_scanner_h0, .int next_a_scanner_h0, .int kind_a_scanner_h0, .int start_a_scanner_h0, .int width_a_scanner_h0])), (a_waiting_h0, .inr (5, [.ref a_cells_a_waiting_h0, .int r1])), (a_cells_a_waiting_h0, .inl (cI, n_a_cells_a_waiting_h0, .inl b_a_cells_a_waiting_h0))]) (w0 := [(h0, .inr (2, [.ref a_scanner_h0, .ref a_draft_h0, .ref a_waiting_h0, .ref a_functions_h0, .ref (a9_81 0), .ref (a9_81 d9_81), .ref a_text_h0, .int mode_h0, .int levels_h0, .int signs_h0, .int loops_h0, .int token_h0, .int fault_h0])), ((a9_81 d9_81), .inr (0, [(frB a9_81 d9_81), (frA a9_81 n9_81 d9_81), .int kind_t, .int place_t, .int width_t, .int second_t, .int parts_t, .int innerParts_t, .int innerPlace_t, .int innerWidth_t, .int signs_t, .int waitingBelow_t, .int limited_t, .int f1_13_81, .int lastBlock_t])), (a_draft_h0, .inr (1, [.ref q5, .int r2])), (q5, .inl (cI, r3, .inl r4))]) (pl := fpo a9_81 n9_81 d9_81 c9_81) [0, 2, 4, 1, 3, 5, 6] 7 rfl rfl rfl (by decide)) rfl rfl (Nat.le_of_ble_eq_true rfl) d_Rd_takeOperator_154 ⟨show cl_81 + C6 + C90 ≤ mc by omega, show sl_81 + S7 + S91 ≤ ms by omega⟩ (fun v w hq => ?_)
          obtain ⟨a87, q88, rfl, z89, rfl⟩ := hq
          refine j_norm (pc' := 157) (st' := [.int r68]) (ws' := ((a_scanner_h0, .inr (4, [.ref a_text_a_scanner_h0, .int next_a_scanner_h0, .int kind_a_scanner_h0, .int start_a_scanner_h0, .int width_a_scanner_h0])) :: (a_waiting_h0, .inr (5, [.ref a_cells_a_waiting_h0, .int r1])) :: (a_cells_a_waiting_h0, .inl (cI, n_a_cells_a_waiting_h0, .inl b_a_cells_a_waiting_h0)) :: (h0, .inr (2, [.ref a_scanner_h0, .ref a_draft_h0, .ref a_waiting_h0, .ref a_functions_h0, .ref (a87 0), .ref (a87 r66), .ref a_text_h0, .int r69, .int levels_h0, .int r70, .int loops_h0, .int token_h0, .int fault_h0])) :: ((a87 r66), .inr (0, [(frB a87 r66), (frA a87 r65 r66), .int r71, .int r72, .int r73, .int r74, .int r75, .int r76, .int r77, .int r78, .int r79, .int r80, .int r81, .int r82, .int r83])) :: (a_draft_h0, .inr (1, [.ref q88, .int r84])) :: (q88, .inl (cI, r85, .inl r86)) :: fpo a87 r65 r66 r67)) (cl' := cl_81 + C6 + C90) (sl' := sl_81 + S7 + S91) rfl rfl rfl rfl rfl rfl ?_
          replace h := lf_s h
          obtain ⟨h, e1, e2⟩ := h
          replace h := Prod.mk.inj h
          obtain ⟨h9, h⟩ := h
          subst h9
          replace h := Prod.mk.inj h
          obtain ⟨h9, h⟩ := h
          subst h9
          replace h := Prod.mk.inj h
          obtain ⟨h9, h⟩ := h
          subst h9
          replace h := Prod.mk.inj h
          obtain ⟨h9, h⟩ := h
          subst h9
          replace h := Prod.mk.inj h
          obtain ⟨h9, h⟩ := h
          subst h9
          replace h := Prod.mk.inj h
          obtain ⟨h9, h⟩ := h
          subst h9
          replace h := Prod.mk.inj h
          obtain ⟨h9, h⟩ := h
          subst h9
          replace h := Prod.mk.inj h
          obtain ⟨h9, h⟩ := h
          subst h9
          replace h := Prod.mk.inj h
          obtain ⟨h9, h⟩ := h
          subst h9
          replace h := Prod.mk.inj h
          obtain ⟨h9, h⟩ := h
          subst h9
          replace h := Prod.mk.inj h
          obtain ⟨h9, h⟩ := h
          subst h9
          replace h := Prod.mk.inj h
          obtain ⟨h9, h⟩ := h
          subst h9
          replace h := Prod.mk.inj h
          obtain ⟨h9, h⟩ := h
          subst h9
          replace h := Prod.mk.inj h
          obtain ⟨h9, h⟩ := h
          subst h9
          replace h := Prod.mk.inj h
          obtain ⟨h9, h⟩ := h
          subst h9
          replace h := Prod.mk.inj h
          obtain ⟨h9, h⟩ := h
          subst h9
          replace h := Prod.mk.inj h
          obtain ⟨h9, h⟩ := h
          subst h9
          replace h := Prod.mk.inj h
          obtain ⟨h9, h⟩ := h
          subst h9
          replace h := Prod.mk.inj h
          obtain ⟨h9, h⟩ := h
          subst h9
          replace h := Prod.mk.inj h
          obtain ⟨h9, h⟩ := h
          subst h9
          replace h := Prod.mk.inj h
          obtain ⟨h9, h⟩ := h
          subst h9
          replace h := Prod.mk.inj h
          obtain ⟨h9, h⟩ := h
          subst h9
          replace h := Prod.mk.inj h
          obtain ⟨h9, h⟩ := h
          subst h9
          replace h := Prod.mk.inj h
          obtain ⟨h9, h⟩ := h
          subst h9
          replace h := Prod.mk.inj h
          obtain ⟨h9, h⟩ := h
          subst h9
          subst h
          refine j_widen (cl' := mc) (sl' := ms) (by omega) (by omega) ?_
          refine j_subP (w := [(h0, .inr (2, [.ref a_scanner_h0, .ref a_draft_h0, .ref a_waiting_h0, .ref a_functions_h0, .ref (a87 0), .ref (a87 r66), .ref a_text_h0, .int r69, .int levels_h0, .int r70, .int loops_h0, .int token_h0, .int fault_h0])), ((a87 r66), .inr (0, [(frB a87 r66), (frA a87 r65 r66), .int r71, .int r72, .int r73, .int r74, .int r75, .int r76, .int r77, .int r78, .int r79, .int r80, .int r81, .int r82, .int r83])), (a_scanner_h0, .inr (4, [.ref a_text_a_scanner_h0, .int next_a_scanner_h0, .int kind_a_scanner_h0, .int start_a_scanner_h0, .int width_a_scanner_h0])), (a_draft_h0, .inr (1, [.ref q88, .int r84])), (a_waiting_h0, .inr (5, [.ref a_cells_a_waiting_h0, .int r1])), (q88, .inl (cI, r85, .inl r86)), (a_cells_a_waiting_h0, .inl (cI, n_a_cells_a_waiting_h0, .inl b_a_cells_a_waiting_h0))]) (pl := fpo a87 r65 r66 r67) (lv' := []) [3, 4, 0, 5, 1, 6, 2] [] 7 rfl rfl (by decide) [] rfl ?_
          exact j_zretE hr (zb_n z89) d_Rd_takeOperator_157 ⟨a87, q88, a_cells_a_waiting_h0, rfl, z89, rfl⟩
        · replace h := it_f c64 h
          by_cases c95 : token_h0 = 61
          · replace h := it_t c95 h
            refine j_look (tgt := 195) (off := 107) d_Rd_takeOperator_88 (by decide) (by rw [c95]; decide) (by decide) ?_
            refine j_aload_n d_Rd_takeOperator_195 rfl 1 rfl ?_
            replace h := bd_s h
            obtain ⟨⟨r96, r97, r98, r99, r100, r101⟩, k103, h⟩ := h
            refine j_callVg (n := 0) (As := []) (rest := []) (wr := ([(a_waiting_h0, .inr (5, [.ref a_cells_a_waiting_h0, .int r1])), (a_cells_a_waiting_h0, .inl (cI, n_a_cells_a_waiting_h0, .inl b_a_cells_a_waiting_h0))] ++ fpo a9_81 n9_81 d9_81 c9_81)) (c_Rd_takeEquals l D cI cB cJ cS h0 a_scanner_h0 a_draft_h0 a_waiting_h0 a_functions_h0 (a9_81 0) (a9_81 d9_81) a_text_h0 q5 (frB a9_81 d9_81) (frA a9_81 n9_81 d9_81) a_text_a_scanner_h0 mode_h0 levels_h0 signs_h0 loops_h0 token_h0 fault_h0 r2 r3 r4 kind_t place_t width_t second_t parts_t innerParts_t innerPlace_t innerWidth_t signs_t waitingBelow_t limited_t f1_13_81 lastBlock_t next_a_scanner_h0 kind_a_scanner_h0 start_a_scanner_h0 width_a_scanner_h0  r96 r97 r98 r99 r100 r101 k103) k_Rd_363 (by decide) ⟨Nat.le_of_ble_eq_true rfl, Nat.le_of_ble_eq_true rfl⟩ rfl 0 rfl (pk_mid (wr := [(a_waiting_h0, .inr (5, [.ref a_cells_a_waiting_h0, .int r1])), (a_cells_a_waiting_h0, .inl (cI, n_a_cells_a_waiting_h0, .inl b_a_cells_a_waiting_h0))]) (w0 := [(h0, .inr (2, [.ref a_scanner_h0, .ref a_draft_h0, .ref a_waiting_h0, .ref a_functions_h0, .ref (a9_81 0), .ref (a9_81 d9_81), .ref a_text_h0, .int mode_h0, .int levels_h0, .int signs_h0, .int loops_h0, .int token_h0, .int fault_h0])), (a_draft_h0, .inr (1, [.ref q5, .int r2])), (q5, .inl (cI, r3, .inl r4)), ((a9_81 d9_81), .inr (0, [(frB a9_81 d9_81), (frA a9_81 n9_81 d9_81), .int kind_t, .int place_t, .int width_t, .int second_t, .int parts_t, .int innerParts_t, .int innerPlace_t, .int innerWidth_t, .int signs_t, .int waitingBelow_t, .int limited_t, .int f1_13_81, .int lastBlock_t])), (a_scanner_h0, .inr (4, [.ref a_text_a_scanner_h0, .int next_a_scanner_h0, .int kind_a_scanner_h0, .int start_a_scanner_h0, .int width_a_scanner_h0]))]) (pl := fpo a9_81 n9_81 d9_81 c9_81) [2, 4, 1, 5, 6, 3, 0] 7 rfl rfl (by decide)) rfl rfl (Nat.le_of_ble_eq_true rfl) d_Rd_takeOperator_196 ⟨show cl_81 + C6 + 0 ≤ mc by omega, show sl_81 + S7 + 0 ≤ ms by omega⟩ (fun v w hq => ?_)
            obtain ⟨rfl, z102, rfl⟩ := hq
            refine j_perm (ws' := ((a_waiting_h0, .inr (5, [.ref a_cells_a_waiting_h0, .int r1])) :: (a_cells_a_waiting_h0, .inl (cI, n_a_cells_a_waiting_h0, .inl b_a_cells_a_waiting_h0)) :: (h0, .inr (2, [.ref a_scanner_h0, .ref a_draft_h0, .ref a_waiting_h0, .ref a_functions_h0, .ref (a9_81 0), .ref (a9_81 d9_81), .ref a_text_h0, .int r97, .int levels_h0, .int signs_h0, .int loops_h0, .int token_h0, .int fault_h0])) :: (a_draft_h0, .inr (1, [.ref q5, .int r2])) :: (q5, .inl (cI, r3, .inl r4)) :: ((a9_81 d9_81), .inr (0, [(frB a9_81 d9_81), (frA a9_81 n9_81 d9_81), .int r98, .int r99, .int r100, .int r101, .int parts_t, .int innerParts_t, .int innerPlace_t, .int innerWidth_t, .int signs_t, .int waitingBelow_t, .int limited_t, .int f1_13_81, .int lastBlock_t])) :: (a_scanner_h0, .inr (4, [.ref a_text_a_scanner_h0, .int next_a_scanner_h0, .int kind_a_scanner_h0, .int start_a_scanner_h0, .int width_a_scanner_h0])) :: fpo a9_81 n9_81 d9_81 c9_81)) (pm_eq (a := [(a_waiting_h0, .inr (5, [.ref a_cells_a_waiting_h0, .int r1])), (a_cells_a_waiting_h0, .inl (cI, n_a_cells_a_waiting_h0, .inl b_a_cells_a_waiting_h0))]) (b := fpo a9_81 n9_81 d9_81 c9_81) (c := [(h0, .inr (2, [.ref a_scanner_h0, .ref a_draft_h0, .ref a_waiting_h0, .ref a_functions_h0, .ref (a9_81 0), .ref (a9_81 d9_81), .ref a_text_h0, .int r97, .int levels_h0, .int signs_h0, .int loops_h0, .int token_h0, .int fault_h0])), (a_draft_h0, .inr (1, [.ref q5, .int r2])), (q5, .inl (cI, r3, .inl r4)), ((a9_81 d9_81), .inr (0, [(frB a9_81 d9_81), (frA a9_81 n9_81 d9_81), .int r98, .int r99, .int r100, .int r101, .int parts_t, .int innerParts_t, .int innerPlace_t, .int innerWidth_t, .int signs_t, .int waitingBelow_t, .int limited_t, .int f1_13_81, .int lastBlock_t])), (a_scanner_h0, .inr (4, [.ref a_text_a_scanner_h0, .int next_a_scanner_h0, .int kind_a_scanner_h0, .int start_a_scanner_h0, .int width_a_scanner_h0]))]) rfl) ?_
            refine j_norm (pc' := 199) (st' := [.int r96]) (ws' := ((a_waiting_h0, .inr (5, [.ref a_cells_a_waiting_h0, .int r1])) :: (a_cells_a_waiting_h0, .inl (cI, n_a_cells_a_waiting_h0, .inl b_a_cells_a_waiting_h0)) :: (h0, .inr (2, [.ref a_scanner_h0, .ref a_draft_h0, .ref a_waiting_h0, .ref a_functions_h0, .ref (a9_81 0), .ref (a9_81 d9_81), .ref a_text_h0, .int r97, .int levels_h0, .int signs_h0, .int loops_h0, .int token_h0, .int fault_h0])) :: (a_draft_h0, .inr (1, [.ref q5, .int r2])) :: (q5, .inl (cI, r3, .inl r4)) :: ((a9_81 d9_81), .inr (0, [(frB a9_81 d9_81), (frA a9_81 n9_81 d9_81), .int r98, .int r99, .int r100, .int r101, .int parts_t, .int innerParts_t, .int innerPlace_t, .int innerWidth_t, .int signs_t, .int waitingBelow_t, .int limited_t, .int f1_13_81, .int lastBlock_t])) :: (a_scanner_h0, .inr (4, [.ref a_text_a_scanner_h0, .int next_a_scanner_h0, .int kind_a_scanner_h0, .int start_a_scanner_h0, .int width_a_scanner_h0])) :: fpo a9_81 n9_81 d9_81 c9_81)) (cl' := cl_81 + C6) (sl' := sl_81 + S7) rfl rfl rfl rfl rfl rfl ?_
            replace h := lf_s h
            obtain ⟨h, e1, e2⟩ := h
            replace h := Prod.mk.inj h
            obtain ⟨h9, h⟩ := h
            subst h9
            replace h := Prod.mk.inj h
            obtain ⟨h9, h⟩ := h
            subst h9
            replace h := Prod.mk.inj h
            obtain ⟨h9, h⟩ := h
            subst h9
            replace h := Prod.mk.inj h
            obtain ⟨h9, h⟩ := h
            subst h9
            replace h := Prod.mk.inj h
            obtain ⟨h9, h⟩ := h
            subst h9
            replace h := Prod.mk.inj h
            obtain ⟨h9, h⟩ := h
            subst h9
            replace h := Prod.mk.inj h
            obtain ⟨h9, h⟩ := h
            subst h9
            replace h := Prod.mk.inj h
            obtain ⟨h9, h⟩ := h
            subst h9
            replace h := Prod.mk.inj h
            obtain ⟨h9, h⟩ := h
            subst h9
            replace h := Prod.mk.inj h
            obtain ⟨h9, h⟩ := h
            subst h9
            replace h := Prod.mk.inj h
            obtain ⟨h9, h⟩ := h
            subst h9
            replace h := Prod.mk.inj h
            obtain ⟨h9, h⟩ := h
            subst h9
            replace h := Prod.mk.inj h
            obtain ⟨h9, h⟩ := h
            subst h9
            replace h := Prod.mk.inj h
            obtain ⟨h9, h⟩ := h
            subst h9
            replace h := Prod.mk.inj h
            obtain ⟨h9, h⟩ := h
            subst h9
            replace h := Prod.mk.inj h
            obtain ⟨h9, h⟩ := h
            subst h9
            replace h := Prod.mk.inj h
            obtain ⟨h9, h⟩ := h
            subst h9
            replace h := Prod.mk.inj h
            obtain ⟨h9, h⟩ := h
            subst h9
            replace h := Prod.mk.inj h
            obtain ⟨h9, h⟩ := h
            subst h9
            replace h := Prod.mk.inj h
            obtain ⟨h9, h⟩ := h
            subst h9
            replace h := Prod.mk.inj h
            obtain ⟨h9, h⟩ := h
            subst h9
            replace h := Prod.mk.inj h
            obtain ⟨h9, h⟩ := h
            subst h9
            replace h := Prod.mk.inj h
            obtain ⟨h9, h⟩ := h
            subst h9
            replace h := Prod.mk.inj h
            obtain ⟨h9, h⟩ := h
            subst h9
            replace h := Prod.mk.inj h
            obtain ⟨h9, h⟩ := h
            subst h9
            subst h
            refine j_widen (cl' := mc) (sl' := ms) (by omega) (by omega) ?_
            refine j_subP (w := [(h0, .inr (2, [.ref a_scanner_h0, .ref a_draft_h0, .ref a_waiting_h0, .ref a_functions_h0, .ref (a9_81 0), .ref (a9_81 d9_81), .ref a_text_h0, .int r97, .int levels_h0, .int signs_h0, .int loops_h0, .int token_h0, .int fault_h0])), ((a9_81 d9_81), .inr (0, [(frB a9_81 d9_81), (frA a9_81 n9_81 d9_81), .int r98, .int r99, .int r100, .int r101, .int parts_t, .int innerParts_t, .int innerPlace_t, .int innerWidth_t, .int signs_t, .int waitingBelow_t, .int limited_t, .int f1_13_81, .int lastBlock_t])), (a_scanner_h0, .inr (4, [.ref a_text_a_scanner_h0, .int next_a_scanner_h0, .int kind_a_scanner_h0, .int start_a_scanner_h0, .int width_a_scanner_h0])), (a_draft_h0, .inr (1, [.ref q5, .int r2])), (a_waiting_h0, .inr (5, [.ref a_cells_a_waiting_h0, .int r1])), (q5, .inl (cI, r3, .inl r4)), (a_cells_a_waiting_h0, .inl (cI, n_a_cells_a_waiting_h0, .inl b_a_cells_a_waiting_h0))]) (pl := fpo a9_81 n9_81 d9_81 c9_81) (lv' := []) [2, 5, 6, 3, 0, 4, 1] [] 7 rfl rfl (by decide) [] rfl ?_
            exact j_zretE hr (zb_n z102) d_Rd_takeOperator_199 ⟨a9_81, q5, a_cells_a_waiting_h0, rfl, z102, rfl⟩
          · replace h := it_f c95 h
            by_cases c104 : token_h0 = 93
            · replace h := it_t c104 h
              refine j_look (tgt := 163) (off := 75) d_Rd_takeOperator_88 (by decide) (by rw [c104]; decide) (by decide) ?_
              refine j_aload_n d_Rd_takeOperator_163 rfl 1 rfl ?_
              refine j_get ig_Rd rfl 1 rfl 5 (by decide) rfl m_174 rfl d_Rd_takeOperator_164 ?_
              refine j_get ig_Fr rfl 3 rfl 2 (by decide) rfl m_111 rfl d_Rd_takeOperator_167 ?_
              refine j_bipush (v := 36) d_Rd_takeOperator_170 (by decide) ?_
              refine j_icmp_ne (tgt := 193) d_Rd_takeOperator_172 (by decide) (fun c105 => ?_) (fun c105 => ?_)
              · replace h := it_f c105 h
                refine j_iconst (v := 0) d_Rd_takeOperator_193 (by decide) ?_
                replace h := lf_s h
                obtain ⟨h, e1, e2⟩ := h
                replace h := Prod.mk.inj h
                obtain ⟨h9, h⟩ := h
                subst h9
                replace h := Prod.mk.inj h
                obtain ⟨h9, h⟩ := h
                subst h9
                replace h := Prod.mk.inj h
                obtain ⟨h9, h⟩ := h
                subst h9
                replace h := Prod.mk.inj h
                obtain ⟨h9, h⟩ := h
                subst h9
                replace h := Prod.mk.inj h
                obtain ⟨h9, h⟩ := h
                subst h9
                replace h := Prod.mk.inj h
                obtain ⟨h9, h⟩ := h
                subst h9
                replace h := Prod.mk.inj h
                obtain ⟨h9, h⟩ := h
                subst h9
                replace h := Prod.mk.inj h
                obtain ⟨h9, h⟩ := h
                subst h9
                replace h := Prod.mk.inj h
                obtain ⟨h9, h⟩ := h
                subst h9
                replace h := Prod.mk.inj h
                obtain ⟨h9, h⟩ := h
                subst h9
                replace h := Prod.mk.inj h
                obtain ⟨h9, h⟩ := h
                subst h9
                replace h := Prod.mk.inj h
                obtain ⟨h9, h⟩ := h
                subst h9
                replace h := Prod.mk.inj h
                obtain ⟨h9, h⟩ := h
                subst h9
                replace h := Prod.mk.inj h
                obtain ⟨h9, h⟩ := h
                subst h9
                replace h := Prod.mk.inj h
                obtain ⟨h9, h⟩ := h
                subst h9
                replace h := Prod.mk.inj h
                obtain ⟨h9, h⟩ := h
                subst h9
                replace h := Prod.mk.inj h
                obtain ⟨h9, h⟩ := h
                subst h9
                replace h := Prod.mk.inj h
                obtain ⟨h9, h⟩ := h
                subst h9
                replace h := Prod.mk.inj h
                obtain ⟨h9, h⟩ := h
                subst h9
                replace h := Prod.mk.inj h
                obtain ⟨h9, h⟩ := h
                subst h9
                replace h := Prod.mk.inj h
                obtain ⟨h9, h⟩ := h
                subst h9
                replace h := Prod.mk.inj h
                obtain ⟨h9, h⟩ := h
                subst h9
                replace h := Prod.mk.inj h
                obtain ⟨h9, h⟩ := h
                subst h9
                replace h := Prod.mk.inj h
                obtain ⟨h9, h⟩ := h
                subst h9
                replace h := Prod.mk.inj h
                obtain ⟨h9, h⟩ := h
                subst h9
                subst h
                refine j_widen (cl' := mc) (sl' := ms) (by omega) (by omega) ?_
                refine j_subP (w := [(h0, .inr (2, [.ref a_scanner_h0, .ref a_draft_h0, .ref a_waiting_h0, .ref a_functions_h0, .ref (a9_81 0), .ref (a9_81 d9_81), .ref a_text_h0, .int mode_h0, .int levels_h0, .int signs_h0, .int loops_h0, .int token_h0, .int fault_h0])), ((a9_81 d9_81), .inr (0, [(frB a9_81 d9_81), (frA a9_81 n9_81 d9_81), .int kind_t, .int place_t, .int width_t, .int second_t, .int parts_t, .int innerParts_t, .int innerPlace_t, .int innerWidth_t, .int signs_t, .int waitingBelow_t, .int limited_t, .int f1_13_81, .int lastBlock_t])), (a_scanner_h0, .inr (4, [.ref a_text_a_scanner_h0, .int next_a_scanner_h0, .int kind_a_scanner_h0, .int start_a_scanner_h0, .int width_a_scanner_h0])), (a_draft_h0, .inr (1, [.ref q5, .int r2])), (a_waiting_h0, .inr (5, [.ref a_cells_a_waiting_h0, .int r1])), (q5, .inl (cI, r3, .inl r4)), (a_cells_a_waiting_h0, .inl (cI, n_a_cells_a_waiting_h0, .inl b_a_cells_a_waiting_h0))]) (pl := fpo a9_81 n9_81 d9_81 c9_81) (lv' := []) [1, 3, 0, 5, 2, 6, 4] [] 7 rfl rfl (by decide) [] rfl ?_
                exact j_zretE hr (zb_n zb0) d_Rd_takeOperator_194 ⟨a9_81, q5, a_cells_a_waiting_h0, rfl, zb0, rfl⟩
              · replace h := it_t c105 h
                refine j_aload_n d_Rd_takeOperator_175 rfl 1 rfl ?_
                replace h := bw_s h
                obtain ⟨⟨r106, r107, r108⟩, C110, S111, C112, S113, k114, h, e1, e2⟩ := h
                replace hC : cl_81 + C6 + C110 + C112 ≤ mc := by omega
                replace hS : sl_81 + S7 + S111 + S113 ≤ ms := by omega
                clear e1 e2
                refine j_callVg (n := 0) (As := []) (rest := []) (wr := ([(a_scanner_h0, .inr (4, [.ref a_text_a_scanner_h0, .int next_a_scanner_h0, .int kind_a_scanner_h0, .int start_a_scanner_h0, .int width_a_scanner_h0])), (a_waiting_h0, .inr (5, [.ref a_cells_a_waiting_h0, .int r1])), (a_cells_a_waiting_h0, .inl (cI, n_a_cells_a_waiting_h0, .inl b_a_cells_a_waiting_h0))] ++ fpo a9_81 n9_81 d9_81 c9_81)) (c_Rd_endRow l D cI cB cJ cS h0 a_scanner_h0 a_draft_h0 a_waiting_h0 a_functions_h0 (a9_81 0) (a9_81 d9_81) a_text_h0 (frB a9_81 d9_81) (frA a9_81 n9_81 d9_81) q5 mode_h0 levels_h0 signs_h0 loops_h0 token_h0 fault_h0 kind_t place_t width_t second_t parts_t innerParts_t innerPlace_t innerWidth_t signs_t waitingBelow_t limited_t f1_13_81 lastBlock_t r2 r3 r4  r106 r107 r108 C110 S111 k114) k_Rd_360 (by decide) ⟨Nat.le_of_ble_eq_true rfl, Nat.le_of_ble_eq_true rfl⟩ rfl 0 rfl (pk_mid (wr := [(a_scanner_h0, .inr (4, [.ref a_text_a_scanner_h0, .int next_a_scanner_h0, .int kind_a_scanner_h0, .int start_a_scanner_h0, .int width_a_scanner_h0])), (a_waiting_h0, .inr (5, [.ref a_cells_a_waiting_h0, .int r1])), (a_cells_a_waiting_h0, .inl (cI, n_a_cells_a_waiting_h0, .inl b_a_cells_a_waiting_h0))]) (w0 := [(h0, .inr (2, [.ref a_scanner_h0, .ref a_draft_h0, .ref a_waiting_h0, .ref a_functions_h0, .ref (a9_81 0), .ref (a9_81 d9_81), .ref a_text_h0, .int mode_h0, .int levels_h0, .int signs_h0, .int loops_h0, .int token_h0, .int fault_h0])), ((a9_81 d9_81), .inr (0, [(frB a9_81 d9_81), (frA a9_81 n9_81 d9_81), .int kind_t, .int place_t, .int width_t, .int second_t, .int parts_t, .int innerParts_t, .int innerPlace_t, .int innerWidth_t, .int signs_t, .int waitingBelow_t, .int limited_t, .int f1_13_81, .int lastBlock_t])), (a_draft_h0, .inr (1, [.ref q5, .int r2])), (q5, .inl (cI, r3, .inl r4))]) (pl := fpo a9_81 n9_81 d9_81 c9_81) [0, 2, 4, 1, 3, 5, 6] 7 rfl rfl (by decide)) rfl rfl (Nat.le_of_ble_eq_true rfl) d_Rd_takeOperator_176 ⟨show cl_81 + C6 + C110 ≤ mc by omega, show sl_81 + S7 + S111 ≤ ms by omega⟩ (fun v w hq => ?_)
                obtain ⟨q109, rfl, _, rfl⟩ := hq
                refine j_perm (ws' := ((a_scanner_h0, .inr (4, [.ref a_text_a_scanner_h0, .int next_a_scanner_h0, .int kind_a_scanner_h0, .int start_a_scanner_h0, .int width_a_scanner_h0])) :: (a_waiting_h0, .inr (5, [.ref a_cells_a_waiting_h0, .int r1])) :: (a_cells_a_waiting_h0, .inl (cI, n_a_cells_a_waiting_h0, .inl b_a_cells_a_waiting_h0)) :: (h0, .inr (2, [.ref a_scanner_h0, .ref a_draft_h0, .ref a_waiting_h0, .ref a_functions_h0, .ref (a9_81 0), .ref (a9_81 d9_81), .ref a_text_h0, .int mode_h0, .int levels_h0, .int signs_h0, .int loops_h0, .int token_h0, .int fault_h0])) :: ((a9_81 d9_81), .inr (0, [(frB a9_81 d9_81), (frA a9_81 n9_81 d9_81), .int kind_t, .int place_t, .int width_t, .int second_t, .int (parts_t + 1), .int 0, .int innerPlace_t, .int innerWidth_t, .int signs_t, .int waitingBelow_t, .int limited_t, .int f1_13_81, .int lastBlock_t])) :: (a_draft_h0, .inr (1, [.ref q109, .int r106])) :: (q109, .inl (cI, r107, .inl r108)) :: fpo a9_81 n9_81 d9_81 c9_81)) (pm_eq (a := [(a_scanner_h0, .inr (4, [.ref a_text_a_scanner_h0, .int next_a_scanner_h0, .int kind_a_scanner_h0, .int start_a_scanner_h0, .int width_a_scanner_h0])), (a_waiting_h0, .inr (5, [.ref a_cells_a_waiting_h0, .int r1])), (a_cells_a_waiting_h0, .inl (cI, n_a_cells_a_waiting_h0, .inl b_a_cells_a_waiting_h0))]) (b := fpo a9_81 n9_81 d9_81 c9_81) (c := [(h0, .inr (2, [.ref a_scanner_h0, .ref a_draft_h0, .ref a_waiting_h0, .ref a_functions_h0, .ref (a9_81 0), .ref (a9_81 d9_81), .ref a_text_h0, .int mode_h0, .int levels_h0, .int signs_h0, .int loops_h0, .int token_h0, .int fault_h0])), ((a9_81 d9_81), .inr (0, [(frB a9_81 d9_81), (frA a9_81 n9_81 d9_81), .int kind_t, .int place_t, .int width_t, .int second_t, .int (parts_t + 1), .int 0, .int innerPlace_t, .int innerWidth_t, .int signs_t, .int waitingBelow_t, .int limited_t, .int f1_13_81, .int lastBlock_t])), (a_draft_h0, .inr (1, [.ref q109, .int r106])), (q109, .inl (cI, r107, .inl r108))]) rfl) ?_
                refine j_norm (pc' := 179) (st' := [.int 1]) (ws' := ((a_scanner_h0, .inr (4, [.ref a_text_a_scanner_h0, .int next_a_scanner_h0, .int kind_a_scanner_h0, .int start_a_scanner_h0, .int width_a_scanner_h0])) :: (a_waiting_h0, .inr (5, [.ref a_cells_a_waiting_h0, .int r1])) :: (a_cells_a_waiting_h0, .inl (cI, n_a_cells_a_waiting_h0, .inl b_a_cells_a_waiting_h0)) :: (h0, .inr (2, [.ref a_scanner_h0, .ref a_draft_h0, .ref a_waiting_h0, .ref a_functions_h0, .ref (a9_81 0), .ref (a9_81 d9_81), .ref a_text_h0, .int mode_h0, .int levels_h0, .int signs_h0, .int loops_h0, .int token_h0, .int fault_h0])) :: ((a9_81 d9_81), .inr (0, [(frB a9_81 d9_81), (frA a9_81 n9_81 d9_81), .int kind_t, .int place_t, .int width_t, .int second_t, .int (parts_t + 1), .int 0, .int innerPlace_t, .int innerWidth_t, .int signs_t, .int waitingBelow_t, .int limited_t, .int f1_13_81, .int lastBlock_t])) :: (a_draft_h0, .inr (1, [.ref q109, .int r106])) :: (q109, .inl (cI, r107, .inl r108)) :: fpo a9_81 n9_81 d9_81 c9_81)) (cl' := cl_81 + C6 + C110) (sl' := sl_81 + S7 + S111) rfl rfl rfl rfl rfl rfl ?_
                refine j_if_eq (tgt := 193) d_Rd_takeOperator_179 (by decide) (fun c115 => absurd c115 (by decide)) (fun c115 => ?_)
                refine j_aload_n d_Rd_takeOperator_182 rfl 1 rfl ?_
                replace h := bw_s h
                obtain ⟨⟨r116, r117, r118, r119, r120, r121, r122, r123, r124, r125, r126, r127, r128, r129, r130, r131, r132, r133, r134, r135⟩, C138, S139, C140, S141, k142, h, e1, e2⟩ := h
                replace hC : cl_81 + C6 + C110 + C138 + C140 ≤ mc := by omega
                replace hS : sl_81 + S7 + S111 + S139 + S141 ≤ ms := by omega
                clear e1 e2
                refine j_callVg (n := 0) (As := []) (rest := []) (wr := [(a_scanner_h0, .inr (4, [.ref a_text_a_scanner_h0, .int next_a_scanner_h0, .int kind_a_scanner_h0, .int start_a_scanner_h0, .int width_a_scanner_h0])), (a_waiting_h0, .inr (5, [.ref a_cells_a_waiting_h0, .int r1])), (a_cells_a_waiting_h0, .inl (cI, n_a_cells_a_waiting_h0, .inl b_a_cells_a_waiting_h0))]) (c_Rd_closeRows l D cI cB cJ cS h0 a9_81 a_scanner_h0 a_draft_h0 a_waiting_h0 a_functions_h0 a_text_h0 q109 n9_81 d9_81 c9_81 mode_h0 levels_h0 signs_h0 loops_h0 token_h0 fault_h0 kind_t place_t width_t second_t (parts_t + 1) 0 innerPlace_t innerWidth_t signs_t waitingBelow_t limited_t f1_13_81 lastBlock_t r106 r107 r108  r116 r117 r118 r119 r120 r121 r122 r123 r124 r125 r126 r127 r128 r129 r130 r131 r132 r133 r134 r135 C138 S139 k142) k_Rd_321 (by decide) ⟨Nat.le_of_ble_eq_true rfl, Nat.le_of_ble_eq_true rfl⟩ rfl 0 rfl (pk_app (wr := [(a_scanner_h0, .inr (4, [.ref a_text_a_scanner_h0, .int next_a_scanner_h0, .int kind_a_scanner_h0, .int start_a_scanner_h0, .int width_a_scanner_h0])), (a_waiting_h0, .inr (5, [.ref a_cells_a_waiting_h0, .int r1])), (a_cells_a_waiting_h0, .inl (cI, n_a_cells_a_waiting_h0, .inl b_a_cells_a_waiting_h0))]) (w0 := [(h0, .inr (2, [.ref a_scanner_h0, .ref a_draft_h0, .ref a_waiting_h0, .ref a_functions_h0, .ref (a9_81 0), .ref (a9_81 d9_81), .ref a_text_h0, .int mode_h0, .int levels_h0, .int signs_h0, .int loops_h0, .int token_h0, .int fault_h0])), ((a9_81 d9_81), .inr (0, [(frB a9_81 d9_81), (frA a9_81 n9_81 d9_81), .int kind_t, .int place_t, .int width_t, .int second_t, .int (parts_t + 1), .int 0, .int innerPlace_t, .int innerWidth_t, .int signs_t, .int waitingBelow_t, .int limited_t, .int f1_13_81, .int lastBlock_t])), (a_draft_h0, .inr (1, [.ref q109, .int r106])), (q109, .inl (cI, r107, .inl r108))]) (pl := fpo a9_81 n9_81 d9_81 c9_81) [0, 1, 2, 3, 4, 5, 6] 7 rfl rfl rfl (by decide)) rfl rfl (Nat.le_of_ble_eq_true rfl) d_Rd_takeOperator_183 ⟨show cl_81 + C6 + C110 + C138 ≤ mc by omega, show sl_81 + S7 + S111 + S139 ≤ ms by omega⟩ (fun v w hq => ?_)
                obtain ⟨a136, q137, rfl, _, rfl⟩ := hq
                refine j_norm (pc' := 186) (st' := [.int 1]) (ws' := ((a_scanner_h0, .inr (4, [.ref a_text_a_scanner_h0, .int next_a_scanner_h0, .int kind_a_scanner_h0, .int start_a_scanner_h0, .int width_a_scanner_h0])) :: (a_waiting_h0, .inr (5, [.ref a_cells_a_waiting_h0, .int r1])) :: (a_cells_a_waiting_h0, .inl (cI, n_a_cells_a_waiting_h0, .inl b_a_cells_a_waiting_h0)) :: (h0, .inr (2, [.ref a_scanner_h0, .ref a_draft_h0, .ref a_waiting_h0, .ref a_functions_h0, .ref (a136 0), .ref (a136 r117), .ref a_text_h0, .int r119, .int ((levels_h0 - 1) - signs_t), .int 0, .int loops_h0, .int token_h0, .int fault_h0])) :: ((a136 r117), .inr (0, [(frB a136 r117), (frA a136 r116 r117), .int r120, .int r121, .int r122, .int r123, .int r124, .int r125, .int r126, .int r127, .int r128, .int r129, .int r130, .int r131, .int r132])) :: (a_draft_h0, .inr (1, [.ref q137, .int r133])) :: (q137, .inl (cI, r134, .inl r135)) :: fpo a136 r116 r117 r118)) (cl' := cl_81 + C6 + C110 + C138) (sl' := sl_81 + S7 + S111 + S139) rfl rfl rfl rfl rfl rfl ?_
                refine j_if_eq (tgt := 193) d_Rd_takeOperator_186 (by decide) (fun c143 => absurd c143 (by decide)) (fun c143 => ?_)
                refine j_iconst (v := 1) d_Rd_takeOperator_189 (by decide) ?_
                refine j_goto (tgt := 194) d_Rd_takeOperator_190 (by decide) ?_
                replace h := lf_s h
                obtain ⟨h, e1, e2⟩ := h
                replace h := Prod.mk.inj h
                obtain ⟨h9, h⟩ := h
                subst h9
                replace h := Prod.mk.inj h
                obtain ⟨h9, h⟩ := h
                subst h9
                replace h := Prod.mk.inj h
                obtain ⟨h9, h⟩ := h
                subst h9
                replace h := Prod.mk.inj h
                obtain ⟨h9, h⟩ := h
                subst h9
                replace h := Prod.mk.inj h
                obtain ⟨h9, h⟩ := h
                subst h9
                replace h := Prod.mk.inj h
                obtain ⟨h9, h⟩ := h
                subst h9
                replace h := Prod.mk.inj h
                obtain ⟨h9, h⟩ := h
                subst h9
                replace h := Prod.mk.inj h
                obtain ⟨h9, h⟩ := h
                subst h9
                replace h := Prod.mk.inj h
                obtain ⟨h9, h⟩ := h
                subst h9
                replace h := Prod.mk.inj h
                obtain ⟨h9, h⟩ := h
                subst h9
                replace h := Prod.mk.inj h
                obtain ⟨h9, h⟩ := h
                subst h9
                replace h := Prod.mk.inj h
                obtain ⟨h9, h⟩ := h
                subst h9
                replace h := Prod.mk.inj h
                obtain ⟨h9, h⟩ := h
                subst h9
                replace h := Prod.mk.inj h
                obtain ⟨h9, h⟩ := h
                subst h9
                replace h := Prod.mk.inj h
                obtain ⟨h9, h⟩ := h
                subst h9
                replace h := Prod.mk.inj h
                obtain ⟨h9, h⟩ := h
                subst h9
                replace h := Prod.mk.inj h
                obtain ⟨h9, h⟩ := h
                subst h9
                replace h := Prod.mk.inj h
                obtain ⟨h9, h⟩ := h
                subst h9
                replace h := Prod.mk.inj h
                obtain ⟨h9, h⟩ := h
                subst h9
                replace h := Prod.mk.inj h
                obtain ⟨h9, h⟩ := h
                subst h9
                replace h := Prod.mk.inj h
                obtain ⟨h9, h⟩ := h
                subst h9
                replace h := Prod.mk.inj h
                obtain ⟨h9, h⟩ := h
                subst h9
                replace h := Prod.mk.inj h
                obtain ⟨h9, h⟩ := h
                subst h9
                replace h := Prod.mk.inj h
                obtain ⟨h9, h⟩ := h
                subst h9
                replace h := Prod.mk.inj h
                obtain ⟨h9, h⟩ := h
                subst h9
                subst h
                refine j_widen (cl' := mc) (sl' := ms) (by omega) (by omega) ?_
                refine j_subP (w := [(h0, .inr (2, [.ref a_scanner_h0, .ref a_draft_h0, .ref a_waiting_h0, .ref a_functions_h0, .ref (a136 0), .ref (a136 r117), .ref a_text_h0, .int r119, .int ((levels_h0 - 1) - signs_t), .int 0, .int loops_h0, .int token_h0, .int fault_h0])), ((a136 r117), .inr (0, [(frB a136 r117), (frA a136 r116 r117), .int r120, .int r121, .int r122, .int r123, .int r124, .int r125, .int r126, .int r127, .int r128, .int r129, .int r130, .int r131, .int r132])), (a_scanner_h0, .inr (4, [.ref a_text_a_scanner_h0, .int next_a_scanner_h0, .int kind_a_scanner_h0, .int start_a_scanner_h0, .int width_a_scanner_h0])), (a_draft_h0, .inr (1, [.ref q137, .int r133])), (a_waiting_h0, .inr (5, [.ref a_cells_a_waiting_h0, .int r1])), (q137, .inl (cI, r134, .inl r135)), (a_cells_a_waiting_h0, .inl (cI, n_a_cells_a_waiting_h0, .inl b_a_cells_a_waiting_h0))]) (pl := fpo a136 r116 r117 r118) (lv' := []) [3, 4, 0, 5, 1, 6, 2] [] 7 rfl rfl (by decide) [] rfl ?_
                exact j_zretE hr (zb_n zb1) d_Rd_takeOperator_194 ⟨a136, q137, a_cells_a_waiting_h0, rfl, zb1, rfl⟩
            · replace h := it_f c104 h
              refine j_look (tgt := 205) (off := 117) d_Rd_takeOperator_88 (by decide) (by show Op.lookupswitch.offset [(41, _), (44, _), (58, _), (59, _), (61, _), (93, _)] _ _ = _; rw [lv_osw c11 (by decide), lv_osw c43 (by decide), lv_osw c51 (by decide), lv_osw c64 (by decide), lv_osw c95 (by decide), lv_osw c104 (by decide)]; rfl) (by decide) ?_
              refine j_iload_n d_Rd_takeOperator_205 rfl 0 rfl ?_
              refine j_if_eq (tgt := 221) d_Rd_takeOperator_206 (by decide) (fun c144 => ?_) (fun c144 => ?_)
              · replace h := it_t c144 h
                refine j_iconst (v := 0) d_Rd_takeOperator_221 (by decide) ?_
                replace h := lf_s h
                obtain ⟨h, e1, e2⟩ := h
                replace h := Prod.mk.inj h
                obtain ⟨h9, h⟩ := h
                subst h9
                replace h := Prod.mk.inj h
                obtain ⟨h9, h⟩ := h
                subst h9
                replace h := Prod.mk.inj h
                obtain ⟨h9, h⟩ := h
                subst h9
                replace h := Prod.mk.inj h
                obtain ⟨h9, h⟩ := h
                subst h9
                replace h := Prod.mk.inj h
                obtain ⟨h9, h⟩ := h
                subst h9
                replace h := Prod.mk.inj h
                obtain ⟨h9, h⟩ := h
                subst h9
                replace h := Prod.mk.inj h
                obtain ⟨h9, h⟩ := h
                subst h9
                replace h := Prod.mk.inj h
                obtain ⟨h9, h⟩ := h
                subst h9
                replace h := Prod.mk.inj h
                obtain ⟨h9, h⟩ := h
                subst h9
                replace h := Prod.mk.inj h
                obtain ⟨h9, h⟩ := h
                subst h9
                replace h := Prod.mk.inj h
                obtain ⟨h9, h⟩ := h
                subst h9
                replace h := Prod.mk.inj h
                obtain ⟨h9, h⟩ := h
                subst h9
                replace h := Prod.mk.inj h
                obtain ⟨h9, h⟩ := h
                subst h9
                replace h := Prod.mk.inj h
                obtain ⟨h9, h⟩ := h
                subst h9
                replace h := Prod.mk.inj h
                obtain ⟨h9, h⟩ := h
                subst h9
                replace h := Prod.mk.inj h
                obtain ⟨h9, h⟩ := h
                subst h9
                replace h := Prod.mk.inj h
                obtain ⟨h9, h⟩ := h
                subst h9
                replace h := Prod.mk.inj h
                obtain ⟨h9, h⟩ := h
                subst h9
                replace h := Prod.mk.inj h
                obtain ⟨h9, h⟩ := h
                subst h9
                replace h := Prod.mk.inj h
                obtain ⟨h9, h⟩ := h
                subst h9
                replace h := Prod.mk.inj h
                obtain ⟨h9, h⟩ := h
                subst h9
                replace h := Prod.mk.inj h
                obtain ⟨h9, h⟩ := h
                subst h9
                replace h := Prod.mk.inj h
                obtain ⟨h9, h⟩ := h
                subst h9
                replace h := Prod.mk.inj h
                obtain ⟨h9, h⟩ := h
                subst h9
                replace h := Prod.mk.inj h
                obtain ⟨h9, h⟩ := h
                subst h9
                subst h
                refine j_widen (cl' := mc) (sl' := ms) (by omega) (by omega) ?_
                refine j_subP (w := [(h0, .inr (2, [.ref a_scanner_h0, .ref a_draft_h0, .ref a_waiting_h0, .ref a_functions_h0, .ref (a9_81 0), .ref (a9_81 d9_81), .ref a_text_h0, .int mode_h0, .int levels_h0, .int signs_h0, .int loops_h0, .int token_h0, .int fault_h0])), ((a9_81 d9_81), .inr (0, [(frB a9_81 d9_81), (frA a9_81 n9_81 d9_81), .int kind_t, .int place_t, .int width_t, .int second_t, .int parts_t, .int innerParts_t, .int innerPlace_t, .int innerWidth_t, .int signs_t, .int waitingBelow_t, .int limited_t, .int f1_13_81, .int lastBlock_t])), (a_scanner_h0, .inr (4, [.ref a_text_a_scanner_h0, .int next_a_scanner_h0, .int kind_a_scanner_h0, .int start_a_scanner_h0, .int width_a_scanner_h0])), (a_draft_h0, .inr (1, [.ref q5, .int r2])), (a_waiting_h0, .inr (5, [.ref a_cells_a_waiting_h0, .int r1])), (q5, .inl (cI, r3, .inl r4)), (a_cells_a_waiting_h0, .inl (cI, n_a_cells_a_waiting_h0, .inl b_a_cells_a_waiting_h0))]) (pl := fpo a9_81 n9_81 d9_81 c9_81) (lv' := []) [1, 3, 0, 5, 2, 6, 4] [] 7 rfl rfl (by decide) [] rfl ?_
                exact j_zretE hr (zb_n zb0) d_Rd_takeOperator_222 ⟨a9_81, q5, a_cells_a_waiting_h0, rfl, zb0, rfl⟩
              · replace h := it_f c144 h
                refine j_aload_n d_Rd_takeOperator_209 rfl 1 rfl ?_
                refine j_iload_n d_Rd_takeOperator_210 rfl 0 rfl ?_
                replace h := bw_s h
                obtain ⟨⟨r145, r146, r147, r148⟩, C150, S151, C152, S153, k154, h, e1, e2⟩ := h
                replace hC : cl_81 + C6 + C150 + C152 ≤ mc := by omega
                replace hS : sl_81 + S7 + S151 + S153 ≤ ms := by omega
                clear e1 e2
                refine j_callVg (n := 1) (As := [.int v1_81]) (rest := []) (wr := ([((a9_81 d9_81), .inr (0, [(frB a9_81 d9_81), (frA a9_81 n9_81 d9_81), .int kind_t, .int place_t, .int width_t, .int second_t, .int parts_t, .int innerParts_t, .int innerPlace_t, .int innerWidth_t, .int signs_t, .int waitingBelow_t, .int limited_t, .int f1_13_81, .int lastBlock_t])), (a_draft_h0, .inr (1, [.ref q5, .int r2])), (q5, .inl (cI, r3, .inl r4))] ++ fpo a9_81 n9_81 d9_81 c9_81)) (c_Rd_takeOperation l D cI cB cJ cS h0 a_scanner_h0 a_draft_h0 a_waiting_h0 a_functions_h0 (a9_81 0) (a9_81 d9_81) a_text_h0 a_text_a_scanner_h0 a_cells_a_waiting_h0 v1_81 mode_h0 levels_h0 signs_h0 loops_h0 token_h0 fault_h0 next_a_scanner_h0 kind_a_scanner_h0 start_a_scanner_h0 width_a_scanner_h0 r1 n_a_cells_a_waiting_h0 b_a_cells_a_waiting_h0  r145 r146 r147 r148 C150 S151 k154) k_Rd_369 (by decide) ⟨Nat.le_of_ble_eq_true rfl, Nat.le_of_ble_eq_true rfl⟩ rfl 0 rfl (pk_mid (wr := [((a9_81 d9_81), .inr (0, [(frB a9_81 d9_81), (frA a9_81 n9_81 d9_81), .int kind_t, .int place_t, .int width_t, .int second_t, .int parts_t, .int innerParts_t, .int innerPlace_t, .int innerWidth_t, .int signs_t, .int waitingBelow_t, .int limited_t, .int f1_13_81, .int lastBlock_t])), (a_draft_h0, .inr (1, [.ref q5, .int r2])), (q5, .inl (cI, r3, .inl r4))]) (w0 := [(h0, .inr (2, [.ref a_scanner_h0, .ref a_draft_h0, .ref a_waiting_h0, .ref a_functions_h0, .ref (a9_81 0), .ref (a9_81 d9_81), .ref a_text_h0, .int mode_h0, .int levels_h0, .int signs_h0, .int loops_h0, .int token_h0, .int fault_h0])), (a_scanner_h0, .inr (4, [.ref a_text_a_scanner_h0, .int next_a_scanner_h0, .int kind_a_scanner_h0, .int start_a_scanner_h0, .int width_a_scanner_h0])), (a_waiting_h0, .inr (5, [.ref a_cells_a_waiting_h0, .int r1])), (a_cells_a_waiting_h0, .inl (cI, n_a_cells_a_waiting_h0, .inl b_a_cells_a_waiting_h0))]) (pl := fpo a9_81 n9_81 d9_81 c9_81) [3, 5, 6, 1, 0, 2, 4] 7 rfl rfl (by decide)) rfl rfl (Nat.le_of_ble_eq_true rfl) d_Rd_takeOperator_211 ⟨show cl_81 + C6 + C150 ≤ mc by omega, show sl_81 + S7 + S151 ≤ ms by omega⟩ (fun v w hq => ?_)
                obtain ⟨q149, rfl, _, rfl⟩ := hq
                refine j_perm (ws' := (((a9_81 d9_81), .inr (0, [(frB a9_81 d9_81), (frA a9_81 n9_81 d9_81), .int kind_t, .int place_t, .int width_t, .int second_t, .int parts_t, .int innerParts_t, .int innerPlace_t, .int innerWidth_t, .int signs_t, .int waitingBelow_t, .int limited_t, .int f1_13_81, .int lastBlock_t])) :: (a_draft_h0, .inr (1, [.ref q5, .int r2])) :: (q5, .inl (cI, r3, .inl r4)) :: (h0, .inr (2, [.ref a_scanner_h0, .ref a_draft_h0, .ref a_waiting_h0, .ref a_functions_h0, .ref (a9_81 0), .ref (a9_81 d9_81), .ref a_text_h0, .int r145, .int levels_h0, .int signs_h0, .int loops_h0, .int token_h0, .int fault_h0])) :: (a_scanner_h0, .inr (4, [.ref a_text_a_scanner_h0, .int next_a_scanner_h0, .int kind_a_scanner_h0, .int start_a_scanner_h0, .int width_a_scanner_h0])) :: (a_waiting_h0, .inr (5, [.ref q149, .int r146])) :: (q149, .inl (cI, r147, .inl r148)) :: fpo a9_81 n9_81 d9_81 c9_81)) (pm_eq (a := [((a9_81 d9_81), .inr (0, [(frB a9_81 d9_81), (frA a9_81 n9_81 d9_81), .int kind_t, .int place_t, .int width_t, .int second_t, .int parts_t, .int innerParts_t, .int innerPlace_t, .int innerWidth_t, .int signs_t, .int waitingBelow_t, .int limited_t, .int f1_13_81, .int lastBlock_t])), (a_draft_h0, .inr (1, [.ref q5, .int r2])), (q5, .inl (cI, r3, .inl r4))]) (b := fpo a9_81 n9_81 d9_81 c9_81) (c := [(h0, .inr (2, [.ref a_scanner_h0, .ref a_draft_h0, .ref a_waiting_h0, .ref a_functions_h0, .ref (a9_81 0), .ref (a9_81 d9_81), .ref a_text_h0, .int r145, .int levels_h0, .int signs_h0, .int loops_h0, .int token_h0, .int fault_h0])), (a_scanner_h0, .inr (4, [.ref a_text_a_scanner_h0, .int next_a_scanner_h0, .int kind_a_scanner_h0, .int start_a_scanner_h0, .int width_a_scanner_h0])), (a_waiting_h0, .inr (5, [.ref q149, .int r146])), (q149, .inl (cI, r147, .inl r148))]) rfl) ?_
                refine j_norm (pc' := 214) (st' := [.int 1]) (ws' := (((a9_81 d9_81), .inr (0, [(frB a9_81 d9_81), (frA a9_81 n9_81 d9_81), .int kind_t, .int place_t, .int width_t, .int second_t, .int parts_t, .int innerParts_t, .int innerPlace_t, .int innerWidth_t, .int signs_t, .int waitingBelow_t, .int limited_t, .int f1_13_81, .int lastBlock_t])) :: (a_draft_h0, .inr (1, [.ref q5, .int r2])) :: (q5, .inl (cI, r3, .inl r4)) :: (h0, .inr (2, [.ref a_scanner_h0, .ref a_draft_h0, .ref a_waiting_h0, .ref a_functions_h0, .ref (a9_81 0), .ref (a9_81 d9_81), .ref a_text_h0, .int r145, .int levels_h0, .int signs_h0, .int loops_h0, .int token_h0, .int fault_h0])) :: (a_scanner_h0, .inr (4, [.ref a_text_a_scanner_h0, .int next_a_scanner_h0, .int kind_a_scanner_h0, .int start_a_scanner_h0, .int width_a_scanner_h0])) :: (a_waiting_h0, .inr (5, [.ref q149, .int r146])) :: (q149, .inl (cI, r147, .inl r148)) :: fpo a9_81 n9_81 d9_81 c9_81)) (cl' := cl_81 + C6 + C150) (sl' := sl_81 + S7 + S151) rfl rfl rfl rfl rfl rfl ?_
                refine j_if_eq (tgt := 221) d_Rd_takeOperator_214 (by decide) (fun c155 => absurd c155 (by decide)) (fun c155 => ?_)
                refine j_iconst (v := 1) d_Rd_takeOperator_217 (by decide) ?_
                refine j_goto (tgt := 222) d_Rd_takeOperator_218 (by decide) ?_
                replace h := lf_s h
                obtain ⟨h, e1, e2⟩ := h
                replace h := Prod.mk.inj h
                obtain ⟨h9, h⟩ := h
                subst h9
                replace h := Prod.mk.inj h
                obtain ⟨h9, h⟩ := h
                subst h9
                replace h := Prod.mk.inj h
                obtain ⟨h9, h⟩ := h
                subst h9
                replace h := Prod.mk.inj h
                obtain ⟨h9, h⟩ := h
                subst h9
                replace h := Prod.mk.inj h
                obtain ⟨h9, h⟩ := h
                subst h9
                replace h := Prod.mk.inj h
                obtain ⟨h9, h⟩ := h
                subst h9
                replace h := Prod.mk.inj h
                obtain ⟨h9, h⟩ := h
                subst h9
                replace h := Prod.mk.inj h
                obtain ⟨h9, h⟩ := h
                subst h9
                replace h := Prod.mk.inj h
                obtain ⟨h9, h⟩ := h
                subst h9
                replace h := Prod.mk.inj h
                obtain ⟨h9, h⟩ := h
                subst h9
                replace h := Prod.mk.inj h
                obtain ⟨h9, h⟩ := h
                subst h9
                replace h := Prod.mk.inj h
                obtain ⟨h9, h⟩ := h
                subst h9
                replace h := Prod.mk.inj h
                obtain ⟨h9, h⟩ := h
                subst h9
                replace h := Prod.mk.inj h
                obtain ⟨h9, h⟩ := h
                subst h9
                replace h := Prod.mk.inj h
                obtain ⟨h9, h⟩ := h
                subst h9
                replace h := Prod.mk.inj h
                obtain ⟨h9, h⟩ := h
                subst h9
                replace h := Prod.mk.inj h
                obtain ⟨h9, h⟩ := h
                subst h9
                replace h := Prod.mk.inj h
                obtain ⟨h9, h⟩ := h
                subst h9
                replace h := Prod.mk.inj h
                obtain ⟨h9, h⟩ := h
                subst h9
                replace h := Prod.mk.inj h
                obtain ⟨h9, h⟩ := h
                subst h9
                replace h := Prod.mk.inj h
                obtain ⟨h9, h⟩ := h
                subst h9
                replace h := Prod.mk.inj h
                obtain ⟨h9, h⟩ := h
                subst h9
                replace h := Prod.mk.inj h
                obtain ⟨h9, h⟩ := h
                subst h9
                replace h := Prod.mk.inj h
                obtain ⟨h9, h⟩ := h
                subst h9
                replace h := Prod.mk.inj h
                obtain ⟨h9, h⟩ := h
                subst h9
                subst h
                refine j_widen (cl' := mc) (sl' := ms) (by omega) (by omega) ?_
                refine j_subP (w := [(h0, .inr (2, [.ref a_scanner_h0, .ref a_draft_h0, .ref a_waiting_h0, .ref a_functions_h0, .ref (a9_81 0), .ref (a9_81 d9_81), .ref a_text_h0, .int r145, .int levels_h0, .int signs_h0, .int loops_h0, .int token_h0, .int fault_h0])), ((a9_81 d9_81), .inr (0, [(frB a9_81 d9_81), (frA a9_81 n9_81 d9_81), .int kind_t, .int place_t, .int width_t, .int second_t, .int parts_t, .int innerParts_t, .int innerPlace_t, .int innerWidth_t, .int signs_t, .int waitingBelow_t, .int limited_t, .int f1_13_81, .int lastBlock_t])), (a_scanner_h0, .inr (4, [.ref a_text_a_scanner_h0, .int next_a_scanner_h0, .int kind_a_scanner_h0, .int start_a_scanner_h0, .int width_a_scanner_h0])), (a_draft_h0, .inr (1, [.ref q5, .int r2])), (a_waiting_h0, .inr (5, [.ref q149, .int r146])), (q5, .inl (cI, r3, .inl r4)), (q149, .inl (cI, r147, .inl r148))]) (pl := fpo a9_81 n9_81 d9_81 c9_81) (lv' := []) [3, 0, 4, 1, 5, 2, 6] [] 7 rfl rfl (by decide) [] rfl ?_
                exact j_zretE hr (zb_n zb1) d_Rd_takeOperator_222 ⟨a9_81, q5, q149, rfl, zb1, rfl⟩
set_option maxHeartbeats 4000000 in
set_option maxRecDepth 100000 in
theorem L_Rd_takeOperator_26 (l : Launch) (D : va_G) (cI cB cJ cS : ClassId) (h0 : Nat) (fad : Nat → Nat) (a_scanner_h0 : Nat) (a_draft_h0 : Nat) (a_waiting_h0 : Nat) (a_functions_h0 : Nat) (a_text_h0 : Nat) (a_text_a_scanner_h0 : Nat) (a_cells_a_draft_h0 : Nat) (a_cells_a_waiting_h0 : Nat) (fn : Nat) (fd : Nat) (fcf : Nat → FrC) (mode_h0 : Int32) (levels_h0 : Int32) (signs_h0 : Int32) (loops_h0 : Int32) (token_h0 : Int32) (fault_h0 : Int32) (kind_t : Int32) (place_t : Int32) (width_t : Int32) (second_t : Int32) (parts_t : Int32) (innerParts_t : Int32) (innerPlace_t : Int32) (innerWidth_t : Int32) (signs_t : Int32) (waitingBelow_t : Int32) (limited_t : Int32) (targets_t : Int32) (lastBlock_t : Int32) (next_a_scanner_h0 : Int32) (kind_a_scanner_h0 : Int32) (start_a_scanner_h0 : Int32) (width_a_scanner_h0 : Int32) (count_a_draft_h0 : Int32) (n_a_cells_a_draft_h0 : Nat) (b_a_cells_a_draft_h0 : Nat → Int32) (count_a_waiting_h0 : Int32) (n_a_cells_a_waiting_h0 : Nat) (b_a_cells_a_waiting_h0 : Nat → Int32) (on_p : Nat) (od_p : Nat) (ocf_p : Nat → FrC) (ret : Int32) (o_0_7 : Int32) (o_0_8 : Int32) (o_0_9 : Int32) (o_1_2 : Int32) (o_1_3 : Int32) (o_1_4 : Int32) (o_1_5 : Int32) (o_1_6 : Int32) (o_1_7 : Int32) (o_1_8 : Int32) (o_1_9 : Int32) (o_1_10 : Int32) (o_1_11 : Int32) (o_1_12 : Int32) (o_1_13 : Int32) (o_1_14 : Int32) (o_3_1 : Int32) (o_5_1 : Int32) (on_nq_3_0 : Nat) (ob_nq_3_0 : Nat → Int32) (on_nq_5_0 : Nat) (ob_nq_5_0 : Nat → Int32) (mc ms : Nat) (p : Program) (e : Env) (s : State) (m : MethodId) (below : List Frame) (meth : Method) (c : Code) (hr : meth.sig.returnType = (Option.some Jvm.ClassFile.FieldType.boolean)) (hnm : meth.name = y_Rd_takeOperator.name) : ∀ (a9_26 : Nat → Nat) (n9_26 : Nat) (d9_26 : Nat) (c9_26 : Nat → FrC) (f1_13_26 : Int32) (cl_26 sl_26 C_26 S_26 : Nat), F_Rd_takeOperator_26 mode_h0 levels_h0 signs_h0 loops_h0 token_h0 fault_h0 kind_t place_t width_t second_t parts_t innerParts_t innerPlace_t innerWidth_t signs_t waitingBelow_t limited_t lastBlock_t next_a_scanner_h0 kind_a_scanner_h0 start_a_scanner_h0 width_a_scanner_h0 count_a_draft_h0 n_a_cells_a_draft_h0 b_a_cells_a_draft_h0 count_a_waiting_h0 n_a_cells_a_waiting_h0 b_a_cells_a_waiting_h0   n9_26 d9_26 c9_26 f1_13_26 = some ((on_p, od_p, ocf_p, ret, o_0_7, o_0_8, o_0_9, o_1_2, o_1_3, o_1_4, o_1_5, o_1_6, o_1_7, o_1_8, o_1_9, o_1_10, o_1_11, o_1_12, o_1_13, o_1_14, o_3_1, o_5_1, on_nq_3_0, ob_nq_3_0, on_nq_5_0, ob_nq_5_0), C_26, S_26) → cl_26 + C_26 ≤ mc → sl_26 + S_26 ≤ ms → J (KxOf p l e { frames := 5, cells := mc, slots := ms, locals := 151 } s m [.ref h0].toArray below meth c D (gT cI cB cJ cS) ((h0, .inr (2, [.ref a_scanner_h0, .ref a_draft_h0, .ref a_waiting_h0, .ref a_functions_h0, .ref (fad 0), .ref (fad fd), .ref a_text_h0, .int mode_h0, .int levels_h0, .int signs_h0, .int loops_h0, .int token_h0, .int fault_h0])) :: ((fad fd), .inr (0, [(frB fad fd), (frA fad fn fd), .int kind_t, .int place_t, .int width_t, .int second_t, .int parts_t, .int innerParts_t, .int innerPlace_t, .int innerWidth_t, .int signs_t, .int waitingBelow_t, .int limited_t, .int targets_t, .int lastBlock_t])) :: (a_scanner_h0, .inr (4, [.ref a_text_a_scanner_h0, .int next_a_scanner_h0, .int kind_a_scanner_h0, .int start_a_scanner_h0, .int width_a_scanner_h0])) :: (a_draft_h0, .inr (1, [.ref a_cells_a_draft_h0, .int count_a_draft_h0])) :: (a_cells_a_draft_h0, .inl (cI, n_a_cells_a_draft_h0, .inl b_a_cells_a_draft_h0)) :: (a_waiting_h0, .inr (5, [.ref a_cells_a_waiting_h0, .int count_a_waiting_h0])) :: (a_cells_a_waiting_h0, .inl (cI, n_a_cells_a_waiting_h0, .inl b_a_cells_a_waiting_h0)) :: fpo fad fn fd fcf) (fun v w => ∃ nad : Nat → Nat, ∃ nq_3_0 : Nat, ∃ nq_5_0 : Nat, v = some (.int ret) ∧ zb ret ∧ w = ((h0, .inr (2, [.ref a_scanner_h0, .ref a_draft_h0, .ref a_waiting_h0, .ref a_functions_h0, .ref (nad 0), .ref (nad od_p), .ref a_text_h0, .int o_0_7, .int o_0_8, .int o_0_9, .int loops_h0, .int token_h0, .int fault_h0])) :: ((nad od_p), .inr (0, [(frB nad od_p), (frA nad on_p od_p), .int o_1_2, .int o_1_3, .int o_1_4, .int o_1_5, .int o_1_6, .int o_1_7, .int o_1_8, .int o_1_9, .int o_1_10, .int o_1_11, .int o_1_12, .int o_1_13, .int o_1_14])) :: (a_scanner_h0, .inr (4, [.ref a_text_a_scanner_h0, .int next_a_scanner_h0, .int kind_a_scanner_h0, .int start_a_scanner_h0, .int width_a_scanner_h0])) :: (a_draft_h0, .inr (1, [.ref nq_3_0, .int o_3_1])) :: (a_waiting_h0, .inr (5, [.ref nq_5_0, .int o_5_1])) :: (nq_3_0, .inl (cI, on_nq_3_0, .inl ob_nq_3_0)) :: (nq_5_0, .inl (cI, on_nq_5_0, .inl ob_nq_5_0)) :: fpo nad on_p od_p ocf_p)) mc ms) prog_6_method_58_code 2 R_Rd 26 [(0, .ref h0)] [] ((h0, .inr (2, [.ref a_scanner_h0, .ref a_draft_h0, .ref a_waiting_h0, .ref a_functions_h0, .ref (a9_26 0), .ref (a9_26 d9_26), .ref a_text_h0, .int mode_h0, .int levels_h0, .int signs_h0, .int loops_h0, .int token_h0, .int fault_h0])) :: ((a9_26 d9_26), .inr (0, [(frB a9_26 d9_26), (frA a9_26 n9_26 d9_26), .int kind_t, .int place_t, .int width_t, .int second_t, .int parts_t, .int innerParts_t, .int innerPlace_t, .int innerWidth_t, .int signs_t, .int waitingBelow_t, .int limited_t, .int f1_13_26, .int lastBlock_t])) :: (a_scanner_h0, .inr (4, [.ref a_text_a_scanner_h0, .int next_a_scanner_h0, .int kind_a_scanner_h0, .int start_a_scanner_h0, .int width_a_scanner_h0])) :: (a_draft_h0, .inr (1, [.ref a_cells_a_draft_h0, .int count_a_draft_h0])) :: (a_cells_a_draft_h0, .inl (cI, n_a_cells_a_draft_h0, .inl b_a_cells_a_draft_h0)) :: (a_waiting_h0, .inr (5, [.ref a_cells_a_waiting_h0, .int count_a_waiting_h0])) :: (a_cells_a_waiting_h0, .inl (cI, n_a_cells_a_waiting_h0, .inl b_a_cells_a_waiting_h0)) :: fpo a9_26 n9_26 d9_26 c9_26) cl_26 sl_26 := by
  intro a9_26 n9_26 d9_26 c9_26 f1_13_26 cl_26 sl_26 C_26 S_26 h hC hS
  unfold F_Rd_takeOperator_26 at h
  refine j_aload_n d_Rd_takeOperator_26 rfl 0 rfl ?_
  refine j_get ig_Rd rfl 0 rfl 11 (by decide) rfl m_180 rfl d_Rd_takeOperator_27 ?_
  refine j_bipush (v := 39) d_Rd_takeOperator_30 (by decide) ?_
  refine j_icmp_ne (tgt := 62) d_Rd_takeOperator_32 (by decide) (fun c156 => ?_) (fun c156 => ?_)
  · replace h := it_f c156 h
    refine j_aload_n d_Rd_takeOperator_62 rfl 0 rfl ?_
    refine j_get ig_Rd rfl 0 rfl 11 (by decide) rfl m_180 rfl d_Rd_takeOperator_63 ?_
    obtain ⟨r157, k158⟩ : ∃ z, (F_Rk_of token_h0) = z := ⟨_, rfl⟩
    replace h := nm_at k158 h
    refine j_callSg (n := 1) (As := [.int token_h0]) (rest := []) (wr := ([(h0, .inr (2, [.ref a_scanner_h0, .ref a_draft_h0, .ref a_waiting_h0, .ref a_functions_h0, .ref (a9_26 0), .ref (a9_26 d9_26), .ref a_text_h0, .int mode_h0, .int levels_h0, .int signs_h0, .int loops_h0, .int token_h0, .int fault_h0])), ((a9_26 d9_26), .inr (0, [(frB a9_26 d9_26), (frA a9_26 n9_26 d9_26), .int kind_t, .int place_t, .int width_t, .int second_t, .int parts_t, .int innerParts_t, .int innerPlace_t, .int innerWidth_t, .int signs_t, .int waitingBelow_t, .int limited_t, .int f1_13_26, .int lastBlock_t])), (a_scanner_h0, .inr (4, [.ref a_text_a_scanner_h0, .int next_a_scanner_h0, .int kind_a_scanner_h0, .int start_a_scanner_h0, .int width_a_scanner_h0])), (a_draft_h0, .inr (1, [.ref a_cells_a_draft_h0, .int count_a_draft_h0])), (a_cells_a_draft_h0, .inl (cI, n_a_cells_a_draft_h0, .inl b_a_cells_a_draft_h0)), (a_waiting_h0, .inr (5, [.ref a_cells_a_waiting_h0, .int count_a_waiting_h0])), (a_cells_a_waiting_h0, .inl (cI, n_a_cells_a_waiting_h0, .inl b_a_cells_a_waiting_h0))] ++ fpo a9_26 n9_26 d9_26 c9_26)) (c_Rk_of l D cI cB cJ cS token_h0  r157 k158) k_Rd_345 (by decide) ⟨Nat.le_of_ble_eq_true rfl, Nat.le_of_ble_eq_true rfl⟩ (pk_mid (wr := [(h0, .inr (2, [.ref a_scanner_h0, .ref a_draft_h0, .ref a_waiting_h0, .ref a_functions_h0, .ref (a9_26 0), .ref (a9_26 d9_26), .ref a_text_h0, .int mode_h0, .int levels_h0, .int signs_h0, .int loops_h0, .int token_h0, .int fault_h0])), ((a9_26 d9_26), .inr (0, [(frB a9_26 d9_26), (frA a9_26 n9_26 d9_26), .int kind_t, .int place_t, .int width_t, .int second_t, .int parts_t, .int innerParts_t, .int innerPlace_t, .int innerWidth_t, .int signs_t, .int waitingBelow_t, .int limited_t, .int f1_13_26, .int lastBlock_t])), (a_scanner_h0, .inr (4, [.ref a_text_a_scanner_h0, .int next_a_scanner_h0, .int kind_a_scanner_h0, .int start_a_scanner_h0, .int width_a_scanner_h0])), (a_draft_h0, .inr (1, [.ref a_cells_a_draft_h0, .int count_a_draft_h0])), (a_cells_a_draft_h0, .inl (cI, n_a_cells_a_draft_h0, .inl b_a_cells_a_draft_h0)), (a_waiting_h0, .inr (5, [.ref a_cells_a_waiting_h0, .int count_a_waiting_h0])), (a_cells_a_waiting_h0, .inl (cI, n_a_cells_a_waiting_h0, .inl b_a_cells_a_waiting_h0))]) (w0 := []) (pl := fpo a9_26 n9_26 d9_26 c9_26) [0, 1, 2, 3, 4, 5, 6] 7 rfl rfl (by decide)) rfl rfl (Nat.le_of_ble_eq_true rfl) d_Rd_takeOperator_66 ⟨show cl_26 + 0 ≤ mc by omega, show sl_26 + 0 ≤ ms by omega⟩ (fun v w hq => ?_)
    obtain ⟨rfl, rfl⟩ := hq
    refine j_perm (ws' := ((h0, .inr (2, [.ref a_scanner_h0, .ref a_draft_h0, .ref a_waiting_h0, .ref a_functions_h0, .ref (a9_26 0), .ref (a9_26 d9_26), .ref a_text_h0, .int mode_h0, .int levels_h0, .int signs_h0, .int loops_h0, .int token_h0, .int fault_h0])) :: ((a9_26 d9_26), .inr (0, [(frB a9_26 d9_26), (frA a9_26 n9_26 d9_26), .int kind_t, .int place_t, .int width_t, .int second_t, .int parts_t, .int innerParts_t, .int innerPlace_t, .int innerWidth_t, .int signs_t, .int waitingBelow_t, .int limited_t, .int f1_13_26, .int lastBlock_t])) :: (a_scanner_h0, .inr (4, [.ref a_text_a_scanner_h0, .int next_a_scanner_h0, .int kind_a_scanner_h0, .int start_a_scanner_h0, .int width_a_scanner_h0])) :: (a_draft_h0, .inr (1, [.ref a_cells_a_draft_h0, .int count_a_draft_h0])) :: (a_cells_a_draft_h0, .inl (cI, n_a_cells_a_draft_h0, .inl b_a_cells_a_draft_h0)) :: (a_waiting_h0, .inr (5, [.ref a_cells_a_waiting_h0, .int count_a_waiting_h0])) :: (a_cells_a_waiting_h0, .inl (cI, n_a_cells_a_waiting_h0, .inl b_a_cells_a_waiting_h0)) :: fpo a9_26 n9_26 d9_26 c9_26)) (pm_eq (a := [(h0, .inr (2, [.ref a_scanner_h0, .ref a_draft_h0, .ref a_waiting_h0, .ref a_functions_h0, .ref (a9_26 0), .ref (a9_26 d9_26), .ref a_text_h0, .int mode_h0, .int levels_h0, .int signs_h0, .int loops_h0, .int token_h0, .int fault_h0])), ((a9_26 d9_26), .inr (0, [(frB a9_26 d9_26), (frA a9_26 n9_26 d9_26), .int kind_t, .int place_t, .int width_t, .int second_t, .int parts_t, .int innerParts_t, .int innerPlace_t, .int innerWidth_t, .int signs_t, .int waitingBelow_t, .int limited_t, .int f1_13_26, .int lastBlock_t])), (a_scanner_h0, .inr (4, [.ref a_text_a_scanner_h0, .int next_a_scanner_h0, .int kind_a_scanner_h0, .int start_a_scanner_h0, .int width_a_scanner_h0])), (a_draft_h0, .inr (1, [.ref a_cells_a_draft_h0, .int count_a_draft_h0])), (a_cells_a_draft_h0, .inl (cI, n_a_cells_a_draft_h0, .inl b_a_cells_a_draft_h0)), (a_waiting_h0, .inr (5, [.ref a_cells_a_waiting_h0, .int count_a_waiting_h0])), (a_cells_a_waiting_h0, .inl (cI, n_a_cells_a_waiting_h0, .inl b_a_cells_a_waiting_h0))]) (b := fpo a9_26 n9_26 d9_26 c9_26) (c := []) rfl) ?_
    refine j_norm (pc' := 69) (st' := [.int r157]) (ws' := ((h0, .inr (2, [.ref a_scanner_h0, .ref a_draft_h0, .ref a_waiting_h0, .ref a_functions_h0, .ref (a9_26 0), .ref (a9_26 d9_26), .ref a_text_h0, .int mode_h0, .int levels_h0, .int signs_h0, .int loops_h0, .int token_h0, .int fault_h0])) :: ((a9_26 d9_26), .inr (0, [(frB a9_26 d9_26), (frA a9_26 n9_26 d9_26), .int kind_t, .int place_t, .int width_t, .int second_t, .int parts_t, .int innerParts_t, .int innerPlace_t, .int innerWidth_t, .int signs_t, .int waitingBelow_t, .int limited_t, .int f1_13_26, .int lastBlock_t])) :: (a_scanner_h0, .inr (4, [.ref a_text_a_scanner_h0, .int next_a_scanner_h0, .int kind_a_scanner_h0, .int start_a_scanner_h0, .int width_a_scanner_h0])) :: (a_draft_h0, .inr (1, [.ref a_cells_a_draft_h0, .int count_a_draft_h0])) :: (a_cells_a_draft_h0, .inl (cI, n_a_cells_a_draft_h0, .inl b_a_cells_a_draft_h0)) :: (a_waiting_h0, .inr (5, [.ref a_cells_a_waiting_h0, .int count_a_waiting_h0])) :: (a_cells_a_waiting_h0, .inl (cI, n_a_cells_a_waiting_h0, .inl b_a_cells_a_waiting_h0)) :: fpo a9_26 n9_26 d9_26 c9_26)) (cl' := cl_26) (sl' := sl_26) rfl rfl rfl rfl rfl rfl ?_
    refine j_istore_n (lv' := [(1, .int r157), (0, .ref h0)]) d_Rd_takeOperator_69 rfl (by decide) rfl ?_
    refine j_aload_n d_Rd_takeOperator_70 rfl 1 rfl ?_
    refine j_iload_n d_Rd_takeOperator_71 rfl 0 rfl ?_
    refine j_iconst (v := 4) d_Rd_takeOperator_72 (by decide) ?_
    refine j_icmp_ne (tgt := 80) d_Rd_takeOperator_73 (by decide) (fun c159 => ?_) (fun c159 => ?_)
    · replace h := it_f c159 h
      refine j_iload_n d_Rd_takeOperator_80 rfl 0 rfl ?_
      refine j_subP (w := [(h0, .inr (2, [.ref a_scanner_h0, .ref a_draft_h0, .ref a_waiting_h0, .ref a_functions_h0, .ref (a9_26 0), .ref (a9_26 d9_26), .ref a_text_h0, .int mode_h0, .int levels_h0, .int signs_h0, .int loops_h0, .int token_h0, .int fault_h0])), ((a9_26 d9_26), .inr (0, [(frB a9_26 d9_26), (frA a9_26 n9_26 d9_26), .int kind_t, .int place_t, .int width_t, .int second_t, .int parts_t, .int innerParts_t, .int innerPlace_t, .int innerWidth_t, .int signs_t, .int waitingBelow_t, .int limited_t, .int f1_13_26, .int lastBlock_t])), (a_scanner_h0, .inr (4, [.ref a_text_a_scanner_h0, .int next_a_scanner_h0, .int kind_a_scanner_h0, .int start_a_scanner_h0, .int width_a_scanner_h0])), (a_draft_h0, .inr (1, [.ref a_cells_a_draft_h0, .int count_a_draft_h0])), (a_cells_a_draft_h0, .inl (cI, n_a_cells_a_draft_h0, .inl b_a_cells_a_draft_h0)), (a_waiting_h0, .inr (5, [.ref a_cells_a_waiting_h0, .int count_a_waiting_h0])), (a_cells_a_waiting_h0, .inl (cI, n_a_cells_a_waiting_h0, .inl b_a_cells_a_waiting_h0))]) (pl := fpo a9_26 n9_26 d9_26 c9_26) (lv' := [(1, .int r157), (0, .ref h0)]) [0, 1, 2, 3, 4, 5, 6] [] 7 rfl rfl (by decide) [0, 1] rfl ?_
      exact L_Rd_takeOperator_81 l D cI cB cJ cS h0 fad a_scanner_h0 a_draft_h0 a_waiting_h0 a_functions_h0 a_text_h0 a_text_a_scanner_h0 a_cells_a_draft_h0 a_cells_a_waiting_h0 fn fd fcf mode_h0 levels_h0 signs_h0 loops_h0 token_h0 fault_h0 kind_t place_t width_t second_t parts_t innerParts_t innerPlace_t innerWidth_t signs_t waitingBelow_t limited_t targets_t lastBlock_t next_a_scanner_h0 kind_a_scanner_h0 start_a_scanner_h0 width_a_scanner_h0 count_a_draft_h0 n_a_cells_a_draft_h0 b_a_cells_a_draft_h0 count_a_waiting_h0 n_a_cells_a_waiting_h0 b_a_cells_a_waiting_h0 on_p od_p ocf_p ret o_0_7 o_0_8 o_0_9 o_1_2 o_1_3 o_1_4 o_1_5 o_1_6 o_1_7 o_1_8 o_1_9 o_1_10 o_1_11 o_1_12 o_1_13 o_1_14 o_3_1 o_5_1 on_nq_3_0 ob_nq_3_0 on_nq_5_0 ob_nq_5_0 mc ms p e s m below meth c hr hnm a9_26 r157 r157 n9_26 d9_26 c9_26 f1_13_26 cl_26 sl_26 C_26 S_26 h hC hS
    · replace h := it_t c159 h
      refine j_iconst (v := 5) d_Rd_takeOperator_76 (by decide) ?_
      refine j_goto (tgt := 81) d_Rd_takeOperator_77 (by decide) ?_
      refine j_subP (w := [(h0, .inr (2, [.ref a_scanner_h0, .ref a_draft_h0, .ref a_waiting_h0, .ref a_functions_h0, .ref (a9_26 0), .ref (a9_26 d9_26), .ref a_text_h0, .int mode_h0, .int levels_h0, .int signs_h0, .int loops_h0, .int token_h0, .int fault_h0])), ((a9_26 d9_26), .inr (0, [(frB a9_26 d9_26), (frA a9_26 n9_26 d9_26), .int kind_t, .int place_t, .int width_t, .int second_t, .int parts_t, .int innerParts_t, .int innerPlace_t, .int innerWidth_t, .int signs_t, .int waitingBelow_t, .int limited_t, .int f1_13_26, .int lastBlock_t])), (a_scanner_h0, .inr (4, [.ref a_text_a_scanner_h0, .int next_a_scanner_h0, .int kind_a_scanner_h0, .int start_a_scanner_h0, .int width_a_scanner_h0])), (a_draft_h0, .inr (1, [.ref a_cells_a_draft_h0, .int count_a_draft_h0])), (a_cells_a_draft_h0, .inl (cI, n_a_cells_a_draft_h0, .inl b_a_cells_a_draft_h0)), (a_waiting_h0, .inr (5, [.ref a_cells_a_waiting_h0, .int count_a_waiting_h0])), (a_cells_a_waiting_h0, .inl (cI, n_a_cells_a_waiting_h0, .inl b_a_cells_a_waiting_h0))]) (pl := fpo a9_26 n9_26 d9_26 c9_26) (lv' := [(1, .int r157), (0, .ref h0)]) [0, 1, 2, 3, 4, 5, 6] [] 7 rfl rfl (by decide) [0, 1] rfl ?_
      exact L_Rd_takeOperator_81 l D cI cB cJ cS h0 fad a_scanner_h0 a_draft_h0 a_waiting_h0 a_functions_h0 a_text_h0 a_text_a_scanner_h0 a_cells_a_draft_h0 a_cells_a_waiting_h0 fn fd fcf mode_h0 levels_h0 signs_h0 loops_h0 token_h0 fault_h0 kind_t place_t width_t second_t parts_t innerParts_t innerPlace_t innerWidth_t signs_t waitingBelow_t limited_t targets_t lastBlock_t next_a_scanner_h0 kind_a_scanner_h0 start_a_scanner_h0 width_a_scanner_h0 count_a_draft_h0 n_a_cells_a_draft_h0 b_a_cells_a_draft_h0 count_a_waiting_h0 n_a_cells_a_waiting_h0 b_a_cells_a_waiting_h0 on_p od_p ocf_p ret o_0_7 o_0_8 o_0_9 o_1_2 o_1_3 o_1_4 o_1_5 o_1_6 o_1_7 o_1_8 o_1_9 o_1_10 o_1_11 o_1_12 o_1_13 o_1_14 o_3_1 o_5_1 on_nq_3_0 ob_nq_3_0 on_nq_5_0 ob_nq_5_0 mc ms p e s m below meth c hr hnm a9_26 r157 5 n9_26 d9_26 c9_26 f1_13_26 cl_26 sl_26 C_26 S_26 h hC hS
  · replace h := it_t c156 h
    refine j_aload_n d_Rd_takeOperator_35 rfl 0 rfl ?_
    refine j_get ig_Rd rfl 0 rfl 1 (by decide) rfl m_170 rfl d_Rd_takeOperator_36 ?_
    refine j_bipush (v := 38) d_Rd_takeOperator_39 (by decide) ?_
    refine j_aload_n d_Rd_takeOperator_41 rfl 0 rfl ?_
    refine j_get ig_Rd rfl 0 rfl 0 (by decide) rfl m_169 rfl d_Rd_takeOperator_42 ?_
    refine j_callVg (n := 0) (As := []) (rest := [.int 38, .ref a_draft_h0]) (wr := ([(h0, .inr (2, [.ref a_scanner_h0, .ref a_draft_h0, .ref a_waiting_h0, .ref a_functions_h0, .ref (a9_26 0), .ref (a9_26 d9_26), .ref a_text_h0, .int mode_h0, .int levels_h0, .int signs_h0, .int loops_h0, .int token_h0, .int fault_h0])), ((a9_26 d9_26), .inr (0, [(frB a9_26 d9_26), (frA a9_26 n9_26 d9_26), .int kind_t, .int place_t, .int width_t, .int second_t, .int parts_t, .int innerParts_t, .int innerPlace_t, .int innerWidth_t, .int signs_t, .int waitingBelow_t, .int limited_t, .int f1_13_26, .int lastBlock_t])), (a_draft_h0, .inr (1, [.ref a_cells_a_draft_h0, .int count_a_draft_h0])), (a_cells_a_draft_h0, .inl (cI, n_a_cells_a_draft_h0, .inl b_a_cells_a_draft_h0)), (a_waiting_h0, .inr (5, [.ref a_cells_a_waiting_h0, .int count_a_waiting_h0])), (a_cells_a_waiting_h0, .inl (cI, n_a_cells_a_waiting_h0, .inl b_a_cells_a_waiting_h0))] ++ fpo a9_26 n9_26 d9_26 c9_26)) (c_Sc_start l D cI cB cJ cS a_scanner_h0 a_text_a_scanner_h0 next_a_scanner_h0 kind_a_scanner_h0 start_a_scanner_h0 width_a_scanner_h0  ) k_Rd_113 (by decide) ⟨Nat.le_of_ble_eq_true rfl, Nat.le_of_ble_eq_true rfl⟩ rfl 0 rfl (pk_mid (wr := [(h0, .inr (2, [.ref a_scanner_h0, .ref a_draft_h0, .ref a_waiting_h0, .ref a_functions_h0, .ref (a9_26 0), .ref (a9_26 d9_26), .ref a_text_h0, .int mode_h0, .int levels_h0, .int signs_h0, .int loops_h0, .int token_h0, .int fault_h0])), ((a9_26 d9_26), .inr (0, [(frB a9_26 d9_26), (frA a9_26 n9_26 d9_26), .int kind_t, .int place_t, .int width_t, .int second_t, .int parts_t, .int innerParts_t, .int innerPlace_t, .int innerWidth_t, .int signs_t, .int waitingBelow_t, .int limited_t, .int f1_13_26, .int lastBlock_t])), (a_draft_h0, .inr (1, [.ref a_cells_a_draft_h0, .int count_a_draft_h0])), (a_cells_a_draft_h0, .inl (cI, n_a_cells_a_draft_h0, .inl b_a_cells_a_draft_h0)), (a_waiting_h0, .inr (5, [.ref a_cells_a_waiting_h0, .int count_a_waiting_h0])), (a_cells_a_waiting_h0, .inl (cI, n_a_cells_a_waiting_h0, .inl b_a_cells_a_waiting_h0))]) (w0 := [(a_scanner_h0, .inr (4, [.ref a_text_a_scanner_h0, .int next_a_scanner_h0, .int kind_a_scanner_h0, .int start_a_scanner_h0, .int width_a_scanner_h0]))]) (pl := fpo a9_26 n9_26 d9_26 c9_26) [0, 1, 3, 4, 5, 6, 2] 7 rfl rfl (by decide)) rfl rfl (Nat.le_of_ble_eq_true rfl) d_Rd_takeOperator_45 ⟨show cl_26 + 0 ≤ mc by omega, show sl_26 + 0 ≤ ms by omega⟩ (fun v w hq => ?_)
    obtain ⟨rfl, rfl⟩ := hq
    refine j_perm (ws' := ((h0, .inr (2, [.ref a_scanner_h0, .ref a_draft_h0, .ref a_waiting_h0, .ref a_functions_h0, .ref (a9_26 0), .ref (a9_26 d9_26), .ref a_text_h0, .int mode_h0, .int levels_h0, .int signs_h0, .int loops_h0, .int token_h0, .int fault_h0])) :: ((a9_26 d9_26), .inr (0, [(frB a9_26 d9_26), (frA a9_26 n9_26 d9_26), .int kind_t, .int place_t, .int width_t, .int second_t, .int parts_t, .int innerParts_t, .int innerPlace_t, .int innerWidth_t, .int signs_t, .int waitingBelow_t, .int limited_t, .int f1_13_26, .int lastBlock_t])) :: (a_draft_h0, .inr (1, [.ref a_cells_a_draft_h0, .int count_a_draft_h0])) :: (a_cells_a_draft_h0, .inl (cI, n_a_cells_a_draft_h0, .inl b_a_cells_a_draft_h0)) :: (a_waiting_h0, .inr (5, [.ref a_cells_a_waiting_h0, .int count_a_waiting_h0])) :: (a_cells_a_waiting_h0, .inl (cI, n_a_cells_a_waiting_h0, .inl b_a_cells_a_waiting_h0)) :: (a_scanner_h0, .inr (4, [.ref a_text_a_scanner_h0, .int next_a_scanner_h0, .int kind_a_scanner_h0, .int start_a_scanner_h0, .int width_a_scanner_h0])) :: fpo a9_26 n9_26 d9_26 c9_26)) (pm_eq (a := [(h0, .inr (2, [.ref a_scanner_h0, .ref a_draft_h0, .ref a_waiting_h0, .ref a_functions_h0, .ref (a9_26 0), .ref (a9_26 d9_26), .ref a_text_h0, .int mode_h0, .int levels_h0, .int signs_h0, .int loops_h0, .int token_h0, .int fault_h0])), ((a9_26 d9_26), .inr (0, [(frB a9_26 d9_26), (frA a9_26 n9_26 d9_26), .int kind_t, .int place_t, .int width_t, .int second_t, .int parts_t, .int innerParts_t, .int innerPlace_t, .int innerWidth_t, .int signs_t, .int waitingBelow_t, .int limited_t, .int f1_13_26, .int lastBlock_t])), (a_draft_h0, .inr (1, [.ref a_cells_a_draft_h0, .int count_a_draft_h0])), (a_cells_a_draft_h0, .inl (cI, n_a_cells_a_draft_h0, .inl b_a_cells_a_draft_h0)), (a_waiting_h0, .inr (5, [.ref a_cells_a_waiting_h0, .int count_a_waiting_h0])), (a_cells_a_waiting_h0, .inl (cI, n_a_cells_a_waiting_h0, .inl b_a_cells_a_waiting_h0))]) (b := fpo a9_26 n9_26 d9_26 c9_26) (c := [(a_scanner_h0, .inr (4, [.ref a_text_a_scanner_h0, .int next_a_scanner_h0, .int kind_a_scanner_h0, .int start_a_scanner_h0, .int width_a_scanner_h0]))]) rfl) ?_
    refine j_norm (pc' := 48) (st' := [.int start_a_scanner_h0, .int 38, .ref a_draft_h0]) (ws' := ((h0, .inr (2, [.ref a_scanner_h0, .ref a_draft_h0, .ref a_waiting_h0, .ref a_functions_h0, .ref (a9_26 0), .ref (a9_26 d9_26), .ref a_text_h0, .int mode_h0, .int levels_h0, .int signs_h0, .int loops_h0, .int token_h0, .int fault_h0])) :: ((a9_26 d9_26), .inr (0, [(frB a9_26 d9_26), (frA a9_26 n9_26 d9_26), .int kind_t, .int place_t, .int width_t, .int second_t, .int parts_t, .int innerParts_t, .int innerPlace_t, .int innerWidth_t, .int signs_t, .int waitingBelow_t, .int limited_t, .int f1_13_26, .int lastBlock_t])) :: (a_draft_h0, .inr (1, [.ref a_cells_a_draft_h0, .int count_a_draft_h0])) :: (a_cells_a_draft_h0, .inl (cI, n_a_cells_a_draft_h0, .inl b_a_cells_a_draft_h0)) :: (a_waiting_h0, .inr (5, [.ref a_cells_a_waiting_h0, .int count_a_waiting_h0])) :: (a_cells_a_waiting_h0, .inl (cI, n_a_cells_a_waiting_h0, .inl b_a_cells_a_waiting_h0)) :: (a_scanner_h0, .inr (4, [.ref a_text_a_scanner_h0, .int next_a_scanner_h0, .int kind_a_scanner_h0, .int start_a_scanner_h0, .int width_a_scanner_h0])) :: fpo a9_26 n9_26 d9_26 c9_26)) (cl' := cl_26) (sl' := sl_26) rfl rfl rfl rfl rfl rfl ?_
    refine j_iconst (v := (-1)) d_Rd_takeOperator_48 (by decide) ?_
    refine j_iconst (v := 1) d_Rd_takeOperator_49 (by decide) ?_
    refine j_aload_n d_Rd_takeOperator_50 rfl 0 rfl ?_
    refine j_get ig_Rd rfl 0 rfl 0 (by decide) rfl m_169 rfl d_Rd_takeOperator_51 ?_
    refine j_callVg (n := 0) (As := []) (rest := [.int 1, .int (-1), .int start_a_scanner_h0, .int 38, .ref a_draft_h0]) (wr := ([(h0, .inr (2, [.ref a_scanner_h0, .ref a_draft_h0, .ref a_waiting_h0, .ref a_functions_h0, .ref (a9_26 0), .ref (a9_26 d9_26), .ref a_text_h0, .int mode_h0, .int levels_h0, .int signs_h0, .int loops_h0, .int token_h0, .int fault_h0])), ((a9_26 d9_26), .inr (0, [(frB a9_26 d9_26), (frA a9_26 n9_26 d9_26), .int kind_t, .int place_t, .int width_t, .int second_t, .int parts_t, .int innerParts_t, .int innerPlace_t, .int innerWidth_t, .int signs_t, .int waitingBelow_t, .int limited_t, .int f1_13_26, .int lastBlock_t])), (a_draft_h0, .inr (1, [.ref a_cells_a_draft_h0, .int count_a_draft_h0])), (a_cells_a_draft_h0, .inl (cI, n_a_cells_a_draft_h0, .inl b_a_cells_a_draft_h0)), (a_waiting_h0, .inr (5, [.ref a_cells_a_waiting_h0, .int count_a_waiting_h0])), (a_cells_a_waiting_h0, .inl (cI, n_a_cells_a_waiting_h0, .inl b_a_cells_a_waiting_h0))] ++ fpo a9_26 n9_26 d9_26 c9_26)) (c_Sc_width l D cI cB cJ cS a_scanner_h0 a_text_a_scanner_h0 next_a_scanner_h0 kind_a_scanner_h0 start_a_scanner_h0 width_a_scanner_h0  ) k_Rd_124 (by decide) ⟨Nat.le_of_ble_eq_true rfl, Nat.le_of_ble_eq_true rfl⟩ rfl 0 rfl (pk_mid (wr := [(h0, .inr (2, [.ref a_scanner_h0, .ref a_draft_h0, .ref a_waiting_h0, .ref a_functions_h0, .ref (a9_26 0), .ref (a9_26 d9_26), .ref a_text_h0, .int mode_h0, .int levels_h0, .int signs_h0, .int loops_h0, .int token_h0, .int fault_h0])), ((a9_26 d9_26), .inr (0, [(frB a9_26 d9_26), (frA a9_26 n9_26 d9_26), .int kind_t, .int place_t, .int width_t, .int second_t, .int parts_t, .int innerParts_t, .int innerPlace_t, .int innerWidth_t, .int signs_t, .int waitingBelow_t, .int limited_t, .int f1_13_26, .int lastBlock_t])), (a_draft_h0, .inr (1, [.ref a_cells_a_draft_h0, .int count_a_draft_h0])), (a_cells_a_draft_h0, .inl (cI, n_a_cells_a_draft_h0, .inl b_a_cells_a_draft_h0)), (a_waiting_h0, .inr (5, [.ref a_cells_a_waiting_h0, .int count_a_waiting_h0])), (a_cells_a_waiting_h0, .inl (cI, n_a_cells_a_waiting_h0, .inl b_a_cells_a_waiting_h0))]) (w0 := [(a_scanner_h0, .inr (4, [.ref a_text_a_scanner_h0, .int next_a_scanner_h0, .int kind_a_scanner_h0, .int start_a_scanner_h0, .int width_a_scanner_h0]))]) (pl := fpo a9_26 n9_26 d9_26 c9_26) [0, 1, 2, 3, 4, 5, 6] 7 rfl rfl (by decide)) rfl rfl (Nat.le_of_ble_eq_true rfl) d_Rd_takeOperator_54 ⟨show cl_26 + 0 ≤ mc by omega, show sl_26 + 0 ≤ ms by omega⟩ (fun v w hq => ?_)
    obtain ⟨rfl, rfl⟩ := hq
    refine j_perm (ws' := ((h0, .inr (2, [.ref a_scanner_h0, .ref a_draft_h0, .ref a_waiting_h0, .ref a_functions_h0, .ref (a9_26 0), .ref (a9_26 d9_26), .ref a_text_h0, .int mode_h0, .int levels_h0, .int signs_h0, .int loops_h0, .int token_h0, .int fault_h0])) :: ((a9_26 d9_26), .inr (0, [(frB a9_26 d9_26), (frA a9_26 n9_26 d9_26), .int kind_t, .int place_t, .int width_t, .int second_t, .int parts_t, .int innerParts_t, .int innerPlace_t, .int innerWidth_t, .int signs_t, .int waitingBelow_t, .int limited_t, .int f1_13_26, .int lastBlock_t])) :: (a_draft_h0, .inr (1, [.ref a_cells_a_draft_h0, .int count_a_draft_h0])) :: (a_cells_a_draft_h0, .inl (cI, n_a_cells_a_draft_h0, .inl b_a_cells_a_draft_h0)) :: (a_waiting_h0, .inr (5, [.ref a_cells_a_waiting_h0, .int count_a_waiting_h0])) :: (a_cells_a_waiting_h0, .inl (cI, n_a_cells_a_waiting_h0, .inl b_a_cells_a_waiting_h0)) :: (a_scanner_h0, .inr (4, [.ref a_text_a_scanner_h0, .int next_a_scanner_h0, .int kind_a_scanner_h0, .int start_a_scanner_h0, .int width_a_scanner_h0])) :: fpo a9_26 n9_26 d9_26 c9_26)) (pm_eq (a := [(h0, .inr (2, [.ref a_scanner_h0, .ref a_draft_h0, .ref a_waiting_h0, .ref a_functions_h0, .ref (a9_26 0), .ref (a9_26 d9_26), .ref a_text_h0, .int mode_h0, .int levels_h0, .int signs_h0, .int loops_h0, .int token_h0, .int fault_h0])), ((a9_26 d9_26), .inr (0, [(frB a9_26 d9_26), (frA a9_26 n9_26 d9_26), .int kind_t, .int place_t, .int width_t, .int second_t, .int parts_t, .int innerParts_t, .int innerPlace_t, .int innerWidth_t, .int signs_t, .int waitingBelow_t, .int limited_t, .int f1_13_26, .int lastBlock_t])), (a_draft_h0, .inr (1, [.ref a_cells_a_draft_h0, .int count_a_draft_h0])), (a_cells_a_draft_h0, .inl (cI, n_a_cells_a_draft_h0, .inl b_a_cells_a_draft_h0)), (a_waiting_h0, .inr (5, [.ref a_cells_a_waiting_h0, .int count_a_waiting_h0])), (a_cells_a_waiting_h0, .inl (cI, n_a_cells_a_waiting_h0, .inl b_a_cells_a_waiting_h0))]) (b := fpo a9_26 n9_26 d9_26 c9_26) (c := [(a_scanner_h0, .inr (4, [.ref a_text_a_scanner_h0, .int next_a_scanner_h0, .int kind_a_scanner_h0, .int start_a_scanner_h0, .int width_a_scanner_h0]))]) rfl) ?_
    refine j_norm (pc' := 57) (st' := [.int width_a_scanner_h0, .int 1, .int (-1), .int start_a_scanner_h0, .int 38, .ref a_draft_h0]) (ws' := ((h0, .inr (2, [.ref a_scanner_h0, .ref a_draft_h0, .ref a_waiting_h0, .ref a_functions_h0, .ref (a9_26 0), .ref (a9_26 d9_26), .ref a_text_h0, .int mode_h0, .int levels_h0, .int signs_h0, .int loops_h0, .int token_h0, .int fault_h0])) :: ((a9_26 d9_26), .inr (0, [(frB a9_26 d9_26), (frA a9_26 n9_26 d9_26), .int kind_t, .int place_t, .int width_t, .int second_t, .int parts_t, .int innerParts_t, .int innerPlace_t, .int innerWidth_t, .int signs_t, .int waitingBelow_t, .int limited_t, .int f1_13_26, .int lastBlock_t])) :: (a_draft_h0, .inr (1, [.ref a_cells_a_draft_h0, .int count_a_draft_h0])) :: (a_cells_a_draft_h0, .inl (cI, n_a_cells_a_draft_h0, .inl b_a_cells_a_draft_h0)) :: (a_waiting_h0, .inr (5, [.ref a_cells_a_waiting_h0, .int count_a_waiting_h0])) :: (a_cells_a_waiting_h0, .inl (cI, n_a_cells_a_waiting_h0, .inl b_a_cells_a_waiting_h0)) :: (a_scanner_h0, .inr (4, [.ref a_text_a_scanner_h0, .int next_a_scanner_h0, .int kind_a_scanner_h0, .int start_a_scanner_h0, .int width_a_scanner_h0])) :: fpo a9_26 n9_26 d9_26 c9_26)) (cl' := cl_26) (sl' := sl_26) rfl rfl rfl rfl rfl rfl ?_
    replace h := bw_s h
    obtain ⟨⟨r162, r163, r164⟩, C166, S167, C168, S169, k170, h, e1, e2⟩ := h
    replace hC : cl_26 + C166 + C168 ≤ mc := by omega
    replace hS : sl_26 + S167 + S169 ≤ ms := by omega
    clear e1 e2
    refine j_callVg (n := 5) (As := [.int 38, .int start_a_scanner_h0, .int (-1), .int 1, .int width_a_scanner_h0]) (rest := []) (wr := ([(h0, .inr (2, [.ref a_scanner_h0, .ref a_draft_h0, .ref a_waiting_h0, .ref a_functions_h0, .ref (a9_26 0), .ref (a9_26 d9_26), .ref a_text_h0, .int mode_h0, .int levels_h0, .int signs_h0, .int loops_h0, .int token_h0, .int fault_h0])), ((a9_26 d9_26), .inr (0, [(frB a9_26 d9_26), (frA a9_26 n9_26 d9_26), .int kind_t, .int place_t, .int width_t, .int second_t, .int parts_t, .int innerParts_t, .int innerPlace_t, .int innerWidth_t, .int signs_t, .int waitingBelow_t, .int limited_t, .int f1_13_26, .int lastBlock_t])), (a_waiting_h0, .inr (5, [.ref a_cells_a_waiting_h0, .int count_a_waiting_h0])), (a_cells_a_waiting_h0, .inl (cI, n_a_cells_a_waiting_h0, .inl b_a_cells_a_waiting_h0)), (a_scanner_h0, .inr (4, [.ref a_text_a_scanner_h0, .int next_a_scanner_h0, .int kind_a_scanner_h0, .int start_a_scanner_h0, .int width_a_scanner_h0]))] ++ fpo a9_26 n9_26 d9_26 c9_26)) (c_Nd_add l D cI cB cJ cS a_draft_h0 a_cells_a_draft_h0 38 start_a_scanner_h0 (-1) 1 width_a_scanner_h0 count_a_draft_h0 n_a_cells_a_draft_h0 b_a_cells_a_draft_h0  r162 r163 r164 C166 S167 k170) k_Rd_93 (by decide) ⟨Nat.le_of_ble_eq_true rfl, Nat.le_of_ble_eq_true rfl⟩ rfl 0 rfl (pk_mid (wr := [(h0, .inr (2, [.ref a_scanner_h0, .ref a_draft_h0, .ref a_waiting_h0, .ref a_functions_h0, .ref (a9_26 0), .ref (a9_26 d9_26), .ref a_text_h0, .int mode_h0, .int levels_h0, .int signs_h0, .int loops_h0, .int token_h0, .int fault_h0])), ((a9_26 d9_26), .inr (0, [(frB a9_26 d9_26), (frA a9_26 n9_26 d9_26), .int kind_t, .int place_t, .int width_t, .int second_t, .int parts_t, .int innerParts_t, .int innerPlace_t, .int innerWidth_t, .int signs_t, .int waitingBelow_t, .int limited_t, .int f1_13_26, .int lastBlock_t])), (a_waiting_h0, .inr (5, [.ref a_cells_a_waiting_h0, .int count_a_waiting_h0])), (a_cells_a_waiting_h0, .inl (cI, n_a_cells_a_waiting_h0, .inl b_a_cells_a_waiting_h0)), (a_scanner_h0, .inr (4, [.ref a_text_a_scanner_h0, .int next_a_scanner_h0, .int kind_a_scanner_h0, .int start_a_scanner_h0, .int width_a_scanner_h0]))]) (w0 := [(a_draft_h0, .inr (1, [.ref a_cells_a_draft_h0, .int count_a_draft_h0])), (a_cells_a_draft_h0, .inl (cI, n_a_cells_a_draft_h0, .inl b_a_cells_a_draft_h0))]) (pl := fpo a9_26 n9_26 d9_26 c9_26) [0, 1, 4, 5, 6, 2, 3] 7 rfl rfl (by decide)) rfl rfl (Nat.le_of_ble_eq_true rfl) d_Rd_takeOperator_57 ⟨show cl_26 + C166 ≤ mc by omega, show sl_26 + S167 ≤ ms by omega⟩ (fun v w hq => ?_)
    obtain ⟨q165, rfl, rfl⟩ := hq
    refine j_perm (ws' := ((h0, .inr (2, [.ref a_scanner_h0, .ref a_draft_h0, .ref a_waiting_h0, .ref a_functions_h0, .ref (a9_26 0), .ref (a9_26 d9_26), .ref a_text_h0, .int mode_h0, .int levels_h0, .int signs_h0, .int loops_h0, .int token_h0, .int fault_h0])) :: ((a9_26 d9_26), .inr (0, [(frB a9_26 d9_26), (frA a9_26 n9_26 d9_26), .int kind_t, .int place_t, .int width_t, .int second_t, .int parts_t, .int innerParts_t, .int innerPlace_t, .int innerWidth_t, .int signs_t, .int waitingBelow_t, .int limited_t, .int f1_13_26, .int lastBlock_t])) :: (a_waiting_h0, .inr (5, [.ref a_cells_a_waiting_h0, .int count_a_waiting_h0])) :: (a_cells_a_waiting_h0, .inl (cI, n_a_cells_a_waiting_h0, .inl b_a_cells_a_waiting_h0)) :: (a_scanner_h0, .inr (4, [.ref a_text_a_scanner_h0, .int next_a_scanner_h0, .int kind_a_scanner_h0, .int start_a_scanner_h0, .int width_a_scanner_h0])) :: (a_draft_h0, .inr (1, [.ref q165, .int r162])) :: (q165, .inl (cI, r163, .inl r164)) :: fpo a9_26 n9_26 d9_26 c9_26)) (pm_eq (a := [(h0, .inr (2, [.ref a_scanner_h0, .ref a_draft_h0, .ref a_waiting_h0, .ref a_functions_h0, .ref (a9_26 0), .ref (a9_26 d9_26), .ref a_text_h0, .int mode_h0, .int levels_h0, .int signs_h0, .int loops_h0, .int token_h0, .int fault_h0])), ((a9_26 d9_26), .inr (0, [(frB a9_26 d9_26), (frA a9_26 n9_26 d9_26), .int kind_t, .int place_t, .int width_t, .int second_t, .int parts_t, .int innerParts_t, .int innerPlace_t, .int innerWidth_t, .int signs_t, .int waitingBelow_t, .int limited_t, .int f1_13_26, .int lastBlock_t])), (a_waiting_h0, .inr (5, [.ref a_cells_a_waiting_h0, .int count_a_waiting_h0])), (a_cells_a_waiting_h0, .inl (cI, n_a_cells_a_waiting_h0, .inl b_a_cells_a_waiting_h0)), (a_scanner_h0, .inr (4, [.ref a_text_a_scanner_h0, .int next_a_scanner_h0, .int kind_a_scanner_h0, .int start_a_scanner_h0, .int width_a_scanner_h0]))]) (b := fpo a9_26 n9_26 d9_26 c9_26) (c := [(a_draft_h0, .inr (1, [.ref q165, .int r162])), (q165, .inl (cI, r163, .inl r164))]) rfl) ?_
    refine j_norm (pc' := 60) (st' := []) (ws' := ((h0, .inr (2, [.ref a_scanner_h0, .ref a_draft_h0, .ref a_waiting_h0, .ref a_functions_h0, .ref (a9_26 0), .ref (a9_26 d9_26), .ref a_text_h0, .int mode_h0, .int levels_h0, .int signs_h0, .int loops_h0, .int token_h0, .int fault_h0])) :: ((a9_26 d9_26), .inr (0, [(frB a9_26 d9_26), (frA a9_26 n9_26 d9_26), .int kind_t, .int place_t, .int width_t, .int second_t, .int parts_t, .int innerParts_t, .int innerPlace_t, .int innerWidth_t, .int signs_t, .int waitingBelow_t, .int limited_t, .int f1_13_26, .int lastBlock_t])) :: (a_waiting_h0, .inr (5, [.ref a_cells_a_waiting_h0, .int count_a_waiting_h0])) :: (a_cells_a_waiting_h0, .inl (cI, n_a_cells_a_waiting_h0, .inl b_a_cells_a_waiting_h0)) :: (a_scanner_h0, .inr (4, [.ref a_text_a_scanner_h0, .int next_a_scanner_h0, .int kind_a_scanner_h0, .int start_a_scanner_h0, .int width_a_scanner_h0])) :: (a_draft_h0, .inr (1, [.ref q165, .int r162])) :: (q165, .inl (cI, r163, .inl r164)) :: fpo a9_26 n9_26 d9_26 c9_26)) (cl' := cl_26 + C166) (sl' := sl_26 + S167) rfl rfl rfl rfl rfl rfl ?_
    refine j_iconst (v := 1) d_Rd_takeOperator_60 (by decide) ?_
    replace h := lf_s h
    obtain ⟨h, e1, e2⟩ := h
    replace h := Prod.mk.inj h
    obtain ⟨h9, h⟩ := h
    subst h9
    replace h := Prod.mk.inj h
    obtain ⟨h9, h⟩ := h
    subst h9
    replace h := Prod.mk.inj h
    obtain ⟨h9, h⟩ := h
    subst h9
    replace h := Prod.mk.inj h
    obtain ⟨h9, h⟩ := h
    subst h9
    replace h := Prod.mk.inj h
    obtain ⟨h9, h⟩ := h
    subst h9
    replace h := Prod.mk.inj h
    obtain ⟨h9, h⟩ := h
    subst h9
    replace h := Prod.mk.inj h
    obtain ⟨h9, h⟩ := h
    subst h9
    replace h := Prod.mk.inj h
    obtain ⟨h9, h⟩ := h
    subst h9
    replace h := Prod.mk.inj h
    obtain ⟨h9, h⟩ := h
    subst h9
    replace h := Prod.mk.inj h
    obtain ⟨h9, h⟩ := h
    subst h9
    replace h := Prod.mk.inj h
    obtain ⟨h9, h⟩ := h
    subst h9
    replace h := Prod.mk.inj h
    obtain ⟨h9, h⟩ := h
    subst h9
    replace h := Prod.mk.inj h
    obtain ⟨h9, h⟩ := h
    subst h9
    replace h := Prod.mk.inj h
    obtain ⟨h9, h⟩ := h
    subst h9
    replace h := Prod.mk.inj h
    obtain ⟨h9, h⟩ := h
    subst h9
    replace h := Prod.mk.inj h
    obtain ⟨h9, h⟩ := h
    subst h9
    replace h := Prod.mk.inj h
    obtain ⟨h9, h⟩ := h
    subst h9
    replace h := Prod.mk.inj h
    obtain ⟨h9, h⟩ := h
    subst h9
    replace h := Prod.mk.inj h
    obtain ⟨h9, h⟩ := h
    subst h9
    replace h := Prod.mk.inj h
    obtain ⟨h9, h⟩ := h
    subst h9
    replace h := Prod.mk.inj h
    obtain ⟨h9, h⟩ := h
    subst h9
    replace h := Prod.mk.inj h
    obtain ⟨h9, h⟩ := h
    subst h9
    replace h := Prod.mk.inj h
    obtain ⟨h9, h⟩ := h
    subst h9
    replace h := Prod.mk.inj h
    obtain ⟨h9, h⟩ := h
    subst h9
    replace h := Prod.mk.inj h
    obtain ⟨h9, h⟩ := h
    subst h9
    subst h
    refine j_widen (cl' := mc) (sl' := ms) (by omega) (by omega) ?_
    refine j_subP (w := [(h0, .inr (2, [.ref a_scanner_h0, .ref a_draft_h0, .ref a_waiting_h0, .ref a_functions_h0, .ref (a9_26 0), .ref (a9_26 d9_26), .ref a_text_h0, .int mode_h0, .int levels_h0, .int signs_h0, .int loops_h0, .int token_h0, .int fault_h0])), ((a9_26 d9_26), .inr (0, [(frB a9_26 d9_26), (frA a9_26 n9_26 d9_26), .int kind_t, .int place_t, .int width_t, .int second_t, .int parts_t, .int innerParts_t, .int innerPlace_t, .int innerWidth_t, .int signs_t, .int waitingBelow_t, .int limited_t, .int f1_13_26, .int lastBlock_t])), (a_scanner_h0, .inr (4, [.ref a_text_a_scanner_h0, .int next_a_scanner_h0, .int kind_a_scanner_h0, .int start_a_scanner_h0, .int width_a_scanner_h0])), (a_draft_h0, .inr (1, [.ref q165, .int r162])), (a_waiting_h0, .inr (5, [.ref a_cells_a_waiting_h0, .int count_a_waiting_h0])), (q165, .inl (cI, r163, .inl r164)), (a_cells_a_waiting_h0, .inl (cI, n_a_cells_a_waiting_h0, .inl b_a_cells_a_waiting_h0))]) (pl := fpo a9_26 n9_26 d9_26 c9_26) (lv' := []) [0, 1, 4, 5, 2, 6, 3] [] 7 rfl rfl (by decide) [] rfl ?_
    exact j_zretE hr (zb_n zb1) d_Rd_takeOperator_61 ⟨a9_26, q165, a_cells_a_waiting_h0, rfl, zb1, rfl⟩
set_option maxHeartbeats 4000000 in
set_option maxRecDepth 100000 in
theorem c_Rd_takeOperator (l : Launch) (D : va_G) (cI cB cJ cS : ClassId) (h0 : Nat) (fad : Nat → Nat) (a_scanner_h0 : Nat) (a_draft_h0 : Nat) (a_waiting_h0 : Nat) (a_functions_h0 : Nat) (a_text_h0 : Nat) (a_text_a_scanner_h0 : Nat) (a_cells_a_draft_h0 : Nat) (a_cells_a_waiting_h0 : Nat) (fn : Nat) (fd : Nat) (fcf : Nat → FrC) (mode_h0 : Int32) (levels_h0 : Int32) (signs_h0 : Int32) (loops_h0 : Int32) (token_h0 : Int32) (fault_h0 : Int32) (kind_t : Int32) (place_t : Int32) (width_t : Int32) (second_t : Int32) (parts_t : Int32) (innerParts_t : Int32) (innerPlace_t : Int32) (innerWidth_t : Int32) (signs_t : Int32) (waitingBelow_t : Int32) (limited_t : Int32) (targets_t : Int32) (lastBlock_t : Int32) (next_a_scanner_h0 : Int32) (kind_a_scanner_h0 : Int32) (start_a_scanner_h0 : Int32) (width_a_scanner_h0 : Int32) (count_a_draft_h0 : Int32) (n_a_cells_a_draft_h0 : Nat) (b_a_cells_a_draft_h0 : Nat → Int32) (count_a_waiting_h0 : Int32) (n_a_cells_a_waiting_h0 : Nat) (b_a_cells_a_waiting_h0 : Nat → Int32) (on_p : Nat) (od_p : Nat) (ocf_p : Nat → FrC) (ret : Int32) (o_0_7 : Int32) (o_0_8 : Int32) (o_0_9 : Int32) (o_1_2 : Int32) (o_1_3 : Int32) (o_1_4 : Int32) (o_1_5 : Int32) (o_1_6 : Int32) (o_1_7 : Int32) (o_1_8 : Int32) (o_1_9 : Int32) (o_1_10 : Int32) (o_1_11 : Int32) (o_1_12 : Int32) (o_1_13 : Int32) (o_1_14 : Int32) (o_3_1 : Int32) (o_5_1 : Int32) (on_nq_3_0 : Nat) (ob_nq_3_0 : Nat → Int32) (on_nq_5_0 : Nat) (ob_nq_5_0 : Nat → Int32) (mc ms : Nat) (h : F_Rd_takeOperator fn fd fcf mode_h0 levels_h0 signs_h0 loops_h0 token_h0 fault_h0 kind_t place_t width_t second_t parts_t innerParts_t innerPlace_t innerWidth_t signs_t waitingBelow_t limited_t targets_t lastBlock_t next_a_scanner_h0 kind_a_scanner_h0 start_a_scanner_h0 width_a_scanner_h0 count_a_draft_h0 n_a_cells_a_draft_h0 b_a_cells_a_draft_h0 count_a_waiting_h0 n_a_cells_a_waiting_h0 b_a_cells_a_waiting_h0 = some ((on_p, od_p, ocf_p, ret, o_0_7, o_0_8, o_0_9, o_1_2, o_1_3, o_1_4, o_1_5, o_1_6, o_1_7, o_1_8, o_1_9, o_1_10, o_1_11, o_1_12, o_1_13, o_1_14, o_3_1, o_5_1, on_nq_3_0, ob_nq_3_0, on_nq_5_0, ob_nq_5_0), mc, ms)) : Ct l D (gT cI cB cJ cS) y_Rd_takeOperator prog_6_method_58_code 2 (Option.some Jvm.ClassFile.FieldType.boolean) 5 151 mc ms [.ref h0] ((h0, .inr (2, [.ref a_scanner_h0, .ref a_draft_h0, .ref a_waiting_h0, .ref a_functions_h0, .ref (fad 0), .ref (fad fd), .ref a_text_h0, .int mode_h0, .int levels_h0, .int signs_h0, .int loops_h0, .int token_h0, .int fault_h0])) :: ((fad fd), .inr (0, [(frB fad fd), (frA fad fn fd), .int kind_t, .int place_t, .int width_t, .int second_t, .int parts_t, .int innerParts_t, .int innerPlace_t, .int innerWidth_t, .int signs_t, .int waitingBelow_t, .int limited_t, .int targets_t, .int lastBlock_t])) :: (a_scanner_h0, .inr (4, [.ref a_text_a_scanner_h0, .int next_a_scanner_h0, .int kind_a_scanner_h0, .int start_a_scanner_h0, .int width_a_scanner_h0])) :: (a_draft_h0, .inr (1, [.ref a_cells_a_draft_h0, .int count_a_draft_h0])) :: (a_cells_a_draft_h0, .inl (cI, n_a_cells_a_draft_h0, .inl b_a_cells_a_draft_h0)) :: (a_waiting_h0, .inr (5, [.ref a_cells_a_waiting_h0, .int count_a_waiting_h0])) :: (a_cells_a_waiting_h0, .inl (cI, n_a_cells_a_waiting_h0, .inl b_a_cells_a_waiting_h0)) :: fpo fad fn fd fcf) (fun v w => ∃ nad : Nat → Nat, ∃ nq_3_0 : Nat, ∃ nq_5_0 : Nat, v = some (.int ret) ∧ zb ret ∧ w = ((h0, .inr (2, [.ref a_scanner_h0, .ref a_draft_h0, .ref a_waiting_h0, .ref a_functions_h0, .ref (nad 0), .ref (nad od_p), .ref a_text_h0, .int o_0_7, .int o_0_8, .int o_0_9, .int loops_h0, .int token_h0, .int fault_h0])) :: ((nad od_p), .inr (0, [(frB nad od_p), (frA nad on_p od_p), .int o_1_2, .int o_1_3, .int o_1_4, .int o_1_5, .int o_1_6, .int o_1_7, .int o_1_8, .int o_1_9, .int o_1_10, .int o_1_11, .int o_1_12, .int o_1_13, .int o_1_14])) :: (a_scanner_h0, .inr (4, [.ref a_text_a_scanner_h0, .int next_a_scanner_h0, .int kind_a_scanner_h0, .int start_a_scanner_h0, .int width_a_scanner_h0])) :: (a_draft_h0, .inr (1, [.ref nq_3_0, .int o_3_1])) :: (a_waiting_h0, .inr (5, [.ref nq_5_0, .int o_5_1])) :: (nq_3_0, .inl (cI, on_nq_3_0, .inl ob_nq_3_0)) :: (nq_5_0, .inl (cI, on_nq_5_0, .inl ob_nq_5_0)) :: fpo nad on_p od_p ocf_p)) := by
  refine Ct.mk (by decide) (Nat.le_of_ble_eq_true rfl) ?_
  intro p e s m below meth c hr hnm
  refine j_norm (pc' := 0) (lv' := [(0, .ref h0)]) (st' := []) (ws' := ((h0, .inr (2, [.ref a_scanner_h0, .ref a_draft_h0, .ref a_waiting_h0, .ref a_functions_h0, .ref (fad 0), .ref (fad fd), .ref a_text_h0, .int mode_h0, .int levels_h0, .int signs_h0, .int loops_h0, .int token_h0, .int fault_h0])) :: ((fad fd), .inr (0, [(frB fad fd), (frA fad fn fd), .int kind_t, .int place_t, .int width_t, .int second_t, .int parts_t, .int innerParts_t, .int innerPlace_t, .int innerWidth_t, .int signs_t, .int waitingBelow_t, .int limited_t, .int targets_t, .int lastBlock_t])) :: (a_scanner_h0, .inr (4, [.ref a_text_a_scanner_h0, .int next_a_scanner_h0, .int kind_a_scanner_h0, .int start_a_scanner_h0, .int width_a_scanner_h0])) :: (a_draft_h0, .inr (1, [.ref a_cells_a_draft_h0, .int count_a_draft_h0])) :: (a_cells_a_draft_h0, .inl (cI, n_a_cells_a_draft_h0, .inl b_a_cells_a_draft_h0)) :: (a_waiting_h0, .inr (5, [.ref a_cells_a_waiting_h0, .int count_a_waiting_h0])) :: (a_cells_a_waiting_h0, .inl (cI, n_a_cells_a_waiting_h0, .inl b_a_cells_a_waiting_h0)) :: fpo fad fn fd fcf)) (cl' := 0) (sl' := 0) rfl rfl rfl rfl rfl rfl ?_
  unfold F_Rd_takeOperator at h
  have hC : 0 + mc ≤ mc := by omega
  have hS : 0 + ms ≤ ms := by omega
  refine j_aload_n d_Rd_takeOperator_0 rfl 0 rfl ?_
  refine j_get ig_Rd rfl 0 rfl 11 (by decide) rfl m_180 rfl d_Rd_takeOperator_1 ?_
  refine j_bipush (v := 44) d_Rd_takeOperator_4 (by decide) ?_
  refine j_icmp_eq (tgt := 26) d_Rd_takeOperator_6 (by decide) (fun c171 => ?_) (fun c171 => ?_)
  · replace h := it_t c171 h
    refine j_subP (w := [(h0, .inr (2, [.ref a_scanner_h0, .ref a_draft_h0, .ref a_waiting_h0, .ref a_functions_h0, .ref (fad 0), .ref (fad fd), .ref a_text_h0, .int mode_h0, .int levels_h0, .int signs_h0, .int loops_h0, .int token_h0, .int fault_h0])), ((fad fd), .inr (0, [(frB fad fd), (frA fad fn fd), .int kind_t, .int place_t, .int width_t, .int second_t, .int parts_t, .int innerParts_t, .int innerPlace_t, .int innerWidth_t, .int signs_t, .int waitingBelow_t, .int limited_t, .int targets_t, .int lastBlock_t])), (a_scanner_h0, .inr (4, [.ref a_text_a_scanner_h0, .int next_a_scanner_h0, .int kind_a_scanner_h0, .int start_a_scanner_h0, .int width_a_scanner_h0])), (a_draft_h0, .inr (1, [.ref a_cells_a_draft_h0, .int count_a_draft_h0])), (a_cells_a_draft_h0, .inl (cI, n_a_cells_a_draft_h0, .inl b_a_cells_a_draft_h0)), (a_waiting_h0, .inr (5, [.ref a_cells_a_waiting_h0, .int count_a_waiting_h0])), (a_cells_a_waiting_h0, .inl (cI, n_a_cells_a_waiting_h0, .inl b_a_cells_a_waiting_h0))]) (pl := fpo fad fn fd fcf) (lv' := [(0, .ref h0)]) [0, 1, 2, 3, 4, 5, 6] [] 7 rfl rfl (by decide) [0] rfl ?_
    exact L_Rd_takeOperator_26 l D cI cB cJ cS h0 fad a_scanner_h0 a_draft_h0 a_waiting_h0 a_functions_h0 a_text_h0 a_text_a_scanner_h0 a_cells_a_draft_h0 a_cells_a_waiting_h0 fn fd fcf mode_h0 levels_h0 signs_h0 loops_h0 token_h0 fault_h0 kind_t place_t width_t second_t parts_t innerParts_t innerPlace_t innerWidth_t signs_t waitingBelow_t limited_t targets_t lastBlock_t next_a_scanner_h0 kind_a_scanner_h0 start_a_scanner_h0 width_a_scanner_h0 count_a_draft_h0 n_a_cells_a_draft_h0 b_a_cells_a_draft_h0 count_a_waiting_h0 n_a_cells_a_waiting_h0 b_a_cells_a_waiting_h0 on_p od_p ocf_p ret o_0_7 o_0_8 o_0_9 o_1_2 o_1_3 o_1_4 o_1_5 o_1_6 o_1_7 o_1_8 o_1_9 o_1_10 o_1_11 o_1_12 o_1_13 o_1_14 o_3_1 o_5_1 on_nq_3_0 ob_nq_3_0 on_nq_5_0 ob_nq_5_0 mc ms p e s m below meth c hr hnm fad fn fd fcf targets_t 0 0 mc ms h hC hS
  · replace h := it_f c171 h
    refine j_aload_n d_Rd_takeOperator_9 rfl 0 rfl ?_
    refine j_get ig_Rd rfl 0 rfl 11 (by decide) rfl m_180 rfl d_Rd_takeOperator_10 ?_
    refine j_bipush (v := 93) d_Rd_takeOperator_13 (by decide) ?_
    refine j_icmp_eq (tgt := 26) d_Rd_takeOperator_15 (by decide) (fun c172 => ?_) (fun c172 => ?_)
    · replace h := it_t c172 h
      refine j_subP (w := [(h0, .inr (2, [.ref a_scanner_h0, .ref a_draft_h0, .ref a_waiting_h0, .ref a_functions_h0, .ref (fad 0), .ref (fad fd), .ref a_text_h0, .int mode_h0, .int levels_h0, .int signs_h0, .int loops_h0, .int token_h0, .int fault_h0])), ((fad fd), .inr (0, [(frB fad fd), (frA fad fn fd), .int kind_t, .int place_t, .int width_t, .int second_t, .int parts_t, .int innerParts_t, .int innerPlace_t, .int innerWidth_t, .int signs_t, .int waitingBelow_t, .int limited_t, .int targets_t, .int lastBlock_t])), (a_scanner_h0, .inr (4, [.ref a_text_a_scanner_h0, .int next_a_scanner_h0, .int kind_a_scanner_h0, .int start_a_scanner_h0, .int width_a_scanner_h0])), (a_draft_h0, .inr (1, [.ref a_cells_a_draft_h0, .int count_a_draft_h0])), (a_cells_a_draft_h0, .inl (cI, n_a_cells_a_draft_h0, .inl b_a_cells_a_draft_h0)), (a_waiting_h0, .inr (5, [.ref a_cells_a_waiting_h0, .int count_a_waiting_h0])), (a_cells_a_waiting_h0, .inl (cI, n_a_cells_a_waiting_h0, .inl b_a_cells_a_waiting_h0))]) (pl := fpo fad fn fd fcf) (lv' := [(0, .ref h0)]) [0, 1, 2, 3, 4, 5, 6] [] 7 rfl rfl (by decide) [0] rfl ?_
      exact L_Rd_takeOperator_26 l D cI cB cJ cS h0 fad a_scanner_h0 a_draft_h0 a_waiting_h0 a_functions_h0 a_text_h0 a_text_a_scanner_h0 a_cells_a_draft_h0 a_cells_a_waiting_h0 fn fd fcf mode_h0 levels_h0 signs_h0 loops_h0 token_h0 fault_h0 kind_t place_t width_t second_t parts_t innerParts_t innerPlace_t innerWidth_t signs_t waitingBelow_t limited_t targets_t lastBlock_t next_a_scanner_h0 kind_a_scanner_h0 start_a_scanner_h0 width_a_scanner_h0 count_a_draft_h0 n_a_cells_a_draft_h0 b_a_cells_a_draft_h0 count_a_waiting_h0 n_a_cells_a_waiting_h0 b_a_cells_a_waiting_h0 on_p od_p ocf_p ret o_0_7 o_0_8 o_0_9 o_1_2 o_1_3 o_1_4 o_1_5 o_1_6 o_1_7 o_1_8 o_1_9 o_1_10 o_1_11 o_1_12 o_1_13 o_1_14 o_3_1 o_5_1 on_nq_3_0 ob_nq_3_0 on_nq_5_0 ob_nq_5_0 mc ms p e s m below meth c hr hnm fad fn fd fcf targets_t 0 0 mc ms h hC hS
    · replace h := it_f c172 h
      refine j_aload_n d_Rd_takeOperator_18 rfl 0 rfl ?_
      refine j_get ig_Rd rfl 0 rfl 5 (by decide) rfl m_174 rfl d_Rd_takeOperator_19 ?_
      refine j_iconst (v := 0) d_Rd_takeOperator_22 (by decide) ?_
      refine j_put (ws' := ((h0, .inr (2, [.ref a_scanner_h0, .ref a_draft_h0, .ref a_waiting_h0, .ref a_functions_h0, .ref (fad 0), .ref (fad fd), .ref a_text_h0, .int mode_h0, .int levels_h0, .int signs_h0, .int loops_h0, .int token_h0, .int fault_h0])) :: ((fad fd), .inr (0, [(frB fad fd), (frA fad fn fd), .int kind_t, .int place_t, .int width_t, .int second_t, .int parts_t, .int innerParts_t, .int innerPlace_t, .int innerWidth_t, .int signs_t, .int waitingBelow_t, .int limited_t, .int 0, .int lastBlock_t])) :: (a_scanner_h0, .inr (4, [.ref a_text_a_scanner_h0, .int next_a_scanner_h0, .int kind_a_scanner_h0, .int start_a_scanner_h0, .int width_a_scanner_h0])) :: (a_draft_h0, .inr (1, [.ref a_cells_a_draft_h0, .int count_a_draft_h0])) :: (a_cells_a_draft_h0, .inl (cI, n_a_cells_a_draft_h0, .inl b_a_cells_a_draft_h0)) :: (a_waiting_h0, .inr (5, [.ref a_cells_a_waiting_h0, .int count_a_waiting_h0])) :: (a_cells_a_waiting_h0, .inl (cI, n_a_cells_a_waiting_h0, .inl b_a_cells_a_waiting_h0)) :: fpo fad fn fd fcf)) ig_Fr tk_Fr nm_Fr rfl 1 rfl 13 (by decide) rfl m_133 rfl (tk_Fr 13 (by decide)) (zb_n zb0) (zb_fit zb0) (Nat.le_of_ble_eq_true rfl) d_Rd_takeOperator_23 rfl ?_
      refine j_subP (w := [(h0, .inr (2, [.ref a_scanner_h0, .ref a_draft_h0, .ref a_waiting_h0, .ref a_functions_h0, .ref (fad 0), .ref (fad fd), .ref a_text_h0, .int mode_h0, .int levels_h0, .int signs_h0, .int loops_h0, .int token_h0, .int fault_h0])), ((fad fd), .inr (0, [(frB fad fd), (frA fad fn fd), .int kind_t, .int place_t, .int width_t, .int second_t, .int parts_t, .int innerParts_t, .int innerPlace_t, .int innerWidth_t, .int signs_t, .int waitingBelow_t, .int limited_t, .int 0, .int lastBlock_t])), (a_scanner_h0, .inr (4, [.ref a_text_a_scanner_h0, .int next_a_scanner_h0, .int kind_a_scanner_h0, .int start_a_scanner_h0, .int width_a_scanner_h0])), (a_draft_h0, .inr (1, [.ref a_cells_a_draft_h0, .int count_a_draft_h0])), (a_cells_a_draft_h0, .inl (cI, n_a_cells_a_draft_h0, .inl b_a_cells_a_draft_h0)), (a_waiting_h0, .inr (5, [.ref a_cells_a_waiting_h0, .int count_a_waiting_h0])), (a_cells_a_waiting_h0, .inl (cI, n_a_cells_a_waiting_h0, .inl b_a_cells_a_waiting_h0))]) (pl := fpo fad fn fd fcf) (lv' := [(0, .ref h0)]) [0, 1, 2, 3, 4, 5, 6] [] 7 rfl rfl (by decide) [0] rfl ?_
      exact L_Rd_takeOperator_26 l D cI cB cJ cS h0 fad a_scanner_h0 a_draft_h0 a_waiting_h0 a_functions_h0 a_text_h0 a_text_a_scanner_h0 a_cells_a_draft_h0 a_cells_a_waiting_h0 fn fd fcf mode_h0 levels_h0 signs_h0 loops_h0 token_h0 fault_h0 kind_t place_t width_t second_t parts_t innerParts_t innerPlace_t innerWidth_t signs_t waitingBelow_t limited_t targets_t lastBlock_t next_a_scanner_h0 kind_a_scanner_h0 start_a_scanner_h0 width_a_scanner_h0 count_a_draft_h0 n_a_cells_a_draft_h0 b_a_cells_a_draft_h0 count_a_waiting_h0 n_a_cells_a_waiting_h0 b_a_cells_a_waiting_h0 on_p od_p ocf_p ret o_0_7 o_0_8 o_0_9 o_1_2 o_1_3 o_1_4 o_1_5 o_1_6 o_1_7 o_1_8 o_1_9 o_1_10 o_1_11 o_1_12 o_1_13 o_1_14 o_3_1 o_5_1 on_nq_3_0 ob_nq_3_0 on_nq_5_0 ob_nq_5_0 mc ms p e s m below meth c hr hnm fad fn fd fcf 0 0 0 mc ms h hC hS
