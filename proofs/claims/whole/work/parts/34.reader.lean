noncomputable def F_Rd_take_132 (v2_7 : Int32) (K_7 : Int32 → Nat → Nat → (Nat → FrC) → Nat → (Nat → Int32) → Nat → (Nat → Int32) → Nat → (Nat → Int32) → Int32 → Int32 → Int32 → Int32 → Int32 → Int32 → Int32 → Int32 → Int32 → Int32 → Int32 → Int32 → Int32 → Int32 → Int32 → Int32 → Int32 → Int32 → Int32 → Int32 → Int32 → Int32 → Int32 → Int32 → Int32 → Option ((Nat × Nat × (Nat → FrC) × Int32 × Int32 × Int32 × Int32 × Int32 × Int32 × Int32 × Int32 × Int32 × Int32 × Int32 × Int32 × Int32 × Int32 × Int32 × Int32 × Int32 × Int32 × Int32 × Int32 × Int32 × Int32 × Int32 × Int32 × Int32 × Int32 × Int32 × Nat × (Nat → Int32) × Nat × (Nat → Int32) × Nat × (Nat → Int32)) × Nat × Nat)) (t0_132 : Int32) (n9_132 : Nat) (d9_132 : Nat) (c9_132 : Nat → FrC) (n0_132 : Nat) (b0_132 : Nat → Int32) (f1_1_132 : Int32) (n4_132 : Nat) (b4_132 : Nat → Int32) (f5_7_132 : Int32) (f5_8_132 : Int32) (f5_9_132 : Int32) (f5_10_132 : Int32) (f5_11_132 : Int32) (f6_2_132 : Int32) (f6_3_132 : Int32) (f6_4_132 : Int32) (f6_5_132 : Int32) (f6_6_132 : Int32) (f6_7_132 : Int32) (f6_8_132 : Int32) (f6_9_132 : Int32) (f6_10_132 : Int32) (f6_11_132 : Int32) (f6_12_132 : Int32) (f6_13_132 : Int32) (f6_14_132 : Int32) (f7_1_132 : Int32) (f7_2_132 : Int32) (f7_3_132 : Int32) (f7_4_132 : Int32) (f8_1_132 : Int32) (f9_1_132 : Int32) (n10_132 : Nat) (b10_132 : Nat → Int32) : Option ((Nat × Nat × (Nat → FrC) × Int32 × Int32 × Int32 × Int32 × Int32 × Int32 × Int32 × Int32 × Int32 × Int32 × Int32 × Int32 × Int32 × Int32 × Int32 × Int32 × Int32 × Int32 × Int32 × Int32 × Int32 × Int32 × Int32 × Int32 × Int32 × Int32 × Int32 × Nat × (Nat → Int32) × Nat × (Nat → Int32) × Nat × (Nat → Int32)) × Nat × Nat) :=
    if t0_132 = 0 then (some ((n9_132, d9_132, c9_132, (-1), f5_7_132, f5_8_132, f5_9_132, f5_10_132, f5_11_132, f7_3_132, f6_2_132, f6_3_132, f6_4_132, f6_5_132, f6_6_132, f6_7_132, f6_8_132, f6_9_132, f6_10_132, f6_11_132, f6_12_132, f6_13_132, f6_14_132, f7_1_132, f7_2_132, f7_3_132, f7_4_132, f9_1_132, f8_1_132, f1_1_132, n10_132, b10_132, n4_132, b4_132, n0_132, b0_132), 0, 0))
    else if v2_7 = 16384 then (some ((n9_132, d9_132, c9_132, (-1), f5_7_132, f5_8_132, f5_9_132, f5_10_132, f5_11_132, f7_3_132, f6_2_132, f6_3_132, f6_4_132, f6_5_132, f6_6_132, f6_7_132, f6_8_132, f6_9_132, f6_10_132, f6_11_132, f6_12_132, f6_13_132, f6_14_132, f7_1_132, f7_2_132, f7_3_132, f7_4_132, f9_1_132, f8_1_132, f1_1_132, n10_132, b10_132, n4_132, b4_132, n0_132, b0_132), 0, 0))
    else (K_7 (v2_7 + 1) n9_132 d9_132 c9_132 n10_132 b10_132 n4_132 b4_132 n0_132 b0_132 f5_7_132 f5_8_132 f5_9_132 f5_10_132 f5_11_132 f6_2_132 f6_3_132 f6_4_132 f6_5_132 f6_6_132 f6_7_132 f6_8_132 f6_9_132 f6_10_132 f6_11_132 f6_12_132 f6_13_132 f6_14_132 f7_1_132 f7_2_132 f7_3_132 f7_4_132 f9_1_132 f8_1_132 f1_1_132)
noncomputable def F_Rd_take_76 (size_g1 : Int32) (n_a_bytes_g1 : Nat) (b_a_bytes_g1 : Nat → Int32) (v2_7 : Int32) (n2_7 : Nat) (b2_7 : Nat → Int32) (n3_7 : Nat) (b3_7 : Nat → Int32) (n4_7 : Nat) (b4_7 : Nat → Int32) (f5_7_7 : Int32) (f5_8_7 : Int32) (f5_9_7 : Int32) (f5_10_7 : Int32) (f6_2_7 : Int32) (f6_3_7 : Int32) (f6_4_7 : Int32) (f6_5_7 : Int32) (f6_6_7 : Int32) (f6_7_7 : Int32) (f6_8_7 : Int32) (f6_9_7 : Int32) (f6_10_7 : Int32) (f6_11_7 : Int32) (f6_12_7 : Int32) (f6_13_7 : Int32) (f6_14_7 : Int32) (f8_1_7 : Int32) (f9_1_7 : Int32) (f10_1_7 : Int32) (K_7 : Int32 → Nat → Nat → (Nat → FrC) → Nat → (Nat → Int32) → Nat → (Nat → Int32) → Nat → (Nat → Int32) → Int32 → Int32 → Int32 → Int32 → Int32 → Int32 → Int32 → Int32 → Int32 → Int32 → Int32 → Int32 → Int32 → Int32 → Int32 → Int32 → Int32 → Int32 → Int32 → Int32 → Int32 → Int32 → Int32 → Int32 → Int32 → Option ((Nat × Nat × (Nat → FrC) × Int32 × Int32 × Int32 × Int32 × Int32 × Int32 × Int32 × Int32 × Int32 × Int32 × Int32 × Int32 × Int32 × Int32 × Int32 × Int32 × Int32 × Int32 × Int32 × Int32 × Int32 × Int32 × Int32 × Int32 × Int32 × Int32 × Int32 × Nat × (Nat → Int32) × Nat × (Nat → Int32) × Nat × (Nat → Int32)) × Nat × Nat)) (n9_76 : Nat) (d9_76 : Nat) (c9_76 : Nat → FrC) (f3_11_76 : Int32) (f10_1_76 : Int32) (f10_2_76 : Int32) (f10_3_76 : Int32) (f10_4_76 : Int32) : Option ((Nat × Nat × (Nat → FrC) × Int32 × Int32 × Int32 × Int32 × Int32 × Int32 × Int32 × Int32 × Int32 × Int32 × Int32 × Int32 × Int32 × Int32 × Int32 × Int32 × Int32 × Int32 × Int32 × Int32 × Int32 × Int32 × Int32 × Int32 × Int32 × Int32 × Int32 × Nat × (Nat → Int32) × Nat × (Nat → Int32) × Nat × (Nat → Int32)) × Nat × Nat) :=
    bw (F_Rd_settle n9_76 d9_76 c9_76 f5_7_7 f5_8_7 f5_9_7 f5_10_7 f3_11_76 (-1) f6_2_7 f6_3_7 f6_4_7 f6_5_7 f6_6_7 f6_7_7 f6_8_7 f6_9_7 f6_10_7 f6_11_7 f6_12_7 f6_13_7 f6_14_7 f10_1_76 f10_2_76 f10_3_76 f10_4_76 f9_1_7 n3_7 b3_7 f8_1_7 n2_7 b2_7) fun ⟨r5, r6, r7, r8, r9, r10, r11, r12, r13, r14, r15, r16, r17, r18, r19, r20, r21, r22, r23, r24, r25, r26, r27⟩ =>
    if r8 < 30 then (if r8 < 20 then (if r8 < 10 then (bw (F_Rd_standsInStatement r5 r6 r7 r8 r9 r10 f5_10_7 f3_11_76 (-1) r11 r12 r13 r14 r15 r16 r17 r18 r19 r20 r21 r22 r23 f10_1_76 f10_2_76 f10_3_76 f10_4_76 r24 r25 r26 r27) fun ⟨r38, r39, r40, r41, r42, r43, r44, r45, r46, r47, r48, r49, r50, r51, r52, r53, r54, r55, r56, r57, r58, r59, r60, r61⟩ =>
          F_Rd_take_132 v2_7 K_7  r41 r38 r39 r40 n4_7 b4_7 f10_1_7 n3_7 b3_7 r42 r43 r44 r45 f3_11_76 r46 r47 r48 r49 r50 r51 r52 r53 r54 r55 r56 r57 r58 f10_1_76 f10_2_76 f10_3_76 f10_4_76 r24 r59 r60 r61)
        else (bw (F_Rd_standsInFunctionHead r8 r9 r10 f5_10_7 f3_11_76 (-1) f10_1_76 f10_2_76 f10_3_76 f10_4_76 r11 r12 r13 r14 r15 r16 r17 r18 r19 r20 r21 r22 r23 f10_1_7 n4_7 b4_7 r25 r26 r27 size_g1 n_a_bytes_g1 b_a_bytes_g1) fun ⟨r70, r71, r72, r73, r74, r75, r76, r77, r78, r79, r80, r81, r82⟩ =>
          F_Rd_take_132 v2_7 K_7  r70 r5 r6 r7 r79 r80 r77 n3_7 b3_7 r71 r9 r10 f5_10_7 f3_11_76 r11 r12 r72 r73 r74 r75 r76 r18 r19 r20 r21 r22 r23 f10_1_76 f10_2_76 f10_3_76 f10_4_76 r24 r78 r81 r82))
      else (bw (F_Rd_standsInSeveral r5 r6 r7 r8 r9 r10 f5_10_7 f3_11_76 (-1) r11 r12 r13 r14 r15 r16 r17 r18 r19 r20 r21 r22 r23 f10_1_76 f10_2_76 f10_3_76 f10_4_76 r25 r26 r27 r24) fun ⟨r91, r92, r93, r94, r95, r96, r97, r98, r99, r100, r101, r102, r103, r104, r105, r106, r107, r108, r109, r110, r111, r112, r113⟩ =>
        F_Rd_take_132 v2_7 K_7  r94 r91 r92 r93 n4_7 b4_7 f10_1_7 n3_7 b3_7 r95 r96 r97 f5_10_7 f3_11_76 r98 r99 r100 r101 r102 r103 r104 r105 r106 r107 r108 r109 r110 f10_1_76 f10_2_76 f10_3_76 f10_4_76 r24 r111 r112 r113))
    else (bw (F_Rd_standsInExpression r5 r6 r7 r8 r9 r10 f5_10_7 f3_11_76 (-1) r11 r12 r13 r14 r15 r16 r17 r18 r19 r20 r21 r22 r23 r25 r26 r27 f10_1_76 f10_2_76 f10_3_76 f10_4_76 r24 n3_7 b3_7) fun ⟨r122, r123, r124, r125, r126, r127, r128, r129, r130, r131, r132, r133, r134, r135, r136, r137, r138, r139, r140, r141, r142, r143, r144, r145, r146, r147⟩ =>
      F_Rd_take_132 v2_7 K_7  r125 r122 r123 r124 n4_7 b4_7 f10_1_7 r146 r147 r126 r127 r128 f5_10_7 f3_11_76 r129 r130 r131 r132 r133 r134 r135 r136 r137 r138 r139 r140 r141 f10_1_76 f10_2_76 f10_3_76 f10_4_76 r143 r142 r144 r145)
noncomputable def F_Rd_take_7 (size_g1 : Int32) (n_a_bytes_g1 : Nat) (b_a_bytes_g1 : Nat → Int32) : Nat → Int32 → Nat → Nat → (Nat → FrC) → Nat → (Nat → Int32) → Nat → (Nat → Int32) → Nat → (Nat → Int32) → Int32 → Int32 → Int32 → Int32 → Int32 → Int32 → Int32 → Int32 → Int32 → Int32 → Int32 → Int32 → Int32 → Int32 → Int32 → Int32 → Int32 → Int32 → Int32 → Int32 → Int32 → Int32 → Int32 → Int32 → Int32 → Option ((Nat × Nat × (Nat → FrC) × Int32 × Int32 × Int32 × Int32 × Int32 × Int32 × Int32 × Int32 × Int32 × Int32 × Int32 × Int32 × Int32 × Int32 × Int32 × Int32 × Int32 × Int32 × Int32 × Int32 × Int32 × Int32 × Int32 × Int32 × Int32 × Int32 × Int32 × Nat × (Nat → Int32) × Nat × (Nat → Int32) × Nat × (Nat → Int32)) × Nat × Nat)
  | 0, _, _, _, _, _, _, _, _, _, _, _, _, _, _, _, _, _, _, _, _, _, _, _, _, _, _, _, _, _, _, _, _, _, _, _ => none
  | k_7 + 1, v2_7, n9_7, d9_7, c9_7, n2_7, b2_7, n3_7, b3_7, n4_7, b4_7, f5_7_7, f5_8_7, f5_9_7, f5_10_7, f5_11_7, f6_2_7, f6_3_7, f6_4_7, f6_5_7, f6_6_7, f6_7_7, f6_8_7, f6_9_7, f6_10_7, f6_11_7, f6_12_7, f6_13_7, f6_14_7, f7_1_7, f7_2_7, f7_3_7, f7_4_7, f8_1_7, f9_1_7, f10_1_7 =>
    if 16384 < v2_7 then (some ((n9_7, d9_7, c9_7, (-1), f5_7_7, f5_8_7, f5_9_7, f5_10_7, f5_11_7, (-1), f6_2_7, f6_3_7, f6_4_7, f6_5_7, f6_6_7, f6_7_7, f6_8_7, f6_9_7, f6_10_7, f6_11_7, f6_12_7, f6_13_7, f6_14_7, f7_1_7, f7_2_7, f7_3_7, f7_4_7, f8_1_7, f9_1_7, f10_1_7, n2_7, b2_7, n3_7, b3_7, n4_7, b4_7), 0, 0))
    else (Option.bind (F_Sc_step f7_1_7 f7_2_7 f7_3_7 f7_4_7 size_g1 n_a_bytes_g1 b_a_bytes_g1) fun ⟨r158, r159, r160, r161⟩ =>
      if r159 = 0 then (if f5_7_7 = 0 then (if f6_2_7 = 0 then (bw (F_Nd_add 0 0 (-1) f6_7_7 0 f8_1_7 n2_7 b2_7) fun ⟨r167, r168, r169⟩ =>
            (some ((n9_7, d9_7, c9_7, v2_7, f5_7_7, f5_8_7, f5_9_7, f5_10_7, r159, (-1), f6_2_7, f6_3_7, f6_4_7, f6_5_7, f6_6_7, f6_7_7, f6_8_7, f6_9_7, f6_10_7, f6_11_7, f6_12_7, f6_13_7, f6_14_7, r158, r159, r160, r161, r167, f9_1_7, f10_1_7, r168, r169, n3_7, b3_7, n4_7, b4_7), 0, 0)))
          else (F_Rd_take_76 size_g1 n_a_bytes_g1 b_a_bytes_g1 v2_7 n2_7 b2_7 n3_7 b3_7 n4_7 b4_7 f5_7_7 f5_8_7 f5_9_7 f5_10_7 f6_2_7 f6_3_7 f6_4_7 f6_5_7 f6_6_7 f6_7_7 f6_8_7 f6_9_7 f6_10_7 f6_11_7 f6_12_7 f6_13_7 f6_14_7 f8_1_7 f9_1_7 f10_1_7 (F_Rd_take_7 size_g1 n_a_bytes_g1 b_a_bytes_g1  k_7)  n9_7 d9_7 c9_7 r159 r158 r159 r160 r161))
        else (F_Rd_take_76 size_g1 n_a_bytes_g1 b_a_bytes_g1 v2_7 n2_7 b2_7 n3_7 b3_7 n4_7 b4_7 f5_7_7 f5_8_7 f5_9_7 f5_10_7 f6_2_7 f6_3_7 f6_4_7 f6_5_7 f6_6_7 f6_7_7 f6_8_7 f6_9_7 f6_10_7 f6_11_7 f6_12_7 f6_13_7 f6_14_7 f8_1_7 f9_1_7 f10_1_7 (F_Rd_take_7 size_g1 n_a_bytes_g1 b_a_bytes_g1  k_7)  n9_7 d9_7 c9_7 r159 r158 r159 r160 r161))
      else (F_Rd_take_76 size_g1 n_a_bytes_g1 b_a_bytes_g1 v2_7 n2_7 b2_7 n3_7 b3_7 n4_7 b4_7 f5_7_7 f5_8_7 f5_9_7 f5_10_7 f6_2_7 f6_3_7 f6_4_7 f6_5_7 f6_6_7 f6_7_7 f6_8_7 f6_9_7 f6_10_7 f6_11_7 f6_12_7 f6_13_7 f6_14_7 f8_1_7 f9_1_7 f10_1_7 (F_Rd_take_7 size_g1 n_a_bytes_g1 b_a_bytes_g1  k_7)  n9_7 d9_7 c9_7 r159 r158 r159 r160 r161))
noncomputable def F_Rd_take (fn : Nat) (fd : Nat) (fcf : Nat → FrC) (mode_h0 : Int32) (levels_h0 : Int32) (signs_h0 : Int32) (loops_h0 : Int32) (token_h0 : Int32) (fault_h0 : Int32) (kind_t : Int32) (place_t : Int32) (width_t : Int32) (second_t : Int32) (parts_t : Int32) (innerParts_t : Int32) (innerPlace_t : Int32) (innerWidth_t : Int32) (signs_t : Int32) (waitingBelow_t : Int32) (limited_t : Int32) (targets_t : Int32) (lastBlock_t : Int32) (next_a_scanner_h0 : Int32) (kind_a_scanner_h0 : Int32) (start_a_scanner_h0 : Int32) (width_a_scanner_h0 : Int32) (count_a_draft_h0 : Int32) (count_a_waiting_h0 : Int32) (count_a_functions_h0 : Int32) (size_g1 : Int32) (n_a_bytes_g1 : Nat) (b_a_bytes_g1 : Nat → Int32) (n_a_cells_a_draft_h0 : Nat) (b_a_cells_a_draft_h0 : Nat → Int32) (n_a_cells_a_waiting_h0 : Nat) (b_a_cells_a_waiting_h0 : Nat → Int32) (n_a_cells_a_functions_h0 : Nat) (b_a_cells_a_functions_h0 : Nat → Int32) : Option ((Nat × Nat × (Nat → FrC) × Int32 × Int32 × Int32 × Int32 × Int32 × Int32 × Int32 × Int32 × Int32 × Int32 × Int32 × Int32 × Int32 × Int32 × Int32 × Int32 × Int32 × Int32 × Int32 × Int32 × Int32 × Int32 × Int32 × Int32 × Int32 × Int32 × Int32 × Nat × (Nat → Int32) × Nat × (Nat → Int32) × Nat × (Nat → Int32)) × Nat × Nat) :=
  Option.bind (F_Rd_begin fn fd fcf mode_h0 levels_h0 signs_h0 loops_h0 token_h0 fault_h0 kind_t place_t width_t second_t parts_t innerParts_t innerPlace_t innerWidth_t signs_t waitingBelow_t limited_t targets_t lastBlock_t next_a_scanner_h0 kind_a_scanner_h0 start_a_scanner_h0 width_a_scanner_h0 count_a_draft_h0 count_a_waiting_h0 count_a_functions_h0) fun ⟨r176, r177, r178⟩ =>
  F_Rd_take_7 size_g1 n_a_bytes_g1 b_a_bytes_g1  FU 0 r176 r177 r178 n_a_cells_a_draft_h0 b_a_cells_a_draft_h0 n_a_cells_a_waiting_h0 b_a_cells_a_waiting_h0 n_a_cells_a_functions_h0 b_a_cells_a_functions_h0 0 0 0 0 token_h0 0 0 0 (-1) 0 0 0 0 0 0 0 0 0 0 kind_a_scanner_h0 start_a_scanner_h0 width_a_scanner_h0 0 0 0
theorem d_Rd_take_0 : decode prog_6_method_4_code 0 = .ok (.aload_n 0, 1) := by decide +kernel
theorem d_Rd_take_1 : decode prog_6_method_4_code 1 = .ok (.aload_n 1, 1) := by decide +kernel
theorem d_Rd_take_2 : decode prog_6_method_4_code 2 = .ok (.invokevirtual 75, 3) := by decide +kernel
theorem d_Rd_take_5 : decode prog_6_method_4_code 5 = .ok (.iconst 0, 1) := by decide +kernel
theorem d_Rd_take_6 : decode prog_6_method_4_code 6 = .ok (.istore_n 2, 1) := by decide +kernel
theorem d_Rd_take_7 : decode prog_6_method_4_code 7 = .ok (.iload_n 2, 1) := by decide +kernel
theorem d_Rd_take_8 : decode prog_6_method_4_code 8 = .ok (.sipush 16384, 3) := by decide +kernel
theorem d_Rd_take_11 : decode prog_6_method_4_code 11 = .ok (.if_icmp .gt 152, 3) := by decide +kernel
theorem d_Rd_take_14 : decode prog_6_method_4_code 14 = .ok (.aload_n 0, 1) := by decide +kernel
theorem d_Rd_take_15 : decode prog_6_method_4_code 15 = .ok (.getfield 14, 3) := by decide +kernel
theorem d_Rd_take_18 : decode prog_6_method_4_code 18 = .ok (.invokevirtual 79, 3) := by decide +kernel
theorem d_Rd_take_21 : decode prog_6_method_4_code 21 = .ok (.aload_n 0, 1) := by decide +kernel
theorem d_Rd_take_22 : decode prog_6_method_4_code 22 = .ok (.aload_n 0, 1) := by decide +kernel
theorem d_Rd_take_23 : decode prog_6_method_4_code 23 = .ok (.getfield 14, 3) := by decide +kernel
theorem d_Rd_take_26 : decode prog_6_method_4_code 26 = .ok (.invokevirtual 82, 3) := by decide +kernel
theorem d_Rd_take_29 : decode prog_6_method_4_code 29 = .ok (.putfield 69, 3) := by decide +kernel
theorem d_Rd_take_32 : decode prog_6_method_4_code 32 = .ok (.aload_n 0, 1) := by decide +kernel
theorem d_Rd_take_33 : decode prog_6_method_4_code 33 = .ok (.getfield 69, 3) := by decide +kernel
theorem d_Rd_take_36 : decode prog_6_method_4_code 36 = .ok (.ifCond .ne 40, 3) := by decide +kernel
theorem d_Rd_take_39 : decode prog_6_method_4_code 39 = .ok (.aload_n 0, 1) := by decide +kernel
theorem d_Rd_take_40 : decode prog_6_method_4_code 40 = .ok (.getfield 56, 3) := by decide +kernel
theorem d_Rd_take_43 : decode prog_6_method_4_code 43 = .ok (.ifCond .ne 33, 3) := by decide +kernel
theorem d_Rd_take_46 : decode prog_6_method_4_code 46 = .ok (.aload_n 0, 1) := by decide +kernel
theorem d_Rd_take_47 : decode prog_6_method_4_code 47 = .ok (.getfield 46, 3) := by decide +kernel
theorem d_Rd_take_50 : decode prog_6_method_4_code 50 = .ok (.getfield 86, 3) := by decide +kernel
theorem d_Rd_take_53 : decode prog_6_method_4_code 53 = .ok (.ifCond .ne 23, 3) := by decide +kernel
theorem d_Rd_take_56 : decode prog_6_method_4_code 56 = .ok (.aload_n 0, 1) := by decide +kernel
theorem d_Rd_take_57 : decode prog_6_method_4_code 57 = .ok (.getfield 23, 3) := by decide +kernel
theorem d_Rd_take_60 : decode prog_6_method_4_code 60 = .ok (.iconst 0, 1) := by decide +kernel
theorem d_Rd_take_61 : decode prog_6_method_4_code 61 = .ok (.iconst 0, 1) := by decide +kernel
theorem d_Rd_take_62 : decode prog_6_method_4_code 62 = .ok (.iconst (-1), 1) := by decide +kernel
theorem d_Rd_take_63 : decode prog_6_method_4_code 63 = .ok (.aload_n 0, 1) := by decide +kernel
theorem d_Rd_take_64 : decode prog_6_method_4_code 64 = .ok (.getfield 46, 3) := by decide +kernel
theorem d_Rd_take_67 : decode prog_6_method_4_code 67 = .ok (.getfield 90, 3) := by decide +kernel
theorem d_Rd_take_70 : decode prog_6_method_4_code 70 = .ok (.iconst 0, 1) := by decide +kernel
theorem d_Rd_take_71 : decode prog_6_method_4_code 71 = .ok (.invokevirtual 93, 3) := by decide +kernel
theorem d_Rd_take_74 : decode prog_6_method_4_code 74 = .ok (.iload_n 2, 1) := by decide +kernel
theorem d_Rd_take_75 : decode prog_6_method_4_code 75 = .ok (.ireturn, 1) := by decide +kernel
theorem d_Rd_take_76 : decode prog_6_method_4_code 76 = .ok (.aload_n 0, 1) := by decide +kernel
theorem d_Rd_take_77 : decode prog_6_method_4_code 77 = .ok (.invokevirtual 97, 3) := by decide +kernel
theorem d_Rd_take_80 : decode prog_6_method_4_code 80 = .ok (.aload_n 0, 1) := by decide +kernel
theorem d_Rd_take_81 : decode prog_6_method_4_code 81 = .ok (.getfield 56, 3) := by decide +kernel
theorem d_Rd_take_84 : decode prog_6_method_4_code 84 = .ok (.bipush 30, 2) := by decide +kernel
theorem d_Rd_take_86 : decode prog_6_method_4_code 86 = .ok (.if_icmp .lt 10, 3) := by decide +kernel
theorem d_Rd_take_89 : decode prog_6_method_4_code 89 = .ok (.aload_n 0, 1) := by decide +kernel
theorem d_Rd_take_90 : decode prog_6_method_4_code 90 = .ok (.invokevirtual 100, 3) := by decide +kernel
theorem d_Rd_take_93 : decode prog_6_method_4_code 93 = .ok (.goto 39, 3) := by decide +kernel
theorem d_Rd_take_96 : decode prog_6_method_4_code 96 = .ok (.aload_n 0, 1) := by decide +kernel
theorem d_Rd_take_97 : decode prog_6_method_4_code 97 = .ok (.getfield 56, 3) := by decide +kernel
theorem d_Rd_take_100 : decode prog_6_method_4_code 100 = .ok (.bipush 20, 2) := by decide +kernel
theorem d_Rd_take_102 : decode prog_6_method_4_code 102 = .ok (.if_icmp .lt 10, 3) := by decide +kernel
theorem d_Rd_take_105 : decode prog_6_method_4_code 105 = .ok (.aload_n 0, 1) := by decide +kernel
theorem d_Rd_take_106 : decode prog_6_method_4_code 106 = .ok (.invokevirtual 104, 3) := by decide +kernel
theorem d_Rd_take_109 : decode prog_6_method_4_code 109 = .ok (.goto 23, 3) := by decide +kernel
theorem d_Rd_take_112 : decode prog_6_method_4_code 112 = .ok (.aload_n 0, 1) := by decide +kernel
theorem d_Rd_take_113 : decode prog_6_method_4_code 113 = .ok (.getfield 56, 3) := by decide +kernel
theorem d_Rd_take_116 : decode prog_6_method_4_code 116 = .ok (.bipush 10, 2) := by decide +kernel
theorem d_Rd_take_118 : decode prog_6_method_4_code 118 = .ok (.if_icmp .lt 10, 3) := by decide +kernel
theorem d_Rd_take_121 : decode prog_6_method_4_code 121 = .ok (.aload_n 0, 1) := by decide +kernel
theorem d_Rd_take_122 : decode prog_6_method_4_code 122 = .ok (.invokevirtual 107, 3) := by decide +kernel
theorem d_Rd_take_125 : decode prog_6_method_4_code 125 = .ok (.goto 7, 3) := by decide +kernel
theorem d_Rd_take_128 : decode prog_6_method_4_code 128 = .ok (.aload_n 0, 1) := by decide +kernel
theorem d_Rd_take_129 : decode prog_6_method_4_code 129 = .ok (.invokevirtual 110, 3) := by decide +kernel
theorem d_Rd_take_132 : decode prog_6_method_4_code 132 = .ok (.istore_n 3, 1) := by decide +kernel
theorem d_Rd_take_133 : decode prog_6_method_4_code 133 = .ok (.iload_n 3, 1) := by decide +kernel
theorem d_Rd_take_134 : decode prog_6_method_4_code 134 = .ok (.ifCond .eq 10, 3) := by decide +kernel
theorem d_Rd_take_137 : decode prog_6_method_4_code 137 = .ok (.iload_n 2, 1) := by decide +kernel
theorem d_Rd_take_138 : decode prog_6_method_4_code 138 = .ok (.sipush 16384, 3) := by decide +kernel
theorem d_Rd_take_141 : decode prog_6_method_4_code 141 = .ok (.if_icmp .ne 16, 3) := by decide +kernel
theorem d_Rd_take_144 : decode prog_6_method_4_code 144 = .ok (.aload_n 0, 1) := by decide +kernel
theorem d_Rd_take_145 : decode prog_6_method_4_code 145 = .ok (.aload_n 0, 1) := by decide +kernel
theorem d_Rd_take_146 : decode prog_6_method_4_code 146 = .ok (.getfield 14, 3) := by decide +kernel
theorem d_Rd_take_149 : decode prog_6_method_4_code 149 = .ok (.invokevirtual 113, 3) := by decide +kernel
theorem d_Rd_take_152 : decode prog_6_method_4_code 152 = .ok (.putfield 72, 3) := by decide +kernel
theorem d_Rd_take_155 : decode prog_6_method_4_code 155 = .ok (.iconst (-1), 1) := by decide +kernel
theorem d_Rd_take_156 : decode prog_6_method_4_code 156 = .ok (.ireturn, 1) := by decide +kernel
theorem d_Rd_take_157 : decode prog_6_method_4_code 157 = .ok (.iinc 2 1, 3) := by decide +kernel
theorem d_Rd_take_160 : decode prog_6_method_4_code 160 = .ok (.goto (-153), 3) := by decide +kernel
theorem d_Rd_take_163 : decode prog_6_method_4_code 163 = .ok (.iconst (-1), 1) := by decide +kernel
theorem d_Rd_take_164 : decode prog_6_method_4_code 164 = .ok (.ireturn, 1) := by decide +kernel
set_option maxHeartbeats 4000000 in
set_option maxRecDepth 100000 in
theorem L_Rd_take_7 (l : Launch) (D : va_G) (cI cB cJ cS : ClassId) (h0 : Nat) (g1 : Nat) (fad : Nat → Nat) (a_scanner_h0 : Nat) (a_draft_h0 : Nat) (a_waiting_h0 : Nat) (a_functions_h0 : Nat) (a_text_h0 : Nat) (a_text_a_scanner_h0 : Nat) (a_cells_a_draft_h0 : Nat) (a_cells_a_waiting_h0 : Nat) (a_cells_a_functions_h0 : Nat) (a_bytes_g1 : Nat) (fn : Nat) (fd : Nat) (fcf : Nat → FrC) (mode_h0 : Int32) (levels_h0 : Int32) (signs_h0 : Int32) (loops_h0 : Int32) (token_h0 : Int32) (fault_h0 : Int32) (kind_t : Int32) (place_t : Int32) (width_t : Int32) (second_t : Int32) (parts_t : Int32) (innerParts_t : Int32) (innerPlace_t : Int32) (innerWidth_t : Int32) (signs_t : Int32) (waitingBelow_t : Int32) (limited_t : Int32) (targets_t : Int32) (lastBlock_t : Int32) (next_a_scanner_h0 : Int32) (kind_a_scanner_h0 : Int32) (start_a_scanner_h0 : Int32) (width_a_scanner_h0 : Int32) (count_a_draft_h0 : Int32) (count_a_waiting_h0 : Int32) (count_a_functions_h0 : Int32) (size_g1 : Int32) (n_a_bytes_g1 : Nat) (b_a_bytes_g1 : Nat → Int32) (n_a_cells_a_draft_h0 : Nat) (b_a_cells_a_draft_h0 : Nat → Int32) (n_a_cells_a_waiting_h0 : Nat) (b_a_cells_a_waiting_h0 : Nat → Int32) (n_a_cells_a_functions_h0 : Nat) (b_a_cells_a_functions_h0 : Nat → Int32) (on_p : Nat) (od_p : Nat) (ocf_p : Nat → FrC) (ret : Int32) (o_0_7 : Int32) (o_0_8 : Int32) (o_0_9 : Int32) (o_0_10 : Int32) (o_0_11 : Int32) (o_0_12 : Int32) (o_1_2 : Int32) (o_1_3 : Int32) (o_1_4 : Int32) (o_1_5 : Int32) (o_1_6 : Int32) (o_1_7 : Int32) (o_1_8 : Int32) (o_1_9 : Int32) (o_1_10 : Int32) (o_1_11 : Int32) (o_1_12 : Int32) (o_1_13 : Int32) (o_1_14 : Int32) (o_2_1 : Int32) (o_2_2 : Int32) (o_2_3 : Int32) (o_2_4 : Int32) (o_3_1 : Int32) (o_4_1 : Int32) (o_5_1 : Int32) (on_nq_3_0 : Nat) (ob_nq_3_0 : Nat → Int32) (on_nq_4_0 : Nat) (ob_nq_4_0 : Nat → Int32) (on_nq_5_0 : Nat) (ob_nq_5_0 : Nat → Int32) (mc ms : Nat) (p : Program) (e : Env) (s : State) (m : MethodId) (below : List Frame) (meth : Method) (c : Code) (hr : meth.sig.returnType = (Option.some Jvm.ClassFile.FieldType.int)) (hnm : meth.name = y_Rd_take.name) : ∀ (k_7 : Nat) (a9_7 : Nat → Nat) (q8_0_7 : Nat) (q9_0_7 : Nat) (q10_0_7 : Nat) (v2_7 : Int32) (n9_7 : Nat) (d9_7 : Nat) (c9_7 : Nat → FrC) (n2_7 : Nat) (b2_7 : Nat → Int32) (n3_7 : Nat) (b3_7 : Nat → Int32) (n4_7 : Nat) (b4_7 : Nat → Int32) (f5_7_7 : Int32) (f5_8_7 : Int32) (f5_9_7 : Int32) (f5_10_7 : Int32) (f5_11_7 : Int32) (f6_2_7 : Int32) (f6_3_7 : Int32) (f6_4_7 : Int32) (f6_5_7 : Int32) (f6_6_7 : Int32) (f6_7_7 : Int32) (f6_8_7 : Int32) (f6_9_7 : Int32) (f6_10_7 : Int32) (f6_11_7 : Int32) (f6_12_7 : Int32) (f6_13_7 : Int32) (f6_14_7 : Int32) (f7_1_7 : Int32) (f7_2_7 : Int32) (f7_3_7 : Int32) (f7_4_7 : Int32) (f8_1_7 : Int32) (f9_1_7 : Int32) (f10_1_7 : Int32) (cl_7 sl_7 C_7 S_7 : Nat), F_Rd_take_7 size_g1 n_a_bytes_g1 b_a_bytes_g1  k_7 v2_7 n9_7 d9_7 c9_7 n2_7 b2_7 n3_7 b3_7 n4_7 b4_7 f5_7_7 f5_8_7 f5_9_7 f5_10_7 f5_11_7 f6_2_7 f6_3_7 f6_4_7 f6_5_7 f6_6_7 f6_7_7 f6_8_7 f6_9_7 f6_10_7 f6_11_7 f6_12_7 f6_13_7 f6_14_7 f7_1_7 f7_2_7 f7_3_7 f7_4_7 f8_1_7 f9_1_7 f10_1_7 = some ((on_p, od_p, ocf_p, ret, o_0_7, o_0_8, o_0_9, o_0_10, o_0_11, o_0_12, o_1_2, o_1_3, o_1_4, o_1_5, o_1_6, o_1_7, o_1_8, o_1_9, o_1_10, o_1_11, o_1_12, o_1_13, o_1_14, o_2_1, o_2_2, o_2_3, o_2_4, o_3_1, o_4_1, o_5_1, on_nq_3_0, ob_nq_3_0, on_nq_4_0, ob_nq_4_0, on_nq_5_0, ob_nq_5_0), C_7, S_7) → cl_7 + C_7 ≤ mc → sl_7 + S_7 ≤ ms → J (KxOf p l e { frames := 8, cells := mc, slots := ms, locals := 197 } s m [.ref h0, .ref g1].toArray below meth c D (gT cI cB cJ cS) ((h0, .inr (2, [.ref a_scanner_h0, .ref a_draft_h0, .ref a_waiting_h0, .ref a_functions_h0, .ref (fad 0), .ref (fad fd), .ref a_text_h0, .int mode_h0, .int levels_h0, .int signs_h0, .int loops_h0, .int token_h0, .int fault_h0])) :: ((fad fd), .inr (0, [(frB fad fd), (frA fad fn fd), .int kind_t, .int place_t, .int width_t, .int second_t, .int parts_t, .int innerParts_t, .int innerPlace_t, .int innerWidth_t, .int signs_t, .int waitingBelow_t, .int limited_t, .int targets_t, .int lastBlock_t])) :: (a_scanner_h0, .inr (4, [.ref a_text_a_scanner_h0, .int next_a_scanner_h0, .int kind_a_scanner_h0, .int start_a_scanner_h0, .int width_a_scanner_h0])) :: (a_draft_h0, .inr (1, [.ref a_cells_a_draft_h0, .int count_a_draft_h0])) :: (a_waiting_h0, .inr (5, [.ref a_cells_a_waiting_h0, .int count_a_waiting_h0])) :: (a_functions_h0, .inr (5, [.ref a_cells_a_functions_h0, .int count_a_functions_h0])) :: (g1, .inr (3, [.ref a_bytes_g1, .int size_g1])) :: (a_bytes_g1, .inl (cB, n_a_bytes_g1, .inl b_a_bytes_g1)) :: (a_cells_a_draft_h0, .inl (cI, n_a_cells_a_draft_h0, .inl b_a_cells_a_draft_h0)) :: (a_cells_a_waiting_h0, .inl (cI, n_a_cells_a_waiting_h0, .inl b_a_cells_a_waiting_h0)) :: (a_cells_a_functions_h0, .inl (cI, n_a_cells_a_functions_h0, .inl b_a_cells_a_functions_h0)) :: fpo fad fn fd fcf) (fun v w => ∃ nad : Nat → Nat, ∃ nq_3_0 : Nat, ∃ nq_4_0 : Nat, ∃ nq_5_0 : Nat, v = some (.int ret) ∧ w = ((h0, .inr (2, [.ref a_scanner_h0, .ref a_draft_h0, .ref a_waiting_h0, .ref a_functions_h0, .ref (nad 0), .ref (nad od_p), .ref g1, .int o_0_7, .int o_0_8, .int o_0_9, .int o_0_10, .int o_0_11, .int o_0_12])) :: ((nad od_p), .inr (0, [(frB nad od_p), (frA nad on_p od_p), .int o_1_2, .int o_1_3, .int o_1_4, .int o_1_5, .int o_1_6, .int o_1_7, .int o_1_8, .int o_1_9, .int o_1_10, .int o_1_11, .int o_1_12, .int o_1_13, .int o_1_14])) :: (a_scanner_h0, .inr (4, [.ref g1, .int o_2_1, .int o_2_2, .int o_2_3, .int o_2_4])) :: (a_draft_h0, .inr (1, [.ref nq_3_0, .int o_3_1])) :: (a_waiting_h0, .inr (5, [.ref nq_4_0, .int o_4_1])) :: (a_functions_h0, .inr (5, [.ref nq_5_0, .int o_5_1])) :: (g1, .inr (3, [.ref a_bytes_g1, .int size_g1])) :: (a_bytes_g1, .inl (cB, n_a_bytes_g1, .inl b_a_bytes_g1)) :: (nq_3_0, .inl (cI, on_nq_3_0, .inl ob_nq_3_0)) :: (nq_4_0, .inl (cI, on_nq_4_0, .inl ob_nq_4_0)) :: (nq_5_0, .inl (cI, on_nq_5_0, .inl ob_nq_5_0)) :: fpo nad on_p od_p ocf_p)) mc ms) prog_6_method_4_code 4 R_Rd 7 [(2, .int v2_7), (0, .ref h0), (1, .ref g1)] [] ((g1, .inr (3, [.ref a_bytes_g1, .int size_g1])) :: (a_bytes_g1, .inl (cB, n_a_bytes_g1, .inl b_a_bytes_g1)) :: (q8_0_7, .inl (cI, n2_7, .inl b2_7)) :: (q9_0_7, .inl (cI, n3_7, .inl b3_7)) :: (q10_0_7, .inl (cI, n4_7, .inl b4_7)) :: (h0, .inr (2, [.ref a_scanner_h0, .ref a_draft_h0, .ref a_waiting_h0, .ref a_functions_h0, .ref (a9_7 0), .ref (a9_7 d9_7), .ref g1, .int f5_7_7, .int f5_8_7, .int f5_9_7, .int f5_10_7, .int f5_11_7, .int (-1)])) :: ((a9_7 d9_7), .inr (0, [(frB a9_7 d9_7), (frA a9_7 n9_7 d9_7), .int f6_2_7, .int f6_3_7, .int f6_4_7, .int f6_5_7, .int f6_6_7, .int f6_7_7, .int f6_8_7, .int f6_9_7, .int f6_10_7, .int f6_11_7, .int f6_12_7, .int f6_13_7, .int f6_14_7])) :: (a_scanner_h0, .inr (4, [.ref g1, .int f7_1_7, .int f7_2_7, .int f7_3_7, .int f7_4_7])) :: (a_draft_h0, .inr (1, [.ref q8_0_7, .int f8_1_7])) :: (a_waiting_h0, .inr (5, [.ref q9_0_7, .int f9_1_7])) :: (a_functions_h0, .inr (5, [.ref q10_0_7, .int f10_1_7])) :: fpo a9_7 n9_7 d9_7 c9_7) cl_7 sl_7 := by
  intro k_7
  induction k_7 with
  | zero => intro a9_7 q8_0_7 q9_0_7 q10_0_7 v2_7 n9_7 d9_7 c9_7 n2_7 b2_7 n3_7 b3_7 n4_7 b4_7 f5_7_7 f5_8_7 f5_9_7 f5_10_7 f5_11_7 f6_2_7 f6_3_7 f6_4_7 f6_5_7 f6_6_7 f6_7_7 f6_8_7 f6_9_7 f6_10_7 f6_11_7 f6_12_7 f6_13_7 f6_14_7 f7_1_7 f7_2_7 f7_3_7 f7_4_7 f8_1_7 f9_1_7 f10_1_7 cl_7 sl_7 C_7 S_7 h; rw [F_Rd_take_7] at h; cases h
  | succ k_7 ih_7 =>
    intro a9_7 q8_0_7 q9_0_7 q10_0_7 v2_7 n9_7 d9_7 c9_7 n2_7 b2_7 n3_7 b3_7 n4_7 b4_7 f5_7_7 f5_8_7 f5_9_7 f5_10_7 f5_11_7 f6_2_7 f6_3_7 f6_4_7 f6_5_7 f6_6_7 f6_7_7 f6_8_7 f6_9_7 f6_10_7 f6_11_7 f6_12_7 f6_13_7 f6_14_7 f7_1_7 f7_2_7 f7_3_7 f7_4_7 f8_1_7 f9_1_7 f10_1_7 cl_7 sl_7 C_7 S_7 h hC hS
    rw [F_Rd_take_7] at h
    have L_132 : ∀ (a9_132 : Nat → Nat) (q1_0_132 : Nat) (q8_0_132 : Nat) (q9_0_132 : Nat) (t0_132 : Int32) (n9_132 : Nat) (d9_132 : Nat) (c9_132 : Nat → FrC) (n0_132 : Nat) (b0_132 : Nat → Int32) (f1_1_132 : Int32) (n4_132 : Nat) (b4_132 : Nat → Int32) (f5_7_132 : Int32) (f5_8_132 : Int32) (f5_9_132 : Int32) (f5_10_132 : Int32) (f5_11_132 : Int32) (f6_2_132 : Int32) (f6_3_132 : Int32) (f6_4_132 : Int32) (f6_5_132 : Int32) (f6_6_132 : Int32) (f6_7_132 : Int32) (f6_8_132 : Int32) (f6_9_132 : Int32) (f6_10_132 : Int32) (f6_11_132 : Int32) (f6_12_132 : Int32) (f6_13_132 : Int32) (f6_14_132 : Int32) (f7_1_132 : Int32) (f7_2_132 : Int32) (f7_3_132 : Int32) (f7_4_132 : Int32) (f8_1_132 : Int32) (f9_1_132 : Int32) (n10_132 : Nat) (b10_132 : Nat → Int32) (hz_t0_132 : zb t0_132) (cl_132 sl_132 C_132 S_132 : Nat), F_Rd_take_132 v2_7 (F_Rd_take_7 size_g1 n_a_bytes_g1 b_a_bytes_g1  k_7)  t0_132 n9_132 d9_132 c9_132 n0_132 b0_132 f1_1_132 n4_132 b4_132 f5_7_132 f5_8_132 f5_9_132 f5_10_132 f5_11_132 f6_2_132 f6_3_132 f6_4_132 f6_5_132 f6_6_132 f6_7_132 f6_8_132 f6_9_132 f6_10_132 f6_11_132 f6_12_132 f6_13_132 f6_14_132 f7_1_132 f7_2_132 f7_3_132 f7_4_132 f8_1_132 f9_1_132 n10_132 b10_132 = some ((on_p, od_p, ocf_p, ret, o_0_7, o_0_8, o_0_9, o_0_10, o_0_11, o_0_12, o_1_2, o_1_3, o_1_4, o_1_5, o_1_6, o_1_7, o_1_8, o_1_9, o_1_10, o_1_11, o_1_12, o_1_13, o_1_14, o_2_1, o_2_2, o_2_3, o_2_4, o_3_1, o_4_1, o_5_1, on_nq_3_0, ob_nq_3_0, on_nq_4_0, ob_nq_4_0, on_nq_5_0, ob_nq_5_0), C_132, S_132) → cl_132 + C_132 ≤ mc → sl_132 + S_132 ≤ ms → J (KxOf p l e { frames := 8, cells := mc, slots := ms, locals := 197 } s m [.ref h0, .ref g1].toArray below meth c D (gT cI cB cJ cS) ((h0, .inr (2, [.ref a_scanner_h0, .ref a_draft_h0, .ref a_waiting_h0, .ref a_functions_h0, .ref (fad 0), .ref (fad fd), .ref a_text_h0, .int mode_h0, .int levels_h0, .int signs_h0, .int loops_h0, .int token_h0, .int fault_h0])) :: ((fad fd), .inr (0, [(frB fad fd), (frA fad fn fd), .int kind_t, .int place_t, .int width_t, .int second_t, .int parts_t, .int innerParts_t, .int innerPlace_t, .int innerWidth_t, .int signs_t, .int waitingBelow_t, .int limited_t, .int targets_t, .int lastBlock_t])) :: (a_scanner_h0, .inr (4, [.ref a_text_a_scanner_h0, .int next_a_scanner_h0, .int kind_a_scanner_h0, .int start_a_scanner_h0, .int width_a_scanner_h0])) :: (a_draft_h0, .inr (1, [.ref a_cells_a_draft_h0, .int count_a_draft_h0])) :: (a_waiting_h0, .inr (5, [.ref a_cells_a_waiting_h0, .int count_a_waiting_h0])) :: (a_functions_h0, .inr (5, [.ref a_cells_a_functions_h0, .int count_a_functions_h0])) :: (g1, .inr (3, [.ref a_bytes_g1, .int size_g1])) :: (a_bytes_g1, .inl (cB, n_a_bytes_g1, .inl b_a_bytes_g1)) :: (a_cells_a_draft_h0, .inl (cI, n_a_cells_a_draft_h0, .inl b_a_cells_a_draft_h0)) :: (a_cells_a_waiting_h0, .inl (cI, n_a_cells_a_waiting_h0, .inl b_a_cells_a_waiting_h0)) :: (a_cells_a_functions_h0, .inl (cI, n_a_cells_a_functions_h0, .inl b_a_cells_a_functions_h0)) :: fpo fad fn fd fcf) (fun v w => ∃ nad : Nat → Nat, ∃ nq_3_0 : Nat, ∃ nq_4_0 : Nat, ∃ nq_5_0 : Nat, v = some (.int ret) ∧ w = ((h0, .inr (2, [.ref a_scanner_h0, .ref a_draft_h0, .ref a_waiting_h0, .ref a_functions_h0, .ref (nad 0), .ref (nad od_p), .ref g1, .int o_0_7, .int o_0_8, .int o_0_9, .int o_0_10, .int o_0_11, .int o_0_12])) :: ((nad od_p), .inr (0, [(frB nad od_p), (frA nad on_p od_p), .int o_1_2, .int o_1_3, .int o_1_4, .int o_1_5, .int o_1_6, .int o_1_7, .int o_1_8, .int o_1_9, .int o_1_10, .int o_1_11, .int o_1_12, .int o_1_13, .int o_1_14])) :: (a_scanner_h0, .inr (4, [.ref g1, .int o_2_1, .int o_2_2, .int o_2_3, .int o_2_4])) :: (a_draft_h0, .inr (1, [.ref nq_3_0, .int o_3_1])) :: (a_waiting_h0, .inr (5, [.ref nq_4_0, .int o_4_1])) :: (a_functions_h0, .inr (5, [.ref nq_5_0, .int o_5_1])) :: (g1, .inr (3, [.ref a_bytes_g1, .int size_g1])) :: (a_bytes_g1, .inl (cB, n_a_bytes_g1, .inl b_a_bytes_g1)) :: (nq_3_0, .inl (cI, on_nq_3_0, .inl ob_nq_3_0)) :: (nq_4_0, .inl (cI, on_nq_4_0, .inl ob_nq_4_0)) :: (nq_5_0, .inl (cI, on_nq_5_0, .inl ob_nq_5_0)) :: fpo nad on_p od_p ocf_p)) mc ms) prog_6_method_4_code 4 R_Rd 132 [(2, .int v2_7), (0, .ref h0), (1, .ref g1)] [.int t0_132] ((q1_0_132, .inl (cI, n0_132, .inl b0_132)) :: (a_functions_h0, .inr (5, [.ref q1_0_132, .int f1_1_132])) :: (g1, .inr (3, [.ref a_bytes_g1, .int size_g1])) :: (a_bytes_g1, .inl (cB, n_a_bytes_g1, .inl b_a_bytes_g1)) :: (q8_0_132, .inl (cI, n4_132, .inl b4_132)) :: (h0, .inr (2, [.ref a_scanner_h0, .ref a_draft_h0, .ref a_waiting_h0, .ref a_functions_h0, .ref (a9_132 0), .ref (a9_132 d9_132), .ref g1, .int f5_7_132, .int f5_8_132, .int f5_9_132, .int f5_10_132, .int f5_11_132, .int (-1)])) :: ((a9_132 d9_132), .inr (0, [(frB a9_132 d9_132), (frA a9_132 n9_132 d9_132), .int f6_2_132, .int f6_3_132, .int f6_4_132, .int f6_5_132, .int f6_6_132, .int f6_7_132, .int f6_8_132, .int f6_9_132, .int f6_10_132, .int f6_11_132, .int f6_12_132, .int f6_13_132, .int f6_14_132])) :: (a_scanner_h0, .inr (4, [.ref g1, .int f7_1_132, .int f7_2_132, .int f7_3_132, .int f7_4_132])) :: (a_waiting_h0, .inr (5, [.ref q8_0_132, .int f8_1_132])) :: (a_draft_h0, .inr (1, [.ref q9_0_132, .int f9_1_132])) :: (q9_0_132, .inl (cI, n10_132, .inl b10_132)) :: fpo a9_132 n9_132 d9_132 c9_132) cl_132 sl_132 := by
      clear h
      intro a9_132 q1_0_132 q8_0_132 q9_0_132 t0_132 n9_132 d9_132 c9_132 n0_132 b0_132 f1_1_132 n4_132 b4_132 f5_7_132 f5_8_132 f5_9_132 f5_10_132 f5_11_132 f6_2_132 f6_3_132 f6_4_132 f6_5_132 f6_6_132 f6_7_132 f6_8_132 f6_9_132 f6_10_132 f6_11_132 f6_12_132 f6_13_132 f6_14_132 f7_1_132 f7_2_132 f7_3_132 f7_4_132 f8_1_132 f9_1_132 n10_132 b10_132 hz_t0_132 cl_132 sl_132 C_132 S_132 h hC hS
      unfold F_Rd_take_132 at h
      refine j_istore_n (lv' := [(3, .int t0_132), (2, .int v2_7), (0, .ref h0), (1, .ref g1)]) d_Rd_take_132 rfl (by decide) rfl ?_
      refine j_iload_n d_Rd_take_133 rfl 0 rfl ?_
      refine j_if_eq (tgt := 144) d_Rd_take_134 (by decide) (fun c1 => ?_) (fun c1 => ?_)
      · replace h := it_t c1 h
        refine j_aload_n d_Rd_take_144 rfl 2 rfl ?_
        refine j_aload_n d_Rd_take_145 rfl 2 rfl ?_
        refine j_get ig_Rd rfl 5 rfl 0 (by decide) rfl m_169 rfl d_Rd_take_146 ?_
        refine j_callVg (n := 0) (As := []) (rest := [.ref h0]) (wr := ([(q1_0_132, .inl (cI, n0_132, .inl b0_132)), (a_functions_h0, .inr (5, [.ref q1_0_132, .int f1_1_132])), (g1, .inr (3, [.ref a_bytes_g1, .int size_g1])), (a_bytes_g1, .inl (cB, n_a_bytes_g1, .inl b_a_bytes_g1)), (q8_0_132, .inl (cI, n4_132, .inl b4_132)), (h0, .inr (2, [.ref a_scanner_h0, .ref a_draft_h0, .ref a_waiting_h0, .ref a_functions_h0, .ref (a9_132 0), .ref (a9_132 d9_132), .ref g1, .int f5_7_132, .int f5_8_132, .int f5_9_132, .int f5_10_132, .int f5_11_132, .int (-1)])), ((a9_132 d9_132), .inr (0, [(frB a9_132 d9_132), (frA a9_132 n9_132 d9_132), .int f6_2_132, .int f6_3_132, .int f6_4_132, .int f6_5_132, .int f6_6_132, .int f6_7_132, .int f6_8_132, .int f6_9_132, .int f6_10_132, .int f6_11_132, .int f6_12_132, .int f6_13_132, .int f6_14_132])), (a_waiting_h0, .inr (5, [.ref q8_0_132, .int f8_1_132])), (a_draft_h0, .inr (1, [.ref q9_0_132, .int f9_1_132])), (q9_0_132, .inl (cI, n10_132, .inl b10_132))] ++ fpo a9_132 n9_132 d9_132 c9_132)) (c_Sc_start l D cI cB cJ cS a_scanner_h0 g1 f7_1_132 f7_2_132 f7_3_132 f7_4_132  ) k_Rd_113 (by decide) ⟨Nat.le_of_ble_eq_true rfl, Nat.le_of_ble_eq_true rfl⟩ rfl 0 rfl (pk_mid (wr := [(q1_0_132, .inl (cI, n0_132, .inl b0_132)), (a_functions_h0, .inr (5, [.ref q1_0_132, .int f1_1_132])), (g1, .inr (3, [.ref a_bytes_g1, .int size_g1])), (a_bytes_g1, .inl (cB, n_a_bytes_g1, .inl b_a_bytes_g1)), (q8_0_132, .inl (cI, n4_132, .inl b4_132)), (h0, .inr (2, [.ref a_scanner_h0, .ref a_draft_h0, .ref a_waiting_h0, .ref a_functions_h0, .ref (a9_132 0), .ref (a9_132 d9_132), .ref g1, .int f5_7_132, .int f5_8_132, .int f5_9_132, .int f5_10_132, .int f5_11_132, .int (-1)])), ((a9_132 d9_132), .inr (0, [(frB a9_132 d9_132), (frA a9_132 n9_132 d9_132), .int f6_2_132, .int f6_3_132, .int f6_4_132, .int f6_5_132, .int f6_6_132, .int f6_7_132, .int f6_8_132, .int f6_9_132, .int f6_10_132, .int f6_11_132, .int f6_12_132, .int f6_13_132, .int f6_14_132])), (a_waiting_h0, .inr (5, [.ref q8_0_132, .int f8_1_132])), (a_draft_h0, .inr (1, [.ref q9_0_132, .int f9_1_132])), (q9_0_132, .inl (cI, n10_132, .inl b10_132))]) (w0 := [(a_scanner_h0, .inr (4, [.ref g1, .int f7_1_132, .int f7_2_132, .int f7_3_132, .int f7_4_132]))]) (pl := fpo a9_132 n9_132 d9_132 c9_132) [0, 1, 2, 3, 4, 5, 6, 8, 9, 10, 7] 11 rfl rfl (by decide)) rfl rfl (Nat.le_of_ble_eq_true rfl) d_Rd_take_149 ⟨show cl_132 + 0 ≤ mc by omega, show sl_132 + 0 ≤ ms by omega⟩ (fun v w hq => ?_)
        obtain ⟨rfl, rfl⟩ := hq
        refine j_perm (ws' := ((q1_0_132, .inl (cI, n0_132, .inl b0_132)) :: (a_functions_h0, .inr (5, [.ref q1_0_132, .int f1_1_132])) :: (g1, .inr (3, [.ref a_bytes_g1, .int size_g1])) :: (a_bytes_g1, .inl (cB, n_a_bytes_g1, .inl b_a_bytes_g1)) :: (q8_0_132, .inl (cI, n4_132, .inl b4_132)) :: (h0, .inr (2, [.ref a_scanner_h0, .ref a_draft_h0, .ref a_waiting_h0, .ref a_functions_h0, .ref (a9_132 0), .ref (a9_132 d9_132), .ref g1, .int f5_7_132, .int f5_8_132, .int f5_9_132, .int f5_10_132, .int f5_11_132, .int (-1)])) :: ((a9_132 d9_132), .inr (0, [(frB a9_132 d9_132), (frA a9_132 n9_132 d9_132), .int f6_2_132, .int f6_3_132, .int f6_4_132, .int f6_5_132, .int f6_6_132, .int f6_7_132, .int f6_8_132, .int f6_9_132, .int f6_10_132, .int f6_11_132, .int f6_12_132, .int f6_13_132, .int f6_14_132])) :: (a_waiting_h0, .inr (5, [.ref q8_0_132, .int f8_1_132])) :: (a_draft_h0, .inr (1, [.ref q9_0_132, .int f9_1_132])) :: (q9_0_132, .inl (cI, n10_132, .inl b10_132)) :: (a_scanner_h0, .inr (4, [.ref g1, .int f7_1_132, .int f7_2_132, .int f7_3_132, .int f7_4_132])) :: fpo a9_132 n9_132 d9_132 c9_132)) (pm_eq (a := [(q1_0_132, .inl (cI, n0_132, .inl b0_132)), (a_functions_h0, .inr (5, [.ref q1_0_132, .int f1_1_132])), (g1, .inr (3, [.ref a_bytes_g1, .int size_g1])), (a_bytes_g1, .inl (cB, n_a_bytes_g1, .inl b_a_bytes_g1)), (q8_0_132, .inl (cI, n4_132, .inl b4_132)), (h0, .inr (2, [.ref a_scanner_h0, .ref a_draft_h0, .ref a_waiting_h0, .ref a_functions_h0, .ref (a9_132 0), .ref (a9_132 d9_132), .ref g1, .int f5_7_132, .int f5_8_132, .int f5_9_132, .int f5_10_132, .int f5_11_132, .int (-1)])), ((a9_132 d9_132), .inr (0, [(frB a9_132 d9_132), (frA a9_132 n9_132 d9_132), .int f6_2_132, .int f6_3_132, .int f6_4_132, .int f6_5_132, .int f6_6_132, .int f6_7_132, .int f6_8_132, .int f6_9_132, .int f6_10_132, .int f6_11_132, .int f6_12_132, .int f6_13_132, .int f6_14_132])), (a_waiting_h0, .inr (5, [.ref q8_0_132, .int f8_1_132])), (a_draft_h0, .inr (1, [.ref q9_0_132, .int f9_1_132])), (q9_0_132, .inl (cI, n10_132, .inl b10_132))]) (b := fpo a9_132 n9_132 d9_132 c9_132) (c := [(a_scanner_h0, .inr (4, [.ref g1, .int f7_1_132, .int f7_2_132, .int f7_3_132, .int f7_4_132]))]) rfl) ?_
        refine j_norm (pc' := 152) (st' := [.int f7_3_132, .ref h0]) (ws' := ((q1_0_132, .inl (cI, n0_132, .inl b0_132)) :: (a_functions_h0, .inr (5, [.ref q1_0_132, .int f1_1_132])) :: (g1, .inr (3, [.ref a_bytes_g1, .int size_g1])) :: (a_bytes_g1, .inl (cB, n_a_bytes_g1, .inl b_a_bytes_g1)) :: (q8_0_132, .inl (cI, n4_132, .inl b4_132)) :: (h0, .inr (2, [.ref a_scanner_h0, .ref a_draft_h0, .ref a_waiting_h0, .ref a_functions_h0, .ref (a9_132 0), .ref (a9_132 d9_132), .ref g1, .int f5_7_132, .int f5_8_132, .int f5_9_132, .int f5_10_132, .int f5_11_132, .int (-1)])) :: ((a9_132 d9_132), .inr (0, [(frB a9_132 d9_132), (frA a9_132 n9_132 d9_132), .int f6_2_132, .int f6_3_132, .int f6_4_132, .int f6_5_132, .int f6_6_132, .int f6_7_132, .int f6_8_132, .int f6_9_132, .int f6_10_132, .int f6_11_132, .int f6_12_132, .int f6_13_132, .int f6_14_132])) :: (a_waiting_h0, .inr (5, [.ref q8_0_132, .int f8_1_132])) :: (a_draft_h0, .inr (1, [.ref q9_0_132, .int f9_1_132])) :: (q9_0_132, .inl (cI, n10_132, .inl b10_132)) :: (a_scanner_h0, .inr (4, [.ref g1, .int f7_1_132, .int f7_2_132, .int f7_3_132, .int f7_4_132])) :: fpo a9_132 n9_132 d9_132 c9_132)) (cl' := cl_132) (sl' := sl_132) rfl rfl rfl rfl rfl rfl ?_
        refine j_put (ws' := ((q1_0_132, .inl (cI, n0_132, .inl b0_132)) :: (a_functions_h0, .inr (5, [.ref q1_0_132, .int f1_1_132])) :: (g1, .inr (3, [.ref a_bytes_g1, .int size_g1])) :: (a_bytes_g1, .inl (cB, n_a_bytes_g1, .inl b_a_bytes_g1)) :: (q8_0_132, .inl (cI, n4_132, .inl b4_132)) :: (h0, .inr (2, [.ref a_scanner_h0, .ref a_draft_h0, .ref a_waiting_h0, .ref a_functions_h0, .ref (a9_132 0), .ref (a9_132 d9_132), .ref g1, .int f5_7_132, .int f5_8_132, .int f5_9_132, .int f5_10_132, .int f5_11_132, .int f7_3_132])) :: ((a9_132 d9_132), .inr (0, [(frB a9_132 d9_132), (frA a9_132 n9_132 d9_132), .int f6_2_132, .int f6_3_132, .int f6_4_132, .int f6_5_132, .int f6_6_132, .int f6_7_132, .int f6_8_132, .int f6_9_132, .int f6_10_132, .int f6_11_132, .int f6_12_132, .int f6_13_132, .int f6_14_132])) :: (a_waiting_h0, .inr (5, [.ref q8_0_132, .int f8_1_132])) :: (a_draft_h0, .inr (1, [.ref q9_0_132, .int f9_1_132])) :: (q9_0_132, .inl (cI, n10_132, .inl b10_132)) :: (a_scanner_h0, .inr (4, [.ref g1, .int f7_1_132, .int f7_2_132, .int f7_3_132, .int f7_4_132])) :: fpo a9_132 n9_132 d9_132 c9_132)) ig_Rd tk_Rd nm_Rd rfl 5 rfl 12 (by decide) rfl m_181 rfl (tk_Rd 12 (by decide)) rfl rfl (Nat.le_of_ble_eq_true rfl) d_Rd_take_152 rfl ?_
        refine j_iconst (v := (-1)) d_Rd_take_155 (by decide) ?_
        replace h := lf_s h
        obtain ⟨h, e1, e2⟩ := h
        replace h := Prod.mk.inj h
        obtain ⟨h9, h⟩ := h
        subst h9
        replace h := Prod.mk.inj h
        obtain ⟨h9, h⟩ := h
        subst h9
        replace h := Prod.mk.inj h
        obtain ⟨h9, h⟩ := h
        subst h9
        replace h := Prod.mk.inj h
        obtain ⟨h9, h⟩ := h
        subst h9
        replace h := Prod.mk.inj h
        obtain ⟨h9, h⟩ := h
        subst h9
        replace h := Prod.mk.inj h
        obtain ⟨h9, h⟩ := h
        subst h9
        replace h := Prod.mk.inj h
        obtain ⟨h9, h⟩ := h
        subst h9
        replace h := Prod.mk.inj h
        obtain ⟨h9, h⟩ := h
        subst h9
        replace h := Prod.mk.inj h
        obtain ⟨h9, h⟩ := h
        subst h9
        replace h := Prod.mk.inj h
        obtain ⟨h9, h⟩ := h
        subst h9
        replace h := Prod.mk.inj h
        obtain ⟨h9, h⟩ := h
        subst h9
        replace h := Prod.mk.inj h
        obtain ⟨h9, h⟩ := h
        subst h9
        replace h := Prod.mk.inj h
        obtain ⟨h9, h⟩ := h
        subst h9
        replace h := Prod.mk.inj h
        obtain ⟨h9, h⟩ := h
        subst h9
        replace h := Prod.mk.inj h
        obtain ⟨h9, h⟩ := h
        subst h9
        replace h := Prod.mk.inj h
        obtain ⟨h9, h⟩ := h
        subst h9
        replace h := Prod.mk.inj h
        obtain ⟨h9, h⟩ := h
        subst h9
        replace h := Prod.mk.inj h
        obtain ⟨h9, h⟩ := h
        subst h9
        replace h := Prod.mk.inj h
        obtain ⟨h9, h⟩ := h
        subst h9
        replace h := Prod.mk.inj h
        obtain ⟨h9, h⟩ := h
        subst h9
        replace h := Prod.mk.inj h
        obtain ⟨h9, h⟩ := h
        subst h9
        replace h := Prod.mk.inj h
        obtain ⟨h9, h⟩ := h
        subst h9
        replace h := Prod.mk.inj h
        obtain ⟨h9, h⟩ := h
        subst h9
        replace h := Prod.mk.inj h
        obtain ⟨h9, h⟩ := h
        subst h9
        replace h := Prod.mk.inj h
        obtain ⟨h9, h⟩ := h
        subst h9
        replace h := Prod.mk.inj h
        obtain ⟨h9, h⟩ := h
        subst h9
        replace h := Prod.mk.inj h
        obtain ⟨h9, h⟩ := h
        subst h9
        replace h := Prod.mk.inj h
        obtain ⟨h9, h⟩ := h
        subst h9
        replace h := Prod.mk.inj h
        obtain ⟨h9, h⟩ := h
        subst h9
        replace h := Prod.mk.inj h
        obtain ⟨h9, h⟩ := h
        subst h9
        replace h := Prod.mk.inj h
        obtain ⟨h9, h⟩ := h
        subst h9
        replace h := Prod.mk.inj h
        obtain ⟨h9, h⟩ := h
        subst h9
        replace h := Prod.mk.inj h
        obtain ⟨h9, h⟩ := h
        subst h9
        replace h := Prod.mk.inj h
        obtain ⟨h9, h⟩ := h
        subst h9
        replace h := Prod.mk.inj h
        obtain ⟨h9, h⟩ := h
        subst h9
        subst h
        refine j_widen (cl' := mc) (sl' := ms) (by omega) (by omega) ?_
        refine j_subP (w := [(h0, .inr (2, [.ref a_scanner_h0, .ref a_draft_h0, .ref a_waiting_h0, .ref a_functions_h0, .ref (a9_132 0), .ref (a9_132 d9_132), .ref g1, .int f5_7_132, .int f5_8_132, .int f5_9_132, .int f5_10_132, .int f5_11_132, .int f7_3_132])), ((a9_132 d9_132), .inr (0, [(frB a9_132 d9_132), (frA a9_132 n9_132 d9_132), .int f6_2_132, .int f6_3_132, .int f6_4_132, .int f6_5_132, .int f6_6_132, .int f6_7_132, .int f6_8_132, .int f6_9_132, .int f6_10_132, .int f6_11_132, .int f6_12_132, .int f6_13_132, .int f6_14_132])), (a_scanner_h0, .inr (4, [.ref g1, .int f7_1_132, .int f7_2_132, .int f7_3_132, .int f7_4_132])), (a_draft_h0, .inr (1, [.ref q9_0_132, .int f9_1_132])), (a_waiting_h0, .inr (5, [.ref q8_0_132, .int f8_1_132])), (a_functions_h0, .inr (5, [.ref q1_0_132, .int f1_1_132])), (g1, .inr (3, [.ref a_bytes_g1, .int size_g1])), (a_bytes_g1, .inl (cB, n_a_bytes_g1, .inl b_a_bytes_g1)), (q9_0_132, .inl (cI, n10_132, .inl b10_132)), (q8_0_132, .inl (cI, n4_132, .inl b4_132)), (q1_0_132, .inl (cI, n0_132, .inl b0_132))]) (pl := fpo a9_132 n9_132 d9_132 c9_132) (lv' := []) [5, 6, 10, 8, 7, 1, 2, 3, 9, 4, 0] [] 11 rfl rfl (by decide) [] rfl ?_
        exact j_iretE hr d_Rd_take_156 ⟨a9_132, q9_0_132, q8_0_132, q1_0_132, rfl, rfl⟩
      · replace h := it_f c1 h
        refine j_iload_n d_Rd_take_137 rfl 1 rfl ?_
        refine j_sipush (v := 16384) d_Rd_take_138 (by decide) ?_
        refine j_icmp_ne (tgt := 157) d_Rd_take_141 (by decide) (fun c3 => ?_) (fun c3 => ?_)
        · replace h := it_f c3 h
          refine j_iinc (v := v2_7 + 1) (lv' := [(2, .int (v2_7 + 1)), (3, .int t0_132), (0, .ref h0), (1, .ref g1)]) d_Rd_take_157 1 rfl rfl (by decide) rfl ?_
          refine j_goto (tgt := 7) d_Rd_take_160 (by decide) ?_
          refine j_subP (w := [(g1, .inr (3, [.ref a_bytes_g1, .int size_g1])), (a_bytes_g1, .inl (cB, n_a_bytes_g1, .inl b_a_bytes_g1)), (q9_0_132, .inl (cI, n10_132, .inl b10_132)), (q8_0_132, .inl (cI, n4_132, .inl b4_132)), (q1_0_132, .inl (cI, n0_132, .inl b0_132)), (h0, .inr (2, [.ref a_scanner_h0, .ref a_draft_h0, .ref a_waiting_h0, .ref a_functions_h0, .ref (a9_132 0), .ref (a9_132 d9_132), .ref g1, .int f5_7_132, .int f5_8_132, .int f5_9_132, .int f5_10_132, .int f5_11_132, .int (-1)])), ((a9_132 d9_132), .inr (0, [(frB a9_132 d9_132), (frA a9_132 n9_132 d9_132), .int f6_2_132, .int f6_3_132, .int f6_4_132, .int f6_5_132, .int f6_6_132, .int f6_7_132, .int f6_8_132, .int f6_9_132, .int f6_10_132, .int f6_11_132, .int f6_12_132, .int f6_13_132, .int f6_14_132])), (a_scanner_h0, .inr (4, [.ref g1, .int f7_1_132, .int f7_2_132, .int f7_3_132, .int f7_4_132])), (a_draft_h0, .inr (1, [.ref q9_0_132, .int f9_1_132])), (a_waiting_h0, .inr (5, [.ref q8_0_132, .int f8_1_132])), (a_functions_h0, .inr (5, [.ref q1_0_132, .int f1_1_132]))]) (pl := fpo a9_132 n9_132 d9_132 c9_132) (lv' := [(2, .int (v2_7 + 1)), (0, .ref h0), (1, .ref g1)]) [2, 3, 10, 4, 0, 5, 6, 7, 9, 8, 1] [] 11 rfl rfl (by decide) [0, 2, 3] rfl ?_
          exact ih_7 a9_132 q9_0_132 q8_0_132 q1_0_132 (v2_7 + 1) n9_132 d9_132 c9_132 n10_132 b10_132 n4_132 b4_132 n0_132 b0_132 f5_7_132 f5_8_132 f5_9_132 f5_10_132 f5_11_132 f6_2_132 f6_3_132 f6_4_132 f6_5_132 f6_6_132 f6_7_132 f6_8_132 f6_9_132 f6_10_132 f6_11_132 f6_12_132 f6_13_132 f6_14_132 f7_1_132 f7_2_132 f7_3_132 f7_4_132 f9_1_132 f8_1_132 f1_1_132 cl_132 sl_132 C_132 S_132 h hC hS
        · replace h := it_t c3 h
          refine j_aload_n d_Rd_take_144 rfl 2 rfl ?_
          refine j_aload_n d_Rd_take_145 rfl 2 rfl ?_
          refine j_get ig_Rd rfl 5 rfl 0 (by decide) rfl m_169 rfl d_Rd_take_146 ?_
          refine j_callVg (n := 0) (As := []) (rest := [.ref h0]) (wr := ([(q1_0_132, .inl (cI, n0_132, .inl b0_132)), (a_functions_h0, .inr (5, [.ref q1_0_132, .int f1_1_132])), (g1, .inr (3, [.ref a_bytes_g1, .int size_g1])), (a_bytes_g1, .inl (cB, n_a_bytes_g1, .inl b_a_bytes_g1)), (q8_0_132, .inl (cI, n4_132, .inl b4_132)), (h0, .inr (2, [.ref a_scanner_h0, .ref a_draft_h0, .ref a_waiting_h0, .ref a_functions_h0, .ref (a9_132 0), .ref (a9_132 d9_132), .ref g1, .int f5_7_132, .int f5_8_132, .int f5_9_132, .int f5_10_132, .int f5_11_132, .int (-1)])), ((a9_132 d9_132), .inr (0, [(frB a9_132 d9_132), (frA a9_132 n9_132 d9_132), .int f6_2_132, .int f6_3_132, .int f6_4_132, .int f6_5_132, .int f6_6_132, .int f6_7_132, .int f6_8_132, .int f6_9_132, .int f6_10_132, .int f6_11_132, .int f6_12_132, .int f6_13_132, .int f6_14_132])), (a_waiting_h0, .inr (5, [.ref q8_0_132, .int f8_1_132])), (a_draft_h0, .inr (1, [.ref q9_0_132, .int f9_1_132])), (q9_0_132, .inl (cI, n10_132, .inl b10_132))] ++ fpo a9_132 n9_132 d9_132 c9_132)) (c_Sc_start l D cI cB cJ cS a_scanner_h0 g1 f7_1_132 f7_2_132 f7_3_132 f7_4_132  ) k_Rd_113 (by decide) ⟨Nat.le_of_ble_eq_true rfl, Nat.le_of_ble_eq_true rfl⟩ rfl 0 rfl (pk_mid (wr := [(q1_0_132, .inl (cI, n0_132, .inl b0_132)), (a_functions_h0, .inr (5, [.ref q1_0_132, .int f1_1_132])), (g1, .inr (3, [.ref a_bytes_g1, .int size_g1])), (a_bytes_g1, .inl (cB, n_a_bytes_g1, .inl b_a_bytes_g1)), (q8_0_132, .inl (cI, n4_132, .inl b4_132)), (h0, .inr (2, [.ref a_scanner_h0, .ref a_draft_h0, .ref a_waiting_h0, .ref a_functions_h0, .ref (a9_132 0), .ref (a9_132 d9_132), .ref g1, .int f5_7_132, .int f5_8_132, .int f5_9_132, .int f5_10_132, .int f5_11_132, .int (-1)])), ((a9_132 d9_132), .inr (0, [(frB a9_132 d9_132), (frA a9_132 n9_132 d9_132), .int f6_2_132, .int f6_3_132, .int f6_4_132, .int f6_5_132, .int f6_6_132, .int f6_7_132, .int f6_8_132, .int f6_9_132, .int f6_10_132, .int f6_11_132, .int f6_12_132, .int f6_13_132, .int f6_14_132])), (a_waiting_h0, .inr (5, [.ref q8_0_132, .int f8_1_132])), (a_draft_h0, .inr (1, [.ref q9_0_132, .int f9_1_132])), (q9_0_132, .inl (cI, n10_132, .inl b10_132))]) (w0 := [(a_scanner_h0, .inr (4, [.ref g1, .int f7_1_132, .int f7_2_132, .int f7_3_132, .int f7_4_132]))]) (pl := fpo a9_132 n9_132 d9_132 c9_132) [0, 1, 2, 3, 4, 5, 6, 8, 9, 10, 7] 11 rfl rfl (by decide)) rfl rfl (Nat.le_of_ble_eq_true rfl) d_Rd_take_149 ⟨show cl_132 + 0 ≤ mc by omega, show sl_132 + 0 ≤ ms by omega⟩ (fun v w hq => ?_)
          obtain ⟨rfl, rfl⟩ := hq
          refine j_perm (ws' := ((q1_0_132, .inl (cI, n0_132, .inl b0_132)) :: (a_functions_h0, .inr (5, [.ref q1_0_132, .int f1_1_132])) :: (g1, .inr (3, [.ref a_bytes_g1, .int size_g1])) :: (a_bytes_g1, .inl (cB, n_a_bytes_g1, .inl b_a_bytes_g1)) :: (q8_0_132, .inl (cI, n4_132, .inl b4_132)) :: (h0, .inr (2, [.ref a_scanner_h0, .ref a_draft_h0, .ref a_waiting_h0, .ref a_functions_h0, .ref (a9_132 0), .ref (a9_132 d9_132), .ref g1, .int f5_7_132, .int f5_8_132, .int f5_9_132, .int f5_10_132, .int f5_11_132, .int (-1)])) :: ((a9_132 d9_132), .inr (0, [(frB a9_132 d9_132), (frA a9_132 n9_132 d9_132), .int f6_2_132, .int f6_3_132, .int f6_4_132, .int f6_5_132, .int f6_6_132, .int f6_7_132, .int f6_8_132, .int f6_9_132, .int f6_10_132, .int f6_11_132, .int f6_12_132, .int f6_13_132, .int f6_14_132])) :: (a_waiting_h0, .inr (5, [.ref q8_0_132, .int f8_1_132])) :: (a_draft_h0, .inr (1, [.ref q9_0_132, .int f9_1_132])) :: (q9_0_132, .inl (cI, n10_132, .inl b10_132)) :: (a_scanner_h0, .inr (4, [.ref g1, .int f7_1_132, .int f7_2_132, .int f7_3_132, .int f7_4_132])) :: fpo a9_132 n9_132 d9_132 c9_132)) (pm_eq (a := [(q1_0_132, .inl (cI, n0_132, .inl b0_132)), (a_functions_h0, .inr (5, [.ref q1_0_132, .int f1_1_132])), (g1, .inr (3, [.ref a_bytes_g1, .int size_g1])), (a_bytes_g1, .inl (cB, n_a_bytes_g1, .inl b_a_bytes_g1)), (q8_0_132, .inl (cI, n4_132, .inl b4_132)), (h0, .inr (2, [.ref a_scanner_h0, .ref a_draft_h0, .ref a_waiting_h0, .ref a_functions_h0, .ref (a9_132 0), .ref (a9_132 d9_132), .ref g1, .int f5_7_132, .int f5_8_132, .int f5_9_132, .int f5_10_132, .int f5_11_132, .int (-1)])), ((a9_132 d9_132), .inr (0, [(frB a9_132 d9_132), (frA a9_132 n9_132 d9_132), .int f6_2_132, .int f6_3_132, .int f6_4_132, .int f6_5_132, .int f6_6_132, .int f6_7_132, .int f6_8_132, .int f6_9_132, .int f6_10_132, .int f6_11_132, .int f6_12_132, .int f6_13_132, .int f6_14_132])), (a_waiting_h0, .inr (5, [.ref q8_0_132, .int f8_1_132])), (a_draft_h0, .inr (1, [.ref q9_0_132, .int f9_1_132])), (q9_0_132, .inl (cI, n10_132, .inl b10_132))]) (b := fpo a9_132 n9_132 d9_132 c9_132) (c := [(a_scanner_h0, .inr (4, [.ref g1, .int f7_1_132, .int f7_2_132, .int f7_3_132, .int f7_4_132]))]) rfl) ?_
          refine j_norm (pc' := 152) (st' := [.int f7_3_132, .ref h0]) (ws' := ((q1_0_132, .inl (cI, n0_132, .inl b0_132)) :: (a_functions_h0, .inr (5, [.ref q1_0_132, .int f1_1_132])) :: (g1, .inr (3, [.ref a_bytes_g1, .int size_g1])) :: (a_bytes_g1, .inl (cB, n_a_bytes_g1, .inl b_a_bytes_g1)) :: (q8_0_132, .inl (cI, n4_132, .inl b4_132)) :: (h0, .inr (2, [.ref a_scanner_h0, .ref a_draft_h0, .ref a_waiting_h0, .ref a_functions_h0, .ref (a9_132 0), .ref (a9_132 d9_132), .ref g1, .int f5_7_132, .int f5_8_132, .int f5_9_132, .int f5_10_132, .int f5_11_132, .int (-1)])) :: ((a9_132 d9_132), .inr (0, [(frB a9_132 d9_132), (frA a9_132 n9_132 d9_132), .int f6_2_132, .int f6_3_132, .int f6_4_132, .int f6_5_132, .int f6_6_132, .int f6_7_132, .int f6_8_132, .int f6_9_132, .int f6_10_132, .int f6_11_132, .int f6_12_132, .int f6_13_132, .int f6_14_132])) :: (a_waiting_h0, .inr (5, [.ref q8_0_132, .int f8_1_132])) :: (a_draft_h0, .inr (1, [.ref q9_0_132, .int f9_1_132])) :: (q9_0_132, .inl (cI, n10_132, .inl b10_132)) :: (a_scanner_h0, .inr (4, [.ref g1, .int f7_1_132, .int f7_2_132, .int f7_3_132, .int f7_4_132])) :: fpo a9_132 n9_132 d9_132 c9_132)) (cl' := cl_132) (sl' := sl_132) rfl rfl rfl rfl rfl rfl ?_
          refine j_put (ws' := ((q1_0_132, .inl (cI, n0_132, .inl b0_132)) :: (a_functions_h0, .inr (5, [.ref q1_0_132, .int f1_1_132])) :: (g1, .inr (3, [.ref a_bytes_g1, .int size_g1])) :: (a_bytes_g1, .inl (cB, n_a_bytes_g1, .inl b_a_bytes_g1)) :: (q8_0_132, .inl (cI, n4_132, .inl b4_132)) :: (h0, .inr (2, [.ref a_scanner_h0, .ref a_draft_h0, .ref a_waiting_h0, .ref a_functions_h0, .ref (a9_132 0), .ref (a9_132 d9_132), .ref g1, .int f5_7_132, .int f5_8_132, .int f5_9_132, .int f5_10_132, .int f5_11_132, .int f7_3_132])) :: ((a9_132 d9_132), .inr (0, [(frB a9_132 d9_132), (frA a9_132 n9_132 d9_132), .int f6_2_132, .int f6_3_132, .int f6_4_132, .int f6_5_132, .int f6_6_132, .int f6_7_132, .int f6_8_132, .int f6_9_132, .int f6_10_132, .int f6_11_132, .int f6_12_132, .int f6_13_132, .int f6_14_132])) :: (a_waiting_h0, .inr (5, [.ref q8_0_132, .int f8_1_132])) :: (a_draft_h0, .inr (1, [.ref q9_0_132, .int f9_1_132])) :: (q9_0_132, .inl (cI, n10_132, .inl b10_132)) :: (a_scanner_h0, .inr (4, [.ref g1, .int f7_1_132, .int f7_2_132, .int f7_3_132, .int f7_4_132])) :: fpo a9_132 n9_132 d9_132 c9_132)) ig_Rd tk_Rd nm_Rd rfl 5 rfl 12 (by decide) rfl m_181 rfl (tk_Rd 12 (by decide)) rfl rfl (Nat.le_of_ble_eq_true rfl) d_Rd_take_152 rfl ?_
          refine j_iconst (v := (-1)) d_Rd_take_155 (by decide) ?_
          replace h := lf_s h
          obtain ⟨h, e1, e2⟩ := h
          replace h := Prod.mk.inj h
          obtain ⟨h9, h⟩ := h
          subst h9
          replace h := Prod.mk.inj h
          obtain ⟨h9, h⟩ := h
          subst h9
          replace h := Prod.mk.inj h
          obtain ⟨h9, h⟩ := h
          subst h9
          replace h := Prod.mk.inj h
          obtain ⟨h9, h⟩ := h
          subst h9
          replace h := Prod.mk.inj h
          obtain ⟨h9, h⟩ := h
          subst h9
          replace h := Prod.mk.inj h
          obtain ⟨h9, h⟩ := h
          subst h9
          replace h := Prod.mk.inj h
          obtain ⟨h9, h⟩ := h
          subst h9
          replace h := Prod.mk.inj h
          obtain ⟨h9, h⟩ := h
          subst h9
          replace h := Prod.mk.inj h
          obtain ⟨h9, h⟩ := h
          subst h9
          replace h := Prod.mk.inj h
          obtain ⟨h9, h⟩ := h
          subst h9
          replace h := Prod.mk.inj h
          obtain ⟨h9, h⟩ := h
          subst h9
          replace h := Prod.mk.inj h
          obtain ⟨h9, h⟩ := h
          subst h9
          replace h := Prod.mk.inj h
          obtain ⟨h9, h⟩ := h
          subst h9
          replace h := Prod.mk.inj h
          obtain ⟨h9, h⟩ := h
          subst h9
          replace h := Prod.mk.inj h
          obtain ⟨h9, h⟩ := h
          subst h9
          replace h := Prod.mk.inj h
          obtain ⟨h9, h⟩ := h
          subst h9
          replace h := Prod.mk.inj h
          obtain ⟨h9, h⟩ := h
          subst h9
          replace h := Prod.mk.inj h
          obtain ⟨h9, h⟩ := h
          subst h9
          replace h := Prod.mk.inj h
          obtain ⟨h9, h⟩ := h
          subst h9
          replace h := Prod.mk.inj h
          obtain ⟨h9, h⟩ := h
          subst h9
          replace h := Prod.mk.inj h
          obtain ⟨h9, h⟩ := h
          subst h9
          replace h := Prod.mk.inj h
          obtain ⟨h9, h⟩ := h
          subst h9
          replace h := Prod.mk.inj h
          obtain ⟨h9, h⟩ := h
          subst h9
          replace h := Prod.mk.inj h
          obtain ⟨h9, h⟩ := h
          subst h9
          replace h := Prod.mk.inj h
          obtain ⟨h9, h⟩ := h
          subst h9
          replace h := Prod.mk.inj h
          obtain ⟨h9, h⟩ := h
          subst h9
          replace h := Prod.mk.inj h
          obtain ⟨h9, h⟩ := h
          subst h9
          replace h := Prod.mk.inj h
          obtain ⟨h9, h⟩ := h
          subst h9
          replace h := Prod.mk.inj h
          obtain ⟨h9, h⟩ := h
          subst h9
          replace h := Prod.mk.inj h
          obtain ⟨h9, h⟩ := h
          subst h9
          replace h := Prod.mk.inj h
          obtain ⟨h9, h⟩ := h
          subst h9
          replace h := Prod.mk.inj h
          obtain ⟨h9, h⟩ := h
          subst h9
          replace h := Prod.mk.inj h
          obtain ⟨h9, h⟩ := h
          subst h9
          replace h := Prod.mk.inj h
          obtain ⟨h9, h⟩ := h
          subst h9
          replace h := Prod.mk.inj h
          obtain ⟨h9, h⟩ := h
          subst h9
          subst h
          refine j_widen (cl' := mc) (sl' := ms) (by omega) (by omega) ?_
          refine j_subP (w := [(h0, .inr (2, [.ref a_scanner_h0, .ref a_draft_h0, .ref a_waiting_h0, .ref a_functions_h0, .ref (a9_132 0), .ref (a9_132 d9_132), .ref g1, .int f5_7_132, .int f5_8_132, .int f5_9_132, .int f5_10_132, .int f5_11_132, .int f7_3_132])), ((a9_132 d9_132), .inr (0, [(frB a9_132 d9_132), (frA a9_132 n9_132 d9_132), .int f6_2_132, .int f6_3_132, .int f6_4_132, .int f6_5_132, .int f6_6_132, .int f6_7_132, .int f6_8_132, .int f6_9_132, .int f6_10_132, .int f6_11_132, .int f6_12_132, .int f6_13_132, .int f6_14_132])), (a_scanner_h0, .inr (4, [.ref g1, .int f7_1_132, .int f7_2_132, .int f7_3_132, .int f7_4_132])), (a_draft_h0, .inr (1, [.ref q9_0_132, .int f9_1_132])), (a_waiting_h0, .inr (5, [.ref q8_0_132, .int f8_1_132])), (a_functions_h0, .inr (5, [.ref q1_0_132, .int f1_1_132])), (g1, .inr (3, [.ref a_bytes_g1, .int size_g1])), (a_bytes_g1, .inl (cB, n_a_bytes_g1, .inl b_a_bytes_g1)), (q9_0_132, .inl (cI, n10_132, .inl b10_132)), (q8_0_132, .inl (cI, n4_132, .inl b4_132)), (q1_0_132, .inl (cI, n0_132, .inl b0_132))]) (pl := fpo a9_132 n9_132 d9_132 c9_132) (lv' := []) [5, 6, 10, 8, 7, 1, 2, 3, 9, 4, 0] [] 11 rfl rfl (by decide) [] rfl ?_
          exact j_iretE hr d_Rd_take_156 ⟨a9_132, q9_0_132, q8_0_132, q1_0_132, rfl, rfl⟩
    have L_76 : ∀ (a9_76 : Nat → Nat) (n9_76 : Nat) (d9_76 : Nat) (c9_76 : Nat → FrC) (f3_11_76 : Int32) (f10_1_76 : Int32) (f10_2_76 : Int32) (f10_3_76 : Int32) (f10_4_76 : Int32) (cl_76 sl_76 C_76 S_76 : Nat), F_Rd_take_76 size_g1 n_a_bytes_g1 b_a_bytes_g1 v2_7 n2_7 b2_7 n3_7 b3_7 n4_7 b4_7 f5_7_7 f5_8_7 f5_9_7 f5_10_7 f6_2_7 f6_3_7 f6_4_7 f6_5_7 f6_6_7 f6_7_7 f6_8_7 f6_9_7 f6_10_7 f6_11_7 f6_12_7 f6_13_7 f6_14_7 f8_1_7 f9_1_7 f10_1_7 (F_Rd_take_7 size_g1 n_a_bytes_g1 b_a_bytes_g1  k_7)  n9_76 d9_76 c9_76 f3_11_76 f10_1_76 f10_2_76 f10_3_76 f10_4_76 = some ((on_p, od_p, ocf_p, ret, o_0_7, o_0_8, o_0_9, o_0_10, o_0_11, o_0_12, o_1_2, o_1_3, o_1_4, o_1_5, o_1_6, o_1_7, o_1_8, o_1_9, o_1_10, o_1_11, o_1_12, o_1_13, o_1_14, o_2_1, o_2_2, o_2_3, o_2_4, o_3_1, o_4_1, o_5_1, on_nq_3_0, ob_nq_3_0, on_nq_4_0, ob_nq_4_0, on_nq_5_0, ob_nq_5_0), C_76, S_76) → cl_76 + C_76 ≤ mc → sl_76 + S_76 ≤ ms → J (KxOf p l e { frames := 8, cells := mc, slots := ms, locals := 197 } s m [.ref h0, .ref g1].toArray below meth c D (gT cI cB cJ cS) ((h0, .inr (2, [.ref a_scanner_h0, .ref a_draft_h0, .ref a_waiting_h0, .ref a_functions_h0, .ref (fad 0), .ref (fad fd), .ref a_text_h0, .int mode_h0, .int levels_h0, .int signs_h0, .int loops_h0, .int token_h0, .int fault_h0])) :: ((fad fd), .inr (0, [(frB fad fd), (frA fad fn fd), .int kind_t, .int place_t, .int width_t, .int second_t, .int parts_t, .int innerParts_t, .int innerPlace_t, .int innerWidth_t, .int signs_t, .int waitingBelow_t, .int limited_t, .int targets_t, .int lastBlock_t])) :: (a_scanner_h0, .inr (4, [.ref a_text_a_scanner_h0, .int next_a_scanner_h0, .int kind_a_scanner_h0, .int start_a_scanner_h0, .int width_a_scanner_h0])) :: (a_draft_h0, .inr (1, [.ref a_cells_a_draft_h0, .int count_a_draft_h0])) :: (a_waiting_h0, .inr (5, [.ref a_cells_a_waiting_h0, .int count_a_waiting_h0])) :: (a_functions_h0, .inr (5, [.ref a_cells_a_functions_h0, .int count_a_functions_h0])) :: (g1, .inr (3, [.ref a_bytes_g1, .int size_g1])) :: (a_bytes_g1, .inl (cB, n_a_bytes_g1, .inl b_a_bytes_g1)) :: (a_cells_a_draft_h0, .inl (cI, n_a_cells_a_draft_h0, .inl b_a_cells_a_draft_h0)) :: (a_cells_a_waiting_h0, .inl (cI, n_a_cells_a_waiting_h0, .inl b_a_cells_a_waiting_h0)) :: (a_cells_a_functions_h0, .inl (cI, n_a_cells_a_functions_h0, .inl b_a_cells_a_functions_h0)) :: fpo fad fn fd fcf) (fun v w => ∃ nad : Nat → Nat, ∃ nq_3_0 : Nat, ∃ nq_4_0 : Nat, ∃ nq_5_0 : Nat, v = some (.int ret) ∧ w = ((h0, .inr (2, [.ref a_scanner_h0, .ref a_draft_h0, .ref a_waiting_h0, .ref a_functions_h0, .ref (nad 0), .ref (nad od_p), .ref g1, .int o_0_7, .int o_0_8, .int o_0_9, .int o_0_10, .int o_0_11, .int o_0_12])) :: ((nad od_p), .inr (0, [(frB nad od_p), (frA nad on_p od_p), .int o_1_2, .int o_1_3, .int o_1_4, .int o_1_5, .int o_1_6, .int o_1_7, .int o_1_8, .int o_1_9, .int o_1_10, .int o_1_11, .int o_1_12, .int o_1_13, .int o_1_14])) :: (a_scanner_h0, .inr (4, [.ref g1, .int o_2_1, .int o_2_2, .int o_2_3, .int o_2_4])) :: (a_draft_h0, .inr (1, [.ref nq_3_0, .int o_3_1])) :: (a_waiting_h0, .inr (5, [.ref nq_4_0, .int o_4_1])) :: (a_functions_h0, .inr (5, [.ref nq_5_0, .int o_5_1])) :: (g1, .inr (3, [.ref a_bytes_g1, .int size_g1])) :: (a_bytes_g1, .inl (cB, n_a_bytes_g1, .inl b_a_bytes_g1)) :: (nq_3_0, .inl (cI, on_nq_3_0, .inl ob_nq_3_0)) :: (nq_4_0, .inl (cI, on_nq_4_0, .inl ob_nq_4_0)) :: (nq_5_0, .inl (cI, on_nq_5_0, .inl ob_nq_5_0)) :: fpo nad on_p od_p ocf_p)) mc ms) prog_6_method_4_code 4 R_Rd 76 [(2, .int v2_7), (0, .ref h0), (1, .ref g1)] [] ((q8_0_7, .inl (cI, n2_7, .inl b2_7)) :: (q9_0_7, .inl (cI, n3_7, .inl b3_7)) :: (q10_0_7, .inl (cI, n4_7, .inl b4_7)) :: (h0, .inr (2, [.ref a_scanner_h0, .ref a_draft_h0, .ref a_waiting_h0, .ref a_functions_h0, .ref (a9_76 0), .ref (a9_76 d9_76), .ref g1, .int f5_7_7, .int f5_8_7, .int f5_9_7, .int f5_10_7, .int f3_11_76, .int (-1)])) :: ((a9_76 d9_76), .inr (0, [(frB a9_76 d9_76), (frA a9_76 n9_76 d9_76), .int f6_2_7, .int f6_3_7, .int f6_4_7, .int f6_5_7, .int f6_6_7, .int f6_7_7, .int f6_8_7, .int f6_9_7, .int f6_10_7, .int f6_11_7, .int f6_12_7, .int f6_13_7, .int f6_14_7])) :: (a_draft_h0, .inr (1, [.ref q8_0_7, .int f8_1_7])) :: (a_waiting_h0, .inr (5, [.ref q9_0_7, .int f9_1_7])) :: (a_functions_h0, .inr (5, [.ref q10_0_7, .int f10_1_7])) :: (g1, .inr (3, [.ref a_bytes_g1, .int size_g1])) :: (a_bytes_g1, .inl (cB, n_a_bytes_g1, .inl b_a_bytes_g1)) :: (a_scanner_h0, .inr (4, [.ref g1, .int f10_1_76, .int f10_2_76, .int f10_3_76, .int f10_4_76])) :: fpo a9_76 n9_76 d9_76 c9_76) cl_76 sl_76 := by
      clear h
      intro a9_76 n9_76 d9_76 c9_76 f3_11_76 f10_1_76 f10_2_76 f10_3_76 f10_4_76 cl_76 sl_76 C_76 S_76 h hC hS
      unfold F_Rd_take_76 at h
      refine j_aload_n d_Rd_take_76 rfl 1 rfl ?_
      replace h := bw_s h
      obtain ⟨⟨r5, r6, r7, r8, r9, r10, r11, r12, r13, r14, r15, r16, r17, r18, r19, r20, r21, r22, r23, r24, r25, r26, r27⟩, C30, S31, C32, S33, k34, h, e1, e2⟩ := h
      replace hC : cl_76 + C30 + C32 ≤ mc := by omega
      replace hS : sl_76 + S31 + S33 ≤ ms := by omega
      clear e1 e2
      refine j_callVg (n := 0) (As := []) (rest := []) (wr := [(q10_0_7, .inl (cI, n4_7, .inl b4_7)), (a_functions_h0, .inr (5, [.ref q10_0_7, .int f10_1_7])), (g1, .inr (3, [.ref a_bytes_g1, .int size_g1])), (a_bytes_g1, .inl (cB, n_a_bytes_g1, .inl b_a_bytes_g1))]) (c_Rd_settle l D cI cB cJ cS h0 a9_76 a_scanner_h0 a_draft_h0 a_waiting_h0 a_functions_h0 g1 g1 q9_0_7 q8_0_7 n9_76 d9_76 c9_76 f5_7_7 f5_8_7 f5_9_7 f5_10_7 f3_11_76 (-1) f6_2_7 f6_3_7 f6_4_7 f6_5_7 f6_6_7 f6_7_7 f6_8_7 f6_9_7 f6_10_7 f6_11_7 f6_12_7 f6_13_7 f6_14_7 f10_1_76 f10_2_76 f10_3_76 f10_4_76 f9_1_7 n3_7 b3_7 f8_1_7 n2_7 b2_7  r5 r6 r7 r8 r9 r10 r11 r12 r13 r14 r15 r16 r17 r18 r19 r20 r21 r22 r23 r24 r25 r26 r27 C30 S31 k34) k_Rd_97 (by decide) ⟨Nat.le_of_ble_eq_true rfl, Nat.le_of_ble_eq_true rfl⟩ rfl 0 rfl (pk_app (wr := [(q10_0_7, .inl (cI, n4_7, .inl b4_7)), (a_functions_h0, .inr (5, [.ref q10_0_7, .int f10_1_7])), (g1, .inr (3, [.ref a_bytes_g1, .int size_g1])), (a_bytes_g1, .inl (cB, n_a_bytes_g1, .inl b_a_bytes_g1))]) (w0 := [(h0, .inr (2, [.ref a_scanner_h0, .ref a_draft_h0, .ref a_waiting_h0, .ref a_functions_h0, .ref (a9_76 0), .ref (a9_76 d9_76), .ref g1, .int f5_7_7, .int f5_8_7, .int f5_9_7, .int f5_10_7, .int f3_11_76, .int (-1)])), ((a9_76 d9_76), .inr (0, [(frB a9_76 d9_76), (frA a9_76 n9_76 d9_76), .int f6_2_7, .int f6_3_7, .int f6_4_7, .int f6_5_7, .int f6_6_7, .int f6_7_7, .int f6_8_7, .int f6_9_7, .int f6_10_7, .int f6_11_7, .int f6_12_7, .int f6_13_7, .int f6_14_7])), (a_scanner_h0, .inr (4, [.ref g1, .int f10_1_76, .int f10_2_76, .int f10_3_76, .int f10_4_76])), (a_waiting_h0, .inr (5, [.ref q9_0_7, .int f9_1_7])), (q9_0_7, .inl (cI, n3_7, .inl b3_7)), (a_draft_h0, .inr (1, [.ref q8_0_7, .int f8_1_7])), (q8_0_7, .inl (cI, n2_7, .inl b2_7))]) (pl := fpo a9_76 n9_76 d9_76 c9_76) [2, 7, 8, 9, 3, 4, 10, 6, 1, 5, 0] 11 rfl rfl rfl (by decide)) rfl rfl (Nat.le_of_ble_eq_true rfl) d_Rd_take_77 ⟨show cl_76 + C30 ≤ mc by omega, show sl_76 + S31 ≤ ms by omega⟩ (fun v w hq => ?_)
      obtain ⟨a28, q29, rfl, rfl⟩ := hq
      refine j_norm (pc' := 80) (st' := []) (ws' := ((q10_0_7, .inl (cI, n4_7, .inl b4_7)) :: (a_functions_h0, .inr (5, [.ref q10_0_7, .int f10_1_7])) :: (g1, .inr (3, [.ref a_bytes_g1, .int size_g1])) :: (a_bytes_g1, .inl (cB, n_a_bytes_g1, .inl b_a_bytes_g1)) :: (h0, .inr (2, [.ref a_scanner_h0, .ref a_draft_h0, .ref a_waiting_h0, .ref a_functions_h0, .ref (a28 0), .ref (a28 r6), .ref g1, .int r8, .int r9, .int r10, .int f5_10_7, .int f3_11_76, .int (-1)])) :: ((a28 r6), .inr (0, [(frB a28 r6), (frA a28 r5 r6), .int r11, .int r12, .int r13, .int r14, .int r15, .int r16, .int r17, .int r18, .int r19, .int r20, .int r21, .int r22, .int r23])) :: (a_scanner_h0, .inr (4, [.ref g1, .int f10_1_76, .int f10_2_76, .int f10_3_76, .int f10_4_76])) :: (a_waiting_h0, .inr (5, [.ref q9_0_7, .int r24])) :: (q9_0_7, .inl (cI, n3_7, .inl b3_7)) :: (a_draft_h0, .inr (1, [.ref q29, .int r25])) :: (q29, .inl (cI, r26, .inl r27)) :: fpo a28 r5 r6 r7)) (cl' := cl_76 + C30) (sl' := sl_76 + S31) rfl rfl rfl rfl rfl rfl ?_
      refine j_aload_n d_Rd_take_80 rfl 1 rfl ?_
      refine j_get ig_Rd rfl 4 rfl 7 (by decide) rfl m_176 rfl d_Rd_take_81 ?_
      refine j_bipush (v := 30) d_Rd_take_84 (by decide) ?_
      refine j_icmp_lt (tgt := 96) d_Rd_take_86 (by decide) (fun c35 => ?_) (fun c35 => ?_)
      · replace h := it_t c35 h
        refine j_aload_n d_Rd_take_96 rfl 1 rfl ?_
        refine j_get ig_Rd rfl 4 rfl 7 (by decide) rfl m_176 rfl d_Rd_take_97 ?_
        refine j_bipush (v := 20) d_Rd_take_100 (by decide) ?_
        refine j_icmp_lt (tgt := 112) d_Rd_take_102 (by decide) (fun c36 => ?_) (fun c36 => ?_)
        · replace h := it_t c36 h
          refine j_aload_n d_Rd_take_112 rfl 1 rfl ?_
          refine j_get ig_Rd rfl 4 rfl 7 (by decide) rfl m_176 rfl d_Rd_take_113 ?_
          refine j_bipush (v := 10) d_Rd_take_116 (by decide) ?_
          refine j_icmp_lt (tgt := 128) d_Rd_take_118 (by decide) (fun c37 => ?_) (fun c37 => ?_)
          · replace h := it_t c37 h
            refine j_aload_n d_Rd_take_128 rfl 1 rfl ?_
            replace h := bw_s h
            obtain ⟨⟨r38, r39, r40, r41, r42, r43, r44, r45, r46, r47, r48, r49, r50, r51, r52, r53, r54, r55, r56, r57, r58, r59, r60, r61⟩, C65, S66, C67, S68, k69, h, e1, e2⟩ := h
            replace hC : cl_76 + C30 + C65 + C67 ≤ mc := by omega
            replace hS : sl_76 + S31 + S66 + S68 ≤ ms := by omega
            clear e1 e2
            refine j_callVg (n := 0) (As := []) (rest := []) (wr := [(q10_0_7, .inl (cI, n4_7, .inl b4_7)), (a_functions_h0, .inr (5, [.ref q10_0_7, .int f10_1_7])), (g1, .inr (3, [.ref a_bytes_g1, .int size_g1])), (a_bytes_g1, .inl (cB, n_a_bytes_g1, .inl b_a_bytes_g1)), (q9_0_7, .inl (cI, n3_7, .inl b3_7))]) (c_Rd_standsInStatement l D cI cB cJ cS h0 a28 a_scanner_h0 a_draft_h0 a_waiting_h0 a_functions_h0 g1 g1 q9_0_7 q29 r5 r6 r7 r8 r9 r10 f5_10_7 f3_11_76 (-1) r11 r12 r13 r14 r15 r16 r17 r18 r19 r20 r21 r22 r23 f10_1_76 f10_2_76 f10_3_76 f10_4_76 r24 r25 r26 r27  r38 r39 r40 r41 r42 r43 r44 r45 r46 r47 r48 r49 r50 r51 r52 r53 r54 r55 r56 r57 r58 r59 r60 r61 C65 S66 k69) k_Rd_110 (by decide) ⟨Nat.le_of_ble_eq_true rfl, Nat.le_of_ble_eq_true rfl⟩ rfl 0 rfl (pk_app (wr := [(q10_0_7, .inl (cI, n4_7, .inl b4_7)), (a_functions_h0, .inr (5, [.ref q10_0_7, .int f10_1_7])), (g1, .inr (3, [.ref a_bytes_g1, .int size_g1])), (a_bytes_g1, .inl (cB, n_a_bytes_g1, .inl b_a_bytes_g1)), (q9_0_7, .inl (cI, n3_7, .inl b3_7))]) (w0 := [(h0, .inr (2, [.ref a_scanner_h0, .ref a_draft_h0, .ref a_waiting_h0, .ref a_functions_h0, .ref (a28 0), .ref (a28 r6), .ref g1, .int r8, .int r9, .int r10, .int f5_10_7, .int f3_11_76, .int (-1)])), ((a28 r6), .inr (0, [(frB a28 r6), (frA a28 r5 r6), .int r11, .int r12, .int r13, .int r14, .int r15, .int r16, .int r17, .int r18, .int r19, .int r20, .int r21, .int r22, .int r23])), (a_scanner_h0, .inr (4, [.ref g1, .int f10_1_76, .int f10_2_76, .int f10_3_76, .int f10_4_76])), (a_waiting_h0, .inr (5, [.ref q9_0_7, .int r24])), (a_draft_h0, .inr (1, [.ref q29, .int r25])), (q29, .inl (cI, r26, .inl r27))]) (pl := fpo a28 r5 r6 r7) [0, 1, 2, 3, 8, 4, 5, 6, 7, 9, 10] 11 rfl rfl rfl (by decide)) rfl rfl (Nat.le_of_ble_eq_true rfl) d_Rd_take_129 ⟨show cl_76 + C30 + C65 ≤ mc by omega, show sl_76 + S31 + S66 ≤ ms by omega⟩ (fun v w hq => ?_)
            obtain ⟨a62, q63, rfl, z64, rfl⟩ := hq
            refine j_norm (pc' := 132) (st' := [.int r41]) (ws' := ((q10_0_7, .inl (cI, n4_7, .inl b4_7)) :: (a_functions_h0, .inr (5, [.ref q10_0_7, .int f10_1_7])) :: (g1, .inr (3, [.ref a_bytes_g1, .int size_g1])) :: (a_bytes_g1, .inl (cB, n_a_bytes_g1, .inl b_a_bytes_g1)) :: (q9_0_7, .inl (cI, n3_7, .inl b3_7)) :: (h0, .inr (2, [.ref a_scanner_h0, .ref a_draft_h0, .ref a_waiting_h0, .ref a_functions_h0, .ref (a62 0), .ref (a62 r39), .ref g1, .int r42, .int r43, .int r44, .int r45, .int f3_11_76, .int (-1)])) :: ((a62 r39), .inr (0, [(frB a62 r39), (frA a62 r38 r39), .int r46, .int r47, .int r48, .int r49, .int r50, .int r51, .int r52, .int r53, .int r54, .int r55, .int r56, .int r57, .int r58])) :: (a_scanner_h0, .inr (4, [.ref g1, .int f10_1_76, .int f10_2_76, .int f10_3_76, .int f10_4_76])) :: (a_waiting_h0, .inr (5, [.ref q9_0_7, .int r24])) :: (a_draft_h0, .inr (1, [.ref q63, .int r59])) :: (q63, .inl (cI, r60, .inl r61)) :: fpo a62 r38 r39 r40)) (cl' := cl_76 + C30 + C65) (sl' := sl_76 + S31 + S66) rfl rfl rfl rfl rfl rfl ?_
            refine j_subP (w := [(q10_0_7, .inl (cI, n4_7, .inl b4_7)), (a_functions_h0, .inr (5, [.ref q10_0_7, .int f10_1_7])), (g1, .inr (3, [.ref a_bytes_g1, .int size_g1])), (a_bytes_g1, .inl (cB, n_a_bytes_g1, .inl b_a_bytes_g1)), (q9_0_7, .inl (cI, n3_7, .inl b3_7)), (h0, .inr (2, [.ref a_scanner_h0, .ref a_draft_h0, .ref a_waiting_h0, .ref a_functions_h0, .ref (a62 0), .ref (a62 r39), .ref g1, .int r42, .int r43, .int r44, .int r45, .int f3_11_76, .int (-1)])), ((a62 r39), .inr (0, [(frB a62 r39), (frA a62 r38 r39), .int r46, .int r47, .int r48, .int r49, .int r50, .int r51, .int r52, .int r53, .int r54, .int r55, .int r56, .int r57, .int r58])), (a_scanner_h0, .inr (4, [.ref g1, .int f10_1_76, .int f10_2_76, .int f10_3_76, .int f10_4_76])), (a_waiting_h0, .inr (5, [.ref q9_0_7, .int r24])), (a_draft_h0, .inr (1, [.ref q63, .int r59])), (q63, .inl (cI, r60, .inl r61))]) (pl := fpo a62 r38 r39 r40) (lv' := [(2, .int v2_7), (0, .ref h0), (1, .ref g1)]) [0, 1, 2, 3, 4, 5, 6, 7, 8, 9, 10] [] 11 rfl rfl (by decide) [0, 1, 2] rfl ?_
            exact L_132 a62 q10_0_7 q9_0_7 q63 r41 r38 r39 r40 n4_7 b4_7 f10_1_7 n3_7 b3_7 r42 r43 r44 r45 f3_11_76 r46 r47 r48 r49 r50 r51 r52 r53 r54 r55 r56 r57 r58 f10_1_76 f10_2_76 f10_3_76 f10_4_76 r24 r59 r60 r61 z64 (cl_76 + C30 + C65) (sl_76 + S31 + S66) C67 S68 h hC hS
          · replace h := it_f c37 h
            refine j_aload_n d_Rd_take_121 rfl 1 rfl ?_
            replace h := bw_s h
            obtain ⟨⟨r70, r71, r72, r73, r74, r75, r76, r77, r78, r79, r80, r81, r82⟩, C86, S87, C88, S89, k90, h, e1, e2⟩ := h
            replace hC : cl_76 + C30 + C86 + C88 ≤ mc := by omega
            replace hS : sl_76 + S31 + S87 + S89 ≤ ms := by omega
            clear e1 e2
            refine j_callVg (n := 0) (As := []) (rest := []) (wr := ([(a_waiting_h0, .inr (5, [.ref q9_0_7, .int r24])), (q9_0_7, .inl (cI, n3_7, .inl b3_7))] ++ fpo a28 r5 r6 r7)) (c_Rd_standsInFunctionHead l D cI cB cJ cS h0 a_scanner_h0 a_draft_h0 a_waiting_h0 a_functions_h0 (a28 0) (a28 r6) g1 g1 (frB a28 r6) (frA a28 r5 r6) q10_0_7 q29 a_bytes_g1 r8 r9 r10 f5_10_7 f3_11_76 (-1) f10_1_76 f10_2_76 f10_3_76 f10_4_76 r11 r12 r13 r14 r15 r16 r17 r18 r19 r20 r21 r22 r23 f10_1_7 n4_7 b4_7 r25 r26 r27 size_g1 n_a_bytes_g1 b_a_bytes_g1  r70 r71 r72 r73 r74 r75 r76 r77 r78 r79 r80 r81 r82 C86 S87 k90) k_Rd_107 (by decide) ⟨Nat.le_of_ble_eq_true rfl, Nat.le_of_ble_eq_true rfl⟩ rfl 0 rfl (pk_mid (wr := [(a_waiting_h0, .inr (5, [.ref q9_0_7, .int r24])), (q9_0_7, .inl (cI, n3_7, .inl b3_7))]) (w0 := [(h0, .inr (2, [.ref a_scanner_h0, .ref a_draft_h0, .ref a_waiting_h0, .ref a_functions_h0, .ref (a28 0), .ref (a28 r6), .ref g1, .int r8, .int r9, .int r10, .int f5_10_7, .int f3_11_76, .int (-1)])), (a_scanner_h0, .inr (4, [.ref g1, .int f10_1_76, .int f10_2_76, .int f10_3_76, .int f10_4_76])), ((a28 r6), .inr (0, [(frB a28 r6), (frA a28 r5 r6), .int r11, .int r12, .int r13, .int r14, .int r15, .int r16, .int r17, .int r18, .int r19, .int r20, .int r21, .int r22, .int r23])), (a_functions_h0, .inr (5, [.ref q10_0_7, .int f10_1_7])), (q10_0_7, .inl (cI, n4_7, .inl b4_7)), (a_draft_h0, .inr (1, [.ref q29, .int r25])), (q29, .inl (cI, r26, .inl r27)), (g1, .inr (3, [.ref a_bytes_g1, .int size_g1])), (a_bytes_g1, .inl (cB, n_a_bytes_g1, .inl b_a_bytes_g1))]) (pl := fpo a28 r5 r6 r7) [7, 8, 4, 6, 5, 1, 0, 9, 10, 2, 3] 11 rfl rfl (by decide)) rfl rfl (Nat.le_of_ble_eq_true rfl) d_Rd_take_122 ⟨show cl_76 + C30 + C86 ≤ mc by omega, show sl_76 + S31 + S87 ≤ ms by omega⟩ (fun v w hq => ?_)
            obtain ⟨q83, q84, rfl, z85, rfl⟩ := hq
            refine j_perm (ws' := ((a_waiting_h0, .inr (5, [.ref q9_0_7, .int r24])) :: (q9_0_7, .inl (cI, n3_7, .inl b3_7)) :: (h0, .inr (2, [.ref a_scanner_h0, .ref a_draft_h0, .ref a_waiting_h0, .ref a_functions_h0, .ref (a28 0), .ref (a28 r6), .ref g1, .int r71, .int r9, .int r10, .int f5_10_7, .int f3_11_76, .int (-1)])) :: (a_scanner_h0, .inr (4, [.ref g1, .int f10_1_76, .int f10_2_76, .int f10_3_76, .int f10_4_76])) :: ((a28 r6), .inr (0, [(frB a28 r6), (frA a28 r5 r6), .int r11, .int r12, .int r72, .int r73, .int r74, .int r75, .int r76, .int r18, .int r19, .int r20, .int r21, .int r22, .int r23])) :: (a_functions_h0, .inr (5, [.ref q83, .int r77])) :: (a_draft_h0, .inr (1, [.ref q84, .int r78])) :: (g1, .inr (3, [.ref a_bytes_g1, .int size_g1])) :: (a_bytes_g1, .inl (cB, n_a_bytes_g1, .inl b_a_bytes_g1)) :: (q83, .inl (cI, r79, .inl r80)) :: (q84, .inl (cI, r81, .inl r82)) :: fpo a28 r5 r6 r7)) (pm_eq (a := [(a_waiting_h0, .inr (5, [.ref q9_0_7, .int r24])), (q9_0_7, .inl (cI, n3_7, .inl b3_7))]) (b := fpo a28 r5 r6 r7) (c := [(h0, .inr (2, [.ref a_scanner_h0, .ref a_draft_h0, .ref a_waiting_h0, .ref a_functions_h0, .ref (a28 0), .ref (a28 r6), .ref g1, .int r71, .int r9, .int r10, .int f5_10_7, .int f3_11_76, .int (-1)])), (a_scanner_h0, .inr (4, [.ref g1, .int f10_1_76, .int f10_2_76, .int f10_3_76, .int f10_4_76])), ((a28 r6), .inr (0, [(frB a28 r6), (frA a28 r5 r6), .int r11, .int r12, .int r72, .int r73, .int r74, .int r75, .int r76, .int r18, .int r19, .int r20, .int r21, .int r22, .int r23])), (a_functions_h0, .inr (5, [.ref q83, .int r77])), (a_draft_h0, .inr (1, [.ref q84, .int r78])), (g1, .inr (3, [.ref a_bytes_g1, .int size_g1])), (a_bytes_g1, .inl (cB, n_a_bytes_g1, .inl b_a_bytes_g1)), (q83, .inl (cI, r79, .inl r80)), (q84, .inl (cI, r81, .inl r82))]) rfl) ?_
            refine j_norm (pc' := 125) (st' := [.int r70]) (ws' := ((a_waiting_h0, .inr (5, [.ref q9_0_7, .int r24])) :: (q9_0_7, .inl (cI, n3_7, .inl b3_7)) :: (h0, .inr (2, [.ref a_scanner_h0, .ref a_draft_h0, .ref a_waiting_h0, .ref a_functions_h0, .ref (a28 0), .ref (a28 r6), .ref g1, .int r71, .int r9, .int r10, .int f5_10_7, .int f3_11_76, .int (-1)])) :: (a_scanner_h0, .inr (4, [.ref g1, .int f10_1_76, .int f10_2_76, .int f10_3_76, .int f10_4_76])) :: ((a28 r6), .inr (0, [(frB a28 r6), (frA a28 r5 r6), .int r11, .int r12, .int r72, .int r73, .int r74, .int r75, .int r76, .int r18, .int r19, .int r20, .int r21, .int r22, .int r23])) :: (a_functions_h0, .inr (5, [.ref q83, .int r77])) :: (a_draft_h0, .inr (1, [.ref q84, .int r78])) :: (g1, .inr (3, [.ref a_bytes_g1, .int size_g1])) :: (a_bytes_g1, .inl (cB, n_a_bytes_g1, .inl b_a_bytes_g1)) :: (q83, .inl (cI, r79, .inl r80)) :: (q84, .inl (cI, r81, .inl r82)) :: fpo a28 r5 r6 r7)) (cl' := cl_76 + C30 + C86) (sl' := sl_76 + S31 + S87) rfl rfl rfl rfl rfl rfl ?_
            refine j_goto (tgt := 132) d_Rd_take_125 (by decide) ?_
            refine j_subP (w := [(q83, .inl (cI, r79, .inl r80)), (a_functions_h0, .inr (5, [.ref q83, .int r77])), (g1, .inr (3, [.ref a_bytes_g1, .int size_g1])), (a_bytes_g1, .inl (cB, n_a_bytes_g1, .inl b_a_bytes_g1)), (q9_0_7, .inl (cI, n3_7, .inl b3_7)), (h0, .inr (2, [.ref a_scanner_h0, .ref a_draft_h0, .ref a_waiting_h0, .ref a_functions_h0, .ref (a28 0), .ref (a28 r6), .ref g1, .int r71, .int r9, .int r10, .int f5_10_7, .int f3_11_76, .int (-1)])), ((a28 r6), .inr (0, [(frB a28 r6), (frA a28 r5 r6), .int r11, .int r12, .int r72, .int r73, .int r74, .int r75, .int r76, .int r18, .int r19, .int r20, .int r21, .int r22, .int r23])), (a_scanner_h0, .inr (4, [.ref g1, .int f10_1_76, .int f10_2_76, .int f10_3_76, .int f10_4_76])), (a_waiting_h0, .inr (5, [.ref q9_0_7, .int r24])), (a_draft_h0, .inr (1, [.ref q84, .int r78])), (q84, .inl (cI, r81, .inl r82))]) (pl := fpo a28 r5 r6 r7) (lv' := [(2, .int v2_7), (0, .ref h0), (1, .ref g1)]) [9, 5, 7, 8, 1, 2, 4, 3, 0, 6, 10] [] 11 rfl rfl (by decide) [0, 1, 2] rfl ?_
            exact L_132 a28 q83 q9_0_7 q84 r70 r5 r6 r7 r79 r80 r77 n3_7 b3_7 r71 r9 r10 f5_10_7 f3_11_76 r11 r12 r72 r73 r74 r75 r76 r18 r19 r20 r21 r22 r23 f10_1_76 f10_2_76 f10_3_76 f10_4_76 r24 r78 r81 r82 z85 (cl_76 + C30 + C86) (sl_76 + S31 + S87) C88 S89 h hC hS
        · replace h := it_f c36 h
          refine j_aload_n d_Rd_take_105 rfl 1 rfl ?_
          replace h := bw_s h
          obtain ⟨⟨r91, r92, r93, r94, r95, r96, r97, r98, r99, r100, r101, r102, r103, r104, r105, r106, r107, r108, r109, r110, r111, r112, r113⟩, C117, S118, C119, S120, k121, h, e1, e2⟩ := h
          replace hC : cl_76 + C30 + C117 + C119 ≤ mc := by omega
          replace hS : sl_76 + S31 + S118 + S120 ≤ ms := by omega
          clear e1 e2
          refine j_callVg (n := 0) (As := []) (rest := []) (wr := [(q10_0_7, .inl (cI, n4_7, .inl b4_7)), (a_functions_h0, .inr (5, [.ref q10_0_7, .int f10_1_7])), (g1, .inr (3, [.ref a_bytes_g1, .int size_g1])), (a_bytes_g1, .inl (cB, n_a_bytes_g1, .inl b_a_bytes_g1)), (q9_0_7, .inl (cI, n3_7, .inl b3_7))]) (c_Rd_standsInSeveral l D cI cB cJ cS h0 a28 a_scanner_h0 a_draft_h0 a_waiting_h0 a_functions_h0 g1 g1 q29 q9_0_7 r5 r6 r7 r8 r9 r10 f5_10_7 f3_11_76 (-1) r11 r12 r13 r14 r15 r16 r17 r18 r19 r20 r21 r22 r23 f10_1_76 f10_2_76 f10_3_76 f10_4_76 r25 r26 r27 r24  r91 r92 r93 r94 r95 r96 r97 r98 r99 r100 r101 r102 r103 r104 r105 r106 r107 r108 r109 r110 r111 r112 r113 C117 S118 k121) k_Rd_104 (by decide) ⟨Nat.le_of_ble_eq_true rfl, Nat.le_of_ble_eq_true rfl⟩ rfl 0 rfl (pk_app (wr := [(q10_0_7, .inl (cI, n4_7, .inl b4_7)), (a_functions_h0, .inr (5, [.ref q10_0_7, .int f10_1_7])), (g1, .inr (3, [.ref a_bytes_g1, .int size_g1])), (a_bytes_g1, .inl (cB, n_a_bytes_g1, .inl b_a_bytes_g1)), (q9_0_7, .inl (cI, n3_7, .inl b3_7))]) (w0 := [(h0, .inr (2, [.ref a_scanner_h0, .ref a_draft_h0, .ref a_waiting_h0, .ref a_functions_h0, .ref (a28 0), .ref (a28 r6), .ref g1, .int r8, .int r9, .int r10, .int f5_10_7, .int f3_11_76, .int (-1)])), ((a28 r6), .inr (0, [(frB a28 r6), (frA a28 r5 r6), .int r11, .int r12, .int r13, .int r14, .int r15, .int r16, .int r17, .int r18, .int r19, .int r20, .int r21, .int r22, .int r23])), (a_scanner_h0, .inr (4, [.ref g1, .int f10_1_76, .int f10_2_76, .int f10_3_76, .int f10_4_76])), (a_draft_h0, .inr (1, [.ref q29, .int r25])), (q29, .inl (cI, r26, .inl r27)), (a_waiting_h0, .inr (5, [.ref q9_0_7, .int r24]))]) (pl := fpo a28 r5 r6 r7) [0, 1, 2, 3, 8, 4, 5, 6, 9, 10, 7] 11 rfl rfl rfl (by decide)) rfl rfl (Nat.le_of_ble_eq_true rfl) d_Rd_take_106 ⟨show cl_76 + C30 + C117 ≤ mc by omega, show sl_76 + S31 + S118 ≤ ms by omega⟩ (fun v w hq => ?_)
          obtain ⟨a114, q115, rfl, z116, rfl⟩ := hq
          refine j_norm (pc' := 109) (st' := [.int r94]) (ws' := ((q10_0_7, .inl (cI, n4_7, .inl b4_7)) :: (a_functions_h0, .inr (5, [.ref q10_0_7, .int f10_1_7])) :: (g1, .inr (3, [.ref a_bytes_g1, .int size_g1])) :: (a_bytes_g1, .inl (cB, n_a_bytes_g1, .inl b_a_bytes_g1)) :: (q9_0_7, .inl (cI, n3_7, .inl b3_7)) :: (h0, .inr (2, [.ref a_scanner_h0, .ref a_draft_h0, .ref a_waiting_h0, .ref a_functions_h0, .ref (a114 0), .ref (a114 r92), .ref g1, .int r95, .int r96, .int r97, .int f5_10_7, .int f3_11_76, .int (-1)])) :: ((a114 r92), .inr (0, [(frB a114 r92), (frA a114 r91 r92), .int r98, .int r99, .int r100, .int r101, .int r102, .int r103, .int r104, .int r105, .int r106, .int r107, .int r108, .int r109, .int r110])) :: (a_scanner_h0, .inr (4, [.ref g1, .int f10_1_76, .int f10_2_76, .int f10_3_76, .int f10_4_76])) :: (a_draft_h0, .inr (1, [.ref q115, .int r111])) :: (a_waiting_h0, .inr (5, [.ref q9_0_7, .int r24])) :: (q115, .inl (cI, r112, .inl r113)) :: fpo a114 r91 r92 r93)) (cl' := cl_76 + C30 + C117) (sl' := sl_76 + S31 + S118) rfl rfl rfl rfl rfl rfl ?_
          refine j_goto (tgt := 132) d_Rd_take_109 (by decide) ?_
          refine j_subP (w := [(q10_0_7, .inl (cI, n4_7, .inl b4_7)), (a_functions_h0, .inr (5, [.ref q10_0_7, .int f10_1_7])), (g1, .inr (3, [.ref a_bytes_g1, .int size_g1])), (a_bytes_g1, .inl (cB, n_a_bytes_g1, .inl b_a_bytes_g1)), (q9_0_7, .inl (cI, n3_7, .inl b3_7)), (h0, .inr (2, [.ref a_scanner_h0, .ref a_draft_h0, .ref a_waiting_h0, .ref a_functions_h0, .ref (a114 0), .ref (a114 r92), .ref g1, .int r95, .int r96, .int r97, .int f5_10_7, .int f3_11_76, .int (-1)])), ((a114 r92), .inr (0, [(frB a114 r92), (frA a114 r91 r92), .int r98, .int r99, .int r100, .int r101, .int r102, .int r103, .int r104, .int r105, .int r106, .int r107, .int r108, .int r109, .int r110])), (a_scanner_h0, .inr (4, [.ref g1, .int f10_1_76, .int f10_2_76, .int f10_3_76, .int f10_4_76])), (a_waiting_h0, .inr (5, [.ref q9_0_7, .int r24])), (a_draft_h0, .inr (1, [.ref q115, .int r111])), (q115, .inl (cI, r112, .inl r113))]) (pl := fpo a114 r91 r92 r93) (lv' := [(2, .int v2_7), (0, .ref h0), (1, .ref g1)]) [0, 1, 2, 3, 4, 5, 6, 7, 9, 8, 10] [] 11 rfl rfl (by decide) [0, 1, 2] rfl ?_
          exact L_132 a114 q10_0_7 q9_0_7 q115 r94 r91 r92 r93 n4_7 b4_7 f10_1_7 n3_7 b3_7 r95 r96 r97 f5_10_7 f3_11_76 r98 r99 r100 r101 r102 r103 r104 r105 r106 r107 r108 r109 r110 f10_1_76 f10_2_76 f10_3_76 f10_4_76 r24 r111 r112 r113 z116 (cl_76 + C30 + C117) (sl_76 + S31 + S118) C119 S120 h hC hS
      · replace h := it_f c35 h
        refine j_aload_n d_Rd_take_89 rfl 1 rfl ?_
        replace h := bw_s h
        obtain ⟨⟨r122, r123, r124, r125, r126, r127, r128, r129, r130, r131, r132, r133, r134, r135, r136, r137, r138, r139, r140, r141, r142, r143, r144, r145, r146, r147⟩, C152, S153, C154, S155, k156, h, e1, e2⟩ := h
        replace hC : cl_76 + C30 + C152 + C154 ≤ mc := by omega
        replace hS : sl_76 + S31 + S153 + S155 ≤ ms := by omega
        clear e1 e2
        refine j_callVg (n := 0) (As := []) (rest := []) (wr := [(q10_0_7, .inl (cI, n4_7, .inl b4_7)), (a_functions_h0, .inr (5, [.ref q10_0_7, .int f10_1_7])), (g1, .inr (3, [.ref a_bytes_g1, .int size_g1])), (a_bytes_g1, .inl (cB, n_a_bytes_g1, .inl b_a_bytes_g1))]) (c_Rd_standsInExpression l D cI cB cJ cS h0 a28 a_scanner_h0 a_draft_h0 a_waiting_h0 a_functions_h0 g1 q29 g1 q9_0_7 r5 r6 r7 r8 r9 r10 f5_10_7 f3_11_76 (-1) r11 r12 r13 r14 r15 r16 r17 r18 r19 r20 r21 r22 r23 r25 r26 r27 f10_1_76 f10_2_76 f10_3_76 f10_4_76 r24 n3_7 b3_7  r122 r123 r124 r125 r126 r127 r128 r129 r130 r131 r132 r133 r134 r135 r136 r137 r138 r139 r140 r141 r142 r143 r144 r145 r146 r147 C152 S153 k156) k_Rd_100 (by decide) ⟨Nat.le_of_ble_eq_true rfl, Nat.le_of_ble_eq_true rfl⟩ rfl 0 rfl (pk_app (wr := [(q10_0_7, .inl (cI, n4_7, .inl b4_7)), (a_functions_h0, .inr (5, [.ref q10_0_7, .int f10_1_7])), (g1, .inr (3, [.ref a_bytes_g1, .int size_g1])), (a_bytes_g1, .inl (cB, n_a_bytes_g1, .inl b_a_bytes_g1))]) (w0 := [(h0, .inr (2, [.ref a_scanner_h0, .ref a_draft_h0, .ref a_waiting_h0, .ref a_functions_h0, .ref (a28 0), .ref (a28 r6), .ref g1, .int r8, .int r9, .int r10, .int f5_10_7, .int f3_11_76, .int (-1)])), ((a28 r6), .inr (0, [(frB a28 r6), (frA a28 r5 r6), .int r11, .int r12, .int r13, .int r14, .int r15, .int r16, .int r17, .int r18, .int r19, .int r20, .int r21, .int r22, .int r23])), (a_draft_h0, .inr (1, [.ref q29, .int r25])), (q29, .inl (cI, r26, .inl r27)), (a_scanner_h0, .inr (4, [.ref g1, .int f10_1_76, .int f10_2_76, .int f10_3_76, .int f10_4_76])), (a_waiting_h0, .inr (5, [.ref q9_0_7, .int r24])), (q9_0_7, .inl (cI, n3_7, .inl b3_7))]) (pl := fpo a28 r5 r6 r7) [0, 1, 2, 3, 4, 5, 9, 10, 6, 7, 8] 11 rfl rfl rfl (by decide)) rfl rfl (Nat.le_of_ble_eq_true rfl) d_Rd_take_90 ⟨show cl_76 + C30 + C152 ≤ mc by omega, show sl_76 + S31 + S153 ≤ ms by omega⟩ (fun v w hq => ?_)
        obtain ⟨a148, q149, q150, rfl, z151, rfl⟩ := hq
        refine j_norm (pc' := 93) (st' := [.int r125]) (ws' := ((q10_0_7, .inl (cI, n4_7, .inl b4_7)) :: (a_functions_h0, .inr (5, [.ref q10_0_7, .int f10_1_7])) :: (g1, .inr (3, [.ref a_bytes_g1, .int size_g1])) :: (a_bytes_g1, .inl (cB, n_a_bytes_g1, .inl b_a_bytes_g1)) :: (h0, .inr (2, [.ref a_scanner_h0, .ref a_draft_h0, .ref a_waiting_h0, .ref a_functions_h0, .ref (a148 0), .ref (a148 r123), .ref g1, .int r126, .int r127, .int r128, .int f5_10_7, .int f3_11_76, .int (-1)])) :: ((a148 r123), .inr (0, [(frB a148 r123), (frA a148 r122 r123), .int r129, .int r130, .int r131, .int r132, .int r133, .int r134, .int r135, .int r136, .int r137, .int r138, .int r139, .int r140, .int r141])) :: (a_draft_h0, .inr (1, [.ref q149, .int r142])) :: (a_scanner_h0, .inr (4, [.ref g1, .int f10_1_76, .int f10_2_76, .int f10_3_76, .int f10_4_76])) :: (a_waiting_h0, .inr (5, [.ref q150, .int r143])) :: (q149, .inl (cI, r144, .inl r145)) :: (q150, .inl (cI, r146, .inl r147)) :: fpo a148 r122 r123 r124)) (cl' := cl_76 + C30 + C152) (sl' := sl_76 + S31 + S153) rfl rfl rfl rfl rfl rfl ?_
        refine j_goto (tgt := 132) d_Rd_take_93 (by decide) ?_
        refine j_subP (w := [(q10_0_7, .inl (cI, n4_7, .inl b4_7)), (a_functions_h0, .inr (5, [.ref q10_0_7, .int f10_1_7])), (g1, .inr (3, [.ref a_bytes_g1, .int size_g1])), (a_bytes_g1, .inl (cB, n_a_bytes_g1, .inl b_a_bytes_g1)), (q150, .inl (cI, r146, .inl r147)), (h0, .inr (2, [.ref a_scanner_h0, .ref a_draft_h0, .ref a_waiting_h0, .ref a_functions_h0, .ref (a148 0), .ref (a148 r123), .ref g1, .int r126, .int r127, .int r128, .int f5_10_7, .int f3_11_76, .int (-1)])), ((a148 r123), .inr (0, [(frB a148 r123), (frA a148 r122 r123), .int r129, .int r130, .int r131, .int r132, .int r133, .int r134, .int r135, .int r136, .int r137, .int r138, .int r139, .int r140, .int r141])), (a_scanner_h0, .inr (4, [.ref g1, .int f10_1_76, .int f10_2_76, .int f10_3_76, .int f10_4_76])), (a_waiting_h0, .inr (5, [.ref q150, .int r143])), (a_draft_h0, .inr (1, [.ref q149, .int r142])), (q149, .inl (cI, r144, .inl r145))]) (pl := fpo a148 r122 r123 r124) (lv' := [(2, .int v2_7), (0, .ref h0), (1, .ref g1)]) [0, 1, 2, 3, 10, 4, 5, 7, 8, 6, 9] [] 11 rfl rfl (by decide) [0, 1, 2] rfl ?_
        exact L_132 a148 q10_0_7 q150 q149 r125 r122 r123 r124 n4_7 b4_7 f10_1_7 r146 r147 r126 r127 r128 f5_10_7 f3_11_76 r129 r130 r131 r132 r133 r134 r135 r136 r137 r138 r139 r140 r141 f10_1_76 f10_2_76 f10_3_76 f10_4_76 r143 r142 r144 r145 z151 (cl_76 + C30 + C152) (sl_76 + S31 + S153) C154 S155 h hC hS
    refine j_iload_n d_Rd_take_7 rfl 0 rfl ?_
    refine j_sipush (v := 16384) d_Rd_take_8 (by decide) ?_
    refine j_icmp_gt (tgt := 163) d_Rd_take_11 (by decide) (fun c157 => ?_) (fun c157 => ?_)
    · replace h := it_t c157 h
      refine j_iconst (v := (-1)) d_Rd_take_163 (by decide) ?_
      replace h := lf_s h
      obtain ⟨h, e1, e2⟩ := h
      replace h := Prod.mk.inj h
      obtain ⟨h9, h⟩ := h
      subst h9
      replace h := Prod.mk.inj h
      obtain ⟨h9, h⟩ := h
      subst h9
      replace h := Prod.mk.inj h
      obtain ⟨h9, h⟩ := h
      subst h9
      replace h := Prod.mk.inj h
      obtain ⟨h9, h⟩ := h
      subst h9
      replace h := Prod.mk.inj h
      obtain ⟨h9, h⟩ := h
      subst h9
      replace h := Prod.mk.inj h
      obtain ⟨h9, h⟩ := h
      subst h9
      replace h := Prod.mk.inj h
      obtain ⟨h9, h⟩ := h
      subst h9
      replace h := Prod.mk.inj h
      obtain ⟨h9, h⟩ := h
      subst h9
      replace h := Prod.mk.inj h
      obtain ⟨h9, h⟩ := h
      subst h9
      replace h := Prod.mk.inj h
      obtain ⟨h9, h⟩ := h
      subst h9
      replace h := Prod.mk.inj h
      obtain ⟨h9, h⟩ := h
      subst h9
      replace h := Prod.mk.inj h
      obtain ⟨h9, h⟩ := h
      subst h9
      replace h := Prod.mk.inj h
      obtain ⟨h9, h⟩ := h
      subst h9
      replace h := Prod.mk.inj h
      obtain ⟨h9, h⟩ := h
      subst h9
      replace h := Prod.mk.inj h
      obtain ⟨h9, h⟩ := h
      subst h9
      replace h := Prod.mk.inj h
      obtain ⟨h9, h⟩ := h
      subst h9
      replace h := Prod.mk.inj h
      obtain ⟨h9, h⟩ := h
      subst h9
      replace h := Prod.mk.inj h
      obtain ⟨h9, h⟩ := h
      subst h9
      replace h := Prod.mk.inj h
      obtain ⟨h9, h⟩ := h
      subst h9
      replace h := Prod.mk.inj h
      obtain ⟨h9, h⟩ := h
      subst h9
      replace h := Prod.mk.inj h
      obtain ⟨h9, h⟩ := h
      subst h9
      replace h := Prod.mk.inj h
      obtain ⟨h9, h⟩ := h
      subst h9
      replace h := Prod.mk.inj h
      obtain ⟨h9, h⟩ := h
      subst h9
      replace h := Prod.mk.inj h
      obtain ⟨h9, h⟩ := h
      subst h9
      replace h := Prod.mk.inj h
      obtain ⟨h9, h⟩ := h
      subst h9
      replace h := Prod.mk.inj h
      obtain ⟨h9, h⟩ := h
      subst h9
      replace h := Prod.mk.inj h
      obtain ⟨h9, h⟩ := h
      subst h9
      replace h := Prod.mk.inj h
      obtain ⟨h9, h⟩ := h
      subst h9
      replace h := Prod.mk.inj h
      obtain ⟨h9, h⟩ := h
      subst h9
      replace h := Prod.mk.inj h
      obtain ⟨h9, h⟩ := h
      subst h9
      replace h := Prod.mk.inj h
      obtain ⟨h9, h⟩ := h
      subst h9
      replace h := Prod.mk.inj h
      obtain ⟨h9, h⟩ := h
      subst h9
      replace h := Prod.mk.inj h
      obtain ⟨h9, h⟩ := h
      subst h9
      replace h := Prod.mk.inj h
      obtain ⟨h9, h⟩ := h
      subst h9
      replace h := Prod.mk.inj h
      obtain ⟨h9, h⟩ := h
      subst h9
      subst h
      refine j_widen (cl' := mc) (sl' := ms) (by omega) (by omega) ?_
      refine j_subP (w := [(h0, .inr (2, [.ref a_scanner_h0, .ref a_draft_h0, .ref a_waiting_h0, .ref a_functions_h0, .ref (a9_7 0), .ref (a9_7 d9_7), .ref g1, .int f5_7_7, .int f5_8_7, .int f5_9_7, .int f5_10_7, .int f5_11_7, .int (-1)])), ((a9_7 d9_7), .inr (0, [(frB a9_7 d9_7), (frA a9_7 n9_7 d9_7), .int f6_2_7, .int f6_3_7, .int f6_4_7, .int f6_5_7, .int f6_6_7, .int f6_7_7, .int f6_8_7, .int f6_9_7, .int f6_10_7, .int f6_11_7, .int f6_12_7, .int f6_13_7, .int f6_14_7])), (a_scanner_h0, .inr (4, [.ref g1, .int f7_1_7, .int f7_2_7, .int f7_3_7, .int f7_4_7])), (a_draft_h0, .inr (1, [.ref q8_0_7, .int f8_1_7])), (a_waiting_h0, .inr (5, [.ref q9_0_7, .int f9_1_7])), (a_functions_h0, .inr (5, [.ref q10_0_7, .int f10_1_7])), (g1, .inr (3, [.ref a_bytes_g1, .int size_g1])), (a_bytes_g1, .inl (cB, n_a_bytes_g1, .inl b_a_bytes_g1)), (q8_0_7, .inl (cI, n2_7, .inl b2_7)), (q9_0_7, .inl (cI, n3_7, .inl b3_7)), (q10_0_7, .inl (cI, n4_7, .inl b4_7))]) (pl := fpo a9_7 n9_7 d9_7 c9_7) (lv' := []) [5, 6, 7, 8, 9, 10, 0, 1, 2, 3, 4] [] 11 rfl rfl (by decide) [] rfl ?_
      exact j_iretE hr d_Rd_take_164 ⟨a9_7, q8_0_7, q9_0_7, q10_0_7, rfl, rfl⟩
    · replace h := it_f c157 h
      refine j_aload_n d_Rd_take_14 rfl 1 rfl ?_
      refine j_get ig_Rd rfl 5 rfl 0 (by decide) rfl m_169 rfl d_Rd_take_15 ?_
      replace h := bd_s h
      obtain ⟨⟨r158, r159, r160, r161⟩, k162, h⟩ := h
      refine j_callVg (n := 0) (As := []) (rest := []) (wr := ([(q8_0_7, .inl (cI, n2_7, .inl b2_7)), (q9_0_7, .inl (cI, n3_7, .inl b3_7)), (q10_0_7, .inl (cI, n4_7, .inl b4_7)), (h0, .inr (2, [.ref a_scanner_h0, .ref a_draft_h0, .ref a_waiting_h0, .ref a_functions_h0, .ref (a9_7 0), .ref (a9_7 d9_7), .ref g1, .int f5_7_7, .int f5_8_7, .int f5_9_7, .int f5_10_7, .int f5_11_7, .int (-1)])), ((a9_7 d9_7), .inr (0, [(frB a9_7 d9_7), (frA a9_7 n9_7 d9_7), .int f6_2_7, .int f6_3_7, .int f6_4_7, .int f6_5_7, .int f6_6_7, .int f6_7_7, .int f6_8_7, .int f6_9_7, .int f6_10_7, .int f6_11_7, .int f6_12_7, .int f6_13_7, .int f6_14_7])), (a_draft_h0, .inr (1, [.ref q8_0_7, .int f8_1_7])), (a_waiting_h0, .inr (5, [.ref q9_0_7, .int f9_1_7])), (a_functions_h0, .inr (5, [.ref q10_0_7, .int f10_1_7]))] ++ fpo a9_7 n9_7 d9_7 c9_7)) (c_Sc_step l D cI cB cJ cS a_scanner_h0 g1 a_bytes_g1 f7_1_7 f7_2_7 f7_3_7 f7_4_7 size_g1 n_a_bytes_g1 b_a_bytes_g1  r158 r159 r160 r161 k162) k_Rd_79 (by decide) ⟨Nat.le_of_ble_eq_true rfl, Nat.le_of_ble_eq_true rfl⟩ rfl 0 rfl (pk_mid (wr := [(q8_0_7, .inl (cI, n2_7, .inl b2_7)), (q9_0_7, .inl (cI, n3_7, .inl b3_7)), (q10_0_7, .inl (cI, n4_7, .inl b4_7)), (h0, .inr (2, [.ref a_scanner_h0, .ref a_draft_h0, .ref a_waiting_h0, .ref a_functions_h0, .ref (a9_7 0), .ref (a9_7 d9_7), .ref g1, .int f5_7_7, .int f5_8_7, .int f5_9_7, .int f5_10_7, .int f5_11_7, .int (-1)])), ((a9_7 d9_7), .inr (0, [(frB a9_7 d9_7), (frA a9_7 n9_7 d9_7), .int f6_2_7, .int f6_3_7, .int f6_4_7, .int f6_5_7, .int f6_6_7, .int f6_7_7, .int f6_8_7, .int f6_9_7, .int f6_10_7, .int f6_11_7, .int f6_12_7, .int f6_13_7, .int f6_14_7])), (a_draft_h0, .inr (1, [.ref q8_0_7, .int f8_1_7])), (a_waiting_h0, .inr (5, [.ref q9_0_7, .int f9_1_7])), (a_functions_h0, .inr (5, [.ref q10_0_7, .int f10_1_7]))]) (w0 := [(a_scanner_h0, .inr (4, [.ref g1, .int f7_1_7, .int f7_2_7, .int f7_3_7, .int f7_4_7])), (g1, .inr (3, [.ref a_bytes_g1, .int size_g1])), (a_bytes_g1, .inl (cB, n_a_bytes_g1, .inl b_a_bytes_g1))]) (pl := fpo a9_7 n9_7 d9_7 c9_7) [2, 3, 4, 5, 6, 8, 9, 10, 7, 0, 1] 11 rfl rfl (by decide)) rfl rfl (Nat.le_of_ble_eq_true rfl) d_Rd_take_18 ⟨show cl_7 + 0 ≤ mc by omega, show sl_7 + 0 ≤ ms by omega⟩ (fun v w hq => ?_)
      obtain ⟨rfl, rfl⟩ := hq
      refine j_perm (ws' := ((q8_0_7, .inl (cI, n2_7, .inl b2_7)) :: (q9_0_7, .inl (cI, n3_7, .inl b3_7)) :: (q10_0_7, .inl (cI, n4_7, .inl b4_7)) :: (h0, .inr (2, [.ref a_scanner_h0, .ref a_draft_h0, .ref a_waiting_h0, .ref a_functions_h0, .ref (a9_7 0), .ref (a9_7 d9_7), .ref g1, .int f5_7_7, .int f5_8_7, .int f5_9_7, .int f5_10_7, .int f5_11_7, .int (-1)])) :: ((a9_7 d9_7), .inr (0, [(frB a9_7 d9_7), (frA a9_7 n9_7 d9_7), .int f6_2_7, .int f6_3_7, .int f6_4_7, .int f6_5_7, .int f6_6_7, .int f6_7_7, .int f6_8_7, .int f6_9_7, .int f6_10_7, .int f6_11_7, .int f6_12_7, .int f6_13_7, .int f6_14_7])) :: (a_draft_h0, .inr (1, [.ref q8_0_7, .int f8_1_7])) :: (a_waiting_h0, .inr (5, [.ref q9_0_7, .int f9_1_7])) :: (a_functions_h0, .inr (5, [.ref q10_0_7, .int f10_1_7])) :: (a_scanner_h0, .inr (4, [.ref g1, .int r158, .int r159, .int r160, .int r161])) :: (g1, .inr (3, [.ref a_bytes_g1, .int size_g1])) :: (a_bytes_g1, .inl (cB, n_a_bytes_g1, .inl b_a_bytes_g1)) :: fpo a9_7 n9_7 d9_7 c9_7)) (pm_eq (a := [(q8_0_7, .inl (cI, n2_7, .inl b2_7)), (q9_0_7, .inl (cI, n3_7, .inl b3_7)), (q10_0_7, .inl (cI, n4_7, .inl b4_7)), (h0, .inr (2, [.ref a_scanner_h0, .ref a_draft_h0, .ref a_waiting_h0, .ref a_functions_h0, .ref (a9_7 0), .ref (a9_7 d9_7), .ref g1, .int f5_7_7, .int f5_8_7, .int f5_9_7, .int f5_10_7, .int f5_11_7, .int (-1)])), ((a9_7 d9_7), .inr (0, [(frB a9_7 d9_7), (frA a9_7 n9_7 d9_7), .int f6_2_7, .int f6_3_7, .int f6_4_7, .int f6_5_7, .int f6_6_7, .int f6_7_7, .int f6_8_7, .int f6_9_7, .int f6_10_7, .int f6_11_7, .int f6_12_7, .int f6_13_7, .int f6_14_7])), (a_draft_h0, .inr (1, [.ref q8_0_7, .int f8_1_7])), (a_waiting_h0, .inr (5, [.ref q9_0_7, .int f9_1_7])), (a_functions_h0, .inr (5, [.ref q10_0_7, .int f10_1_7]))]) (b := fpo a9_7 n9_7 d9_7 c9_7) (c := [(a_scanner_h0, .inr (4, [.ref g1, .int r158, .int r159, .int r160, .int r161])), (g1, .inr (3, [.ref a_bytes_g1, .int size_g1])), (a_bytes_g1, .inl (cB, n_a_bytes_g1, .inl b_a_bytes_g1))]) rfl) ?_
      refine j_norm (pc' := 21) (st' := []) (ws' := ((q8_0_7, .inl (cI, n2_7, .inl b2_7)) :: (q9_0_7, .inl (cI, n3_7, .inl b3_7)) :: (q10_0_7, .inl (cI, n4_7, .inl b4_7)) :: (h0, .inr (2, [.ref a_scanner_h0, .ref a_draft_h0, .ref a_waiting_h0, .ref a_functions_h0, .ref (a9_7 0), .ref (a9_7 d9_7), .ref g1, .int f5_7_7, .int f5_8_7, .int f5_9_7, .int f5_10_7, .int f5_11_7, .int (-1)])) :: ((a9_7 d9_7), .inr (0, [(frB a9_7 d9_7), (frA a9_7 n9_7 d9_7), .int f6_2_7, .int f6_3_7, .int f6_4_7, .int f6_5_7, .int f6_6_7, .int f6_7_7, .int f6_8_7, .int f6_9_7, .int f6_10_7, .int f6_11_7, .int f6_12_7, .int f6_13_7, .int f6_14_7])) :: (a_draft_h0, .inr (1, [.ref q8_0_7, .int f8_1_7])) :: (a_waiting_h0, .inr (5, [.ref q9_0_7, .int f9_1_7])) :: (a_functions_h0, .inr (5, [.ref q10_0_7, .int f10_1_7])) :: (a_scanner_h0, .inr (4, [.ref g1, .int r158, .int r159, .int r160, .int r161])) :: (g1, .inr (3, [.ref a_bytes_g1, .int size_g1])) :: (a_bytes_g1, .inl (cB, n_a_bytes_g1, .inl b_a_bytes_g1)) :: fpo a9_7 n9_7 d9_7 c9_7)) (cl' := cl_7) (sl' := sl_7) rfl rfl rfl rfl rfl rfl ?_
      refine j_aload_n d_Rd_take_21 rfl 1 rfl ?_
      refine j_aload_n d_Rd_take_22 rfl 1 rfl ?_
      refine j_get ig_Rd rfl 3 rfl 0 (by decide) rfl m_169 rfl d_Rd_take_23 ?_
      refine j_callVg (n := 0) (As := []) (rest := [.ref h0]) (wr := ([(q8_0_7, .inl (cI, n2_7, .inl b2_7)), (q9_0_7, .inl (cI, n3_7, .inl b3_7)), (q10_0_7, .inl (cI, n4_7, .inl b4_7)), (h0, .inr (2, [.ref a_scanner_h0, .ref a_draft_h0, .ref a_waiting_h0, .ref a_functions_h0, .ref (a9_7 0), .ref (a9_7 d9_7), .ref g1, .int f5_7_7, .int f5_8_7, .int f5_9_7, .int f5_10_7, .int f5_11_7, .int (-1)])), ((a9_7 d9_7), .inr (0, [(frB a9_7 d9_7), (frA a9_7 n9_7 d9_7), .int f6_2_7, .int f6_3_7, .int f6_4_7, .int f6_5_7, .int f6_6_7, .int f6_7_7, .int f6_8_7, .int f6_9_7, .int f6_10_7, .int f6_11_7, .int f6_12_7, .int f6_13_7, .int f6_14_7])), (a_draft_h0, .inr (1, [.ref q8_0_7, .int f8_1_7])), (a_waiting_h0, .inr (5, [.ref q9_0_7, .int f9_1_7])), (a_functions_h0, .inr (5, [.ref q10_0_7, .int f10_1_7])), (g1, .inr (3, [.ref a_bytes_g1, .int size_g1])), (a_bytes_g1, .inl (cB, n_a_bytes_g1, .inl b_a_bytes_g1))] ++ fpo a9_7 n9_7 d9_7 c9_7)) (c_Sc_kind l D cI cB cJ cS a_scanner_h0 g1 r158 r159 r160 r161  ) k_Rd_82 (by decide) ⟨Nat.le_of_ble_eq_true rfl, Nat.le_of_ble_eq_true rfl⟩ rfl 0 rfl (pk_mid (wr := [(q8_0_7, .inl (cI, n2_7, .inl b2_7)), (q9_0_7, .inl (cI, n3_7, .inl b3_7)), (q10_0_7, .inl (cI, n4_7, .inl b4_7)), (h0, .inr (2, [.ref a_scanner_h0, .ref a_draft_h0, .ref a_waiting_h0, .ref a_functions_h0, .ref (a9_7 0), .ref (a9_7 d9_7), .ref g1, .int f5_7_7, .int f5_8_7, .int f5_9_7, .int f5_10_7, .int f5_11_7, .int (-1)])), ((a9_7 d9_7), .inr (0, [(frB a9_7 d9_7), (frA a9_7 n9_7 d9_7), .int f6_2_7, .int f6_3_7, .int f6_4_7, .int f6_5_7, .int f6_6_7, .int f6_7_7, .int f6_8_7, .int f6_9_7, .int f6_10_7, .int f6_11_7, .int f6_12_7, .int f6_13_7, .int f6_14_7])), (a_draft_h0, .inr (1, [.ref q8_0_7, .int f8_1_7])), (a_waiting_h0, .inr (5, [.ref q9_0_7, .int f9_1_7])), (a_functions_h0, .inr (5, [.ref q10_0_7, .int f10_1_7])), (g1, .inr (3, [.ref a_bytes_g1, .int size_g1])), (a_bytes_g1, .inl (cB, n_a_bytes_g1, .inl b_a_bytes_g1))]) (w0 := [(a_scanner_h0, .inr (4, [.ref g1, .int r158, .int r159, .int r160, .int r161]))]) (pl := fpo a9_7 n9_7 d9_7 c9_7) [0, 1, 2, 3, 4, 5, 6, 7, 9, 10, 8] 11 rfl rfl (by decide)) rfl rfl (Nat.le_of_ble_eq_true rfl) d_Rd_take_26 ⟨show cl_7 + 0 ≤ mc by omega, show sl_7 + 0 ≤ ms by omega⟩ (fun v w hq => ?_)
      obtain ⟨rfl, rfl⟩ := hq
      refine j_perm (ws' := ((q8_0_7, .inl (cI, n2_7, .inl b2_7)) :: (q9_0_7, .inl (cI, n3_7, .inl b3_7)) :: (q10_0_7, .inl (cI, n4_7, .inl b4_7)) :: (h0, .inr (2, [.ref a_scanner_h0, .ref a_draft_h0, .ref a_waiting_h0, .ref a_functions_h0, .ref (a9_7 0), .ref (a9_7 d9_7), .ref g1, .int f5_7_7, .int f5_8_7, .int f5_9_7, .int f5_10_7, .int f5_11_7, .int (-1)])) :: ((a9_7 d9_7), .inr (0, [(frB a9_7 d9_7), (frA a9_7 n9_7 d9_7), .int f6_2_7, .int f6_3_7, .int f6_4_7, .int f6_5_7, .int f6_6_7, .int f6_7_7, .int f6_8_7, .int f6_9_7, .int f6_10_7, .int f6_11_7, .int f6_12_7, .int f6_13_7, .int f6_14_7])) :: (a_draft_h0, .inr (1, [.ref q8_0_7, .int f8_1_7])) :: (a_waiting_h0, .inr (5, [.ref q9_0_7, .int f9_1_7])) :: (a_functions_h0, .inr (5, [.ref q10_0_7, .int f10_1_7])) :: (g1, .inr (3, [.ref a_bytes_g1, .int size_g1])) :: (a_bytes_g1, .inl (cB, n_a_bytes_g1, .inl b_a_bytes_g1)) :: (a_scanner_h0, .inr (4, [.ref g1, .int r158, .int r159, .int r160, .int r161])) :: fpo a9_7 n9_7 d9_7 c9_7)) (pm_eq (a := [(q8_0_7, .inl (cI, n2_7, .inl b2_7)), (q9_0_7, .inl (cI, n3_7, .inl b3_7)), (q10_0_7, .inl (cI, n4_7, .inl b4_7)), (h0, .inr (2, [.ref a_scanner_h0, .ref a_draft_h0, .ref a_waiting_h0, .ref a_functions_h0, .ref (a9_7 0), .ref (a9_7 d9_7), .ref g1, .int f5_7_7, .int f5_8_7, .int f5_9_7, .int f5_10_7, .int f5_11_7, .int (-1)])), ((a9_7 d9_7), .inr (0, [(frB a9_7 d9_7), (frA a9_7 n9_7 d9_7), .int f6_2_7, .int f6_3_7, .int f6_4_7, .int f6_5_7, .int f6_6_7, .int f6_7_7, .int f6_8_7, .int f6_9_7, .int f6_10_7, .int f6_11_7, .int f6_12_7, .int f6_13_7, .int f6_14_7])), (a_draft_h0, .inr (1, [.ref q8_0_7, .int f8_1_7])), (a_waiting_h0, .inr (5, [.ref q9_0_7, .int f9_1_7])), (a_functions_h0, .inr (5, [.ref q10_0_7, .int f10_1_7])), (g1, .inr (3, [.ref a_bytes_g1, .int size_g1])), (a_bytes_g1, .inl (cB, n_a_bytes_g1, .inl b_a_bytes_g1))]) (b := fpo a9_7 n9_7 d9_7 c9_7) (c := [(a_scanner_h0, .inr (4, [.ref g1, .int r158, .int r159, .int r160, .int r161]))]) rfl) ?_
      refine j_norm (pc' := 29) (st' := [.int r159, .ref h0]) (ws' := ((q8_0_7, .inl (cI, n2_7, .inl b2_7)) :: (q9_0_7, .inl (cI, n3_7, .inl b3_7)) :: (q10_0_7, .inl (cI, n4_7, .inl b4_7)) :: (h0, .inr (2, [.ref a_scanner_h0, .ref a_draft_h0, .ref a_waiting_h0, .ref a_functions_h0, .ref (a9_7 0), .ref (a9_7 d9_7), .ref g1, .int f5_7_7, .int f5_8_7, .int f5_9_7, .int f5_10_7, .int f5_11_7, .int (-1)])) :: ((a9_7 d9_7), .inr (0, [(frB a9_7 d9_7), (frA a9_7 n9_7 d9_7), .int f6_2_7, .int f6_3_7, .int f6_4_7, .int f6_5_7, .int f6_6_7, .int f6_7_7, .int f6_8_7, .int f6_9_7, .int f6_10_7, .int f6_11_7, .int f6_12_7, .int f6_13_7, .int f6_14_7])) :: (a_draft_h0, .inr (1, [.ref q8_0_7, .int f8_1_7])) :: (a_waiting_h0, .inr (5, [.ref q9_0_7, .int f9_1_7])) :: (a_functions_h0, .inr (5, [.ref q10_0_7, .int f10_1_7])) :: (g1, .inr (3, [.ref a_bytes_g1, .int size_g1])) :: (a_bytes_g1, .inl (cB, n_a_bytes_g1, .inl b_a_bytes_g1)) :: (a_scanner_h0, .inr (4, [.ref g1, .int r158, .int r159, .int r160, .int r161])) :: fpo a9_7 n9_7 d9_7 c9_7)) (cl' := cl_7) (sl' := sl_7) rfl rfl rfl rfl rfl rfl ?_
      refine j_put (ws' := ((q8_0_7, .inl (cI, n2_7, .inl b2_7)) :: (q9_0_7, .inl (cI, n3_7, .inl b3_7)) :: (q10_0_7, .inl (cI, n4_7, .inl b4_7)) :: (h0, .inr (2, [.ref a_scanner_h0, .ref a_draft_h0, .ref a_waiting_h0, .ref a_functions_h0, .ref (a9_7 0), .ref (a9_7 d9_7), .ref g1, .int f5_7_7, .int f5_8_7, .int f5_9_7, .int f5_10_7, .int r159, .int (-1)])) :: ((a9_7 d9_7), .inr (0, [(frB a9_7 d9_7), (frA a9_7 n9_7 d9_7), .int f6_2_7, .int f6_3_7, .int f6_4_7, .int f6_5_7, .int f6_6_7, .int f6_7_7, .int f6_8_7, .int f6_9_7, .int f6_10_7, .int f6_11_7, .int f6_12_7, .int f6_13_7, .int f6_14_7])) :: (a_draft_h0, .inr (1, [.ref q8_0_7, .int f8_1_7])) :: (a_waiting_h0, .inr (5, [.ref q9_0_7, .int f9_1_7])) :: (a_functions_h0, .inr (5, [.ref q10_0_7, .int f10_1_7])) :: (g1, .inr (3, [.ref a_bytes_g1, .int size_g1])) :: (a_bytes_g1, .inl (cB, n_a_bytes_g1, .inl b_a_bytes_g1)) :: (a_scanner_h0, .inr (4, [.ref g1, .int r158, .int r159, .int r160, .int r161])) :: fpo a9_7 n9_7 d9_7 c9_7)) ig_Rd tk_Rd nm_Rd rfl 3 rfl 11 (by decide) rfl m_180 rfl (tk_Rd 11 (by decide)) rfl rfl (Nat.le_of_ble_eq_true rfl) d_Rd_take_29 rfl ?_
      refine j_aload_n d_Rd_take_32 rfl 1 rfl ?_
      refine j_get ig_Rd rfl 3 rfl 11 (by decide) rfl m_180 rfl d_Rd_take_33 ?_
      refine j_if_ne (tgt := 76) d_Rd_take_36 (by decide) (fun c164 => ?_) (fun c164 => ?_)
      · replace h := it_f c164 h
        refine j_subP (w := [(q8_0_7, .inl (cI, n2_7, .inl b2_7)), (q9_0_7, .inl (cI, n3_7, .inl b3_7)), (q10_0_7, .inl (cI, n4_7, .inl b4_7)), (h0, .inr (2, [.ref a_scanner_h0, .ref a_draft_h0, .ref a_waiting_h0, .ref a_functions_h0, .ref (a9_7 0), .ref (a9_7 d9_7), .ref g1, .int f5_7_7, .int f5_8_7, .int f5_9_7, .int f5_10_7, .int r159, .int (-1)])), ((a9_7 d9_7), .inr (0, [(frB a9_7 d9_7), (frA a9_7 n9_7 d9_7), .int f6_2_7, .int f6_3_7, .int f6_4_7, .int f6_5_7, .int f6_6_7, .int f6_7_7, .int f6_8_7, .int f6_9_7, .int f6_10_7, .int f6_11_7, .int f6_12_7, .int f6_13_7, .int f6_14_7])), (a_draft_h0, .inr (1, [.ref q8_0_7, .int f8_1_7])), (a_waiting_h0, .inr (5, [.ref q9_0_7, .int f9_1_7])), (a_functions_h0, .inr (5, [.ref q10_0_7, .int f10_1_7])), (g1, .inr (3, [.ref a_bytes_g1, .int size_g1])), (a_bytes_g1, .inl (cB, n_a_bytes_g1, .inl b_a_bytes_g1)), (a_scanner_h0, .inr (4, [.ref g1, .int r158, .int r159, .int r160, .int r161]))]) (pl := fpo a9_7 n9_7 d9_7 c9_7) (lv' := [(2, .int v2_7), (0, .ref h0), (1, .ref g1)]) [0, 1, 2, 3, 4, 5, 6, 7, 8, 9, 10] [] 11 rfl rfl (by decide) [0, 1, 2] rfl ?_
        exact L_76 a9_7 n9_7 d9_7 c9_7 r159 r158 r159 r160 r161 cl_7 sl_7 C_7 S_7 h hC hS
      · replace h := it_t c164 h
        refine j_aload_n d_Rd_take_39 rfl 1 rfl ?_
        refine j_get ig_Rd rfl 3 rfl 7 (by decide) rfl m_176 rfl d_Rd_take_40 ?_
        refine j_if_ne (tgt := 76) d_Rd_take_43 (by decide) (fun c165 => ?_) (fun c165 => ?_)
        · replace h := it_f c165 h
          refine j_subP (w := [(q8_0_7, .inl (cI, n2_7, .inl b2_7)), (q9_0_7, .inl (cI, n3_7, .inl b3_7)), (q10_0_7, .inl (cI, n4_7, .inl b4_7)), (h0, .inr (2, [.ref a_scanner_h0, .ref a_draft_h0, .ref a_waiting_h0, .ref a_functions_h0, .ref (a9_7 0), .ref (a9_7 d9_7), .ref g1, .int f5_7_7, .int f5_8_7, .int f5_9_7, .int f5_10_7, .int r159, .int (-1)])), ((a9_7 d9_7), .inr (0, [(frB a9_7 d9_7), (frA a9_7 n9_7 d9_7), .int f6_2_7, .int f6_3_7, .int f6_4_7, .int f6_5_7, .int f6_6_7, .int f6_7_7, .int f6_8_7, .int f6_9_7, .int f6_10_7, .int f6_11_7, .int f6_12_7, .int f6_13_7, .int f6_14_7])), (a_draft_h0, .inr (1, [.ref q8_0_7, .int f8_1_7])), (a_waiting_h0, .inr (5, [.ref q9_0_7, .int f9_1_7])), (a_functions_h0, .inr (5, [.ref q10_0_7, .int f10_1_7])), (g1, .inr (3, [.ref a_bytes_g1, .int size_g1])), (a_bytes_g1, .inl (cB, n_a_bytes_g1, .inl b_a_bytes_g1)), (a_scanner_h0, .inr (4, [.ref g1, .int r158, .int r159, .int r160, .int r161]))]) (pl := fpo a9_7 n9_7 d9_7 c9_7) (lv' := [(2, .int v2_7), (0, .ref h0), (1, .ref g1)]) [0, 1, 2, 3, 4, 5, 6, 7, 8, 9, 10] [] 11 rfl rfl (by decide) [0, 1, 2] rfl ?_
          exact L_76 a9_7 n9_7 d9_7 c9_7 r159 r158 r159 r160 r161 cl_7 sl_7 C_7 S_7 h hC hS
        · replace h := it_t c165 h
          refine j_aload_n d_Rd_take_46 rfl 1 rfl ?_
          refine j_get ig_Rd rfl 3 rfl 5 (by decide) rfl m_174 rfl d_Rd_take_47 ?_
          refine j_get ig_Fr rfl 4 rfl 2 (by decide) rfl m_111 rfl d_Rd_take_50 ?_
          refine j_if_ne (tgt := 76) d_Rd_take_53 (by decide) (fun c166 => ?_) (fun c166 => ?_)
          · replace h := it_f c166 h
            refine j_subP (w := [(q8_0_7, .inl (cI, n2_7, .inl b2_7)), (q9_0_7, .inl (cI, n3_7, .inl b3_7)), (q10_0_7, .inl (cI, n4_7, .inl b4_7)), (h0, .inr (2, [.ref a_scanner_h0, .ref a_draft_h0, .ref a_waiting_h0, .ref a_functions_h0, .ref (a9_7 0), .ref (a9_7 d9_7), .ref g1, .int f5_7_7, .int f5_8_7, .int f5_9_7, .int f5_10_7, .int r159, .int (-1)])), ((a9_7 d9_7), .inr (0, [(frB a9_7 d9_7), (frA a9_7 n9_7 d9_7), .int f6_2_7, .int f6_3_7, .int f6_4_7, .int f6_5_7, .int f6_6_7, .int f6_7_7, .int f6_8_7, .int f6_9_7, .int f6_10_7, .int f6_11_7, .int f6_12_7, .int f6_13_7, .int f6_14_7])), (a_draft_h0, .inr (1, [.ref q8_0_7, .int f8_1_7])), (a_waiting_h0, .inr (5, [.ref q9_0_7, .int f9_1_7])), (a_functions_h0, .inr (5, [.ref q10_0_7, .int f10_1_7])), (g1, .inr (3, [.ref a_bytes_g1, .int size_g1])), (a_bytes_g1, .inl (cB, n_a_bytes_g1, .inl b_a_bytes_g1)), (a_scanner_h0, .inr (4, [.ref g1, .int r158, .int r159, .int r160, .int r161]))]) (pl := fpo a9_7 n9_7 d9_7 c9_7) (lv' := [(2, .int v2_7), (0, .ref h0), (1, .ref g1)]) [0, 1, 2, 3, 4, 5, 6, 7, 8, 9, 10] [] 11 rfl rfl (by decide) [0, 1, 2] rfl ?_
            exact L_76 a9_7 n9_7 d9_7 c9_7 r159 r158 r159 r160 r161 cl_7 sl_7 C_7 S_7 h hC hS
          · replace h := it_t c166 h
            refine j_aload_n d_Rd_take_56 rfl 1 rfl ?_
            refine j_get ig_Rd rfl 3 rfl 1 (by decide) rfl m_170 rfl d_Rd_take_57 ?_
            refine j_iconst (v := 0) d_Rd_take_60 (by decide) ?_
            refine j_iconst (v := 0) d_Rd_take_61 (by decide) ?_
            refine j_iconst (v := (-1)) d_Rd_take_62 (by decide) ?_
            refine j_aload_n d_Rd_take_63 rfl 1 rfl ?_
            refine j_get ig_Rd rfl 3 rfl 5 (by decide) rfl m_174 rfl d_Rd_take_64 ?_
            refine j_get ig_Fr rfl 4 rfl 7 (by decide) rfl m_121 rfl d_Rd_take_67 ?_
            refine j_iconst (v := 0) d_Rd_take_70 (by decide) ?_
            replace h := bw_s h
            obtain ⟨⟨r167, r168, r169⟩, C171, S172, C173, S174, k175, h, e1, e2⟩ := h
            replace hC : cl_7 + C171 + C173 ≤ mc := by omega
            replace hS : sl_7 + S172 + S174 ≤ ms := by omega
            clear e1 e2
            refine j_callVg (n := 5) (As := [.int 0, .int 0, .int (-1), .int f6_7_7, .int 0]) (rest := []) (wr := ([(q9_0_7, .inl (cI, n3_7, .inl b3_7)), (q10_0_7, .inl (cI, n4_7, .inl b4_7)), (h0, .inr (2, [.ref a_scanner_h0, .ref a_draft_h0, .ref a_waiting_h0, .ref a_functions_h0, .ref (a9_7 0), .ref (a9_7 d9_7), .ref g1, .int f5_7_7, .int f5_8_7, .int f5_9_7, .int f5_10_7, .int r159, .int (-1)])), ((a9_7 d9_7), .inr (0, [(frB a9_7 d9_7), (frA a9_7 n9_7 d9_7), .int f6_2_7, .int f6_3_7, .int f6_4_7, .int f6_5_7, .int f6_6_7, .int f6_7_7, .int f6_8_7, .int f6_9_7, .int f6_10_7, .int f6_11_7, .int f6_12_7, .int f6_13_7, .int f6_14_7])), (a_waiting_h0, .inr (5, [.ref q9_0_7, .int f9_1_7])), (a_functions_h0, .inr (5, [.ref q10_0_7, .int f10_1_7])), (g1, .inr (3, [.ref a_bytes_g1, .int size_g1])), (a_bytes_g1, .inl (cB, n_a_bytes_g1, .inl b_a_bytes_g1)), (a_scanner_h0, .inr (4, [.ref g1, .int r158, .int r159, .int r160, .int r161]))] ++ fpo a9_7 n9_7 d9_7 c9_7)) (c_Nd_add l D cI cB cJ cS a_draft_h0 q8_0_7 0 0 (-1) f6_7_7 0 f8_1_7 n2_7 b2_7  r167 r168 r169 C171 S172 k175) k_Rd_93 (by decide) ⟨Nat.le_of_ble_eq_true rfl, Nat.le_of_ble_eq_true rfl⟩ rfl 0 rfl (pk_mid (wr := [(q9_0_7, .inl (cI, n3_7, .inl b3_7)), (q10_0_7, .inl (cI, n4_7, .inl b4_7)), (h0, .inr (2, [.ref a_scanner_h0, .ref a_draft_h0, .ref a_waiting_h0, .ref a_functions_h0, .ref (a9_7 0), .ref (a9_7 d9_7), .ref g1, .int f5_7_7, .int f5_8_7, .int f5_9_7, .int f5_10_7, .int r159, .int (-1)])), ((a9_7 d9_7), .inr (0, [(frB a9_7 d9_7), (frA a9_7 n9_7 d9_7), .int f6_2_7, .int f6_3_7, .int f6_4_7, .int f6_5_7, .int f6_6_7, .int f6_7_7, .int f6_8_7, .int f6_9_7, .int f6_10_7, .int f6_11_7, .int f6_12_7, .int f6_13_7, .int f6_14_7])), (a_waiting_h0, .inr (5, [.ref q9_0_7, .int f9_1_7])), (a_functions_h0, .inr (5, [.ref q10_0_7, .int f10_1_7])), (g1, .inr (3, [.ref a_bytes_g1, .int size_g1])), (a_bytes_g1, .inl (cB, n_a_bytes_g1, .inl b_a_bytes_g1)), (a_scanner_h0, .inr (4, [.ref g1, .int r158, .int r159, .int r160, .int r161]))]) (w0 := [(a_draft_h0, .inr (1, [.ref q8_0_7, .int f8_1_7])), (q8_0_7, .inl (cI, n2_7, .inl b2_7))]) (pl := fpo a9_7 n9_7 d9_7 c9_7) [1, 2, 3, 4, 6, 7, 8, 9, 10, 5, 0] 11 rfl rfl (by decide)) rfl rfl (Nat.le_of_ble_eq_true rfl) d_Rd_take_71 ⟨show cl_7 + C171 ≤ mc by omega, show sl_7 + S172 ≤ ms by omega⟩ (fun v w hq => ?_)
            obtain ⟨q170, rfl, rfl⟩ := hq
            refine j_perm (ws' := ((q9_0_7, .inl (cI, n3_7, .inl b3_7)) :: (q10_0_7, .inl (cI, n4_7, .inl b4_7)) :: (h0, .inr (2, [.ref a_scanner_h0, .ref a_draft_h0, .ref a_waiting_h0, .ref a_functions_h0, .ref (a9_7 0), .ref (a9_7 d9_7), .ref g1, .int f5_7_7, .int f5_8_7, .int f5_9_7, .int f5_10_7, .int r159, .int (-1)])) :: ((a9_7 d9_7), .inr (0, [(frB a9_7 d9_7), (frA a9_7 n9_7 d9_7), .int f6_2_7, .int f6_3_7, .int f6_4_7, .int f6_5_7, .int f6_6_7, .int f6_7_7, .int f6_8_7, .int f6_9_7, .int f6_10_7, .int f6_11_7, .int f6_12_7, .int f6_13_7, .int f6_14_7])) :: (a_waiting_h0, .inr (5, [.ref q9_0_7, .int f9_1_7])) :: (a_functions_h0, .inr (5, [.ref q10_0_7, .int f10_1_7])) :: (g1, .inr (3, [.ref a_bytes_g1, .int size_g1])) :: (a_bytes_g1, .inl (cB, n_a_bytes_g1, .inl b_a_bytes_g1)) :: (a_scanner_h0, .inr (4, [.ref g1, .int r158, .int r159, .int r160, .int r161])) :: (a_draft_h0, .inr (1, [.ref q170, .int r167])) :: (q170, .inl (cI, r168, .inl r169)) :: fpo a9_7 n9_7 d9_7 c9_7)) (pm_eq (a := [(q9_0_7, .inl (cI, n3_7, .inl b3_7)), (q10_0_7, .inl (cI, n4_7, .inl b4_7)), (h0, .inr (2, [.ref a_scanner_h0, .ref a_draft_h0, .ref a_waiting_h0, .ref a_functions_h0, .ref (a9_7 0), .ref (a9_7 d9_7), .ref g1, .int f5_7_7, .int f5_8_7, .int f5_9_7, .int f5_10_7, .int r159, .int (-1)])), ((a9_7 d9_7), .inr (0, [(frB a9_7 d9_7), (frA a9_7 n9_7 d9_7), .int f6_2_7, .int f6_3_7, .int f6_4_7, .int f6_5_7, .int f6_6_7, .int f6_7_7, .int f6_8_7, .int f6_9_7, .int f6_10_7, .int f6_11_7, .int f6_12_7, .int f6_13_7, .int f6_14_7])), (a_waiting_h0, .inr (5, [.ref q9_0_7, .int f9_1_7])), (a_functions_h0, .inr (5, [.ref q10_0_7, .int f10_1_7])), (g1, .inr (3, [.ref a_bytes_g1, .int size_g1])), (a_bytes_g1, .inl (cB, n_a_bytes_g1, .inl b_a_bytes_g1)), (a_scanner_h0, .inr (4, [.ref g1, .int r158, .int r159, .int r160, .int r161]))]) (b := fpo a9_7 n9_7 d9_7 c9_7) (c := [(a_draft_h0, .inr (1, [.ref q170, .int r167])), (q170, .inl (cI, r168, .inl r169))]) rfl) ?_
            refine j_norm (pc' := 74) (st' := []) (ws' := ((q9_0_7, .inl (cI, n3_7, .inl b3_7)) :: (q10_0_7, .inl (cI, n4_7, .inl b4_7)) :: (h0, .inr (2, [.ref a_scanner_h0, .ref a_draft_h0, .ref a_waiting_h0, .ref a_functions_h0, .ref (a9_7 0), .ref (a9_7 d9_7), .ref g1, .int f5_7_7, .int f5_8_7, .int f5_9_7, .int f5_10_7, .int r159, .int (-1)])) :: ((a9_7 d9_7), .inr (0, [(frB a9_7 d9_7), (frA a9_7 n9_7 d9_7), .int f6_2_7, .int f6_3_7, .int f6_4_7, .int f6_5_7, .int f6_6_7, .int f6_7_7, .int f6_8_7, .int f6_9_7, .int f6_10_7, .int f6_11_7, .int f6_12_7, .int f6_13_7, .int f6_14_7])) :: (a_waiting_h0, .inr (5, [.ref q9_0_7, .int f9_1_7])) :: (a_functions_h0, .inr (5, [.ref q10_0_7, .int f10_1_7])) :: (g1, .inr (3, [.ref a_bytes_g1, .int size_g1])) :: (a_bytes_g1, .inl (cB, n_a_bytes_g1, .inl b_a_bytes_g1)) :: (a_scanner_h0, .inr (4, [.ref g1, .int r158, .int r159, .int r160, .int r161])) :: (a_draft_h0, .inr (1, [.ref q170, .int r167])) :: (q170, .inl (cI, r168, .inl r169)) :: fpo a9_7 n9_7 d9_7 c9_7)) (cl' := cl_7 + C171) (sl' := sl_7 + S172) rfl rfl rfl rfl rfl rfl ?_
            refine j_iload_n d_Rd_take_74 rfl 0 rfl ?_
            replace h := lf_s h
            obtain ⟨h, e1, e2⟩ := h
            replace h := Prod.mk.inj h
            obtain ⟨h9, h⟩ := h
            subst h9
            replace h := Prod.mk.inj h
            obtain ⟨h9, h⟩ := h
            subst h9
            replace h := Prod.mk.inj h
            obtain ⟨h9, h⟩ := h
            subst h9
            replace h := Prod.mk.inj h
            obtain ⟨h9, h⟩ := h
            subst h9
            replace h := Prod.mk.inj h
            obtain ⟨h9, h⟩ := h
            subst h9
            replace h := Prod.mk.inj h
            obtain ⟨h9, h⟩ := h
            subst h9
            replace h := Prod.mk.inj h
            obtain ⟨h9, h⟩ := h
            subst h9
            replace h := Prod.mk.inj h
            obtain ⟨h9, h⟩ := h
            subst h9
            replace h := Prod.mk.inj h
            obtain ⟨h9, h⟩ := h
            subst h9
            replace h := Prod.mk.inj h
            obtain ⟨h9, h⟩ := h
            subst h9
            replace h := Prod.mk.inj h
            obtain ⟨h9, h⟩ := h
            subst h9
            replace h := Prod.mk.inj h
            obtain ⟨h9, h⟩ := h
            subst h9
            replace h := Prod.mk.inj h
            obtain ⟨h9, h⟩ := h
            subst h9
            replace h := Prod.mk.inj h
            obtain ⟨h9, h⟩ := h
            subst h9
            replace h := Prod.mk.inj h
            obtain ⟨h9, h⟩ := h
            subst h9
            replace h := Prod.mk.inj h
            obtain ⟨h9, h⟩ := h
            subst h9
            replace h := Prod.mk.inj h
            obtain ⟨h9, h⟩ := h
            subst h9
            replace h := Prod.mk.inj h
            obtain ⟨h9, h⟩ := h
            subst h9
            replace h := Prod.mk.inj h
            obtain ⟨h9, h⟩ := h
            subst h9
            replace h := Prod.mk.inj h
            obtain ⟨h9, h⟩ := h
            subst h9
            replace h := Prod.mk.inj h
            obtain ⟨h9, h⟩ := h
            subst h9
            replace h := Prod.mk.inj h
            obtain ⟨h9, h⟩ := h
            subst h9
            replace h := Prod.mk.inj h
            obtain ⟨h9, h⟩ := h
            subst h9
            replace h := Prod.mk.inj h
            obtain ⟨h9, h⟩ := h
            subst h9
            replace h := Prod.mk.inj h
            obtain ⟨h9, h⟩ := h
            subst h9
            replace h := Prod.mk.inj h
            obtain ⟨h9, h⟩ := h
            subst h9
            replace h := Prod.mk.inj h
            obtain ⟨h9, h⟩ := h
            subst h9
            replace h := Prod.mk.inj h
            obtain ⟨h9, h⟩ := h
            subst h9
            replace h := Prod.mk.inj h
            obtain ⟨h9, h⟩ := h
            subst h9
            replace h := Prod.mk.inj h
            obtain ⟨h9, h⟩ := h
            subst h9
            replace h := Prod.mk.inj h
            obtain ⟨h9, h⟩ := h
            subst h9
            replace h := Prod.mk.inj h
            obtain ⟨h9, h⟩ := h
            subst h9
            replace h := Prod.mk.inj h
            obtain ⟨h9, h⟩ := h
            subst h9
            replace h := Prod.mk.inj h
            obtain ⟨h9, h⟩ := h
            subst h9
            replace h := Prod.mk.inj h
            obtain ⟨h9, h⟩ := h
            subst h9
            subst h
            refine j_widen (cl' := mc) (sl' := ms) (by omega) (by omega) ?_
            refine j_subP (w := [(h0, .inr (2, [.ref a_scanner_h0, .ref a_draft_h0, .ref a_waiting_h0, .ref a_functions_h0, .ref (a9_7 0), .ref (a9_7 d9_7), .ref g1, .int f5_7_7, .int f5_8_7, .int f5_9_7, .int f5_10_7, .int r159, .int (-1)])), ((a9_7 d9_7), .inr (0, [(frB a9_7 d9_7), (frA a9_7 n9_7 d9_7), .int f6_2_7, .int f6_3_7, .int f6_4_7, .int f6_5_7, .int f6_6_7, .int f6_7_7, .int f6_8_7, .int f6_9_7, .int f6_10_7, .int f6_11_7, .int f6_12_7, .int f6_13_7, .int f6_14_7])), (a_scanner_h0, .inr (4, [.ref g1, .int r158, .int r159, .int r160, .int r161])), (a_draft_h0, .inr (1, [.ref q170, .int r167])), (a_waiting_h0, .inr (5, [.ref q9_0_7, .int f9_1_7])), (a_functions_h0, .inr (5, [.ref q10_0_7, .int f10_1_7])), (g1, .inr (3, [.ref a_bytes_g1, .int size_g1])), (a_bytes_g1, .inl (cB, n_a_bytes_g1, .inl b_a_bytes_g1)), (q170, .inl (cI, r168, .inl r169)), (q9_0_7, .inl (cI, n3_7, .inl b3_7)), (q10_0_7, .inl (cI, n4_7, .inl b4_7))]) (pl := fpo a9_7 n9_7 d9_7 c9_7) (lv' := []) [2, 3, 8, 9, 4, 5, 6, 7, 10, 0, 1] [] 11 rfl rfl (by decide) [] rfl ?_
            exact j_iretE hr d_Rd_take_75 ⟨a9_7, q170, q9_0_7, q10_0_7, rfl, rfl⟩
set_option maxHeartbeats 4000000 in
set_option maxRecDepth 100000 in
theorem c_Rd_take (l : Launch) (D : va_G) (cI cB cJ cS : ClassId) (h0 : Nat) (g1 : Nat) (fad : Nat → Nat) (a_scanner_h0 : Nat) (a_draft_h0 : Nat) (a_waiting_h0 : Nat) (a_functions_h0 : Nat) (a_text_h0 : Nat) (a_text_a_scanner_h0 : Nat) (a_cells_a_draft_h0 : Nat) (a_cells_a_waiting_h0 : Nat) (a_cells_a_functions_h0 : Nat) (a_bytes_g1 : Nat) (fn : Nat) (fd : Nat) (fcf : Nat → FrC) (mode_h0 : Int32) (levels_h0 : Int32) (signs_h0 : Int32) (loops_h0 : Int32) (token_h0 : Int32) (fault_h0 : Int32) (kind_t : Int32) (place_t : Int32) (width_t : Int32) (second_t : Int32) (parts_t : Int32) (innerParts_t : Int32) (innerPlace_t : Int32) (innerWidth_t : Int32) (signs_t : Int32) (waitingBelow_t : Int32) (limited_t : Int32) (targets_t : Int32) (lastBlock_t : Int32) (next_a_scanner_h0 : Int32) (kind_a_scanner_h0 : Int32) (start_a_scanner_h0 : Int32) (width_a_scanner_h0 : Int32) (count_a_draft_h0 : Int32) (count_a_waiting_h0 : Int32) (count_a_functions_h0 : Int32) (size_g1 : Int32) (n_a_bytes_g1 : Nat) (b_a_bytes_g1 : Nat → Int32) (n_a_cells_a_draft_h0 : Nat) (b_a_cells_a_draft_h0 : Nat → Int32) (n_a_cells_a_waiting_h0 : Nat) (b_a_cells_a_waiting_h0 : Nat → Int32) (n_a_cells_a_functions_h0 : Nat) (b_a_cells_a_functions_h0 : Nat → Int32) (on_p : Nat) (od_p : Nat) (ocf_p : Nat → FrC) (ret : Int32) (o_0_7 : Int32) (o_0_8 : Int32) (o_0_9 : Int32) (o_0_10 : Int32) (o_0_11 : Int32) (o_0_12 : Int32) (o_1_2 : Int32) (o_1_3 : Int32) (o_1_4 : Int32) (o_1_5 : Int32) (o_1_6 : Int32) (o_1_7 : Int32) (o_1_8 : Int32) (o_1_9 : Int32) (o_1_10 : Int32) (o_1_11 : Int32) (o_1_12 : Int32) (o_1_13 : Int32) (o_1_14 : Int32) (o_2_1 : Int32) (o_2_2 : Int32) (o_2_3 : Int32) (o_2_4 : Int32) (o_3_1 : Int32) (o_4_1 : Int32) (o_5_1 : Int32) (on_nq_3_0 : Nat) (ob_nq_3_0 : Nat → Int32) (on_nq_4_0 : Nat) (ob_nq_4_0 : Nat → Int32) (on_nq_5_0 : Nat) (ob_nq_5_0 : Nat → Int32) (mc ms : Nat) (h : F_Rd_take fn fd fcf mode_h0 levels_h0 signs_h0 loops_h0 token_h0 fault_h0 kind_t place_t width_t second_t parts_t innerParts_t innerPlace_t innerWidth_t signs_t waitingBelow_t limited_t targets_t lastBlock_t next_a_scanner_h0 kind_a_scanner_h0 start_a_scanner_h0 width_a_scanner_h0 count_a_draft_h0 count_a_waiting_h0 count_a_functions_h0 size_g1 n_a_bytes_g1 b_a_bytes_g1 n_a_cells_a_draft_h0 b_a_cells_a_draft_h0 n_a_cells_a_waiting_h0 b_a_cells_a_waiting_h0 n_a_cells_a_functions_h0 b_a_cells_a_functions_h0 = some ((on_p, od_p, ocf_p, ret, o_0_7, o_0_8, o_0_9, o_0_10, o_0_11, o_0_12, o_1_2, o_1_3, o_1_4, o_1_5, o_1_6, o_1_7, o_1_8, o_1_9, o_1_10, o_1_11, o_1_12, o_1_13, o_1_14, o_2_1, o_2_2, o_2_3, o_2_4, o_3_1, o_4_1, o_5_1, on_nq_3_0, ob_nq_3_0, on_nq_4_0, ob_nq_4_0, on_nq_5_0, ob_nq_5_0), mc, ms)) : Ct l D (gT cI cB cJ cS) y_Rd_take prog_6_method_4_code 4 (Option.some Jvm.ClassFile.FieldType.int) 8 197 mc ms [.ref h0, .ref g1] ((h0, .inr (2, [.ref a_scanner_h0, .ref a_draft_h0, .ref a_waiting_h0, .ref a_functions_h0, .ref (fad 0), .ref (fad fd), .ref a_text_h0, .int mode_h0, .int levels_h0, .int signs_h0, .int loops_h0, .int token_h0, .int fault_h0])) :: ((fad fd), .inr (0, [(frB fad fd), (frA fad fn fd), .int kind_t, .int place_t, .int width_t, .int second_t, .int parts_t, .int innerParts_t, .int innerPlace_t, .int innerWidth_t, .int signs_t, .int waitingBelow_t, .int limited_t, .int targets_t, .int lastBlock_t])) :: (a_scanner_h0, .inr (4, [.ref a_text_a_scanner_h0, .int next_a_scanner_h0, .int kind_a_scanner_h0, .int start_a_scanner_h0, .int width_a_scanner_h0])) :: (a_draft_h0, .inr (1, [.ref a_cells_a_draft_h0, .int count_a_draft_h0])) :: (a_waiting_h0, .inr (5, [.ref a_cells_a_waiting_h0, .int count_a_waiting_h0])) :: (a_functions_h0, .inr (5, [.ref a_cells_a_functions_h0, .int count_a_functions_h0])) :: (g1, .inr (3, [.ref a_bytes_g1, .int size_g1])) :: (a_bytes_g1, .inl (cB, n_a_bytes_g1, .inl b_a_bytes_g1)) :: (a_cells_a_draft_h0, .inl (cI, n_a_cells_a_draft_h0, .inl b_a_cells_a_draft_h0)) :: (a_cells_a_waiting_h0, .inl (cI, n_a_cells_a_waiting_h0, .inl b_a_cells_a_waiting_h0)) :: (a_cells_a_functions_h0, .inl (cI, n_a_cells_a_functions_h0, .inl b_a_cells_a_functions_h0)) :: fpo fad fn fd fcf) (fun v w => ∃ nad : Nat → Nat, ∃ nq_3_0 : Nat, ∃ nq_4_0 : Nat, ∃ nq_5_0 : Nat, v = some (.int ret) ∧ w = ((h0, .inr (2, [.ref a_scanner_h0, .ref a_draft_h0, .ref a_waiting_h0, .ref a_functions_h0, .ref (nad 0), .ref (nad od_p), .ref g1, .int o_0_7, .int o_0_8, .int o_0_9, .int o_0_10, .int o_0_11, .int o_0_12])) :: ((nad od_p), .inr (0, [(frB nad od_p), (frA nad on_p od_p), .int o_1_2, .int o_1_3, .int o_1_4, .int o_1_5, .int o_1_6, .int o_1_7, .int o_1_8, .int o_1_9, .int o_1_10, .int o_1_11, .int o_1_12, .int o_1_13, .int o_1_14])) :: (a_scanner_h0, .inr (4, [.ref g1, .int o_2_1, .int o_2_2, .int o_2_3, .int o_2_4])) :: (a_draft_h0, .inr (1, [.ref nq_3_0, .int o_3_1])) :: (a_waiting_h0, .inr (5, [.ref nq_4_0, .int o_4_1])) :: (a_functions_h0, .inr (5, [.ref nq_5_0, .int o_5_1])) :: (g1, .inr (3, [.ref a_bytes_g1, .int size_g1])) :: (a_bytes_g1, .inl (cB, n_a_bytes_g1, .inl b_a_bytes_g1)) :: (nq_3_0, .inl (cI, on_nq_3_0, .inl ob_nq_3_0)) :: (nq_4_0, .inl (cI, on_nq_4_0, .inl ob_nq_4_0)) :: (nq_5_0, .inl (cI, on_nq_5_0, .inl ob_nq_5_0)) :: fpo nad on_p od_p ocf_p)) := by
  refine Ct.mk (by decide) (Nat.le_of_ble_eq_true rfl) ?_
  intro p e s m below meth c hr hnm
  refine j_norm (pc' := 0) (lv' := [(0, .ref h0), (1, .ref g1)]) (st' := []) (ws' := ((h0, .inr (2, [.ref a_scanner_h0, .ref a_draft_h0, .ref a_waiting_h0, .ref a_functions_h0, .ref (fad 0), .ref (fad fd), .ref a_text_h0, .int mode_h0, .int levels_h0, .int signs_h0, .int loops_h0, .int token_h0, .int fault_h0])) :: ((fad fd), .inr (0, [(frB fad fd), (frA fad fn fd), .int kind_t, .int place_t, .int width_t, .int second_t, .int parts_t, .int innerParts_t, .int innerPlace_t, .int innerWidth_t, .int signs_t, .int waitingBelow_t, .int limited_t, .int targets_t, .int lastBlock_t])) :: (a_scanner_h0, .inr (4, [.ref a_text_a_scanner_h0, .int next_a_scanner_h0, .int kind_a_scanner_h0, .int start_a_scanner_h0, .int width_a_scanner_h0])) :: (a_draft_h0, .inr (1, [.ref a_cells_a_draft_h0, .int count_a_draft_h0])) :: (a_waiting_h0, .inr (5, [.ref a_cells_a_waiting_h0, .int count_a_waiting_h0])) :: (a_functions_h0, .inr (5, [.ref a_cells_a_functions_h0, .int count_a_functions_h0])) :: (g1, .inr (3, [.ref a_bytes_g1, .int size_g1])) :: (a_bytes_g1, .inl (cB, n_a_bytes_g1, .inl b_a_bytes_g1)) :: (a_cells_a_draft_h0, .inl (cI, n_a_cells_a_draft_h0, .inl b_a_cells_a_draft_h0)) :: (a_cells_a_waiting_h0, .inl (cI, n_a_cells_a_waiting_h0, .inl b_a_cells_a_waiting_h0)) :: (a_cells_a_functions_h0, .inl (cI, n_a_cells_a_functions_h0, .inl b_a_cells_a_functions_h0)) :: fpo fad fn fd fcf)) (cl' := 0) (sl' := 0) rfl rfl rfl rfl rfl rfl ?_
  unfold F_Rd_take at h
  have hC : 0 + mc ≤ mc := by omega
  have hS : 0 + ms ≤ ms := by omega
  refine j_aload_n d_Rd_take_0 rfl 0 rfl ?_
  refine j_aload_n d_Rd_take_1 rfl 1 rfl ?_
  replace h := bd_s h
  obtain ⟨⟨r176, r177, r178⟩, k180, h⟩ := h
  refine j_callVg (n := 1) (As := [.ref g1]) (rest := []) (wr := [(g1, .inr (3, [.ref a_bytes_g1, .int size_g1])), (a_bytes_g1, .inl (cB, n_a_bytes_g1, .inl b_a_bytes_g1)), (a_cells_a_draft_h0, .inl (cI, n_a_cells_a_draft_h0, .inl b_a_cells_a_draft_h0)), (a_cells_a_waiting_h0, .inl (cI, n_a_cells_a_waiting_h0, .inl b_a_cells_a_waiting_h0)), (a_cells_a_functions_h0, .inl (cI, n_a_cells_a_functions_h0, .inl b_a_cells_a_functions_h0))]) (c_Rd_begin l D cI cB cJ cS h0 g1 fad a_scanner_h0 a_draft_h0 a_waiting_h0 a_functions_h0 a_text_h0 a_text_a_scanner_h0 a_cells_a_draft_h0 a_cells_a_waiting_h0 a_cells_a_functions_h0 fn fd fcf mode_h0 levels_h0 signs_h0 loops_h0 token_h0 fault_h0 kind_t place_t width_t second_t parts_t innerParts_t innerPlace_t innerWidth_t signs_t waitingBelow_t limited_t targets_t lastBlock_t next_a_scanner_h0 kind_a_scanner_h0 start_a_scanner_h0 width_a_scanner_h0 count_a_draft_h0 count_a_waiting_h0 count_a_functions_h0  r176 r177 r178 k180) k_Rd_75 (by decide) ⟨Nat.le_of_ble_eq_true rfl, Nat.le_of_ble_eq_true rfl⟩ rfl 0 rfl (pk_app (wr := [(g1, .inr (3, [.ref a_bytes_g1, .int size_g1])), (a_bytes_g1, .inl (cB, n_a_bytes_g1, .inl b_a_bytes_g1)), (a_cells_a_draft_h0, .inl (cI, n_a_cells_a_draft_h0, .inl b_a_cells_a_draft_h0)), (a_cells_a_waiting_h0, .inl (cI, n_a_cells_a_waiting_h0, .inl b_a_cells_a_waiting_h0)), (a_cells_a_functions_h0, .inl (cI, n_a_cells_a_functions_h0, .inl b_a_cells_a_functions_h0))]) (w0 := [(h0, .inr (2, [.ref a_scanner_h0, .ref a_draft_h0, .ref a_waiting_h0, .ref a_functions_h0, .ref (fad 0), .ref (fad fd), .ref a_text_h0, .int mode_h0, .int levels_h0, .int signs_h0, .int loops_h0, .int token_h0, .int fault_h0])), ((fad fd), .inr (0, [(frB fad fd), (frA fad fn fd), .int kind_t, .int place_t, .int width_t, .int second_t, .int parts_t, .int innerParts_t, .int innerPlace_t, .int innerWidth_t, .int signs_t, .int waitingBelow_t, .int limited_t, .int targets_t, .int lastBlock_t])), (a_scanner_h0, .inr (4, [.ref a_text_a_scanner_h0, .int next_a_scanner_h0, .int kind_a_scanner_h0, .int start_a_scanner_h0, .int width_a_scanner_h0])), (a_draft_h0, .inr (1, [.ref a_cells_a_draft_h0, .int count_a_draft_h0])), (a_waiting_h0, .inr (5, [.ref a_cells_a_waiting_h0, .int count_a_waiting_h0])), (a_functions_h0, .inr (5, [.ref a_cells_a_functions_h0, .int count_a_functions_h0]))]) (pl := fpo fad fn fd fcf) [6, 7, 8, 9, 10, 0, 1, 2, 3, 4, 5] 11 rfl rfl rfl (by decide)) rfl rfl (Nat.le_of_ble_eq_true rfl) d_Rd_take_2 ⟨show 0 + 0 ≤ mc by omega, show 0 + 0 ≤ ms by omega⟩ (fun v w hq => ?_)
  obtain ⟨a179, rfl, rfl⟩ := hq
  refine j_norm (pc' := 5) (st' := []) (ws' := ((g1, .inr (3, [.ref a_bytes_g1, .int size_g1])) :: (a_bytes_g1, .inl (cB, n_a_bytes_g1, .inl b_a_bytes_g1)) :: (a_cells_a_draft_h0, .inl (cI, n_a_cells_a_draft_h0, .inl b_a_cells_a_draft_h0)) :: (a_cells_a_waiting_h0, .inl (cI, n_a_cells_a_waiting_h0, .inl b_a_cells_a_waiting_h0)) :: (a_cells_a_functions_h0, .inl (cI, n_a_cells_a_functions_h0, .inl b_a_cells_a_functions_h0)) :: (h0, .inr (2, [.ref a_scanner_h0, .ref a_draft_h0, .ref a_waiting_h0, .ref a_functions_h0, .ref (a179 0), .ref (a179 r177), .ref g1, .int 0, .int 0, .int 0, .int 0, .int token_h0, .int (-1)])) :: ((a179 r177), .inr (0, [(frB a179 r177), (frA a179 r176 r177), .int 0, .int 0, .int 0, .int (-1), .int 0, .int 0, .int 0, .int 0, .int 0, .int 0, .int 0, .int 0, .int 0])) :: (a_scanner_h0, .inr (4, [.ref g1, .int 0, .int kind_a_scanner_h0, .int start_a_scanner_h0, .int width_a_scanner_h0])) :: (a_draft_h0, .inr (1, [.ref a_cells_a_draft_h0, .int 0])) :: (a_waiting_h0, .inr (5, [.ref a_cells_a_waiting_h0, .int 0])) :: (a_functions_h0, .inr (5, [.ref a_cells_a_functions_h0, .int 0])) :: fpo a179 r176 r177 r178)) (cl' := 0) (sl' := 0) rfl rfl rfl rfl rfl rfl ?_
  refine j_iconst (v := 0) d_Rd_take_5 (by decide) ?_
  refine j_istore_n (lv' := [(2, .int 0), (0, .ref h0), (1, .ref g1)]) d_Rd_take_6 rfl (by decide) rfl ?_
  refine j_subP (w := [(g1, .inr (3, [.ref a_bytes_g1, .int size_g1])), (a_bytes_g1, .inl (cB, n_a_bytes_g1, .inl b_a_bytes_g1)), (a_cells_a_draft_h0, .inl (cI, n_a_cells_a_draft_h0, .inl b_a_cells_a_draft_h0)), (a_cells_a_waiting_h0, .inl (cI, n_a_cells_a_waiting_h0, .inl b_a_cells_a_waiting_h0)), (a_cells_a_functions_h0, .inl (cI, n_a_cells_a_functions_h0, .inl b_a_cells_a_functions_h0)), (h0, .inr (2, [.ref a_scanner_h0, .ref a_draft_h0, .ref a_waiting_h0, .ref a_functions_h0, .ref (a179 0), .ref (a179 r177), .ref g1, .int 0, .int 0, .int 0, .int 0, .int token_h0, .int (-1)])), ((a179 r177), .inr (0, [(frB a179 r177), (frA a179 r176 r177), .int 0, .int 0, .int 0, .int (-1), .int 0, .int 0, .int 0, .int 0, .int 0, .int 0, .int 0, .int 0, .int 0])), (a_scanner_h0, .inr (4, [.ref g1, .int 0, .int kind_a_scanner_h0, .int start_a_scanner_h0, .int width_a_scanner_h0])), (a_draft_h0, .inr (1, [.ref a_cells_a_draft_h0, .int 0])), (a_waiting_h0, .inr (5, [.ref a_cells_a_waiting_h0, .int 0])), (a_functions_h0, .inr (5, [.ref a_cells_a_functions_h0, .int 0]))]) (pl := fpo a179 r176 r177 r178) (lv' := [(2, .int 0), (0, .ref h0), (1, .ref g1)]) [0, 1, 2, 3, 4, 5, 6, 7, 8, 9, 10] [] 11 rfl rfl (by decide) [0, 1, 2] rfl ?_
  exact L_Rd_take_7 l D cI cB cJ cS h0 g1 fad a_scanner_h0 a_draft_h0 a_waiting_h0 a_functions_h0 a_text_h0 a_text_a_scanner_h0 a_cells_a_draft_h0 a_cells_a_waiting_h0 a_cells_a_functions_h0 a_bytes_g1 fn fd fcf mode_h0 levels_h0 signs_h0 loops_h0 token_h0 fault_h0 kind_t place_t width_t second_t parts_t innerParts_t innerPlace_t innerWidth_t signs_t waitingBelow_t limited_t targets_t lastBlock_t next_a_scanner_h0 kind_a_scanner_h0 start_a_scanner_h0 width_a_scanner_h0 count_a_draft_h0 count_a_waiting_h0 count_a_functions_h0 size_g1 n_a_bytes_g1 b_a_bytes_g1 n_a_cells_a_draft_h0 b_a_cells_a_draft_h0 n_a_cells_a_waiting_h0 b_a_cells_a_waiting_h0 n_a_cells_a_functions_h0 b_a_cells_a_functions_h0 on_p od_p ocf_p ret o_0_7 o_0_8 o_0_9 o_0_10 o_0_11 o_0_12 o_1_2 o_1_3 o_1_4 o_1_5 o_1_6 o_1_7 o_1_8 o_1_9 o_1_10 o_1_11 o_1_12 o_1_13 o_1_14 o_2_1 o_2_2 o_2_3 o_2_4 o_3_1 o_4_1 o_5_1 on_nq_3_0 ob_nq_3_0 on_nq_4_0 ob_nq_4_0 on_nq_5_0 ob_nq_5_0 mc ms p e s m below meth c hr hnm FU a179 a_cells_a_draft_h0 a_cells_a_waiting_h0 a_cells_a_functions_h0 0 r176 r177 r178 n_a_cells_a_draft_h0 b_a_cells_a_draft_h0 n_a_cells_a_waiting_h0 b_a_cells_a_waiting_h0 n_a_cells_a_functions_h0 b_a_cells_a_functions_h0 0 0 0 0 token_h0 0 0 0 (-1) 0 0 0 0 0 0 0 0 0 0 kind_a_scanner_h0 start_a_scanner_h0 width_a_scanner_h0 0 0 0 0 0 mc ms h hC hS
noncomputable def F_Eq_read (fault_h0 : Int32) (fn : Nat) (fd : Nat) (fcf : Nat → FrC) (mode_a_reader_h0 : Int32) (levels_a_reader_h0 : Int32) (signs_a_reader_h0 : Int32) (loops_a_reader_h0 : Int32) (token_a_reader_h0 : Int32) (fault_a_reader_h0 : Int32) (kind_t : Int32) (place_t : Int32) (width_t : Int32) (second_t : Int32) (parts_t : Int32) (innerParts_t : Int32) (innerPlace_t : Int32) (innerWidth_t : Int32) (signs_t : Int32) (waitingBelow_t : Int32) (limited_t : Int32) (targets_t : Int32) (lastBlock_t : Int32) (next_a_scanner_a_reader_h0 : Int32) (kind_a_scanner_a_reader_h0 : Int32) (start_a_scanner_a_reader_h0 : Int32) (width_a_scanner_a_reader_h0 : Int32) (count_a_draft_a_reader_h0 : Int32) (count_a_waiting_a_reader_h0 : Int32) (count_a_functions_a_reader_h0 : Int32) (size_a_tape_h0 : Int32) (n_a_bytes_a_tape_h0 : Nat) (b_a_bytes_a_tape_h0 : Nat → Int32) (n_a_cells_a_draft_a_reader_h0 : Nat) (b_a_cells_a_draft_a_reader_h0 : Nat → Int32) (n_a_cells_a_waiting_a_reader_h0 : Nat) (b_a_cells_a_waiting_a_reader_h0 : Nat → Int32) (n_a_cells_a_functions_a_reader_h0 : Nat) (b_a_cells_a_functions_a_reader_h0 : Nat → Int32) (count_a_tree_h0 : Int32) (n_a_cells_a_tree_h0 : Nat) (b_a_cells_a_tree_h0 : Nat → Int32) (size_a_source_h0 : Int32) : Option ((Nat × Nat × (Nat → FrC) × Int32 × Int32 × Int32 × Int32 × Int32 × Int32 × Int32 × Int32 × Int32 × Int32 × Int32 × Int32 × Int32 × Int32 × Int32 × Int32 × Int32 × Int32 × Int32 × Int32 × Int32 × Int32 × Int32 × Int32 × Int32 × Int32 × Int32 × Int32 × Int32 × Int32 × Int32 × Nat × (Nat → Int32) × Nat × (Nat → Int32) × Nat × (Nat → Int32) × Nat × (Nat → Int32)) × Nat × Nat) :=
  bw (F_Rd_take fn fd fcf mode_a_reader_h0 levels_a_reader_h0 signs_a_reader_h0 loops_a_reader_h0 token_a_reader_h0 fault_a_reader_h0 kind_t place_t width_t second_t parts_t innerParts_t innerPlace_t innerWidth_t signs_t waitingBelow_t limited_t targets_t lastBlock_t next_a_scanner_a_reader_h0 kind_a_scanner_a_reader_h0 start_a_scanner_a_reader_h0 width_a_scanner_a_reader_h0 count_a_draft_a_reader_h0 count_a_waiting_a_reader_h0 count_a_functions_a_reader_h0 size_a_tape_h0 n_a_bytes_a_tape_h0 b_a_bytes_a_tape_h0 n_a_cells_a_draft_a_reader_h0 b_a_cells_a_draft_a_reader_h0 n_a_cells_a_waiting_a_reader_h0 b_a_cells_a_waiting_a_reader_h0 n_a_cells_a_functions_a_reader_h0 b_a_cells_a_functions_a_reader_h0) fun ⟨r1, r2, r3, r4, r5, r6, r7, r8, r9, r10, r11, r12, r13, r14, r15, r16, r17, r18, r19, r20, r21, r22, r23, r24, r25, r26, r27, r28, r29, r30, r31, r32, r33, r34, r35, r36⟩ =>
  if r4 = (-1) then (nm (F_Rw_cut 0 size_a_tape_h0) fun r48 =>
    (some ((r1, r2, r3, r4, r10, r5, r6, r7, r8, r9, r10, r11, r12, r13, r14, r15, r16, r17, r18, r19, r20, r21, r22, r23, r24, r25, r26, r27, r28, r29, r30, count_a_tree_h0, r48, size_a_source_h0, r31, r32, r33, r34, r35, r36, n_a_cells_a_tree_h0, b_a_cells_a_tree_h0), 0, 0)))
  else (bw (F_Nd_arrange count_a_tree_h0 r28 r31 r32 n_a_cells_a_tree_h0 b_a_cells_a_tree_h0) fun ⟨r51, r52, r53, r54⟩ =>
    nm (F_Rw_cut 0 size_a_source_h0) fun r61 =>
    (some ((r1, r2, r3, r4, r10, r5, r6, r7, r8, r9, r10, r11, r12, r13, r14, r15, r16, r17, r18, r19, r20, r21, r22, r23, r24, r25, r26, r27, r28, r29, r30, r51, r61, size_a_tape_h0, r31, r52, r33, r34, r35, r36, r53, r54), 0, 0)))
theorem d_Eq_read_0 : decode prog_1_method_4_code 0 = .ok (.aload_n 0, 1) := by decide +kernel
theorem d_Eq_read_1 : decode prog_1_method_4_code 1 = .ok (.getfield 10, 3) := by decide +kernel
theorem d_Eq_read_4 : decode prog_1_method_4_code 4 = .ok (.aload_n 0, 1) := by decide +kernel
theorem d_Eq_read_5 : decode prog_1_method_4_code 5 = .ok (.getfield 33, 3) := by decide +kernel
theorem d_Eq_read_8 : decode prog_1_method_4_code 8 = .ok (.invokevirtual 69, 3) := by decide +kernel
theorem d_Eq_read_11 : decode prog_1_method_4_code 11 = .ok (.istore_n 1, 1) := by decide +kernel
theorem d_Eq_read_12 : decode prog_1_method_4_code 12 = .ok (.aload_n 0, 1) := by decide +kernel
theorem d_Eq_read_13 : decode prog_1_method_4_code 13 = .ok (.aload_n 0, 1) := by decide +kernel
theorem d_Eq_read_14 : decode prog_1_method_4_code 14 = .ok (.getfield 10, 3) := by decide +kernel
theorem d_Eq_read_17 : decode prog_1_method_4_code 17 = .ok (.invokevirtual 73, 3) := by decide +kernel
theorem d_Eq_read_20 : decode prog_1_method_4_code 20 = .ok (.putfield 46, 3) := by decide +kernel
theorem d_Eq_read_23 : decode prog_1_method_4_code 23 = .ok (.iload_n 1, 1) := by decide +kernel
theorem d_Eq_read_24 : decode prog_1_method_4_code 24 = .ok (.iconst (-1), 1) := by decide +kernel
theorem d_Eq_read_25 : decode prog_1_method_4_code 25 = .ok (.if_icmp .eq 35, 3) := by decide +kernel
theorem d_Eq_read_28 : decode prog_1_method_4_code 28 = .ok (.aload_n 0, 1) := by decide +kernel
theorem d_Eq_read_29 : decode prog_1_method_4_code 29 = .ok (.getfield 26, 3) := by decide +kernel
theorem d_Eq_read_32 : decode prog_1_method_4_code 32 = .ok (.aload_n 0, 1) := by decide +kernel
theorem d_Eq_read_33 : decode prog_1_method_4_code 33 = .ok (.getfield 10, 3) := by decide +kernel
theorem d_Eq_read_36 : decode prog_1_method_4_code 36 = .ok (.invokevirtual 75, 3) := by decide +kernel
theorem d_Eq_read_39 : decode prog_1_method_4_code 39 = .ok (.invokevirtual 79, 3) := by decide +kernel
theorem d_Eq_read_42 : decode prog_1_method_4_code 42 = .ok (.aload_n 0, 1) := by decide +kernel
theorem d_Eq_read_43 : decode prog_1_method_4_code 43 = .ok (.getfield 37, 3) := by decide +kernel
theorem d_Eq_read_46 : decode prog_1_method_4_code 46 = .ok (.astore_n 2, 1) := by decide +kernel
theorem d_Eq_read_47 : decode prog_1_method_4_code 47 = .ok (.aload_n 0, 1) := by decide +kernel
theorem d_Eq_read_48 : decode prog_1_method_4_code 48 = .ok (.aload_n 0, 1) := by decide +kernel
theorem d_Eq_read_49 : decode prog_1_method_4_code 49 = .ok (.getfield 33, 3) := by decide +kernel
theorem d_Eq_read_52 : decode prog_1_method_4_code 52 = .ok (.putfield 37, 3) := by decide +kernel
theorem d_Eq_read_55 : decode prog_1_method_4_code 55 = .ok (.aload_n 0, 1) := by decide +kernel
theorem d_Eq_read_56 : decode prog_1_method_4_code 56 = .ok (.aload_n 2, 1) := by decide +kernel
theorem d_Eq_read_57 : decode prog_1_method_4_code 57 = .ok (.putfield 33, 3) := by decide +kernel
theorem d_Eq_read_60 : decode prog_1_method_4_code 60 = .ok (.aload_n 0, 1) := by decide +kernel
theorem d_Eq_read_61 : decode prog_1_method_4_code 61 = .ok (.getfield 33, 3) := by decide +kernel
theorem d_Eq_read_64 : decode prog_1_method_4_code 64 = .ok (.iconst 0, 1) := by decide +kernel
theorem d_Eq_read_65 : decode prog_1_method_4_code 65 = .ok (.invokevirtual 66, 3) := by decide +kernel
theorem d_Eq_read_68 : decode prog_1_method_4_code 68 = .ok (.iload_n 1, 1) := by decide +kernel
theorem d_Eq_read_69 : decode prog_1_method_4_code 69 = .ok (.ireturn, 1) := by decide +kernel
set_option maxHeartbeats 4000000 in
set_option maxRecDepth 100000 in
theorem c_Eq_read (l : Launch) (D : va_G) (cI cB cJ cS : ClassId) (h0 : Nat) (a_reader_h0 : Nat) (a_writer_h0 : Nat) (a_tree_h0 : Nat) (a_tape_h0 : Nat) (a_source_h0 : Nat) (a_form_h0 : Nat) (a_spareForm_h0 : Nat) (fad : Nat → Nat) (a_scanner_a_reader_h0 : Nat) (a_draft_a_reader_h0 : Nat) (a_waiting_a_reader_h0 : Nat) (a_functions_a_reader_h0 : Nat) (a_text_a_reader_h0 : Nat) (a_text_a_scanner_a_reader_h0 : Nat) (a_cells_a_draft_a_reader_h0 : Nat) (a_cells_a_waiting_a_reader_h0 : Nat) (a_cells_a_functions_a_reader_h0 : Nat) (a_bytes_a_tape_h0 : Nat) (a_cells_a_tree_h0 : Nat) (a_bytes_a_source_h0 : Nat) (fault_h0 : Int32) (fn : Nat) (fd : Nat) (fcf : Nat → FrC) (mode_a_reader_h0 : Int32) (levels_a_reader_h0 : Int32) (signs_a_reader_h0 : Int32) (loops_a_reader_h0 : Int32) (token_a_reader_h0 : Int32) (fault_a_reader_h0 : Int32) (kind_t : Int32) (place_t : Int32) (width_t : Int32) (second_t : Int32) (parts_t : Int32) (innerParts_t : Int32) (innerPlace_t : Int32) (innerWidth_t : Int32) (signs_t : Int32) (waitingBelow_t : Int32) (limited_t : Int32) (targets_t : Int32) (lastBlock_t : Int32) (next_a_scanner_a_reader_h0 : Int32) (kind_a_scanner_a_reader_h0 : Int32) (start_a_scanner_a_reader_h0 : Int32) (width_a_scanner_a_reader_h0 : Int32) (count_a_draft_a_reader_h0 : Int32) (count_a_waiting_a_reader_h0 : Int32) (count_a_functions_a_reader_h0 : Int32) (size_a_tape_h0 : Int32) (n_a_bytes_a_tape_h0 : Nat) (b_a_bytes_a_tape_h0 : Nat → Int32) (n_a_cells_a_draft_a_reader_h0 : Nat) (b_a_cells_a_draft_a_reader_h0 : Nat → Int32) (n_a_cells_a_waiting_a_reader_h0 : Nat) (b_a_cells_a_waiting_a_reader_h0 : Nat → Int32) (n_a_cells_a_functions_a_reader_h0 : Nat) (b_a_cells_a_functions_a_reader_h0 : Nat → Int32) (count_a_tree_h0 : Int32) (n_a_cells_a_tree_h0 : Nat) (b_a_cells_a_tree_h0 : Nat → Int32) (size_a_source_h0 : Int32) (on_p : Nat) (od_p : Nat) (ocf_p : Nat → FrC) (ret : Int32) (o_0_7 : Int32) (o_1_7 : Int32) (o_1_8 : Int32) (o_1_9 : Int32) (o_1_10 : Int32) (o_1_11 : Int32) (o_1_12 : Int32) (o_2_2 : Int32) (o_2_3 : Int32) (o_2_4 : Int32) (o_2_5 : Int32) (o_2_6 : Int32) (o_2_7 : Int32) (o_2_8 : Int32) (o_2_9 : Int32) (o_2_10 : Int32) (o_2_11 : Int32) (o_2_12 : Int32) (o_2_13 : Int32) (o_2_14 : Int32) (o_3_1 : Int32) (o_3_2 : Int32) (o_3_3 : Int32) (o_3_4 : Int32) (o_4_1 : Int32) (o_5_1 : Int32) (o_6_1 : Int32) (o_12_1 : Int32) (o_nq_0_3_1 : Int32) (o_nq_0_4_1 : Int32) (on_nq_4_0 : Nat) (ob_nq_4_0 : Nat → Int32) (on_nq_5_0 : Nat) (ob_nq_5_0 : Nat → Int32) (on_nq_6_0 : Nat) (ob_nq_6_0 : Nat → Int32) (on_nq_12_0 : Nat) (ob_nq_12_0 : Nat → Int32) (mc ms : Nat) (h : F_Eq_read fault_h0 fn fd fcf mode_a_reader_h0 levels_a_reader_h0 signs_a_reader_h0 loops_a_reader_h0 token_a_reader_h0 fault_a_reader_h0 kind_t place_t width_t second_t parts_t innerParts_t innerPlace_t innerWidth_t signs_t waitingBelow_t limited_t targets_t lastBlock_t next_a_scanner_a_reader_h0 kind_a_scanner_a_reader_h0 start_a_scanner_a_reader_h0 width_a_scanner_a_reader_h0 count_a_draft_a_reader_h0 count_a_waiting_a_reader_h0 count_a_functions_a_reader_h0 size_a_tape_h0 n_a_bytes_a_tape_h0 b_a_bytes_a_tape_h0 n_a_cells_a_draft_a_reader_h0 b_a_cells_a_draft_a_reader_h0 n_a_cells_a_waiting_a_reader_h0 b_a_cells_a_waiting_a_reader_h0 n_a_cells_a_functions_a_reader_h0 b_a_cells_a_functions_a_reader_h0 count_a_tree_h0 n_a_cells_a_tree_h0 b_a_cells_a_tree_h0 size_a_source_h0 = some ((on_p, od_p, ocf_p, ret, o_0_7, o_1_7, o_1_8, o_1_9, o_1_10, o_1_11, o_1_12, o_2_2, o_2_3, o_2_4, o_2_5, o_2_6, o_2_7, o_2_8, o_2_9, o_2_10, o_2_11, o_2_12, o_2_13, o_2_14, o_3_1, o_3_2, o_3_3, o_3_4, o_4_1, o_5_1, o_6_1, o_12_1, o_nq_0_3_1, o_nq_0_4_1, on_nq_4_0, ob_nq_4_0, on_nq_5_0, ob_nq_5_0, on_nq_6_0, ob_nq_6_0, on_nq_12_0, ob_nq_12_0), mc, ms)) : Ct l D (gT cI cB cJ cS) y_Eq_read prog_1_method_4_code 3 (Option.some Jvm.ClassFile.FieldType.int) 9 220 mc ms [.ref h0] ((h0, .inr (7, [.ref a_reader_h0, .ref a_writer_h0, .ref a_tree_h0, .ref a_tape_h0, .ref a_source_h0, .ref a_form_h0, .ref a_spareForm_h0, .int fault_h0])) :: (a_reader_h0, .inr (2, [.ref a_scanner_a_reader_h0, .ref a_draft_a_reader_h0, .ref a_waiting_a_reader_h0, .ref a_functions_a_reader_h0, .ref (fad 0), .ref (fad fd), .ref a_text_a_reader_h0, .int mode_a_reader_h0, .int levels_a_reader_h0, .int signs_a_reader_h0, .int loops_a_reader_h0, .int token_a_reader_h0, .int fault_a_reader_h0])) :: ((fad fd), .inr (0, [(frB fad fd), (frA fad fn fd), .int kind_t, .int place_t, .int width_t, .int second_t, .int parts_t, .int innerParts_t, .int innerPlace_t, .int innerWidth_t, .int signs_t, .int waitingBelow_t, .int limited_t, .int targets_t, .int lastBlock_t])) :: (a_scanner_a_reader_h0, .inr (4, [.ref a_text_a_scanner_a_reader_h0, .int next_a_scanner_a_reader_h0, .int kind_a_scanner_a_reader_h0, .int start_a_scanner_a_reader_h0, .int width_a_scanner_a_reader_h0])) :: (a_draft_a_reader_h0, .inr (1, [.ref a_cells_a_draft_a_reader_h0, .int count_a_draft_a_reader_h0])) :: (a_waiting_a_reader_h0, .inr (5, [.ref a_cells_a_waiting_a_reader_h0, .int count_a_waiting_a_reader_h0])) :: (a_functions_a_reader_h0, .inr (5, [.ref a_cells_a_functions_a_reader_h0, .int count_a_functions_a_reader_h0])) :: (a_tape_h0, .inr (3, [.ref a_bytes_a_tape_h0, .int size_a_tape_h0])) :: (a_bytes_a_tape_h0, .inl (cB, n_a_bytes_a_tape_h0, .inl b_a_bytes_a_tape_h0)) :: (a_cells_a_draft_a_reader_h0, .inl (cI, n_a_cells_a_draft_a_reader_h0, .inl b_a_cells_a_draft_a_reader_h0)) :: (a_cells_a_waiting_a_reader_h0, .inl (cI, n_a_cells_a_waiting_a_reader_h0, .inl b_a_cells_a_waiting_a_reader_h0)) :: (a_cells_a_functions_a_reader_h0, .inl (cI, n_a_cells_a_functions_a_reader_h0, .inl b_a_cells_a_functions_a_reader_h0)) :: (a_tree_h0, .inr (1, [.ref a_cells_a_tree_h0, .int count_a_tree_h0])) :: (a_cells_a_tree_h0, .inl (cI, n_a_cells_a_tree_h0, .inl b_a_cells_a_tree_h0)) :: (a_source_h0, .inr (3, [.ref a_bytes_a_source_h0, .int size_a_source_h0])) :: fpo fad fn fd fcf) (fun v w => ∃ nad : Nat → Nat, ∃ nq_0_3 : Nat, ∃ nq_0_4 : Nat, ∃ nq_4_0 : Nat, ∃ nq_5_0 : Nat, ∃ nq_6_0 : Nat, ∃ nq_12_0 : Nat, ∃ nq_nq_0_3_0 : Nat, ∃ nq_nq_0_4_0 : Nat, v = some (.int ret) ∧ w = ((h0, .inr (7, [.ref a_reader_h0, .ref a_writer_h0, .ref a_tree_h0, .ref nq_0_3, .ref nq_0_4, .ref a_form_h0, .ref a_spareForm_h0, .int o_0_7])) :: (a_reader_h0, .inr (2, [.ref a_scanner_a_reader_h0, .ref a_draft_a_reader_h0, .ref a_waiting_a_reader_h0, .ref a_functions_a_reader_h0, .ref (nad 0), .ref (nad od_p), .ref a_tape_h0, .int o_1_7, .int o_1_8, .int o_1_9, .int o_1_10, .int o_1_11, .int o_1_12])) :: ((nad od_p), .inr (0, [(frB nad od_p), (frA nad on_p od_p), .int o_2_2, .int o_2_3, .int o_2_4, .int o_2_5, .int o_2_6, .int o_2_7, .int o_2_8, .int o_2_9, .int o_2_10, .int o_2_11, .int o_2_12, .int o_2_13, .int o_2_14])) :: (a_scanner_a_reader_h0, .inr (4, [.ref a_tape_h0, .int o_3_1, .int o_3_2, .int o_3_3, .int o_3_4])) :: (a_draft_a_reader_h0, .inr (1, [.ref nq_4_0, .int o_4_1])) :: (a_waiting_a_reader_h0, .inr (5, [.ref nq_5_0, .int o_5_1])) :: (a_functions_a_reader_h0, .inr (5, [.ref nq_6_0, .int o_6_1])) :: (a_bytes_a_tape_h0, .inl (cB, n_a_bytes_a_tape_h0, .inl b_a_bytes_a_tape_h0)) :: (a_tree_h0, .inr (1, [.ref nq_12_0, .int o_12_1])) :: (nq_0_3, .inr (3, [.ref nq_nq_0_3_0, .int o_nq_0_3_1])) :: (nq_0_4, .inr (3, [.ref nq_nq_0_4_0, .int o_nq_0_4_1])) :: (nq_4_0, .inl (cI, on_nq_4_0, .inl ob_nq_4_0)) :: (nq_5_0, .inl (cI, on_nq_5_0, .inl ob_nq_5_0)) :: (nq_6_0, .inl (cI, on_nq_6_0, .inl ob_nq_6_0)) :: (nq_12_0, .inl (cI, on_nq_12_0, .inl ob_nq_12_0)) :: fpo nad on_p od_p ocf_p)) := by
  refine Ct.mk (by decide) (Nat.le_of_ble_eq_true rfl) ?_
  intro p e s m below meth c hr hnm
  refine j_norm (pc' := 0) (lv' := [(0, .ref h0)]) (st' := []) (ws' := ((h0, .inr (7, [.ref a_reader_h0, .ref a_writer_h0, .ref a_tree_h0, .ref a_tape_h0, .ref a_source_h0, .ref a_form_h0, .ref a_spareForm_h0, .int fault_h0])) :: (a_reader_h0, .inr (2, [.ref a_scanner_a_reader_h0, .ref a_draft_a_reader_h0, .ref a_waiting_a_reader_h0, .ref a_functions_a_reader_h0, .ref (fad 0), .ref (fad fd), .ref a_text_a_reader_h0, .int mode_a_reader_h0, .int levels_a_reader_h0, .int signs_a_reader_h0, .int loops_a_reader_h0, .int token_a_reader_h0, .int fault_a_reader_h0])) :: ((fad fd), .inr (0, [(frB fad fd), (frA fad fn fd), .int kind_t, .int place_t, .int width_t, .int second_t, .int parts_t, .int innerParts_t, .int innerPlace_t, .int innerWidth_t, .int signs_t, .int waitingBelow_t, .int limited_t, .int targets_t, .int lastBlock_t])) :: (a_scanner_a_reader_h0, .inr (4, [.ref a_text_a_scanner_a_reader_h0, .int next_a_scanner_a_reader_h0, .int kind_a_scanner_a_reader_h0, .int start_a_scanner_a_reader_h0, .int width_a_scanner_a_reader_h0])) :: (a_draft_a_reader_h0, .inr (1, [.ref a_cells_a_draft_a_reader_h0, .int count_a_draft_a_reader_h0])) :: (a_waiting_a_reader_h0, .inr (5, [.ref a_cells_a_waiting_a_reader_h0, .int count_a_waiting_a_reader_h0])) :: (a_functions_a_reader_h0, .inr (5, [.ref a_cells_a_functions_a_reader_h0, .int count_a_functions_a_reader_h0])) :: (a_tape_h0, .inr (3, [.ref a_bytes_a_tape_h0, .int size_a_tape_h0])) :: (a_bytes_a_tape_h0, .inl (cB, n_a_bytes_a_tape_h0, .inl b_a_bytes_a_tape_h0)) :: (a_cells_a_draft_a_reader_h0, .inl (cI, n_a_cells_a_draft_a_reader_h0, .inl b_a_cells_a_draft_a_reader_h0)) :: (a_cells_a_waiting_a_reader_h0, .inl (cI, n_a_cells_a_waiting_a_reader_h0, .inl b_a_cells_a_waiting_a_reader_h0)) :: (a_cells_a_functions_a_reader_h0, .inl (cI, n_a_cells_a_functions_a_reader_h0, .inl b_a_cells_a_functions_a_reader_h0)) :: (a_tree_h0, .inr (1, [.ref a_cells_a_tree_h0, .int count_a_tree_h0])) :: (a_cells_a_tree_h0, .inl (cI, n_a_cells_a_tree_h0, .inl b_a_cells_a_tree_h0)) :: (a_source_h0, .inr (3, [.ref a_bytes_a_source_h0, .int size_a_source_h0])) :: fpo fad fn fd fcf)) (cl' := 0) (sl' := 0) rfl rfl rfl rfl rfl rfl ?_
  unfold F_Eq_read at h
  have hC : 0 + mc ≤ mc := by omega
  have hS : 0 + ms ≤ ms := by omega
  refine j_aload_n d_Eq_read_0 rfl 0 rfl ?_
  refine j_get ig_Eq rfl 0 rfl 0 (by decide) rfl m_239 rfl d_Eq_read_1 ?_
  refine j_aload_n d_Eq_read_4 rfl 0 rfl ?_
  refine j_get ig_Eq rfl 0 rfl 3 (by decide) rfl m_242 rfl d_Eq_read_5 ?_
  replace h := bw_s h
  obtain ⟨⟨r1, r2, r3, r4, r5, r6, r7, r8, r9, r10, r11, r12, r13, r14, r15, r16, r17, r18, r19, r20, r21, r22, r23, r24, r25, r26, r27, r28, r29, r30, r31, r32, r33, r34, r35, r36⟩, C41, S42, C43, S44, k45, h, e1, e2⟩ := h
  replace hC : 0 + C41 + C43 ≤ mc := by omega
  replace hS : 0 + S42 + S44 ≤ ms := by omega
  clear e1 e2
  refine j_callVg (n := 1) (As := [.ref a_tape_h0]) (rest := []) (wr := [(h0, .inr (7, [.ref a_reader_h0, .ref a_writer_h0, .ref a_tree_h0, .ref a_tape_h0, .ref a_source_h0, .ref a_form_h0, .ref a_spareForm_h0, .int fault_h0])), (a_tree_h0, .inr (1, [.ref a_cells_a_tree_h0, .int count_a_tree_h0])), (a_cells_a_tree_h0, .inl (cI, n_a_cells_a_tree_h0, .inl b_a_cells_a_tree_h0)), (a_source_h0, .inr (3, [.ref a_bytes_a_source_h0, .int size_a_source_h0]))]) (c_Rd_take l D cI cB cJ cS a_reader_h0 a_tape_h0 fad a_scanner_a_reader_h0 a_draft_a_reader_h0 a_waiting_a_reader_h0 a_functions_a_reader_h0 a_text_a_reader_h0 a_text_a_scanner_a_reader_h0 a_cells_a_draft_a_reader_h0 a_cells_a_waiting_a_reader_h0 a_cells_a_functions_a_reader_h0 a_bytes_a_tape_h0 fn fd fcf mode_a_reader_h0 levels_a_reader_h0 signs_a_reader_h0 loops_a_reader_h0 token_a_reader_h0 fault_a_reader_h0 kind_t place_t width_t second_t parts_t innerParts_t innerPlace_t innerWidth_t signs_t waitingBelow_t limited_t targets_t lastBlock_t next_a_scanner_a_reader_h0 kind_a_scanner_a_reader_h0 start_a_scanner_a_reader_h0 width_a_scanner_a_reader_h0 count_a_draft_a_reader_h0 count_a_waiting_a_reader_h0 count_a_functions_a_reader_h0 size_a_tape_h0 n_a_bytes_a_tape_h0 b_a_bytes_a_tape_h0 n_a_cells_a_draft_a_reader_h0 b_a_cells_a_draft_a_reader_h0 n_a_cells_a_waiting_a_reader_h0 b_a_cells_a_waiting_a_reader_h0 n_a_cells_a_functions_a_reader_h0 b_a_cells_a_functions_a_reader_h0  r1 r2 r3 r4 r5 r6 r7 r8 r9 r10 r11 r12 r13 r14 r15 r16 r17 r18 r19 r20 r21 r22 r23 r24 r25 r26 r27 r28 r29 r30 r31 r32 r33 r34 r35 r36 C41 S42 k45) k_Eq_69 (by decide) ⟨Nat.le_of_ble_eq_true rfl, Nat.le_of_ble_eq_true rfl⟩ rfl 0 rfl (pk_app (wr := [(h0, .inr (7, [.ref a_reader_h0, .ref a_writer_h0, .ref a_tree_h0, .ref a_tape_h0, .ref a_source_h0, .ref a_form_h0, .ref a_spareForm_h0, .int fault_h0])), (a_tree_h0, .inr (1, [.ref a_cells_a_tree_h0, .int count_a_tree_h0])), (a_cells_a_tree_h0, .inl (cI, n_a_cells_a_tree_h0, .inl b_a_cells_a_tree_h0)), (a_source_h0, .inr (3, [.ref a_bytes_a_source_h0, .int size_a_source_h0]))]) (w0 := [(a_reader_h0, .inr (2, [.ref a_scanner_a_reader_h0, .ref a_draft_a_reader_h0, .ref a_waiting_a_reader_h0, .ref a_functions_a_reader_h0, .ref (fad 0), .ref (fad fd), .ref a_text_a_reader_h0, .int mode_a_reader_h0, .int levels_a_reader_h0, .int signs_a_reader_h0, .int loops_a_reader_h0, .int token_a_reader_h0, .int fault_a_reader_h0])), ((fad fd), .inr (0, [(frB fad fd), (frA fad fn fd), .int kind_t, .int place_t, .int width_t, .int second_t, .int parts_t, .int innerParts_t, .int innerPlace_t, .int innerWidth_t, .int signs_t, .int waitingBelow_t, .int limited_t, .int targets_t, .int lastBlock_t])), (a_scanner_a_reader_h0, .inr (4, [.ref a_text_a_scanner_a_reader_h0, .int next_a_scanner_a_reader_h0, .int kind_a_scanner_a_reader_h0, .int start_a_scanner_a_reader_h0, .int width_a_scanner_a_reader_h0])), (a_draft_a_reader_h0, .inr (1, [.ref a_cells_a_draft_a_reader_h0, .int count_a_draft_a_reader_h0])), (a_waiting_a_reader_h0, .inr (5, [.ref a_cells_a_waiting_a_reader_h0, .int count_a_waiting_a_reader_h0])), (a_functions_a_reader_h0, .inr (5, [.ref a_cells_a_functions_a_reader_h0, .int count_a_functions_a_reader_h0])), (a_tape_h0, .inr (3, [.ref a_bytes_a_tape_h0, .int size_a_tape_h0])), (a_bytes_a_tape_h0, .inl (cB, n_a_bytes_a_tape_h0, .inl b_a_bytes_a_tape_h0)), (a_cells_a_draft_a_reader_h0, .inl (cI, n_a_cells_a_draft_a_reader_h0, .inl b_a_cells_a_draft_a_reader_h0)), (a_cells_a_waiting_a_reader_h0, .inl (cI, n_a_cells_a_waiting_a_reader_h0, .inl b_a_cells_a_waiting_a_reader_h0)), (a_cells_a_functions_a_reader_h0, .inl (cI, n_a_cells_a_functions_a_reader_h0, .inl b_a_cells_a_functions_a_reader_h0))]) (pl := fpo fad fn fd fcf) [0, 12, 13, 14, 1, 2, 3, 4, 5, 6, 7, 8, 9, 10, 11] 15 rfl rfl rfl (by decide +kernel)) rfl rfl (Nat.le_of_ble_eq_true rfl) d_Eq_read_8 ⟨show 0 + C41 ≤ mc by omega, show 0 + S42 ≤ ms by omega⟩ (fun v w hq => ?_)
  obtain ⟨a37, q38, q39, q40, rfl, rfl⟩ := hq
  refine j_norm (pc' := 11) (st' := [.int r4]) (ws' := ((h0, .inr (7, [.ref a_reader_h0, .ref a_writer_h0, .ref a_tree_h0, .ref a_tape_h0, .ref a_source_h0, .ref a_form_h0, .ref a_spareForm_h0, .int fault_h0])) :: (a_tree_h0, .inr (1, [.ref a_cells_a_tree_h0, .int count_a_tree_h0])) :: (a_cells_a_tree_h0, .inl (cI, n_a_cells_a_tree_h0, .inl b_a_cells_a_tree_h0)) :: (a_source_h0, .inr (3, [.ref a_bytes_a_source_h0, .int size_a_source_h0])) :: (a_reader_h0, .inr (2, [.ref a_scanner_a_reader_h0, .ref a_draft_a_reader_h0, .ref a_waiting_a_reader_h0, .ref a_functions_a_reader_h0, .ref (a37 0), .ref (a37 r2), .ref a_tape_h0, .int r5, .int r6, .int r7, .int r8, .int r9, .int r10])) :: ((a37 r2), .inr (0, [(frB a37 r2), (frA a37 r1 r2), .int r11, .int r12, .int r13, .int r14, .int r15, .int r16, .int r17, .int r18, .int r19, .int r20, .int r21, .int r22, .int r23])) :: (a_scanner_a_reader_h0, .inr (4, [.ref a_tape_h0, .int r24, .int r25, .int r26, .int r27])) :: (a_draft_a_reader_h0, .inr (1, [.ref q38, .int r28])) :: (a_waiting_a_reader_h0, .inr (5, [.ref q39, .int r29])) :: (a_functions_a_reader_h0, .inr (5, [.ref q40, .int r30])) :: (a_tape_h0, .inr (3, [.ref a_bytes_a_tape_h0, .int size_a_tape_h0])) :: (a_bytes_a_tape_h0, .inl (cB, n_a_bytes_a_tape_h0, .inl b_a_bytes_a_tape_h0)) :: (q38, .inl (cI, r31, .inl r32)) :: (q39, .inl (cI, r33, .inl r34)) :: (q40, .inl (cI, r35, .inl r36)) :: fpo a37 r1 r2 r3)) (cl' := 0 + C41) (sl' := 0 + S42) rfl rfl rfl rfl rfl rfl ?_
  refine j_istore_n (lv' := [(1, .int r4), (0, .ref h0)]) d_Eq_read_11 rfl (by decide) rfl ?_
  refine j_aload_n d_Eq_read_12 rfl 1 rfl ?_
  refine j_aload_n d_Eq_read_13 rfl 1 rfl ?_
  refine j_get ig_Eq rfl 0 rfl 0 (by decide) rfl m_239 rfl d_Eq_read_14 ?_
  refine j_callVg (n := 0) (As := []) (rest := [.ref h0]) (wr := ([(h0, .inr (7, [.ref a_reader_h0, .ref a_writer_h0, .ref a_tree_h0, .ref a_tape_h0, .ref a_source_h0, .ref a_form_h0, .ref a_spareForm_h0, .int fault_h0])), (a_tree_h0, .inr (1, [.ref a_cells_a_tree_h0, .int count_a_tree_h0])), (a_cells_a_tree_h0, .inl (cI, n_a_cells_a_tree_h0, .inl b_a_cells_a_tree_h0)), (a_source_h0, .inr (3, [.ref a_bytes_a_source_h0, .int size_a_source_h0])), ((a37 r2), .inr (0, [(frB a37 r2), (frA a37 r1 r2), .int r11, .int r12, .int r13, .int r14, .int r15, .int r16, .int r17, .int r18, .int r19, .int r20, .int r21, .int r22, .int r23])), (a_scanner_a_reader_h0, .inr (4, [.ref a_tape_h0, .int r24, .int r25, .int r26, .int r27])), (a_draft_a_reader_h0, .inr (1, [.ref q38, .int r28])), (a_waiting_a_reader_h0, .inr (5, [.ref q39, .int r29])), (a_functions_a_reader_h0, .inr (5, [.ref q40, .int r30])), (a_tape_h0, .inr (3, [.ref a_bytes_a_tape_h0, .int size_a_tape_h0])), (a_bytes_a_tape_h0, .inl (cB, n_a_bytes_a_tape_h0, .inl b_a_bytes_a_tape_h0)), (q38, .inl (cI, r31, .inl r32)), (q39, .inl (cI, r33, .inl r34)), (q40, .inl (cI, r35, .inl r36))] ++ fpo a37 r1 r2 r3)) (c_Rd_fault l D cI cB cJ cS a_reader_h0 a_scanner_a_reader_h0 a_draft_a_reader_h0 a_waiting_a_reader_h0 a_functions_a_reader_h0 (a37 0) (a37 r2) a_tape_h0 r5 r6 r7 r8 r9 r10  ) k_Eq_73 (by decide) ⟨Nat.le_of_ble_eq_true rfl, Nat.le_of_ble_eq_true rfl⟩ rfl 0 rfl (pk_mid (wr := [(h0, .inr (7, [.ref a_reader_h0, .ref a_writer_h0, .ref a_tree_h0, .ref a_tape_h0, .ref a_source_h0, .ref a_form_h0, .ref a_spareForm_h0, .int fault_h0])), (a_tree_h0, .inr (1, [.ref a_cells_a_tree_h0, .int count_a_tree_h0])), (a_cells_a_tree_h0, .inl (cI, n_a_cells_a_tree_h0, .inl b_a_cells_a_tree_h0)), (a_source_h0, .inr (3, [.ref a_bytes_a_source_h0, .int size_a_source_h0])), ((a37 r2), .inr (0, [(frB a37 r2), (frA a37 r1 r2), .int r11, .int r12, .int r13, .int r14, .int r15, .int r16, .int r17, .int r18, .int r19, .int r20, .int r21, .int r22, .int r23])), (a_scanner_a_reader_h0, .inr (4, [.ref a_tape_h0, .int r24, .int r25, .int r26, .int r27])), (a_draft_a_reader_h0, .inr (1, [.ref q38, .int r28])), (a_waiting_a_reader_h0, .inr (5, [.ref q39, .int r29])), (a_functions_a_reader_h0, .inr (5, [.ref q40, .int r30])), (a_tape_h0, .inr (3, [.ref a_bytes_a_tape_h0, .int size_a_tape_h0])), (a_bytes_a_tape_h0, .inl (cB, n_a_bytes_a_tape_h0, .inl b_a_bytes_a_tape_h0)), (q38, .inl (cI, r31, .inl r32)), (q39, .inl (cI, r33, .inl r34)), (q40, .inl (cI, r35, .inl r36))]) (w0 := [(a_reader_h0, .inr (2, [.ref a_scanner_a_reader_h0, .ref a_draft_a_reader_h0, .ref a_waiting_a_reader_h0, .ref a_functions_a_reader_h0, .ref (a37 0), .ref (a37 r2), .ref a_tape_h0, .int r5, .int r6, .int r7, .int r8, .int r9, .int r10]))]) (pl := fpo a37 r1 r2 r3) [0, 1, 2, 3, 5, 6, 7, 8, 9, 10, 11, 12, 13, 14, 4] 15 rfl rfl (by decide +kernel)) rfl rfl (Nat.le_of_ble_eq_true rfl) d_Eq_read_17 ⟨show 0 + C41 + 0 ≤ mc by omega, show 0 + S42 + 0 ≤ ms by omega⟩ (fun v w hq => ?_)
  obtain ⟨rfl, rfl⟩ := hq
  refine j_perm (ws' := ((h0, .inr (7, [.ref a_reader_h0, .ref a_writer_h0, .ref a_tree_h0, .ref a_tape_h0, .ref a_source_h0, .ref a_form_h0, .ref a_spareForm_h0, .int fault_h0])) :: (a_tree_h0, .inr (1, [.ref a_cells_a_tree_h0, .int count_a_tree_h0])) :: (a_cells_a_tree_h0, .inl (cI, n_a_cells_a_tree_h0, .inl b_a_cells_a_tree_h0)) :: (a_source_h0, .inr (3, [.ref a_bytes_a_source_h0, .int size_a_source_h0])) :: ((a37 r2), .inr (0, [(frB a37 r2), (frA a37 r1 r2), .int r11, .int r12, .int r13, .int r14, .int r15, .int r16, .int r17, .int r18, .int r19, .int r20, .int r21, .int r22, .int r23])) :: (a_scanner_a_reader_h0, .inr (4, [.ref a_tape_h0, .int r24, .int r25, .int r26, .int r27])) :: (a_draft_a_reader_h0, .inr (1, [.ref q38, .int r28])) :: (a_waiting_a_reader_h0, .inr (5, [.ref q39, .int r29])) :: (a_functions_a_reader_h0, .inr (5, [.ref q40, .int r30])) :: (a_tape_h0, .inr (3, [.ref a_bytes_a_tape_h0, .int size_a_tape_h0])) :: (a_bytes_a_tape_h0, .inl (cB, n_a_bytes_a_tape_h0, .inl b_a_bytes_a_tape_h0)) :: (q38, .inl (cI, r31, .inl r32)) :: (q39, .inl (cI, r33, .inl r34)) :: (q40, .inl (cI, r35, .inl r36)) :: (a_reader_h0, .inr (2, [.ref a_scanner_a_reader_h0, .ref a_draft_a_reader_h0, .ref a_waiting_a_reader_h0, .ref a_functions_a_reader_h0, .ref (a37 0), .ref (a37 r2), .ref a_tape_h0, .int r5, .int r6, .int r7, .int r8, .int r9, .int r10])) :: fpo a37 r1 r2 r3)) (pm_eq (a := [(h0, .inr (7, [.ref a_reader_h0, .ref a_writer_h0, .ref a_tree_h0, .ref a_tape_h0, .ref a_source_h0, .ref a_form_h0, .ref a_spareForm_h0, .int fault_h0])), (a_tree_h0, .inr (1, [.ref a_cells_a_tree_h0, .int count_a_tree_h0])), (a_cells_a_tree_h0, .inl (cI, n_a_cells_a_tree_h0, .inl b_a_cells_a_tree_h0)), (a_source_h0, .inr (3, [.ref a_bytes_a_source_h0, .int size_a_source_h0])), ((a37 r2), .inr (0, [(frB a37 r2), (frA a37 r1 r2), .int r11, .int r12, .int r13, .int r14, .int r15, .int r16, .int r17, .int r18, .int r19, .int r20, .int r21, .int r22, .int r23])), (a_scanner_a_reader_h0, .inr (4, [.ref a_tape_h0, .int r24, .int r25, .int r26, .int r27])), (a_draft_a_reader_h0, .inr (1, [.ref q38, .int r28])), (a_waiting_a_reader_h0, .inr (5, [.ref q39, .int r29])), (a_functions_a_reader_h0, .inr (5, [.ref q40, .int r30])), (a_tape_h0, .inr (3, [.ref a_bytes_a_tape_h0, .int size_a_tape_h0])), (a_bytes_a_tape_h0, .inl (cB, n_a_bytes_a_tape_h0, .inl b_a_bytes_a_tape_h0)), (q38, .inl (cI, r31, .inl r32)), (q39, .inl (cI, r33, .inl r34)), (q40, .inl (cI, r35, .inl r36))]) (b := fpo a37 r1 r2 r3) (c := [(a_reader_h0, .inr (2, [.ref a_scanner_a_reader_h0, .ref a_draft_a_reader_h0, .ref a_waiting_a_reader_h0, .ref a_functions_a_reader_h0, .ref (a37 0), .ref (a37 r2), .ref a_tape_h0, .int r5, .int r6, .int r7, .int r8, .int r9, .int r10]))]) rfl) ?_
  refine j_norm (pc' := 20) (st' := [.int r10, .ref h0]) (ws' := ((h0, .inr (7, [.ref a_reader_h0, .ref a_writer_h0, .ref a_tree_h0, .ref a_tape_h0, .ref a_source_h0, .ref a_form_h0, .ref a_spareForm_h0, .int fault_h0])) :: (a_tree_h0, .inr (1, [.ref a_cells_a_tree_h0, .int count_a_tree_h0])) :: (a_cells_a_tree_h0, .inl (cI, n_a_cells_a_tree_h0, .inl b_a_cells_a_tree_h0)) :: (a_source_h0, .inr (3, [.ref a_bytes_a_source_h0, .int size_a_source_h0])) :: ((a37 r2), .inr (0, [(frB a37 r2), (frA a37 r1 r2), .int r11, .int r12, .int r13, .int r14, .int r15, .int r16, .int r17, .int r18, .int r19, .int r20, .int r21, .int r22, .int r23])) :: (a_scanner_a_reader_h0, .inr (4, [.ref a_tape_h0, .int r24, .int r25, .int r26, .int r27])) :: (a_draft_a_reader_h0, .inr (1, [.ref q38, .int r28])) :: (a_waiting_a_reader_h0, .inr (5, [.ref q39, .int r29])) :: (a_functions_a_reader_h0, .inr (5, [.ref q40, .int r30])) :: (a_tape_h0, .inr (3, [.ref a_bytes_a_tape_h0, .int size_a_tape_h0])) :: (a_bytes_a_tape_h0, .inl (cB, n_a_bytes_a_tape_h0, .inl b_a_bytes_a_tape_h0)) :: (q38, .inl (cI, r31, .inl r32)) :: (q39, .inl (cI, r33, .inl r34)) :: (q40, .inl (cI, r35, .inl r36)) :: (a_reader_h0, .inr (2, [.ref a_scanner_a_reader_h0, .ref a_draft_a_reader_h0, .ref a_waiting_a_reader_h0, .ref a_functions_a_reader_h0, .ref (a37 0), .ref (a37 r2), .ref a_tape_h0, .int r5, .int r6, .int r7, .int r8, .int r9, .int r10])) :: fpo a37 r1 r2 r3)) (cl' := 0 + C41) (sl' := 0 + S42) rfl rfl rfl rfl rfl rfl ?_
  refine j_put (ws' := ((h0, .inr (7, [.ref a_reader_h0, .ref a_writer_h0, .ref a_tree_h0, .ref a_tape_h0, .ref a_source_h0, .ref a_form_h0, .ref a_spareForm_h0, .int r10])) :: (a_tree_h0, .inr (1, [.ref a_cells_a_tree_h0, .int count_a_tree_h0])) :: (a_cells_a_tree_h0, .inl (cI, n_a_cells_a_tree_h0, .inl b_a_cells_a_tree_h0)) :: (a_source_h0, .inr (3, [.ref a_bytes_a_source_h0, .int size_a_source_h0])) :: ((a37 r2), .inr (0, [(frB a37 r2), (frA a37 r1 r2), .int r11, .int r12, .int r13, .int r14, .int r15, .int r16, .int r17, .int r18, .int r19, .int r20, .int r21, .int r22, .int r23])) :: (a_scanner_a_reader_h0, .inr (4, [.ref a_tape_h0, .int r24, .int r25, .int r26, .int r27])) :: (a_draft_a_reader_h0, .inr (1, [.ref q38, .int r28])) :: (a_waiting_a_reader_h0, .inr (5, [.ref q39, .int r29])) :: (a_functions_a_reader_h0, .inr (5, [.ref q40, .int r30])) :: (a_tape_h0, .inr (3, [.ref a_bytes_a_tape_h0, .int size_a_tape_h0])) :: (a_bytes_a_tape_h0, .inl (cB, n_a_bytes_a_tape_h0, .inl b_a_bytes_a_tape_h0)) :: (q38, .inl (cI, r31, .inl r32)) :: (q39, .inl (cI, r33, .inl r34)) :: (q40, .inl (cI, r35, .inl r36)) :: (a_reader_h0, .inr (2, [.ref a_scanner_a_reader_h0, .ref a_draft_a_reader_h0, .ref a_waiting_a_reader_h0, .ref a_functions_a_reader_h0, .ref (a37 0), .ref (a37 r2), .ref a_tape_h0, .int r5, .int r6, .int r7, .int r8, .int r9, .int r10])) :: fpo a37 r1 r2 r3)) ig_Eq tk_Eq nm_Eq rfl 0 rfl 7 (by decide) rfl m_246 rfl (tk_Eq 7 (by decide)) rfl rfl (Nat.le_of_ble_eq_true rfl) d_Eq_read_20 rfl ?_
  refine j_iload_n d_Eq_read_23 rfl 0 rfl ?_
  refine j_iconst (v := (-1)) d_Eq_read_24 (by decide) ?_
  refine j_icmp_eq (tgt := 60) d_Eq_read_25 (by decide) (fun c47 => ?_) (fun c47 => ?_)
  · replace h := it_t c47 h
    refine j_aload_n d_Eq_read_60 rfl 1 rfl ?_
    refine j_get ig_Eq rfl 0 rfl 3 (by decide) rfl m_242 rfl d_Eq_read_61 ?_
    refine j_iconst (v := 0) d_Eq_read_64 (by decide) ?_
    obtain ⟨r48, k49⟩ : ∃ z, (F_Rw_cut 0 size_a_tape_h0) = z := ⟨_, rfl⟩
    replace h := nm_at k49 h
    refine j_callVg (n := 1) (As := [.int 0]) (rest := []) (wr := ([(h0, .inr (7, [.ref a_reader_h0, .ref a_writer_h0, .ref a_tree_h0, .ref a_tape_h0, .ref a_source_h0, .ref a_form_h0, .ref a_spareForm_h0, .int r10])), (a_tree_h0, .inr (1, [.ref a_cells_a_tree_h0, .int count_a_tree_h0])), (a_cells_a_tree_h0, .inl (cI, n_a_cells_a_tree_h0, .inl b_a_cells_a_tree_h0)), (a_source_h0, .inr (3, [.ref a_bytes_a_source_h0, .int size_a_source_h0])), ((a37 r2), .inr (0, [(frB a37 r2), (frA a37 r1 r2), .int r11, .int r12, .int r13, .int r14, .int r15, .int r16, .int r17, .int r18, .int r19, .int r20, .int r21, .int r22, .int r23])), (a_scanner_a_reader_h0, .inr (4, [.ref a_tape_h0, .int r24, .int r25, .int r26, .int r27])), (a_draft_a_reader_h0, .inr (1, [.ref q38, .int r28])), (a_waiting_a_reader_h0, .inr (5, [.ref q39, .int r29])), (a_functions_a_reader_h0, .inr (5, [.ref q40, .int r30])), (a_bytes_a_tape_h0, .inl (cB, n_a_bytes_a_tape_h0, .inl b_a_bytes_a_tape_h0)), (q38, .inl (cI, r31, .inl r32)), (q39, .inl (cI, r33, .inl r34)), (q40, .inl (cI, r35, .inl r36)), (a_reader_h0, .inr (2, [.ref a_scanner_a_reader_h0, .ref a_draft_a_reader_h0, .ref a_waiting_a_reader_h0, .ref a_functions_a_reader_h0, .ref (a37 0), .ref (a37 r2), .ref a_tape_h0, .int r5, .int r6, .int r7, .int r8, .int r9, .int r10]))] ++ fpo a37 r1 r2 r3)) (c_Rw_cut l D cI cB cJ cS a_tape_h0 a_bytes_a_tape_h0 0 size_a_tape_h0  r48 k49) k_Eq_66 (by decide) ⟨Nat.le_of_ble_eq_true rfl, Nat.le_of_ble_eq_true rfl⟩ rfl 0 rfl (pk_mid (wr := [(h0, .inr (7, [.ref a_reader_h0, .ref a_writer_h0, .ref a_tree_h0, .ref a_tape_h0, .ref a_source_h0, .ref a_form_h0, .ref a_spareForm_h0, .int r10])), (a_tree_h0, .inr (1, [.ref a_cells_a_tree_h0, .int count_a_tree_h0])), (a_cells_a_tree_h0, .inl (cI, n_a_cells_a_tree_h0, .inl b_a_cells_a_tree_h0)), (a_source_h0, .inr (3, [.ref a_bytes_a_source_h0, .int size_a_source_h0])), ((a37 r2), .inr (0, [(frB a37 r2), (frA a37 r1 r2), .int r11, .int r12, .int r13, .int r14, .int r15, .int r16, .int r17, .int r18, .int r19, .int r20, .int r21, .int r22, .int r23])), (a_scanner_a_reader_h0, .inr (4, [.ref a_tape_h0, .int r24, .int r25, .int r26, .int r27])), (a_draft_a_reader_h0, .inr (1, [.ref q38, .int r28])), (a_waiting_a_reader_h0, .inr (5, [.ref q39, .int r29])), (a_functions_a_reader_h0, .inr (5, [.ref q40, .int r30])), (a_bytes_a_tape_h0, .inl (cB, n_a_bytes_a_tape_h0, .inl b_a_bytes_a_tape_h0)), (q38, .inl (cI, r31, .inl r32)), (q39, .inl (cI, r33, .inl r34)), (q40, .inl (cI, r35, .inl r36)), (a_reader_h0, .inr (2, [.ref a_scanner_a_reader_h0, .ref a_draft_a_reader_h0, .ref a_waiting_a_reader_h0, .ref a_functions_a_reader_h0, .ref (a37 0), .ref (a37 r2), .ref a_tape_h0, .int r5, .int r6, .int r7, .int r8, .int r9, .int r10]))]) (w0 := [(a_tape_h0, .inr (3, [.ref a_bytes_a_tape_h0, .int size_a_tape_h0]))]) (pl := fpo a37 r1 r2 r3) [0, 1, 2, 3, 4, 5, 6, 7, 8, 10, 11, 12, 13, 14, 9] 15 rfl rfl (by decide +kernel)) rfl rfl (Nat.le_of_ble_eq_true rfl) d_Eq_read_65 ⟨show 0 + C41 + 0 ≤ mc by omega, show 0 + S42 + 0 ≤ ms by omega⟩ (fun v w hq => ?_)
    obtain ⟨rfl, rfl⟩ := hq
    refine j_perm (ws' := ((h0, .inr (7, [.ref a_reader_h0, .ref a_writer_h0, .ref a_tree_h0, .ref a_tape_h0, .ref a_source_h0, .ref a_form_h0, .ref a_spareForm_h0, .int r10])) :: (a_tree_h0, .inr (1, [.ref a_cells_a_tree_h0, .int count_a_tree_h0])) :: (a_cells_a_tree_h0, .inl (cI, n_a_cells_a_tree_h0, .inl b_a_cells_a_tree_h0)) :: (a_source_h0, .inr (3, [.ref a_bytes_a_source_h0, .int size_a_source_h0])) :: ((a37 r2), .inr (0, [(frB a37 r2), (frA a37 r1 r2), .int r11, .int r12, .int r13, .int r14, .int r15, .int r16, .int r17, .int r18, .int r19, .int r20, .int r21, .int r22, .int r23])) :: (a_scanner_a_reader_h0, .inr (4, [.ref a_tape_h0, .int r24, .int r25, .int r26, .int r27])) :: (a_draft_a_reader_h0, .inr (1, [.ref q38, .int r28])) :: (a_waiting_a_reader_h0, .inr (5, [.ref q39, .int r29])) :: (a_functions_a_reader_h0, .inr (5, [.ref q40, .int r30])) :: (a_bytes_a_tape_h0, .inl (cB, n_a_bytes_a_tape_h0, .inl b_a_bytes_a_tape_h0)) :: (q38, .inl (cI, r31, .inl r32)) :: (q39, .inl (cI, r33, .inl r34)) :: (q40, .inl (cI, r35, .inl r36)) :: (a_reader_h0, .inr (2, [.ref a_scanner_a_reader_h0, .ref a_draft_a_reader_h0, .ref a_waiting_a_reader_h0, .ref a_functions_a_reader_h0, .ref (a37 0), .ref (a37 r2), .ref a_tape_h0, .int r5, .int r6, .int r7, .int r8, .int r9, .int r10])) :: (a_tape_h0, .inr (3, [.ref a_bytes_a_tape_h0, .int r48])) :: fpo a37 r1 r2 r3)) (pm_eq (a := [(h0, .inr (7, [.ref a_reader_h0, .ref a_writer_h0, .ref a_tree_h0, .ref a_tape_h0, .ref a_source_h0, .ref a_form_h0, .ref a_spareForm_h0, .int r10])), (a_tree_h0, .inr (1, [.ref a_cells_a_tree_h0, .int count_a_tree_h0])), (a_cells_a_tree_h0, .inl (cI, n_a_cells_a_tree_h0, .inl b_a_cells_a_tree_h0)), (a_source_h0, .inr (3, [.ref a_bytes_a_source_h0, .int size_a_source_h0])), ((a37 r2), .inr (0, [(frB a37 r2), (frA a37 r1 r2), .int r11, .int r12, .int r13, .int r14, .int r15, .int r16, .int r17, .int r18, .int r19, .int r20, .int r21, .int r22, .int r23])), (a_scanner_a_reader_h0, .inr (4, [.ref a_tape_h0, .int r24, .int r25, .int r26, .int r27])), (a_draft_a_reader_h0, .inr (1, [.ref q38, .int r28])), (a_waiting_a_reader_h0, .inr (5, [.ref q39, .int r29])), (a_functions_a_reader_h0, .inr (5, [.ref q40, .int r30])), (a_bytes_a_tape_h0, .inl (cB, n_a_bytes_a_tape_h0, .inl b_a_bytes_a_tape_h0)), (q38, .inl (cI, r31, .inl r32)), (q39, .inl (cI, r33, .inl r34)), (q40, .inl (cI, r35, .inl r36)), (a_reader_h0, .inr (2, [.ref a_scanner_a_reader_h0, .ref a_draft_a_reader_h0, .ref a_waiting_a_reader_h0, .ref a_functions_a_reader_h0, .ref (a37 0), .ref (a37 r2), .ref a_tape_h0, .int r5, .int r6, .int r7, .int r8, .int r9, .int r10]))]) (b := fpo a37 r1 r2 r3) (c := [(a_tape_h0, .inr (3, [.ref a_bytes_a_tape_h0, .int r48]))]) rfl) ?_
    refine j_norm (pc' := 68) (st' := []) (ws' := ((h0, .inr (7, [.ref a_reader_h0, .ref a_writer_h0, .ref a_tree_h0, .ref a_tape_h0, .ref a_source_h0, .ref a_form_h0, .ref a_spareForm_h0, .int r10])) :: (a_tree_h0, .inr (1, [.ref a_cells_a_tree_h0, .int count_a_tree_h0])) :: (a_cells_a_tree_h0, .inl (cI, n_a_cells_a_tree_h0, .inl b_a_cells_a_tree_h0)) :: (a_source_h0, .inr (3, [.ref a_bytes_a_source_h0, .int size_a_source_h0])) :: ((a37 r2), .inr (0, [(frB a37 r2), (frA a37 r1 r2), .int r11, .int r12, .int r13, .int r14, .int r15, .int r16, .int r17, .int r18, .int r19, .int r20, .int r21, .int r22, .int r23])) :: (a_scanner_a_reader_h0, .inr (4, [.ref a_tape_h0, .int r24, .int r25, .int r26, .int r27])) :: (a_draft_a_reader_h0, .inr (1, [.ref q38, .int r28])) :: (a_waiting_a_reader_h0, .inr (5, [.ref q39, .int r29])) :: (a_functions_a_reader_h0, .inr (5, [.ref q40, .int r30])) :: (a_bytes_a_tape_h0, .inl (cB, n_a_bytes_a_tape_h0, .inl b_a_bytes_a_tape_h0)) :: (q38, .inl (cI, r31, .inl r32)) :: (q39, .inl (cI, r33, .inl r34)) :: (q40, .inl (cI, r35, .inl r36)) :: (a_reader_h0, .inr (2, [.ref a_scanner_a_reader_h0, .ref a_draft_a_reader_h0, .ref a_waiting_a_reader_h0, .ref a_functions_a_reader_h0, .ref (a37 0), .ref (a37 r2), .ref a_tape_h0, .int r5, .int r6, .int r7, .int r8, .int r9, .int r10])) :: (a_tape_h0, .inr (3, [.ref a_bytes_a_tape_h0, .int r48])) :: fpo a37 r1 r2 r3)) (cl' := 0 + C41) (sl' := 0 + S42) rfl rfl rfl rfl rfl rfl ?_
    refine j_iload_n d_Eq_read_68 rfl 0 rfl ?_
    replace h := lf_s h
    obtain ⟨h, e1, e2⟩ := h
    replace h := Prod.mk.inj h
    obtain ⟨h9, h⟩ := h
    subst h9
    replace h := Prod.mk.inj h
    obtain ⟨h9, h⟩ := h
    subst h9
    replace h := Prod.mk.inj h
    obtain ⟨h9, h⟩ := h
    subst h9
    replace h := Prod.mk.inj h
    obtain ⟨h9, h⟩ := h
    subst h9
    replace h := Prod.mk.inj h
    obtain ⟨h9, h⟩ := h
    subst h9
    replace h := Prod.mk.inj h
    obtain ⟨h9, h⟩ := h
    subst h9
    replace h := Prod.mk.inj h
    obtain ⟨h9, h⟩ := h
    subst h9
    replace h := Prod.mk.inj h
    obtain ⟨h9, h⟩ := h
    subst h9
    replace h := Prod.mk.inj h
    obtain ⟨h9, h⟩ := h
    subst h9
    replace h := Prod.mk.inj h
    obtain ⟨h9, h⟩ := h
    subst h9
    replace h := Prod.mk.inj h
    obtain ⟨h9, h⟩ := h
    subst h9
    replace h := Prod.mk.inj h
    obtain ⟨h9, h⟩ := h
    subst h9
    replace h := Prod.mk.inj h
    obtain ⟨h9, h⟩ := h
    subst h9
    replace h := Prod.mk.inj h
    obtain ⟨h9, h⟩ := h
    subst h9
    replace h := Prod.mk.inj h
    obtain ⟨h9, h⟩ := h
    subst h9
    replace h := Prod.mk.inj h
    obtain ⟨h9, h⟩ := h
    subst h9
    replace h := Prod.mk.inj h
    obtain ⟨h9, h⟩ := h
    subst h9
    replace h := Prod.mk.inj h
    obtain ⟨h9, h⟩ := h
    subst h9
    replace h := Prod.mk.inj h
    obtain ⟨h9, h⟩ := h
    subst h9
    replace h := Prod.mk.inj h
    obtain ⟨h9, h⟩ := h
    subst h9
    replace h := Prod.mk.inj h
    obtain ⟨h9, h⟩ := h
    subst h9
    replace h := Prod.mk.inj h
    obtain ⟨h9, h⟩ := h
    subst h9
    replace h := Prod.mk.inj h
    obtain ⟨h9, h⟩ := h
    subst h9
    replace h := Prod.mk.inj h
    obtain ⟨h9, h⟩ := h
    subst h9
    replace h := Prod.mk.inj h
    obtain ⟨h9, h⟩ := h
    subst h9
    replace h := Prod.mk.inj h
    obtain ⟨h9, h⟩ := h
    subst h9
    replace h := Prod.mk.inj h
    obtain ⟨h9, h⟩ := h
    subst h9
    replace h := Prod.mk.inj h
    obtain ⟨h9, h⟩ := h
    subst h9
    replace h := Prod.mk.inj h
    obtain ⟨h9, h⟩ := h
    subst h9
    replace h := Prod.mk.inj h
    obtain ⟨h9, h⟩ := h
    subst h9
    replace h := Prod.mk.inj h
    obtain ⟨h9, h⟩ := h
    subst h9
    replace h := Prod.mk.inj h
    obtain ⟨h9, h⟩ := h
    subst h9
    replace h := Prod.mk.inj h
    obtain ⟨h9, h⟩ := h
    subst h9
    replace h := Prod.mk.inj h
    obtain ⟨h9, h⟩ := h
    subst h9
    replace h := Prod.mk.inj h
    obtain ⟨h9, h⟩ := h
    subst h9
    replace h := Prod.mk.inj h
    obtain ⟨h9, h⟩ := h
    subst h9
    replace h := Prod.mk.inj h
    obtain ⟨h9, h⟩ := h
    subst h9
    replace h := Prod.mk.inj h
    obtain ⟨h9, h⟩ := h
    subst h9
    replace h := Prod.mk.inj h
    obtain ⟨h9, h⟩ := h
    subst h9
    replace h := Prod.mk.inj h
    obtain ⟨h9, h⟩ := h
    subst h9
    replace h := Prod.mk.inj h
    obtain ⟨h9, h⟩ := h
    subst h9
    subst h
    refine j_widen (cl' := mc) (sl' := ms) (by omega) (by omega) ?_
    refine j_subP (w := [(h0, .inr (7, [.ref a_reader_h0, .ref a_writer_h0, .ref a_tree_h0, .ref a_tape_h0, .ref a_source_h0, .ref a_form_h0, .ref a_spareForm_h0, .int r10])), (a_reader_h0, .inr (2, [.ref a_scanner_a_reader_h0, .ref a_draft_a_reader_h0, .ref a_waiting_a_reader_h0, .ref a_functions_a_reader_h0, .ref (a37 0), .ref (a37 r2), .ref a_tape_h0, .int r5, .int r6, .int r7, .int r8, .int r9, .int r10])), ((a37 r2), .inr (0, [(frB a37 r2), (frA a37 r1 r2), .int r11, .int r12, .int r13, .int r14, .int r15, .int r16, .int r17, .int r18, .int r19, .int r20, .int r21, .int r22, .int r23])), (a_scanner_a_reader_h0, .inr (4, [.ref a_tape_h0, .int r24, .int r25, .int r26, .int r27])), (a_draft_a_reader_h0, .inr (1, [.ref q38, .int r28])), (a_waiting_a_reader_h0, .inr (5, [.ref q39, .int r29])), (a_functions_a_reader_h0, .inr (5, [.ref q40, .int r30])), (a_bytes_a_tape_h0, .inl (cB, n_a_bytes_a_tape_h0, .inl b_a_bytes_a_tape_h0)), (a_tree_h0, .inr (1, [.ref a_cells_a_tree_h0, .int count_a_tree_h0])), (a_tape_h0, .inr (3, [.ref a_bytes_a_tape_h0, .int r48])), (a_source_h0, .inr (3, [.ref a_bytes_a_source_h0, .int size_a_source_h0])), (q38, .inl (cI, r31, .inl r32)), (q39, .inl (cI, r33, .inl r34)), (q40, .inl (cI, r35, .inl r36)), (a_cells_a_tree_h0, .inl (cI, n_a_cells_a_tree_h0, .inl b_a_cells_a_tree_h0))]) (pl := fpo a37 r1 r2 r3) (lv' := []) [0, 13, 4, 5, 6, 7, 8, 9, 1, 14, 3, 10, 11, 12, 2] [] 15 rfl rfl (by decide) [] rfl ?_
    exact j_iretE hr d_Eq_read_69 ⟨a37, a_tape_h0, a_source_h0, q38, q39, q40, a_cells_a_tree_h0, a_bytes_a_tape_h0, a_bytes_a_source_h0, rfl, rfl⟩
  · replace h := it_f c47 h
    refine j_aload_n d_Eq_read_28 rfl 1 rfl ?_
    refine j_get ig_Eq rfl 0 rfl 2 (by decide) rfl m_241 rfl d_Eq_read_29 ?_
    refine j_aload_n d_Eq_read_32 rfl 1 rfl ?_
    refine j_get ig_Eq rfl 0 rfl 0 (by decide) rfl m_239 rfl d_Eq_read_33 ?_
    refine j_callVg (n := 0) (As := []) (rest := [.ref a_tree_h0]) (wr := ([(h0, .inr (7, [.ref a_reader_h0, .ref a_writer_h0, .ref a_tree_h0, .ref a_tape_h0, .ref a_source_h0, .ref a_form_h0, .ref a_spareForm_h0, .int r10])), (a_tree_h0, .inr (1, [.ref a_cells_a_tree_h0, .int count_a_tree_h0])), (a_cells_a_tree_h0, .inl (cI, n_a_cells_a_tree_h0, .inl b_a_cells_a_tree_h0)), (a_source_h0, .inr (3, [.ref a_bytes_a_source_h0, .int size_a_source_h0])), ((a37 r2), .inr (0, [(frB a37 r2), (frA a37 r1 r2), .int r11, .int r12, .int r13, .int r14, .int r15, .int r16, .int r17, .int r18, .int r19, .int r20, .int r21, .int r22, .int r23])), (a_scanner_a_reader_h0, .inr (4, [.ref a_tape_h0, .int r24, .int r25, .int r26, .int r27])), (a_draft_a_reader_h0, .inr (1, [.ref q38, .int r28])), (a_waiting_a_reader_h0, .inr (5, [.ref q39, .int r29])), (a_functions_a_reader_h0, .inr (5, [.ref q40, .int r30])), (a_tape_h0, .inr (3, [.ref a_bytes_a_tape_h0, .int size_a_tape_h0])), (a_bytes_a_tape_h0, .inl (cB, n_a_bytes_a_tape_h0, .inl b_a_bytes_a_tape_h0)), (q38, .inl (cI, r31, .inl r32)), (q39, .inl (cI, r33, .inl r34)), (q40, .inl (cI, r35, .inl r36))] ++ fpo a37 r1 r2 r3)) (c_Rd_draft l D cI cB cJ cS a_reader_h0 a_scanner_a_reader_h0 a_draft_a_reader_h0 a_waiting_a_reader_h0 a_functions_a_reader_h0 (a37 0) (a37 r2) a_tape_h0 r5 r6 r7 r8 r9 r10  ) k_Eq_75 (by decide) ⟨Nat.le_of_ble_eq_true rfl, Nat.le_of_ble_eq_true rfl⟩ rfl 0 rfl (pk_mid (wr := [(h0, .inr (7, [.ref a_reader_h0, .ref a_writer_h0, .ref a_tree_h0, .ref a_tape_h0, .ref a_source_h0, .ref a_form_h0, .ref a_spareForm_h0, .int r10])), (a_tree_h0, .inr (1, [.ref a_cells_a_tree_h0, .int count_a_tree_h0])), (a_cells_a_tree_h0, .inl (cI, n_a_cells_a_tree_h0, .inl b_a_cells_a_tree_h0)), (a_source_h0, .inr (3, [.ref a_bytes_a_source_h0, .int size_a_source_h0])), ((a37 r2), .inr (0, [(frB a37 r2), (frA a37 r1 r2), .int r11, .int r12, .int r13, .int r14, .int r15, .int r16, .int r17, .int r18, .int r19, .int r20, .int r21, .int r22, .int r23])), (a_scanner_a_reader_h0, .inr (4, [.ref a_tape_h0, .int r24, .int r25, .int r26, .int r27])), (a_draft_a_reader_h0, .inr (1, [.ref q38, .int r28])), (a_waiting_a_reader_h0, .inr (5, [.ref q39, .int r29])), (a_functions_a_reader_h0, .inr (5, [.ref q40, .int r30])), (a_tape_h0, .inr (3, [.ref a_bytes_a_tape_h0, .int size_a_tape_h0])), (a_bytes_a_tape_h0, .inl (cB, n_a_bytes_a_tape_h0, .inl b_a_bytes_a_tape_h0)), (q38, .inl (cI, r31, .inl r32)), (q39, .inl (cI, r33, .inl r34)), (q40, .inl (cI, r35, .inl r36))]) (w0 := [(a_reader_h0, .inr (2, [.ref a_scanner_a_reader_h0, .ref a_draft_a_reader_h0, .ref a_waiting_a_reader_h0, .ref a_functions_a_reader_h0, .ref (a37 0), .ref (a37 r2), .ref a_tape_h0, .int r5, .int r6, .int r7, .int r8, .int r9, .int r10]))]) (pl := fpo a37 r1 r2 r3) [0, 1, 2, 3, 4, 5, 6, 7, 8, 9, 10, 11, 12, 13, 14] 15 rfl rfl (by decide +kernel)) rfl rfl (Nat.le_of_ble_eq_true rfl) d_Eq_read_36 ⟨show 0 + C41 + 0 ≤ mc by omega, show 0 + S42 + 0 ≤ ms by omega⟩ (fun v w hq => ?_)
    obtain ⟨rfl, rfl⟩ := hq
    refine j_perm (ws' := ((h0, .inr (7, [.ref a_reader_h0, .ref a_writer_h0, .ref a_tree_h0, .ref a_tape_h0, .ref a_source_h0, .ref a_form_h0, .ref a_spareForm_h0, .int r10])) :: (a_tree_h0, .inr (1, [.ref a_cells_a_tree_h0, .int count_a_tree_h0])) :: (a_cells_a_tree_h0, .inl (cI, n_a_cells_a_tree_h0, .inl b_a_cells_a_tree_h0)) :: (a_source_h0, .inr (3, [.ref a_bytes_a_source_h0, .int size_a_source_h0])) :: ((a37 r2), .inr (0, [(frB a37 r2), (frA a37 r1 r2), .int r11, .int r12, .int r13, .int r14, .int r15, .int r16, .int r17, .int r18, .int r19, .int r20, .int r21, .int r22, .int r23])) :: (a_scanner_a_reader_h0, .inr (4, [.ref a_tape_h0, .int r24, .int r25, .int r26, .int r27])) :: (a_draft_a_reader_h0, .inr (1, [.ref q38, .int r28])) :: (a_waiting_a_reader_h0, .inr (5, [.ref q39, .int r29])) :: (a_functions_a_reader_h0, .inr (5, [.ref q40, .int r30])) :: (a_tape_h0, .inr (3, [.ref a_bytes_a_tape_h0, .int size_a_tape_h0])) :: (a_bytes_a_tape_h0, .inl (cB, n_a_bytes_a_tape_h0, .inl b_a_bytes_a_tape_h0)) :: (q38, .inl (cI, r31, .inl r32)) :: (q39, .inl (cI, r33, .inl r34)) :: (q40, .inl (cI, r35, .inl r36)) :: (a_reader_h0, .inr (2, [.ref a_scanner_a_reader_h0, .ref a_draft_a_reader_h0, .ref a_waiting_a_reader_h0, .ref a_functions_a_reader_h0, .ref (a37 0), .ref (a37 r2), .ref a_tape_h0, .int r5, .int r6, .int r7, .int r8, .int r9, .int r10])) :: fpo a37 r1 r2 r3)) (pm_eq (a := [(h0, .inr (7, [.ref a_reader_h0, .ref a_writer_h0, .ref a_tree_h0, .ref a_tape_h0, .ref a_source_h0, .ref a_form_h0, .ref a_spareForm_h0, .int r10])), (a_tree_h0, .inr (1, [.ref a_cells_a_tree_h0, .int count_a_tree_h0])), (a_cells_a_tree_h0, .inl (cI, n_a_cells_a_tree_h0, .inl b_a_cells_a_tree_h0)), (a_source_h0, .inr (3, [.ref a_bytes_a_source_h0, .int size_a_source_h0])), ((a37 r2), .inr (0, [(frB a37 r2), (frA a37 r1 r2), .int r11, .int r12, .int r13, .int r14, .int r15, .int r16, .int r17, .int r18, .int r19, .int r20, .int r21, .int r22, .int r23])), (a_scanner_a_reader_h0, .inr (4, [.ref a_tape_h0, .int r24, .int r25, .int r26, .int r27])), (a_draft_a_reader_h0, .inr (1, [.ref q38, .int r28])), (a_waiting_a_reader_h0, .inr (5, [.ref q39, .int r29])), (a_functions_a_reader_h0, .inr (5, [.ref q40, .int r30])), (a_tape_h0, .inr (3, [.ref a_bytes_a_tape_h0, .int size_a_tape_h0])), (a_bytes_a_tape_h0, .inl (cB, n_a_bytes_a_tape_h0, .inl b_a_bytes_a_tape_h0)), (q38, .inl (cI, r31, .inl r32)), (q39, .inl (cI, r33, .inl r34)), (q40, .inl (cI, r35, .inl r36))]) (b := fpo a37 r1 r2 r3) (c := [(a_reader_h0, .inr (2, [.ref a_scanner_a_reader_h0, .ref a_draft_a_reader_h0, .ref a_waiting_a_reader_h0, .ref a_functions_a_reader_h0, .ref (a37 0), .ref (a37 r2), .ref a_tape_h0, .int r5, .int r6, .int r7, .int r8, .int r9, .int r10]))]) rfl) ?_
    refine j_norm (pc' := 39) (st' := [.ref a_draft_a_reader_h0, .ref a_tree_h0]) (ws' := ((h0, .inr (7, [.ref a_reader_h0, .ref a_writer_h0, .ref a_tree_h0, .ref a_tape_h0, .ref a_source_h0, .ref a_form_h0, .ref a_spareForm_h0, .int r10])) :: (a_tree_h0, .inr (1, [.ref a_cells_a_tree_h0, .int count_a_tree_h0])) :: (a_cells_a_tree_h0, .inl (cI, n_a_cells_a_tree_h0, .inl b_a_cells_a_tree_h0)) :: (a_source_h0, .inr (3, [.ref a_bytes_a_source_h0, .int size_a_source_h0])) :: ((a37 r2), .inr (0, [(frB a37 r2), (frA a37 r1 r2), .int r11, .int r12, .int r13, .int r14, .int r15, .int r16, .int r17, .int r18, .int r19, .int r20, .int r21, .int r22, .int r23])) :: (a_scanner_a_reader_h0, .inr (4, [.ref a_tape_h0, .int r24, .int r25, .int r26, .int r27])) :: (a_draft_a_reader_h0, .inr (1, [.ref q38, .int r28])) :: (a_waiting_a_reader_h0, .inr (5, [.ref q39, .int r29])) :: (a_functions_a_reader_h0, .inr (5, [.ref q40, .int r30])) :: (a_tape_h0, .inr (3, [.ref a_bytes_a_tape_h0, .int size_a_tape_h0])) :: (a_bytes_a_tape_h0, .inl (cB, n_a_bytes_a_tape_h0, .inl b_a_bytes_a_tape_h0)) :: (q38, .inl (cI, r31, .inl r32)) :: (q39, .inl (cI, r33, .inl r34)) :: (q40, .inl (cI, r35, .inl r36)) :: (a_reader_h0, .inr (2, [.ref a_scanner_a_reader_h0, .ref a_draft_a_reader_h0, .ref a_waiting_a_reader_h0, .ref a_functions_a_reader_h0, .ref (a37 0), .ref (a37 r2), .ref a_tape_h0, .int r5, .int r6, .int r7, .int r8, .int r9, .int r10])) :: fpo a37 r1 r2 r3)) (cl' := 0 + C41) (sl' := 0 + S42) rfl rfl rfl rfl rfl rfl ?_
    replace h := bw_s h
    obtain ⟨⟨r51, r52, r53, r54⟩, C56, S57, C58, S59, k60, h, e1, e2⟩ := h
    replace hC : 0 + C41 + C56 + C58 ≤ mc := by omega
    replace hS : 0 + S42 + S57 + S59 ≤ ms := by omega
    clear e1 e2
    refine j_callVg (n := 1) (As := [.ref a_draft_a_reader_h0]) (rest := []) (wr := ([(h0, .inr (7, [.ref a_reader_h0, .ref a_writer_h0, .ref a_tree_h0, .ref a_tape_h0, .ref a_source_h0, .ref a_form_h0, .ref a_spareForm_h0, .int r10])), (a_source_h0, .inr (3, [.ref a_bytes_a_source_h0, .int size_a_source_h0])), ((a37 r2), .inr (0, [(frB a37 r2), (frA a37 r1 r2), .int r11, .int r12, .int r13, .int r14, .int r15, .int r16, .int r17, .int r18, .int r19, .int r20, .int r21, .int r22, .int r23])), (a_scanner_a_reader_h0, .inr (4, [.ref a_tape_h0, .int r24, .int r25, .int r26, .int r27])), (a_waiting_a_reader_h0, .inr (5, [.ref q39, .int r29])), (a_functions_a_reader_h0, .inr (5, [.ref q40, .int r30])), (a_tape_h0, .inr (3, [.ref a_bytes_a_tape_h0, .int size_a_tape_h0])), (a_bytes_a_tape_h0, .inl (cB, n_a_bytes_a_tape_h0, .inl b_a_bytes_a_tape_h0)), (q39, .inl (cI, r33, .inl r34)), (q40, .inl (cI, r35, .inl r36)), (a_reader_h0, .inr (2, [.ref a_scanner_a_reader_h0, .ref a_draft_a_reader_h0, .ref a_waiting_a_reader_h0, .ref a_functions_a_reader_h0, .ref (a37 0), .ref (a37 r2), .ref a_tape_h0, .int r5, .int r6, .int r7, .int r8, .int r9, .int r10]))] ++ fpo a37 r1 r2 r3)) (c_Nd_arrange l D cI cB cJ cS a_tree_h0 a_draft_a_reader_h0 a_cells_a_tree_h0 q38 count_a_tree_h0 r28 r31 r32 n_a_cells_a_tree_h0 b_a_cells_a_tree_h0  r51 r52 r53 r54 C56 S57 k60) k_Eq_79 (by decide) ⟨Nat.le_of_ble_eq_true rfl, Nat.le_of_ble_eq_true rfl⟩ rfl 0 rfl (pk_mid (wr := [(h0, .inr (7, [.ref a_reader_h0, .ref a_writer_h0, .ref a_tree_h0, .ref a_tape_h0, .ref a_source_h0, .ref a_form_h0, .ref a_spareForm_h0, .int r10])), (a_source_h0, .inr (3, [.ref a_bytes_a_source_h0, .int size_a_source_h0])), ((a37 r2), .inr (0, [(frB a37 r2), (frA a37 r1 r2), .int r11, .int r12, .int r13, .int r14, .int r15, .int r16, .int r17, .int r18, .int r19, .int r20, .int r21, .int r22, .int r23])), (a_scanner_a_reader_h0, .inr (4, [.ref a_tape_h0, .int r24, .int r25, .int r26, .int r27])), (a_waiting_a_reader_h0, .inr (5, [.ref q39, .int r29])), (a_functions_a_reader_h0, .inr (5, [.ref q40, .int r30])), (a_tape_h0, .inr (3, [.ref a_bytes_a_tape_h0, .int size_a_tape_h0])), (a_bytes_a_tape_h0, .inl (cB, n_a_bytes_a_tape_h0, .inl b_a_bytes_a_tape_h0)), (q39, .inl (cI, r33, .inl r34)), (q40, .inl (cI, r35, .inl r36)), (a_reader_h0, .inr (2, [.ref a_scanner_a_reader_h0, .ref a_draft_a_reader_h0, .ref a_waiting_a_reader_h0, .ref a_functions_a_reader_h0, .ref (a37 0), .ref (a37 r2), .ref a_tape_h0, .int r5, .int r6, .int r7, .int r8, .int r9, .int r10]))]) (w0 := [(a_tree_h0, .inr (1, [.ref a_cells_a_tree_h0, .int count_a_tree_h0])), (a_draft_a_reader_h0, .inr (1, [.ref q38, .int r28])), (q38, .inl (cI, r31, .inl r32)), (a_cells_a_tree_h0, .inl (cI, n_a_cells_a_tree_h0, .inl b_a_cells_a_tree_h0))]) (pl := fpo a37 r1 r2 r3) [0, 3, 4, 5, 7, 8, 9, 10, 12, 13, 14, 1, 6, 11, 2] 15 rfl rfl (by decide +kernel)) rfl rfl (Nat.le_of_ble_eq_true rfl) d_Eq_read_39 ⟨show 0 + C41 + C56 ≤ mc by omega, show 0 + S42 + S57 ≤ ms by omega⟩ (fun v w hq => ?_)
    obtain ⟨q55, rfl, rfl⟩ := hq
    refine j_perm (ws' := ((h0, .inr (7, [.ref a_reader_h0, .ref a_writer_h0, .ref a_tree_h0, .ref a_tape_h0, .ref a_source_h0, .ref a_form_h0, .ref a_spareForm_h0, .int r10])) :: (a_source_h0, .inr (3, [.ref a_bytes_a_source_h0, .int size_a_source_h0])) :: ((a37 r2), .inr (0, [(frB a37 r2), (frA a37 r1 r2), .int r11, .int r12, .int r13, .int r14, .int r15, .int r16, .int r17, .int r18, .int r19, .int r20, .int r21, .int r22, .int r23])) :: (a_scanner_a_reader_h0, .inr (4, [.ref a_tape_h0, .int r24, .int r25, .int r26, .int r27])) :: (a_waiting_a_reader_h0, .inr (5, [.ref q39, .int r29])) :: (a_functions_a_reader_h0, .inr (5, [.ref q40, .int r30])) :: (a_tape_h0, .inr (3, [.ref a_bytes_a_tape_h0, .int size_a_tape_h0])) :: (a_bytes_a_tape_h0, .inl (cB, n_a_bytes_a_tape_h0, .inl b_a_bytes_a_tape_h0)) :: (q39, .inl (cI, r33, .inl r34)) :: (q40, .inl (cI, r35, .inl r36)) :: (a_reader_h0, .inr (2, [.ref a_scanner_a_reader_h0, .ref a_draft_a_reader_h0, .ref a_waiting_a_reader_h0, .ref a_functions_a_reader_h0, .ref (a37 0), .ref (a37 r2), .ref a_tape_h0, .int r5, .int r6, .int r7, .int r8, .int r9, .int r10])) :: (a_tree_h0, .inr (1, [.ref q55, .int r51])) :: (a_draft_a_reader_h0, .inr (1, [.ref q38, .int r28])) :: (q38, .inl (cI, r31, .inl r52)) :: (q55, .inl (cI, r53, .inl r54)) :: fpo a37 r1 r2 r3)) (pm_eq (a := [(h0, .inr (7, [.ref a_reader_h0, .ref a_writer_h0, .ref a_tree_h0, .ref a_tape_h0, .ref a_source_h0, .ref a_form_h0, .ref a_spareForm_h0, .int r10])), (a_source_h0, .inr (3, [.ref a_bytes_a_source_h0, .int size_a_source_h0])), ((a37 r2), .inr (0, [(frB a37 r2), (frA a37 r1 r2), .int r11, .int r12, .int r13, .int r14, .int r15, .int r16, .int r17, .int r18, .int r19, .int r20, .int r21, .int r22, .int r23])), (a_scanner_a_reader_h0, .inr (4, [.ref a_tape_h0, .int r24, .int r25, .int r26, .int r27])), (a_waiting_a_reader_h0, .inr (5, [.ref q39, .int r29])), (a_functions_a_reader_h0, .inr (5, [.ref q40, .int r30])), (a_tape_h0, .inr (3, [.ref a_bytes_a_tape_h0, .int size_a_tape_h0])), (a_bytes_a_tape_h0, .inl (cB, n_a_bytes_a_tape_h0, .inl b_a_bytes_a_tape_h0)), (q39, .inl (cI, r33, .inl r34)), (q40, .inl (cI, r35, .inl r36)), (a_reader_h0, .inr (2, [.ref a_scanner_a_reader_h0, .ref a_draft_a_reader_h0, .ref a_waiting_a_reader_h0, .ref a_functions_a_reader_h0, .ref (a37 0), .ref (a37 r2), .ref a_tape_h0, .int r5, .int r6, .int r7, .int r8, .int r9, .int r10]))]) (b := fpo a37 r1 r2 r3) (c := [(a_tree_h0, .inr (1, [.ref q55, .int r51])), (a_draft_a_reader_h0, .inr (1, [.ref q38, .int r28])), (q38, .inl (cI, r31, .inl r52)), (q55, .inl (cI, r53, .inl r54))]) rfl) ?_
    refine j_norm (pc' := 42) (st' := []) (ws' := ((h0, .inr (7, [.ref a_reader_h0, .ref a_writer_h0, .ref a_tree_h0, .ref a_tape_h0, .ref a_source_h0, .ref a_form_h0, .ref a_spareForm_h0, .int r10])) :: (a_source_h0, .inr (3, [.ref a_bytes_a_source_h0, .int size_a_source_h0])) :: ((a37 r2), .inr (0, [(frB a37 r2), (frA a37 r1 r2), .int r11, .int r12, .int r13, .int r14, .int r15, .int r16, .int r17, .int r18, .int r19, .int r20, .int r21, .int r22, .int r23])) :: (a_scanner_a_reader_h0, .inr (4, [.ref a_tape_h0, .int r24, .int r25, .int r26, .int r27])) :: (a_waiting_a_reader_h0, .inr (5, [.ref q39, .int r29])) :: (a_functions_a_reader_h0, .inr (5, [.ref q40, .int r30])) :: (a_tape_h0, .inr (3, [.ref a_bytes_a_tape_h0, .int size_a_tape_h0])) :: (a_bytes_a_tape_h0, .inl (cB, n_a_bytes_a_tape_h0, .inl b_a_bytes_a_tape_h0)) :: (q39, .inl (cI, r33, .inl r34)) :: (q40, .inl (cI, r35, .inl r36)) :: (a_reader_h0, .inr (2, [.ref a_scanner_a_reader_h0, .ref a_draft_a_reader_h0, .ref a_waiting_a_reader_h0, .ref a_functions_a_reader_h0, .ref (a37 0), .ref (a37 r2), .ref a_tape_h0, .int r5, .int r6, .int r7, .int r8, .int r9, .int r10])) :: (a_tree_h0, .inr (1, [.ref q55, .int r51])) :: (a_draft_a_reader_h0, .inr (1, [.ref q38, .int r28])) :: (q38, .inl (cI, r31, .inl r52)) :: (q55, .inl (cI, r53, .inl r54)) :: fpo a37 r1 r2 r3)) (cl' := 0 + C41 + C56) (sl' := 0 + S42 + S57) rfl rfl rfl rfl rfl rfl ?_
    refine j_aload_n d_Eq_read_42 rfl 1 rfl ?_
    refine j_get ig_Eq rfl 0 rfl 4 (by decide) rfl m_243 rfl d_Eq_read_43 ?_
    refine j_astore_n (lv' := [(2, .ref a_source_h0), (1, .int r4), (0, .ref h0)]) d_Eq_read_46 rfl (by decide) rfl ?_
    refine j_aload_n d_Eq_read_47 rfl 2 rfl ?_
    refine j_aload_n d_Eq_read_48 rfl 2 rfl ?_
    refine j_get ig_Eq rfl 0 rfl 3 (by decide) rfl m_242 rfl d_Eq_read_49 ?_
    refine j_put (ws' := ((h0, .inr (7, [.ref a_reader_h0, .ref a_writer_h0, .ref a_tree_h0, .ref a_tape_h0, .ref a_tape_h0, .ref a_form_h0, .ref a_spareForm_h0, .int r10])) :: (a_source_h0, .inr (3, [.ref a_bytes_a_source_h0, .int size_a_source_h0])) :: ((a37 r2), .inr (0, [(frB a37 r2), (frA a37 r1 r2), .int r11, .int r12, .int r13, .int r14, .int r15, .int r16, .int r17, .int r18, .int r19, .int r20, .int r21, .int r22, .int r23])) :: (a_scanner_a_reader_h0, .inr (4, [.ref a_tape_h0, .int r24, .int r25, .int r26, .int r27])) :: (a_waiting_a_reader_h0, .inr (5, [.ref q39, .int r29])) :: (a_functions_a_reader_h0, .inr (5, [.ref q40, .int r30])) :: (a_tape_h0, .inr (3, [.ref a_bytes_a_tape_h0, .int size_a_tape_h0])) :: (a_bytes_a_tape_h0, .inl (cB, n_a_bytes_a_tape_h0, .inl b_a_bytes_a_tape_h0)) :: (q39, .inl (cI, r33, .inl r34)) :: (q40, .inl (cI, r35, .inl r36)) :: (a_reader_h0, .inr (2, [.ref a_scanner_a_reader_h0, .ref a_draft_a_reader_h0, .ref a_waiting_a_reader_h0, .ref a_functions_a_reader_h0, .ref (a37 0), .ref (a37 r2), .ref a_tape_h0, .int r5, .int r6, .int r7, .int r8, .int r9, .int r10])) :: (a_tree_h0, .inr (1, [.ref q55, .int r51])) :: (a_draft_a_reader_h0, .inr (1, [.ref q38, .int r28])) :: (q38, .inl (cI, r31, .inl r52)) :: (q55, .inl (cI, r53, .inl r54)) :: fpo a37 r1 r2 r3)) ig_Eq tk_Eq nm_Eq rfl 0 rfl 4 (by decide) rfl m_243 rfl (tk_Eq 4 (by decide)) rfl rfl (Nat.le_of_ble_eq_true rfl) d_Eq_read_52 rfl ?_
    refine j_aload_n d_Eq_read_55 rfl 2 rfl ?_
    refine j_aload_n d_Eq_read_56 rfl 0 rfl ?_
    refine j_put (ws' := ((h0, .inr (7, [.ref a_reader_h0, .ref a_writer_h0, .ref a_tree_h0, .ref a_source_h0, .ref a_tape_h0, .ref a_form_h0, .ref a_spareForm_h0, .int r10])) :: (a_source_h0, .inr (3, [.ref a_bytes_a_source_h0, .int size_a_source_h0])) :: ((a37 r2), .inr (0, [(frB a37 r2), (frA a37 r1 r2), .int r11, .int r12, .int r13, .int r14, .int r15, .int r16, .int r17, .int r18, .int r19, .int r20, .int r21, .int r22, .int r23])) :: (a_scanner_a_reader_h0, .inr (4, [.ref a_tape_h0, .int r24, .int r25, .int r26, .int r27])) :: (a_waiting_a_reader_h0, .inr (5, [.ref q39, .int r29])) :: (a_functions_a_reader_h0, .inr (5, [.ref q40, .int r30])) :: (a_tape_h0, .inr (3, [.ref a_bytes_a_tape_h0, .int size_a_tape_h0])) :: (a_bytes_a_tape_h0, .inl (cB, n_a_bytes_a_tape_h0, .inl b_a_bytes_a_tape_h0)) :: (q39, .inl (cI, r33, .inl r34)) :: (q40, .inl (cI, r35, .inl r36)) :: (a_reader_h0, .inr (2, [.ref a_scanner_a_reader_h0, .ref a_draft_a_reader_h0, .ref a_waiting_a_reader_h0, .ref a_functions_a_reader_h0, .ref (a37 0), .ref (a37 r2), .ref a_tape_h0, .int r5, .int r6, .int r7, .int r8, .int r9, .int r10])) :: (a_tree_h0, .inr (1, [.ref q55, .int r51])) :: (a_draft_a_reader_h0, .inr (1, [.ref q38, .int r28])) :: (q38, .inl (cI, r31, .inl r52)) :: (q55, .inl (cI, r53, .inl r54)) :: fpo a37 r1 r2 r3)) ig_Eq tk_Eq nm_Eq rfl 0 rfl 3 (by decide) rfl m_242 rfl (tk_Eq 3 (by decide)) rfl rfl (Nat.le_of_ble_eq_true rfl) d_Eq_read_57 rfl ?_
    refine j_aload_n d_Eq_read_60 rfl 2 rfl ?_
    refine j_get ig_Eq rfl 0 rfl 3 (by decide) rfl m_242 rfl d_Eq_read_61 ?_
    refine j_iconst (v := 0) d_Eq_read_64 (by decide) ?_
    obtain ⟨r61, k62⟩ : ∃ z, (F_Rw_cut 0 size_a_source_h0) = z := ⟨_, rfl⟩
    replace h := nm_at k62 h
    refine j_callVg (n := 1) (As := [.int 0]) (rest := []) (wr := ([(h0, .inr (7, [.ref a_reader_h0, .ref a_writer_h0, .ref a_tree_h0, .ref a_source_h0, .ref a_tape_h0, .ref a_form_h0, .ref a_spareForm_h0, .int r10])), ((a37 r2), .inr (0, [(frB a37 r2), (frA a37 r1 r2), .int r11, .int r12, .int r13, .int r14, .int r15, .int r16, .int r17, .int r18, .int r19, .int r20, .int r21, .int r22, .int r23])), (a_scanner_a_reader_h0, .inr (4, [.ref a_tape_h0, .int r24, .int r25, .int r26, .int r27])), (a_waiting_a_reader_h0, .inr (5, [.ref q39, .int r29])), (a_functions_a_reader_h0, .inr (5, [.ref q40, .int r30])), (a_tape_h0, .inr (3, [.ref a_bytes_a_tape_h0, .int size_a_tape_h0])), (a_bytes_a_tape_h0, .inl (cB, n_a_bytes_a_tape_h0, .inl b_a_bytes_a_tape_h0)), (q39, .inl (cI, r33, .inl r34)), (q40, .inl (cI, r35, .inl r36)), (a_reader_h0, .inr (2, [.ref a_scanner_a_reader_h0, .ref a_draft_a_reader_h0, .ref a_waiting_a_reader_h0, .ref a_functions_a_reader_h0, .ref (a37 0), .ref (a37 r2), .ref a_tape_h0, .int r5, .int r6, .int r7, .int r8, .int r9, .int r10])), (a_tree_h0, .inr (1, [.ref q55, .int r51])), (a_draft_a_reader_h0, .inr (1, [.ref q38, .int r28])), (q38, .inl (cI, r31, .inl r52)), (q55, .inl (cI, r53, .inl r54))] ++ fpo a37 r1 r2 r3)) (c_Rw_cut l D cI cB cJ cS a_source_h0 a_bytes_a_source_h0 0 size_a_source_h0  r61 k62) k_Eq_66 (by decide) ⟨Nat.le_of_ble_eq_true rfl, Nat.le_of_ble_eq_true rfl⟩ rfl 0 rfl (pk_mid (wr := [(h0, .inr (7, [.ref a_reader_h0, .ref a_writer_h0, .ref a_tree_h0, .ref a_source_h0, .ref a_tape_h0, .ref a_form_h0, .ref a_spareForm_h0, .int r10])), ((a37 r2), .inr (0, [(frB a37 r2), (frA a37 r1 r2), .int r11, .int r12, .int r13, .int r14, .int r15, .int r16, .int r17, .int r18, .int r19, .int r20, .int r21, .int r22, .int r23])), (a_scanner_a_reader_h0, .inr (4, [.ref a_tape_h0, .int r24, .int r25, .int r26, .int r27])), (a_waiting_a_reader_h0, .inr (5, [.ref q39, .int r29])), (a_functions_a_reader_h0, .inr (5, [.ref q40, .int r30])), (a_tape_h0, .inr (3, [.ref a_bytes_a_tape_h0, .int size_a_tape_h0])), (a_bytes_a_tape_h0, .inl (cB, n_a_bytes_a_tape_h0, .inl b_a_bytes_a_tape_h0)), (q39, .inl (cI, r33, .inl r34)), (q40, .inl (cI, r35, .inl r36)), (a_reader_h0, .inr (2, [.ref a_scanner_a_reader_h0, .ref a_draft_a_reader_h0, .ref a_waiting_a_reader_h0, .ref a_functions_a_reader_h0, .ref (a37 0), .ref (a37 r2), .ref a_tape_h0, .int r5, .int r6, .int r7, .int r8, .int r9, .int r10])), (a_tree_h0, .inr (1, [.ref q55, .int r51])), (a_draft_a_reader_h0, .inr (1, [.ref q38, .int r28])), (q38, .inl (cI, r31, .inl r52)), (q55, .inl (cI, r53, .inl r54))]) (w0 := [(a_source_h0, .inr (3, [.ref a_bytes_a_source_h0, .int size_a_source_h0]))]) (pl := fpo a37 r1 r2 r3) [0, 2, 3, 4, 5, 6, 7, 8, 9, 10, 11, 12, 13, 14, 1] 15 rfl rfl (by decide +kernel)) rfl rfl (Nat.le_of_ble_eq_true rfl) d_Eq_read_65 ⟨show 0 + C41 + C56 + 0 ≤ mc by omega, show 0 + S42 + S57 + 0 ≤ ms by omega⟩ (fun v w hq => ?_)
    obtain ⟨rfl, rfl⟩ := hq
    refine j_perm (ws' := ((h0, .inr (7, [.ref a_reader_h0, .ref a_writer_h0, .ref a_tree_h0, .ref a_source_h0, .ref a_tape_h0, .ref a_form_h0, .ref a_spareForm_h0, .int r10])) :: ((a37 r2), .inr (0, [(frB a37 r2), (frA a37 r1 r2), .int r11, .int r12, .int r13, .int r14, .int r15, .int r16, .int r17, .int r18, .int r19, .int r20, .int r21, .int r22, .int r23])) :: (a_scanner_a_reader_h0, .inr (4, [.ref a_tape_h0, .int r24, .int r25, .int r26, .int r27])) :: (a_waiting_a_reader_h0, .inr (5, [.ref q39, .int r29])) :: (a_functions_a_reader_h0, .inr (5, [.ref q40, .int r30])) :: (a_tape_h0, .inr (3, [.ref a_bytes_a_tape_h0, .int size_a_tape_h0])) :: (a_bytes_a_tape_h0, .inl (cB, n_a_bytes_a_tape_h0, .inl b_a_bytes_a_tape_h0)) :: (q39, .inl (cI, r33, .inl r34)) :: (q40, .inl (cI, r35, .inl r36)) :: (a_reader_h0, .inr (2, [.ref a_scanner_a_reader_h0, .ref a_draft_a_reader_h0, .ref a_waiting_a_reader_h0, .ref a_functions_a_reader_h0, .ref (a37 0), .ref (a37 r2), .ref a_tape_h0, .int r5, .int r6, .int r7, .int r8, .int r9, .int r10])) :: (a_tree_h0, .inr (1, [.ref q55, .int r51])) :: (a_draft_a_reader_h0, .inr (1, [.ref q38, .int r28])) :: (q38, .inl (cI, r31, .inl r52)) :: (q55, .inl (cI, r53, .inl r54)) :: (a_source_h0, .inr (3, [.ref a_bytes_a_source_h0, .int r61])) :: fpo a37 r1 r2 r3)) (pm_eq (a := [(h0, .inr (7, [.ref a_reader_h0, .ref a_writer_h0, .ref a_tree_h0, .ref a_source_h0, .ref a_tape_h0, .ref a_form_h0, .ref a_spareForm_h0, .int r10])), ((a37 r2), .inr (0, [(frB a37 r2), (frA a37 r1 r2), .int r11, .int r12, .int r13, .int r14, .int r15, .int r16, .int r17, .int r18, .int r19, .int r20, .int r21, .int r22, .int r23])), (a_scanner_a_reader_h0, .inr (4, [.ref a_tape_h0, .int r24, .int r25, .int r26, .int r27])), (a_waiting_a_reader_h0, .inr (5, [.ref q39, .int r29])), (a_functions_a_reader_h0, .inr (5, [.ref q40, .int r30])), (a_tape_h0, .inr (3, [.ref a_bytes_a_tape_h0, .int size_a_tape_h0])), (a_bytes_a_tape_h0, .inl (cB, n_a_bytes_a_tape_h0, .inl b_a_bytes_a_tape_h0)), (q39, .inl (cI, r33, .inl r34)), (q40, .inl (cI, r35, .inl r36)), (a_reader_h0, .inr (2, [.ref a_scanner_a_reader_h0, .ref a_draft_a_reader_h0, .ref a_waiting_a_reader_h0, .ref a_functions_a_reader_h0, .ref (a37 0), .ref (a37 r2), .ref a_tape_h0, .int r5, .int r6, .int r7, .int r8, .int r9, .int r10])), (a_tree_h0, .inr (1, [.ref q55, .int r51])), (a_draft_a_reader_h0, .inr (1, [.ref q38, .int r28])), (q38, .inl (cI, r31, .inl r52)), (q55, .inl (cI, r53, .inl r54))]) (b := fpo a37 r1 r2 r3) (c := [(a_source_h0, .inr (3, [.ref a_bytes_a_source_h0, .int r61]))]) rfl) ?_
    refine j_norm (pc' := 68) (st' := []) (ws' := ((h0, .inr (7, [.ref a_reader_h0, .ref a_writer_h0, .ref a_tree_h0, .ref a_source_h0, .ref a_tape_h0, .ref a_form_h0, .ref a_spareForm_h0, .int r10])) :: ((a37 r2), .inr (0, [(frB a37 r2), (frA a37 r1 r2), .int r11, .int r12, .int r13, .int r14, .int r15, .int r16, .int r17, .int r18, .int r19, .int r20, .int r21, .int r22, .int r23])) :: (a_scanner_a_reader_h0, .inr (4, [.ref a_tape_h0, .int r24, .int r25, .int r26, .int r27])) :: (a_waiting_a_reader_h0, .inr (5, [.ref q39, .int r29])) :: (a_functions_a_reader_h0, .inr (5, [.ref q40, .int r30])) :: (a_tape_h0, .inr (3, [.ref a_bytes_a_tape_h0, .int size_a_tape_h0])) :: (a_bytes_a_tape_h0, .inl (cB, n_a_bytes_a_tape_h0, .inl b_a_bytes_a_tape_h0)) :: (q39, .inl (cI, r33, .inl r34)) :: (q40, .inl (cI, r35, .inl r36)) :: (a_reader_h0, .inr (2, [.ref a_scanner_a_reader_h0, .ref a_draft_a_reader_h0, .ref a_waiting_a_reader_h0, .ref a_functions_a_reader_h0, .ref (a37 0), .ref (a37 r2), .ref a_tape_h0, .int r5, .int r6, .int r7, .int r8, .int r9, .int r10])) :: (a_tree_h0, .inr (1, [.ref q55, .int r51])) :: (a_draft_a_reader_h0, .inr (1, [.ref q38, .int r28])) :: (q38, .inl (cI, r31, .inl r52)) :: (q55, .inl (cI, r53, .inl r54)) :: (a_source_h0, .inr (3, [.ref a_bytes_a_source_h0, .int r61])) :: fpo a37 r1 r2 r3)) (cl' := 0 + C41 + C56) (sl' := 0 + S42 + S57) rfl rfl rfl rfl rfl rfl ?_
    refine j_iload_n d_Eq_read_68 rfl 1 rfl ?_
    replace h := lf_s h
    obtain ⟨h, e1, e2⟩ := h
    replace h := Prod.mk.inj h
    obtain ⟨h9, h⟩ := h
    subst h9
    replace h := Prod.mk.inj h
    obtain ⟨h9, h⟩ := h
    subst h9
    replace h := Prod.mk.inj h
    obtain ⟨h9, h⟩ := h
    subst h9
    replace h := Prod.mk.inj h
    obtain ⟨h9, h⟩ := h
    subst h9
    replace h := Prod.mk.inj h
    obtain ⟨h9, h⟩ := h
    subst h9
    replace h := Prod.mk.inj h
    obtain ⟨h9, h⟩ := h
    subst h9
    replace h := Prod.mk.inj h
    obtain ⟨h9, h⟩ := h
    subst h9
    replace h := Prod.mk.inj h
    obtain ⟨h9, h⟩ := h
    subst h9
    replace h := Prod.mk.inj h
    obtain ⟨h9, h⟩ := h
    subst h9
    replace h := Prod.mk.inj h
    obtain ⟨h9, h⟩ := h
    subst h9
    replace h := Prod.mk.inj h
    obtain ⟨h9, h⟩ := h
    subst h9
    replace h := Prod.mk.inj h
    obtain ⟨h9, h⟩ := h
    subst h9
    replace h := Prod.mk.inj h
    obtain ⟨h9, h⟩ := h
    subst h9
    replace h := Prod.mk.inj h
    obtain ⟨h9, h⟩ := h
    subst h9
    replace h := Prod.mk.inj h
    obtain ⟨h9, h⟩ := h
    subst h9
    replace h := Prod.mk.inj h
    obtain ⟨h9, h⟩ := h
    subst h9
    replace h := Prod.mk.inj h
    obtain ⟨h9, h⟩ := h
    subst h9
    replace h := Prod.mk.inj h
    obtain ⟨h9, h⟩ := h
    subst h9
    replace h := Prod.mk.inj h
    obtain ⟨h9, h⟩ := h
    subst h9
    replace h := Prod.mk.inj h
    obtain ⟨h9, h⟩ := h
    subst h9
    replace h := Prod.mk.inj h
    obtain ⟨h9, h⟩ := h
    subst h9
    replace h := Prod.mk.inj h
    obtain ⟨h9, h⟩ := h
    subst h9
    replace h := Prod.mk.inj h
    obtain ⟨h9, h⟩ := h
    subst h9
    replace h := Prod.mk.inj h
    obtain ⟨h9, h⟩ := h
    subst h9
    replace h := Prod.mk.inj h
    obtain ⟨h9, h⟩ := h
    subst h9
    replace h := Prod.mk.inj h
    obtain ⟨h9, h⟩ := h
    subst h9
    replace h := Prod.mk.inj h
    obtain ⟨h9, h⟩ := h
    subst h9
    replace h := Prod.mk.inj h
    obtain ⟨h9, h⟩ := h
    subst h9
    replace h := Prod.mk.inj h
    obtain ⟨h9, h⟩ := h
    subst h9
    replace h := Prod.mk.inj h
    obtain ⟨h9, h⟩ := h
    subst h9
    replace h := Prod.mk.inj h
    obtain ⟨h9, h⟩ := h
    subst h9
    replace h := Prod.mk.inj h
    obtain ⟨h9, h⟩ := h
    subst h9
    replace h := Prod.mk.inj h
    obtain ⟨h9, h⟩ := h
    subst h9
    replace h := Prod.mk.inj h
    obtain ⟨h9, h⟩ := h
    subst h9
    replace h := Prod.mk.inj h
    obtain ⟨h9, h⟩ := h
    subst h9
    replace h := Prod.mk.inj h
    obtain ⟨h9, h⟩ := h
    subst h9
    replace h := Prod.mk.inj h
    obtain ⟨h9, h⟩ := h
    subst h9
    replace h := Prod.mk.inj h
    obtain ⟨h9, h⟩ := h
    subst h9
    replace h := Prod.mk.inj h
    obtain ⟨h9, h⟩ := h
    subst h9
    replace h := Prod.mk.inj h
    obtain ⟨h9, h⟩ := h
    subst h9
    replace h := Prod.mk.inj h
    obtain ⟨h9, h⟩ := h
    subst h9
    subst h
    refine j_widen (cl' := mc) (sl' := ms) (by omega) (by omega) ?_
    refine j_subP (w := [(h0, .inr (7, [.ref a_reader_h0, .ref a_writer_h0, .ref a_tree_h0, .ref a_source_h0, .ref a_tape_h0, .ref a_form_h0, .ref a_spareForm_h0, .int r10])), (a_reader_h0, .inr (2, [.ref a_scanner_a_reader_h0, .ref a_draft_a_reader_h0, .ref a_waiting_a_reader_h0, .ref a_functions_a_reader_h0, .ref (a37 0), .ref (a37 r2), .ref a_tape_h0, .int r5, .int r6, .int r7, .int r8, .int r9, .int r10])), ((a37 r2), .inr (0, [(frB a37 r2), (frA a37 r1 r2), .int r11, .int r12, .int r13, .int r14, .int r15, .int r16, .int r17, .int r18, .int r19, .int r20, .int r21, .int r22, .int r23])), (a_scanner_a_reader_h0, .inr (4, [.ref a_tape_h0, .int r24, .int r25, .int r26, .int r27])), (a_draft_a_reader_h0, .inr (1, [.ref q38, .int r28])), (a_waiting_a_reader_h0, .inr (5, [.ref q39, .int r29])), (a_functions_a_reader_h0, .inr (5, [.ref q40, .int r30])), (a_bytes_a_tape_h0, .inl (cB, n_a_bytes_a_tape_h0, .inl b_a_bytes_a_tape_h0)), (a_tree_h0, .inr (1, [.ref q55, .int r51])), (a_source_h0, .inr (3, [.ref a_bytes_a_source_h0, .int r61])), (a_tape_h0, .inr (3, [.ref a_bytes_a_tape_h0, .int size_a_tape_h0])), (q38, .inl (cI, r31, .inl r52)), (q39, .inl (cI, r33, .inl r34)), (q40, .inl (cI, r35, .inl r36)), (q55, .inl (cI, r53, .inl r54))]) (pl := fpo a37 r1 r2 r3) (lv' := []) [0, 9, 1, 2, 11, 3, 4, 6, 10, 14, 5, 12, 7, 8, 13] [] 15 rfl rfl (by decide) [] rfl ?_
    exact j_iretE hr d_Eq_read_69 ⟨a37, a_source_h0, a_tape_h0, q38, q39, q40, q55, a_bytes_a_source_h0, a_bytes_a_tape_h0, rfl, rfl⟩
