noncomputable def F_Rd_takeAtStart (fn : Nat) (fd : Nat) (fcf : Nat → FrC) (mode_h0 : Int32) (levels_h0 : Int32) (signs_h0 : Int32) (loops_h0 : Int32) (token_h0 : Int32) (fault_h0 : Int32) (kind_t : Int32) (place_t : Int32) (width_t : Int32) (second_t : Int32) (parts_t : Int32) (innerParts_t : Int32) (innerPlace_t : Int32) (innerWidth_t : Int32) (signs_t : Int32) (waitingBelow_t : Int32) (limited_t : Int32) (targets_t : Int32) (lastBlock_t : Int32) (count_a_draft_h0 : Int32) (n_a_cells_a_draft_h0 : Nat) (b_a_cells_a_draft_h0 : Nat → Int32) (next_a_scanner_h0 : Int32) (kind_a_scanner_h0 : Int32) (start_a_scanner_h0 : Int32) (width_a_scanner_h0 : Int32) (count_a_waiting_h0 : Int32) (n_a_cells_a_waiting_h0 : Nat) (b_a_cells_a_waiting_h0 : Nat → Int32) : Option ((Nat × Nat × (Nat → FrC) × Int32 × Int32 × Int32 × Int32 × Int32 × Int32 × Int32 × Int32 × Int32 × Int32 × Int32 × Int32 × Int32 × Int32 × Int32 × Int32 × Int32 × Int32 × Int32 × Nat × (Nat → Int32) × Nat × (Nat → Int32)) × Nat × Nat) :=
  if token_h0 = 41 then (nm (F_Rd_isCall kind_t) fun r2 =>
    if r2 = 0 then (some ((fn, fd, fcf, 0, mode_h0, levels_h0, signs_h0, kind_t, place_t, width_t, second_t, parts_t, innerParts_t, innerPlace_t, innerWidth_t, signs_t, waitingBelow_t, limited_t, targets_t, lastBlock_t, count_a_draft_h0, count_a_waiting_h0, n_a_cells_a_draft_h0, b_a_cells_a_draft_h0, n_a_cells_a_waiting_h0, b_a_cells_a_waiting_h0), 0, 0))
    else if parts_t = 0 then (bw (F_Rd_closeCall fn fd fcf mode_h0 levels_h0 signs_h0 loops_h0 token_h0 fault_h0 kind_t place_t width_t second_t parts_t innerParts_t innerPlace_t innerWidth_t signs_t waitingBelow_t limited_t targets_t lastBlock_t count_a_draft_h0 n_a_cells_a_draft_h0 b_a_cells_a_draft_h0) fun ⟨r7, r8, r9, r10, r11, r12, r13, r14, r15, r16, r17, r18, r19, r20, r21, r22, r23, r24, r25, r26⟩ =>
      (some ((r7, r8, r9, 1, r10, ((levels_h0 - 1) - signs_t), 0, r11, r12, r13, r14, r15, r16, r17, r18, r19, r20, r21, r22, r23, r24, count_a_waiting_h0, r25, r26, n_a_cells_a_waiting_h0, b_a_cells_a_waiting_h0), 0, 0)))
    else (some ((fn, fd, fcf, 0, mode_h0, levels_h0, signs_h0, kind_t, place_t, width_t, second_t, parts_t, innerParts_t, innerPlace_t, innerWidth_t, signs_t, waitingBelow_t, limited_t, targets_t, lastBlock_t, count_a_draft_h0, count_a_waiting_h0, n_a_cells_a_draft_h0, b_a_cells_a_draft_h0, n_a_cells_a_waiting_h0, b_a_cells_a_waiting_h0), 0, 0)))
  else if token_h0 = 58 then (if kind_t = 33 then (if 2 ≤ parts_t then (some ((fn, fd, fcf, 0, mode_h0, levels_h0, signs_h0, kind_t, place_t, width_t, second_t, parts_t, innerParts_t, innerPlace_t, innerWidth_t, signs_t, waitingBelow_t, limited_t, targets_t, lastBlock_t, count_a_draft_h0, count_a_waiting_h0, n_a_cells_a_draft_h0, b_a_cells_a_draft_h0, n_a_cells_a_waiting_h0, b_a_cells_a_waiting_h0), 0, 0))
      else (bw (F_Rd_addAll mode_h0 levels_h0 signs_h0 loops_h0 token_h0 fault_h0 next_a_scanner_h0 kind_a_scanner_h0 start_a_scanner_h0 width_a_scanner_h0 count_a_draft_h0 n_a_cells_a_draft_h0 b_a_cells_a_draft_h0 kind_t place_t width_t second_t parts_t innerParts_t innerPlace_t innerWidth_t signs_t waitingBelow_t limited_t targets_t lastBlock_t) fun ⟨r38, r39, r40⟩ =>
        (some ((fn, fd, fcf, 1, 35, levels_h0, signs_h0, kind_t, place_t, width_t, second_t, parts_t, innerParts_t, innerPlace_t, innerWidth_t, signs_t, waitingBelow_t, 1, targets_t, lastBlock_t, r38, count_a_waiting_h0, r39, r40, n_a_cells_a_waiting_h0, b_a_cells_a_waiting_h0), 0, 0))))
    else (some ((fn, fd, fcf, 0, mode_h0, levels_h0, signs_h0, kind_t, place_t, width_t, second_t, parts_t, innerParts_t, innerPlace_t, innerWidth_t, signs_t, waitingBelow_t, limited_t, targets_t, lastBlock_t, count_a_draft_h0, count_a_waiting_h0, n_a_cells_a_draft_h0, b_a_cells_a_draft_h0, n_a_cells_a_waiting_h0, b_a_cells_a_waiting_h0), 0, 0)))
  else if token_h0 = 93 then (if kind_t = 36 then (if parts_t = 0 then (if innerParts_t = 0 then (bw (F_Rd_closeRows fn fd fcf mode_h0 levels_h0 signs_h0 loops_h0 token_h0 fault_h0 kind_t place_t width_t second_t parts_t innerParts_t innerPlace_t innerWidth_t signs_t waitingBelow_t limited_t targets_t lastBlock_t count_a_draft_h0 n_a_cells_a_draft_h0 b_a_cells_a_draft_h0) fun ⟨r52, r53, r54, r55, r56, r57, r58, r59, r60, r61, r62, r63, r64, r65, r66, r67, r68, r69, r70, r71⟩ =>
          (some ((r52, r53, r54, 1, r55, ((levels_h0 - 1) - signs_t), 0, r56, r57, r58, r59, r60, r61, r62, r63, r64, r65, r66, r67, r68, r69, count_a_waiting_h0, r70, r71, n_a_cells_a_waiting_h0, b_a_cells_a_waiting_h0), 0, 0)))
        else (some ((fn, fd, fcf, 0, mode_h0, levels_h0, signs_h0, kind_t, place_t, width_t, second_t, parts_t, innerParts_t, innerPlace_t, innerWidth_t, signs_t, waitingBelow_t, limited_t, targets_t, lastBlock_t, count_a_draft_h0, count_a_waiting_h0, n_a_cells_a_draft_h0, b_a_cells_a_draft_h0, n_a_cells_a_waiting_h0, b_a_cells_a_waiting_h0), 0, 0)))
      else (some ((fn, fd, fcf, 0, mode_h0, levels_h0, signs_h0, kind_t, place_t, width_t, second_t, parts_t, innerParts_t, innerPlace_t, innerWidth_t, signs_t, waitingBelow_t, limited_t, targets_t, lastBlock_t, count_a_draft_h0, count_a_waiting_h0, n_a_cells_a_draft_h0, b_a_cells_a_draft_h0, n_a_cells_a_waiting_h0, b_a_cells_a_waiting_h0), 0, 0)))
    else (some ((fn, fd, fcf, 0, mode_h0, levels_h0, signs_h0, kind_t, place_t, width_t, second_t, parts_t, innerParts_t, innerPlace_t, innerWidth_t, signs_t, waitingBelow_t, limited_t, targets_t, lastBlock_t, count_a_draft_h0, count_a_waiting_h0, n_a_cells_a_draft_h0, b_a_cells_a_draft_h0, n_a_cells_a_waiting_h0, b_a_cells_a_waiting_h0), 0, 0)))
  else if token_h0 = 126 then (bw (F_Rd_takeSign mode_h0 levels_h0 signs_h0 loops_h0 token_h0 fault_h0 next_a_scanner_h0 kind_a_scanner_h0 start_a_scanner_h0 width_a_scanner_h0 count_a_waiting_h0 n_a_cells_a_waiting_h0 b_a_cells_a_waiting_h0) fun ⟨r81, r82, r83, r84, r85, r86, r87⟩ =>
    if r81 = 0 then (bw (F_Rd_becomeTargets start_a_scanner_h0 fn fd fcf r82 r83 r84 loops_h0 token_h0 fault_h0 kind_t place_t width_t second_t parts_t innerParts_t innerPlace_t innerWidth_t signs_t waitingBelow_t limited_t targets_t lastBlock_t count_a_draft_h0 n_a_cells_a_draft_h0 b_a_cells_a_draft_h0) fun ⟨r97, r98, r99, r100, r101, r102, r103, r104, r105, r106, r107, r108, r109, r110, r111, r112⟩ =>
      (some ((r97, r98, r99, 1, 21, r83, signs_t, 10, r100, r101, place_t, r102, innerParts_t + 1, r103, r104, r105, r106, r107, r108, r109, r110, r85, r111, r112, r86, r87), 0, 0)))
    else (some ((fn, fd, fcf, 1, 42, r83, r84, kind_t, place_t, width_t, second_t, parts_t, innerParts_t, innerPlace_t, innerWidth_t, signs_t, waitingBelow_t, limited_t, targets_t, lastBlock_t, count_a_draft_h0, r85, n_a_cells_a_draft_h0, b_a_cells_a_draft_h0, r86, r87), 0, 0)))
  else (some ((fn, fd, fcf, 0, mode_h0, levels_h0, signs_h0, kind_t, place_t, width_t, second_t, parts_t, innerParts_t, innerPlace_t, innerWidth_t, signs_t, waitingBelow_t, limited_t, targets_t, lastBlock_t, count_a_draft_h0, count_a_waiting_h0, n_a_cells_a_draft_h0, b_a_cells_a_draft_h0, n_a_cells_a_waiting_h0, b_a_cells_a_waiting_h0), 0, 0))
theorem d_Rd_takeAtStart_0 : decode prog_6_method_47_code 0 = .ok (.aload_n 0, 1) := by decide +kernel
theorem d_Rd_takeAtStart_1 : decode prog_6_method_47_code 1 = .ok (.getfield 69, 3) := by decide +kernel
theorem d_Rd_takeAtStart_4 : decode prog_6_method_47_code 4 = .ok (.lookupswitch 189 #[(41, 44), (58, 125), (93, 80), (126, 161)], 44) := by decide +kernel
theorem d_Rd_takeAtStart_48 : decode prog_6_method_47_code 48 = .ok (.aload_n 0, 1) := by decide +kernel
theorem d_Rd_takeAtStart_49 : decode prog_6_method_47_code 49 = .ok (.getfield 46, 3) := by decide +kernel
theorem d_Rd_takeAtStart_52 : decode prog_6_method_47_code 52 = .ok (.getfield 86, 3) := by decide +kernel
theorem d_Rd_takeAtStart_55 : decode prog_6_method_47_code 55 = .ok (.invokestatic 315, 3) := by decide +kernel
theorem d_Rd_takeAtStart_58 : decode prog_6_method_47_code 58 = .ok (.ifCond .eq 24, 3) := by decide +kernel
theorem d_Rd_takeAtStart_61 : decode prog_6_method_47_code 61 = .ok (.aload_n 0, 1) := by decide +kernel
theorem d_Rd_takeAtStart_62 : decode prog_6_method_47_code 62 = .ok (.getfield 46, 3) := by decide +kernel
theorem d_Rd_takeAtStart_65 : decode prog_6_method_47_code 65 = .ok (.getfield 224, 3) := by decide +kernel
theorem d_Rd_takeAtStart_68 : decode prog_6_method_47_code 68 = .ok (.ifCond .ne 14, 3) := by decide +kernel
theorem d_Rd_takeAtStart_71 : decode prog_6_method_47_code 71 = .ok (.aload_n 0, 1) := by decide +kernel
theorem d_Rd_takeAtStart_72 : decode prog_6_method_47_code 72 = .ok (.invokevirtual 318, 3) := by decide +kernel
theorem d_Rd_takeAtStart_75 : decode prog_6_method_47_code 75 = .ok (.ifCond .eq 7, 3) := by decide +kernel
theorem d_Rd_takeAtStart_78 : decode prog_6_method_47_code 78 = .ok (.iconst 1, 1) := by decide +kernel
theorem d_Rd_takeAtStart_79 : decode prog_6_method_47_code 79 = .ok (.goto 4, 3) := by decide +kernel
theorem d_Rd_takeAtStart_82 : decode prog_6_method_47_code 82 = .ok (.iconst 0, 1) := by decide +kernel
theorem d_Rd_takeAtStart_83 : decode prog_6_method_47_code 83 = .ok (.ireturn, 1) := by decide +kernel
theorem d_Rd_takeAtStart_84 : decode prog_6_method_47_code 84 = .ok (.aload_n 0, 1) := by decide +kernel
theorem d_Rd_takeAtStart_85 : decode prog_6_method_47_code 85 = .ok (.getfield 46, 3) := by decide +kernel
theorem d_Rd_takeAtStart_88 : decode prog_6_method_47_code 88 = .ok (.getfield 86, 3) := by decide +kernel
theorem d_Rd_takeAtStart_91 : decode prog_6_method_47_code 91 = .ok (.bipush 36, 2) := by decide +kernel
theorem d_Rd_takeAtStart_93 : decode prog_6_method_47_code 93 = .ok (.if_icmp .ne 34, 3) := by decide +kernel
theorem d_Rd_takeAtStart_96 : decode prog_6_method_47_code 96 = .ok (.aload_n 0, 1) := by decide +kernel
theorem d_Rd_takeAtStart_97 : decode prog_6_method_47_code 97 = .ok (.getfield 46, 3) := by decide +kernel
theorem d_Rd_takeAtStart_100 : decode prog_6_method_47_code 100 = .ok (.getfield 224, 3) := by decide +kernel
theorem d_Rd_takeAtStart_103 : decode prog_6_method_47_code 103 = .ok (.ifCond .ne 24, 3) := by decide +kernel
theorem d_Rd_takeAtStart_106 : decode prog_6_method_47_code 106 = .ok (.aload_n 0, 1) := by decide +kernel
theorem d_Rd_takeAtStart_107 : decode prog_6_method_47_code 107 = .ok (.getfield 46, 3) := by decide +kernel
theorem d_Rd_takeAtStart_110 : decode prog_6_method_47_code 110 = .ok (.getfield 90, 3) := by decide +kernel
theorem d_Rd_takeAtStart_113 : decode prog_6_method_47_code 113 = .ok (.ifCond .ne 14, 3) := by decide +kernel
theorem d_Rd_takeAtStart_116 : decode prog_6_method_47_code 116 = .ok (.aload_n 0, 1) := by decide +kernel
theorem d_Rd_takeAtStart_117 : decode prog_6_method_47_code 117 = .ok (.invokevirtual 321, 3) := by decide +kernel
theorem d_Rd_takeAtStart_120 : decode prog_6_method_47_code 120 = .ok (.ifCond .eq 7, 3) := by decide +kernel
theorem d_Rd_takeAtStart_123 : decode prog_6_method_47_code 123 = .ok (.iconst 1, 1) := by decide +kernel
theorem d_Rd_takeAtStart_124 : decode prog_6_method_47_code 124 = .ok (.goto 4, 3) := by decide +kernel
theorem d_Rd_takeAtStart_127 : decode prog_6_method_47_code 127 = .ok (.iconst 0, 1) := by decide +kernel
theorem d_Rd_takeAtStart_128 : decode prog_6_method_47_code 128 = .ok (.ireturn, 1) := by decide +kernel
theorem d_Rd_takeAtStart_129 : decode prog_6_method_47_code 129 = .ok (.aload_n 0, 1) := by decide +kernel
theorem d_Rd_takeAtStart_130 : decode prog_6_method_47_code 130 = .ok (.getfield 46, 3) := by decide +kernel
theorem d_Rd_takeAtStart_133 : decode prog_6_method_47_code 133 = .ok (.getfield 86, 3) := by decide +kernel
theorem d_Rd_takeAtStart_136 : decode prog_6_method_47_code 136 = .ok (.bipush 33, 2) := by decide +kernel
theorem d_Rd_takeAtStart_138 : decode prog_6_method_47_code 138 = .ok (.if_icmp .ne 25, 3) := by decide +kernel
theorem d_Rd_takeAtStart_141 : decode prog_6_method_47_code 141 = .ok (.aload_n 0, 1) := by decide +kernel
theorem d_Rd_takeAtStart_142 : decode prog_6_method_47_code 142 = .ok (.getfield 46, 3) := by decide +kernel
theorem d_Rd_takeAtStart_145 : decode prog_6_method_47_code 145 = .ok (.getfield 224, 3) := by decide +kernel
theorem d_Rd_takeAtStart_148 : decode prog_6_method_47_code 148 = .ok (.iconst 2, 1) := by decide +kernel
theorem d_Rd_takeAtStart_149 : decode prog_6_method_47_code 149 = .ok (.if_icmp .ge 14, 3) := by decide +kernel
theorem d_Rd_takeAtStart_152 : decode prog_6_method_47_code 152 = .ok (.aload_n 0, 1) := by decide +kernel
theorem d_Rd_takeAtStart_153 : decode prog_6_method_47_code 153 = .ok (.invokevirtual 324, 3) := by decide +kernel
theorem d_Rd_takeAtStart_156 : decode prog_6_method_47_code 156 = .ok (.ifCond .eq 7, 3) := by decide +kernel
theorem d_Rd_takeAtStart_159 : decode prog_6_method_47_code 159 = .ok (.iconst 1, 1) := by decide +kernel
theorem d_Rd_takeAtStart_160 : decode prog_6_method_47_code 160 = .ok (.goto 4, 3) := by decide +kernel
theorem d_Rd_takeAtStart_163 : decode prog_6_method_47_code 163 = .ok (.iconst 0, 1) := by decide +kernel
theorem d_Rd_takeAtStart_164 : decode prog_6_method_47_code 164 = .ok (.ireturn, 1) := by decide +kernel
theorem d_Rd_takeAtStart_165 : decode prog_6_method_47_code 165 = .ok (.aload_n 0, 1) := by decide +kernel
theorem d_Rd_takeAtStart_166 : decode prog_6_method_47_code 166 = .ok (.invokevirtual 327, 3) := by decide +kernel
theorem d_Rd_takeAtStart_169 : decode prog_6_method_47_code 169 = .ok (.ifCond .eq 12, 3) := by decide +kernel
theorem d_Rd_takeAtStart_172 : decode prog_6_method_47_code 172 = .ok (.aload_n 0, 1) := by decide +kernel
theorem d_Rd_takeAtStart_173 : decode prog_6_method_47_code 173 = .ok (.bipush 42, 2) := by decide +kernel
theorem d_Rd_takeAtStart_175 : decode prog_6_method_47_code 175 = .ok (.invokevirtual 130, 3) := by decide +kernel
theorem d_Rd_takeAtStart_178 : decode prog_6_method_47_code 178 = .ok (.goto 14, 3) := by decide +kernel
theorem d_Rd_takeAtStart_181 : decode prog_6_method_47_code 181 = .ok (.aload_n 0, 1) := by decide +kernel
theorem d_Rd_takeAtStart_182 : decode prog_6_method_47_code 182 = .ok (.aload_n 0, 1) := by decide +kernel
theorem d_Rd_takeAtStart_183 : decode prog_6_method_47_code 183 = .ok (.getfield 14, 3) := by decide +kernel
theorem d_Rd_takeAtStart_186 : decode prog_6_method_47_code 186 = .ok (.invokevirtual 113, 3) := by decide +kernel
theorem d_Rd_takeAtStart_189 : decode prog_6_method_47_code 189 = .ok (.invokevirtual 171, 3) := by decide +kernel
theorem d_Rd_takeAtStart_192 : decode prog_6_method_47_code 192 = .ok (.ireturn, 1) := by decide +kernel
theorem d_Rd_takeAtStart_193 : decode prog_6_method_47_code 193 = .ok (.iconst 0, 1) := by decide +kernel
theorem d_Rd_takeAtStart_194 : decode prog_6_method_47_code 194 = .ok (.ireturn, 1) := by decide +kernel
set_option maxHeartbeats 4000000 in
set_option maxRecDepth 100000 in
theorem c_Rd_takeAtStart (l : Launch) (D : va_G) (cI cB cJ cS : ClassId) (h0 : Nat) (fad : Nat → Nat) (a_scanner_h0 : Nat) (a_draft_h0 : Nat) (a_waiting_h0 : Nat) (a_functions_h0 : Nat) (a_text_h0 : Nat) (a_cells_a_draft_h0 : Nat) (a_text_a_scanner_h0 : Nat) (a_cells_a_waiting_h0 : Nat) (fn : Nat) (fd : Nat) (fcf : Nat → FrC) (mode_h0 : Int32) (levels_h0 : Int32) (signs_h0 : Int32) (loops_h0 : Int32) (token_h0 : Int32) (fault_h0 : Int32) (kind_t : Int32) (place_t : Int32) (width_t : Int32) (second_t : Int32) (parts_t : Int32) (innerParts_t : Int32) (innerPlace_t : Int32) (innerWidth_t : Int32) (signs_t : Int32) (waitingBelow_t : Int32) (limited_t : Int32) (targets_t : Int32) (lastBlock_t : Int32) (count_a_draft_h0 : Int32) (n_a_cells_a_draft_h0 : Nat) (b_a_cells_a_draft_h0 : Nat → Int32) (next_a_scanner_h0 : Int32) (kind_a_scanner_h0 : Int32) (start_a_scanner_h0 : Int32) (width_a_scanner_h0 : Int32) (count_a_waiting_h0 : Int32) (n_a_cells_a_waiting_h0 : Nat) (b_a_cells_a_waiting_h0 : Nat → Int32) (on_p : Nat) (od_p : Nat) (ocf_p : Nat → FrC) (ret : Int32) (o_0_7 : Int32) (o_0_8 : Int32) (o_0_9 : Int32) (o_1_2 : Int32) (o_1_3 : Int32) (o_1_4 : Int32) (o_1_5 : Int32) (o_1_6 : Int32) (o_1_7 : Int32) (o_1_8 : Int32) (o_1_9 : Int32) (o_1_10 : Int32) (o_1_11 : Int32) (o_1_12 : Int32) (o_1_13 : Int32) (o_1_14 : Int32) (o_2_1 : Int32) (o_5_1 : Int32) (on_nq_2_0 : Nat) (ob_nq_2_0 : Nat → Int32) (on_nq_5_0 : Nat) (ob_nq_5_0 : Nat → Int32) (mc ms : Nat) (h : F_Rd_takeAtStart fn fd fcf mode_h0 levels_h0 signs_h0 loops_h0 token_h0 fault_h0 kind_t place_t width_t second_t parts_t innerParts_t innerPlace_t innerWidth_t signs_t waitingBelow_t limited_t targets_t lastBlock_t count_a_draft_h0 n_a_cells_a_draft_h0 b_a_cells_a_draft_h0 next_a_scanner_h0 kind_a_scanner_h0 start_a_scanner_h0 width_a_scanner_h0 count_a_waiting_h0 n_a_cells_a_waiting_h0 b_a_cells_a_waiting_h0 = some ((on_p, od_p, ocf_p, ret, o_0_7, o_0_8, o_0_9, o_1_2, o_1_3, o_1_4, o_1_5, o_1_6, o_1_7, o_1_8, o_1_9, o_1_10, o_1_11, o_1_12, o_1_13, o_1_14, o_2_1, o_5_1, on_nq_2_0, ob_nq_2_0, on_nq_5_0, ob_nq_5_0), mc, ms)) : Ct l D (gT cI cB cJ cS) y_Rd_takeAtStart prog_6_method_47_code 1 (Option.some Jvm.ClassFile.FieldType.boolean) 5 154 mc ms [.ref h0] ((h0, .inr (2, [.ref a_scanner_h0, .ref a_draft_h0, .ref a_waiting_h0, .ref a_functions_h0, .ref (fad 0), .ref (fad fd), .ref a_text_h0, .int mode_h0, .int levels_h0, .int signs_h0, .int loops_h0, .int token_h0, .int fault_h0])) :: ((fad fd), .inr (0, [(frB fad fd), (frA fad fn fd), .int kind_t, .int place_t, .int width_t, .int second_t, .int parts_t, .int innerParts_t, .int innerPlace_t, .int innerWidth_t, .int signs_t, .int waitingBelow_t, .int limited_t, .int targets_t, .int lastBlock_t])) :: (a_draft_h0, .inr (1, [.ref a_cells_a_draft_h0, .int count_a_draft_h0])) :: (a_cells_a_draft_h0, .inl (cI, n_a_cells_a_draft_h0, .inl b_a_cells_a_draft_h0)) :: (a_scanner_h0, .inr (4, [.ref a_text_a_scanner_h0, .int next_a_scanner_h0, .int kind_a_scanner_h0, .int start_a_scanner_h0, .int width_a_scanner_h0])) :: (a_waiting_h0, .inr (5, [.ref a_cells_a_waiting_h0, .int count_a_waiting_h0])) :: (a_cells_a_waiting_h0, .inl (cI, n_a_cells_a_waiting_h0, .inl b_a_cells_a_waiting_h0)) :: fpo fad fn fd fcf) (fun v w => ∃ nad : Nat → Nat, ∃ nq_2_0 : Nat, ∃ nq_5_0 : Nat, v = some (.int ret) ∧ zb ret ∧ w = ((h0, .inr (2, [.ref a_scanner_h0, .ref a_draft_h0, .ref a_waiting_h0, .ref a_functions_h0, .ref (nad 0), .ref (nad od_p), .ref a_text_h0, .int o_0_7, .int o_0_8, .int o_0_9, .int loops_h0, .int token_h0, .int fault_h0])) :: ((nad od_p), .inr (0, [(frB nad od_p), (frA nad on_p od_p), .int o_1_2, .int o_1_3, .int o_1_4, .int o_1_5, .int o_1_6, .int o_1_7, .int o_1_8, .int o_1_9, .int o_1_10, .int o_1_11, .int o_1_12, .int o_1_13, .int o_1_14])) :: (a_draft_h0, .inr (1, [.ref nq_2_0, .int o_2_1])) :: (a_scanner_h0, .inr (4, [.ref a_text_a_scanner_h0, .int next_a_scanner_h0, .int kind_a_scanner_h0, .int start_a_scanner_h0, .int width_a_scanner_h0])) :: (a_waiting_h0, .inr (5, [.ref nq_5_0, .int o_5_1])) :: (nq_2_0, .inl (cI, on_nq_2_0, .inl ob_nq_2_0)) :: (nq_5_0, .inl (cI, on_nq_5_0, .inl ob_nq_5_0)) :: fpo nad on_p od_p ocf_p)) := by
  refine Ct.mk (by decide) (Nat.le_of_ble_eq_true rfl) ?_
  intro p e s m below meth c hr hnm
  refine j_norm (pc' := 0) (lv' := [(0, .ref h0)]) (st' := []) (ws' := ((h0, .inr (2, [.ref a_scanner_h0, .ref a_draft_h0, .ref a_waiting_h0, .ref a_functions_h0, .ref (fad 0), .ref (fad fd), .ref a_text_h0, .int mode_h0, .int levels_h0, .int signs_h0, .int loops_h0, .int token_h0, .int fault_h0])) :: ((fad fd), .inr (0, [(frB fad fd), (frA fad fn fd), .int kind_t, .int place_t, .int width_t, .int second_t, .int parts_t, .int innerParts_t, .int innerPlace_t, .int innerWidth_t, .int signs_t, .int waitingBelow_t, .int limited_t, .int targets_t, .int lastBlock_t])) :: (a_draft_h0, .inr (1, [.ref a_cells_a_draft_h0, .int count_a_draft_h0])) :: (a_cells_a_draft_h0, .inl (cI, n_a_cells_a_draft_h0, .inl b_a_cells_a_draft_h0)) :: (a_scanner_h0, .inr (4, [.ref a_text_a_scanner_h0, .int next_a_scanner_h0, .int kind_a_scanner_h0, .int start_a_scanner_h0, .int width_a_scanner_h0])) :: (a_waiting_h0, .inr (5, [.ref a_cells_a_waiting_h0, .int count_a_waiting_h0])) :: (a_cells_a_waiting_h0, .inl (cI, n_a_cells_a_waiting_h0, .inl b_a_cells_a_waiting_h0)) :: fpo fad fn fd fcf)) (cl' := 0) (sl' := 0) rfl rfl rfl rfl rfl rfl ?_
  unfold F_Rd_takeAtStart at h
  have hC : 0 + mc ≤ mc := by omega
  have hS : 0 + ms ≤ ms := by omega
  refine j_aload_n d_Rd_takeAtStart_0 rfl 0 rfl ?_
  refine j_get ig_Rd rfl 0 rfl 11 (by decide) rfl m_180 rfl d_Rd_takeAtStart_1 ?_
  by_cases c1 : token_h0 = 41
  · replace h := it_t c1 h
    refine j_look (tgt := 48) (off := 44) d_Rd_takeAtStart_4 (by decide) (by rw [c1]; decide) (by decide) ?_
    refine j_aload_n d_Rd_takeAtStart_48 rfl 0 rfl ?_
    refine j_get ig_Rd rfl 0 rfl 5 (by decide) rfl m_174 rfl d_Rd_takeAtStart_49 ?_
    refine j_get ig_Fr rfl 1 rfl 2 (by decide) rfl m_111 rfl d_Rd_takeAtStart_52 ?_
    obtain ⟨r2, k4⟩ : ∃ z, (F_Rd_isCall kind_t) = z := ⟨_, rfl⟩
    replace h := nm_at k4 h
    refine j_callSg (n := 1) (As := [.int kind_t]) (rest := []) (wr := ([(h0, .inr (2, [.ref a_scanner_h0, .ref a_draft_h0, .ref a_waiting_h0, .ref a_functions_h0, .ref (fad 0), .ref (fad fd), .ref a_text_h0, .int mode_h0, .int levels_h0, .int signs_h0, .int loops_h0, .int token_h0, .int fault_h0])), ((fad fd), .inr (0, [(frB fad fd), (frA fad fn fd), .int kind_t, .int place_t, .int width_t, .int second_t, .int parts_t, .int innerParts_t, .int innerPlace_t, .int innerWidth_t, .int signs_t, .int waitingBelow_t, .int limited_t, .int targets_t, .int lastBlock_t])), (a_draft_h0, .inr (1, [.ref a_cells_a_draft_h0, .int count_a_draft_h0])), (a_cells_a_draft_h0, .inl (cI, n_a_cells_a_draft_h0, .inl b_a_cells_a_draft_h0)), (a_scanner_h0, .inr (4, [.ref a_text_a_scanner_h0, .int next_a_scanner_h0, .int kind_a_scanner_h0, .int start_a_scanner_h0, .int width_a_scanner_h0])), (a_waiting_h0, .inr (5, [.ref a_cells_a_waiting_h0, .int count_a_waiting_h0])), (a_cells_a_waiting_h0, .inl (cI, n_a_cells_a_waiting_h0, .inl b_a_cells_a_waiting_h0))] ++ fpo fad fn fd fcf)) (c_Rd_isCall l D cI cB cJ cS kind_t  r2 k4) k_Rd_315 (by decide) ⟨Nat.le_of_ble_eq_true rfl, Nat.le_of_ble_eq_true rfl⟩ (pk_mid (wr := [(h0, .inr (2, [.ref a_scanner_h0, .ref a_draft_h0, .ref a_waiting_h0, .ref a_functions_h0, .ref (fad 0), .ref (fad fd), .ref a_text_h0, .int mode_h0, .int levels_h0, .int signs_h0, .int loops_h0, .int token_h0, .int fault_h0])), ((fad fd), .inr (0, [(frB fad fd), (frA fad fn fd), .int kind_t, .int place_t, .int width_t, .int second_t, .int parts_t, .int innerParts_t, .int innerPlace_t, .int innerWidth_t, .int signs_t, .int waitingBelow_t, .int limited_t, .int targets_t, .int lastBlock_t])), (a_draft_h0, .inr (1, [.ref a_cells_a_draft_h0, .int count_a_draft_h0])), (a_cells_a_draft_h0, .inl (cI, n_a_cells_a_draft_h0, .inl b_a_cells_a_draft_h0)), (a_scanner_h0, .inr (4, [.ref a_text_a_scanner_h0, .int next_a_scanner_h0, .int kind_a_scanner_h0, .int start_a_scanner_h0, .int width_a_scanner_h0])), (a_waiting_h0, .inr (5, [.ref a_cells_a_waiting_h0, .int count_a_waiting_h0])), (a_cells_a_waiting_h0, .inl (cI, n_a_cells_a_waiting_h0, .inl b_a_cells_a_waiting_h0))]) (w0 := []) (pl := fpo fad fn fd fcf) [0, 1, 2, 3, 4, 5, 6] 7 rfl rfl (by decide)) rfl rfl (Nat.le_of_ble_eq_true rfl) d_Rd_takeAtStart_55 ⟨show 0 + 0 ≤ mc by omega, show 0 + 0 ≤ ms by omega⟩ (fun v w hq => ?_)
    obtain ⟨rfl, z3, rfl⟩ := hq
    refine j_perm (ws' := ((h0, .inr (2, [.ref a_scanner_h0, .ref a_draft_h0, .ref a_waiting_h0, .ref a_functions_h0, .ref (fad 0), .ref (fad fd), .ref a_text_h0, .int mode_h0, .int levels_h0, .int signs_h0, .int loops_h0, .int token_h0, .int fault_h0])) :: ((fad fd), .inr (0, [(frB fad fd), (frA fad fn fd), .int kind_t, .int place_t, .int width_t, .int second_t, .int parts_t, .int innerParts_t, .int innerPlace_t, .int innerWidth_t, .int signs_t, .int waitingBelow_t, .int limited_t, .int targets_t, .int lastBlock_t])) :: (a_draft_h0, .inr (1, [.ref a_cells_a_draft_h0, .int count_a_draft_h0])) :: (a_cells_a_draft_h0, .inl (cI, n_a_cells_a_draft_h0, .inl b_a_cells_a_draft_h0)) :: (a_scanner_h0, .inr (4, [.ref a_text_a_scanner_h0, .int next_a_scanner_h0, .int kind_a_scanner_h0, .int start_a_scanner_h0, .int width_a_scanner_h0])) :: (a_waiting_h0, .inr (5, [.ref a_cells_a_waiting_h0, .int count_a_waiting_h0])) :: (a_cells_a_waiting_h0, .inl (cI, n_a_cells_a_waiting_h0, .inl b_a_cells_a_waiting_h0)) :: fpo fad fn fd fcf)) (pm_eq (a := [(h0, .inr (2, [.ref a_scanner_h0, .ref a_draft_h0, .ref a_waiting_h0, .ref a_functions_h0, .ref (fad 0), .ref (fad fd), .ref a_text_h0, .int mode_h0, .int levels_h0, .int signs_h0, .int loops_h0, .int token_h0, .int fault_h0])), ((fad fd), .inr (0, [(frB fad fd), (frA fad fn fd), .int kind_t, .int place_t, .int width_t, .int second_t, .int parts_t, .int innerParts_t, .int innerPlace_t, .int innerWidth_t, .int signs_t, .int waitingBelow_t, .int limited_t, .int targets_t, .int lastBlock_t])), (a_draft_h0, .inr (1, [.ref a_cells_a_draft_h0, .int count_a_draft_h0])), (a_cells_a_draft_h0, .inl (cI, n_a_cells_a_draft_h0, .inl b_a_cells_a_draft_h0)), (a_scanner_h0, .inr (4, [.ref a_text_a_scanner_h0, .int next_a_scanner_h0, .int kind_a_scanner_h0, .int start_a_scanner_h0, .int width_a_scanner_h0])), (a_waiting_h0, .inr (5, [.ref a_cells_a_waiting_h0, .int count_a_waiting_h0])), (a_cells_a_waiting_h0, .inl (cI, n_a_cells_a_waiting_h0, .inl b_a_cells_a_waiting_h0))]) (b := fpo fad fn fd fcf) (c := []) rfl) ?_
    refine j_norm (pc' := 58) (st' := [.int r2]) (ws' := ((h0, .inr (2, [.ref a_scanner_h0, .ref a_draft_h0, .ref a_waiting_h0, .ref a_functions_h0, .ref (fad 0), .ref (fad fd), .ref a_text_h0, .int mode_h0, .int levels_h0, .int signs_h0, .int loops_h0, .int token_h0, .int fault_h0])) :: ((fad fd), .inr (0, [(frB fad fd), (frA fad fn fd), .int kind_t, .int place_t, .int width_t, .int second_t, .int parts_t, .int innerParts_t, .int innerPlace_t, .int innerWidth_t, .int signs_t, .int waitingBelow_t, .int limited_t, .int targets_t, .int lastBlock_t])) :: (a_draft_h0, .inr (1, [.ref a_cells_a_draft_h0, .int count_a_draft_h0])) :: (a_cells_a_draft_h0, .inl (cI, n_a_cells_a_draft_h0, .inl b_a_cells_a_draft_h0)) :: (a_scanner_h0, .inr (4, [.ref a_text_a_scanner_h0, .int next_a_scanner_h0, .int kind_a_scanner_h0, .int start_a_scanner_h0, .int width_a_scanner_h0])) :: (a_waiting_h0, .inr (5, [.ref a_cells_a_waiting_h0, .int count_a_waiting_h0])) :: (a_cells_a_waiting_h0, .inl (cI, n_a_cells_a_waiting_h0, .inl b_a_cells_a_waiting_h0)) :: fpo fad fn fd fcf)) (cl' := 0) (sl' := 0) rfl rfl rfl rfl rfl rfl ?_
    refine j_if_eq (tgt := 82) d_Rd_takeAtStart_58 (by decide) (fun c5 => ?_) (fun c5 => ?_)
    · replace h := it_t c5 h
      refine j_iconst (v := 0) d_Rd_takeAtStart_82 (by decide) ?_
      replace h := lf_s h
      obtain ⟨h, e1, e2⟩ := h
      replace h := Prod.mk.inj h
      obtain ⟨h9, h⟩ := h
      subst h9
      replace h := Prod.mk.inj h
      obtain ⟨h9, h⟩ := h
      subst h9
      replace h := Prod.mk.inj h
      obtain ⟨h9, h⟩ := h
      subst h9
      replace h := Prod.mk.inj h
      obtain ⟨h9, h⟩ := h
      subst h9
      replace h := Prod.mk.inj h
      obtain ⟨h9, h⟩ := h
      subst h9
      replace h := Prod.mk.inj h
      obtain ⟨h9, h⟩ := h
      subst h9
      replace h := Prod.mk.inj h
      obtain ⟨h9, h⟩ := h
      subst h9
      replace h := Prod.mk.inj h
      obtain ⟨h9, h⟩ := h
      subst h9
      replace h := Prod.mk.inj h
      obtain ⟨h9, h⟩ := h
      subst h9
      replace h := Prod.mk.inj h
      obtain ⟨h9, h⟩ := h
      subst h9
      replace h := Prod.mk.inj h
      obtain ⟨h9, h⟩ := h
      subst h9
      replace h := Prod.mk.inj h
      obtain ⟨h9, h⟩ := h
      subst h9
      replace h := Prod.mk.inj h
      obtain ⟨h9, h⟩ := h
      subst h9
      replace h := Prod.mk.inj h
      obtain ⟨h9, h⟩ := h
      subst h9
      replace h := Prod.mk.inj h
      obtain ⟨h9, h⟩ := h
      subst h9
      replace h := Prod.mk.inj h
      obtain ⟨h9, h⟩ := h
      subst h9
      replace h := Prod.mk.inj h
      obtain ⟨h9, h⟩ := h
      subst h9
      replace h := Prod.mk.inj h
      obtain ⟨h9, h⟩ := h
      subst h9
      replace h := Prod.mk.inj h
      obtain ⟨h9, h⟩ := h
      subst h9
      replace h := Prod.mk.inj h
      obtain ⟨h9, h⟩ := h
      subst h9
      replace h := Prod.mk.inj h
      obtain ⟨h9, h⟩ := h
      subst h9
      replace h := Prod.mk.inj h
      obtain ⟨h9, h⟩ := h
      subst h9
      replace h := Prod.mk.inj h
      obtain ⟨h9, h⟩ := h
      subst h9
      replace h := Prod.mk.inj h
      obtain ⟨h9, h⟩ := h
      subst h9
      replace h := Prod.mk.inj h
      obtain ⟨h9, h⟩ := h
      subst h9
      subst h
      refine j_widen (cl' := mc) (sl' := ms) (by omega) (by omega) ?_
      refine j_subP (w := [(h0, .inr (2, [.ref a_scanner_h0, .ref a_draft_h0, .ref a_waiting_h0, .ref a_functions_h0, .ref (fad 0), .ref (fad fd), .ref a_text_h0, .int mode_h0, .int levels_h0, .int signs_h0, .int loops_h0, .int token_h0, .int fault_h0])), ((fad fd), .inr (0, [(frB fad fd), (frA fad fn fd), .int kind_t, .int place_t, .int width_t, .int second_t, .int parts_t, .int innerParts_t, .int innerPlace_t, .int innerWidth_t, .int signs_t, .int waitingBelow_t, .int limited_t, .int targets_t, .int lastBlock_t])), (a_draft_h0, .inr (1, [.ref a_cells_a_draft_h0, .int count_a_draft_h0])), (a_scanner_h0, .inr (4, [.ref a_text_a_scanner_h0, .int next_a_scanner_h0, .int kind_a_scanner_h0, .int start_a_scanner_h0, .int width_a_scanner_h0])), (a_waiting_h0, .inr (5, [.ref a_cells_a_waiting_h0, .int count_a_waiting_h0])), (a_cells_a_draft_h0, .inl (cI, n_a_cells_a_draft_h0, .inl b_a_cells_a_draft_h0)), (a_cells_a_waiting_h0, .inl (cI, n_a_cells_a_waiting_h0, .inl b_a_cells_a_waiting_h0))]) (pl := fpo fad fn fd fcf) (lv' := []) [0, 1, 2, 4, 5, 3, 6] [] 7 rfl rfl (by decide) [] rfl ?_
      exact j_zretE hr (zb_n zb0) d_Rd_takeAtStart_83 ⟨fad, a_cells_a_draft_h0, a_cells_a_waiting_h0, rfl, zb0, rfl⟩
    · replace h := it_f c5 h
      refine j_aload_n d_Rd_takeAtStart_61 rfl 0 rfl ?_
      refine j_get ig_Rd rfl 0 rfl 5 (by decide) rfl m_174 rfl d_Rd_takeAtStart_62 ?_
      refine j_get ig_Fr rfl 1 rfl 6 (by decide) rfl m_119 rfl d_Rd_takeAtStart_65 ?_
      refine j_if_ne (tgt := 82) d_Rd_takeAtStart_68 (by decide) (fun c6 => ?_) (fun c6 => ?_)
      · replace h := it_f c6 h
        refine j_iconst (v := 0) d_Rd_takeAtStart_82 (by decide) ?_
        replace h := lf_s h
        obtain ⟨h, e1, e2⟩ := h
        replace h := Prod.mk.inj h
        obtain ⟨h9, h⟩ := h
        subst h9
        replace h := Prod.mk.inj h
        obtain ⟨h9, h⟩ := h
        subst h9
        replace h := Prod.mk.inj h
        obtain ⟨h9, h⟩ := h
        subst h9
        replace h := Prod.mk.inj h
        obtain ⟨h9, h⟩ := h
        subst h9
        replace h := Prod.mk.inj h
        obtain ⟨h9, h⟩ := h
        subst h9
        replace h := Prod.mk.inj h
        obtain ⟨h9, h⟩ := h
        subst h9
        replace h := Prod.mk.inj h
        obtain ⟨h9, h⟩ := h
        subst h9
        replace h := Prod.mk.inj h
        obtain ⟨h9, h⟩ := h
        subst h9
        replace h := Prod.mk.inj h
        obtain ⟨h9, h⟩ := h
        subst h9
        replace h := Prod.mk.inj h
        obtain ⟨h9, h⟩ := h
        subst h9
        replace h := Prod.mk.inj h
        obtain ⟨h9, h⟩ := h
        subst h9
        replace h := Prod.mk.inj h
        obtain ⟨h9, h⟩ := h
        subst h9
        replace h := Prod.mk.inj h
        obtain ⟨h9, h⟩ := h
        subst h9
        replace h := Prod.mk.inj h
        obtain ⟨h9, h⟩ := h
        subst h9
        replace h := Prod.mk.inj h
        obtain ⟨h9, h⟩ := h
        subst h9
        replace h := Prod.mk.inj h
        obtain ⟨h9, h⟩ := h
        subst h9
        replace h := Prod.mk.inj h
        obtain ⟨h9, h⟩ := h
        subst h9
        replace h := Prod.mk.inj h
        obtain ⟨h9, h⟩ := h
        subst h9
        replace h := Prod.mk.inj h
        obtain ⟨h9, h⟩ := h
        subst h9
        replace h := Prod.mk.inj h
        obtain ⟨h9, h⟩ := h
        subst h9
        replace h := Prod.mk.inj h
        obtain ⟨h9, h⟩ := h
        subst h9
        replace h := Prod.mk.inj h
        obtain ⟨h9, h⟩ := h
        subst h9
        replace h := Prod.mk.inj h
        obtain ⟨h9, h⟩ := h
        subst h9
        replace h := Prod.mk.inj h
        obtain ⟨h9, h⟩ := h
        subst h9
        replace h := Prod.mk.inj h
        obtain ⟨h9, h⟩ := h
        subst h9
        subst h
        refine j_widen (cl' := mc) (sl' := ms) (by omega) (by omega) ?_
        refine j_subP (w := [(h0, .inr (2, [.ref a_scanner_h0, .ref a_draft_h0, .ref a_waiting_h0, .ref a_functions_h0, .ref (fad 0), .ref (fad fd), .ref a_text_h0, .int mode_h0, .int levels_h0, .int signs_h0, .int loops_h0, .int token_h0, .int fault_h0])), ((fad fd), .inr (0, [(frB fad fd), (frA fad fn fd), .int kind_t, .int place_t, .int width_t, .int second_t, .int parts_t, .int innerParts_t, .int innerPlace_t, .int innerWidth_t, .int signs_t, .int waitingBelow_t, .int limited_t, .int targets_t, .int lastBlock_t])), (a_draft_h0, .inr (1, [.ref a_cells_a_draft_h0, .int count_a_draft_h0])), (a_scanner_h0, .inr (4, [.ref a_text_a_scanner_h0, .int next_a_scanner_h0, .int kind_a_scanner_h0, .int start_a_scanner_h0, .int width_a_scanner_h0])), (a_waiting_h0, .inr (5, [.ref a_cells_a_waiting_h0, .int count_a_waiting_h0])), (a_cells_a_draft_h0, .inl (cI, n_a_cells_a_draft_h0, .inl b_a_cells_a_draft_h0)), (a_cells_a_waiting_h0, .inl (cI, n_a_cells_a_waiting_h0, .inl b_a_cells_a_waiting_h0))]) (pl := fpo fad fn fd fcf) (lv' := []) [0, 1, 2, 4, 5, 3, 6] [] 7 rfl rfl (by decide) [] rfl ?_
        exact j_zretE hr (zb_n zb0) d_Rd_takeAtStart_83 ⟨fad, a_cells_a_draft_h0, a_cells_a_waiting_h0, rfl, zb0, rfl⟩
      · replace h := it_t c6 h
        refine j_aload_n d_Rd_takeAtStart_71 rfl 0 rfl ?_
        replace h := bw_s h
        obtain ⟨⟨r7, r8, r9, r10, r11, r12, r13, r14, r15, r16, r17, r18, r19, r20, r21, r22, r23, r24, r25, r26⟩, C29, S30, C31, S32, k33, h, e1, e2⟩ := h
        replace hC : 0 + C29 + C31 ≤ mc := by omega
        replace hS : 0 + S30 + S32 ≤ ms := by omega
        clear e1 e2
        refine j_callVg (n := 0) (As := []) (rest := []) (wr := [(a_scanner_h0, .inr (4, [.ref a_text_a_scanner_h0, .int next_a_scanner_h0, .int kind_a_scanner_h0, .int start_a_scanner_h0, .int width_a_scanner_h0])), (a_waiting_h0, .inr (5, [.ref a_cells_a_waiting_h0, .int count_a_waiting_h0])), (a_cells_a_waiting_h0, .inl (cI, n_a_cells_a_waiting_h0, .inl b_a_cells_a_waiting_h0))]) (c_Rd_closeCall l D cI cB cJ cS h0 fad a_scanner_h0 a_draft_h0 a_waiting_h0 a_functions_h0 a_text_h0 a_cells_a_draft_h0 fn fd fcf mode_h0 levels_h0 signs_h0 loops_h0 token_h0 fault_h0 kind_t place_t width_t second_t parts_t innerParts_t innerPlace_t innerWidth_t signs_t waitingBelow_t limited_t targets_t lastBlock_t count_a_draft_h0 n_a_cells_a_draft_h0 b_a_cells_a_draft_h0  r7 r8 r9 r10 r11 r12 r13 r14 r15 r16 r17 r18 r19 r20 r21 r22 r23 r24 r25 r26 C29 S30 k33) k_Rd_318 (by decide) ⟨Nat.le_of_ble_eq_true rfl, Nat.le_of_ble_eq_true rfl⟩ rfl 0 rfl (pk_app (wr := [(a_scanner_h0, .inr (4, [.ref a_text_a_scanner_h0, .int next_a_scanner_h0, .int kind_a_scanner_h0, .int start_a_scanner_h0, .int width_a_scanner_h0])), (a_waiting_h0, .inr (5, [.ref a_cells_a_waiting_h0, .int count_a_waiting_h0])), (a_cells_a_waiting_h0, .inl (cI, n_a_cells_a_waiting_h0, .inl b_a_cells_a_waiting_h0))]) (w0 := [(h0, .inr (2, [.ref a_scanner_h0, .ref a_draft_h0, .ref a_waiting_h0, .ref a_functions_h0, .ref (fad 0), .ref (fad fd), .ref a_text_h0, .int mode_h0, .int levels_h0, .int signs_h0, .int loops_h0, .int token_h0, .int fault_h0])), ((fad fd), .inr (0, [(frB fad fd), (frA fad fn fd), .int kind_t, .int place_t, .int width_t, .int second_t, .int parts_t, .int innerParts_t, .int innerPlace_t, .int innerWidth_t, .int signs_t, .int waitingBelow_t, .int limited_t, .int targets_t, .int lastBlock_t])), (a_draft_h0, .inr (1, [.ref a_cells_a_draft_h0, .int count_a_draft_h0])), (a_cells_a_draft_h0, .inl (cI, n_a_cells_a_draft_h0, .inl b_a_cells_a_draft_h0))]) (pl := fpo fad fn fd fcf) [4, 5, 6, 0, 1, 2, 3] 7 rfl rfl rfl (by decide)) rfl rfl (Nat.le_of_ble_eq_true rfl) d_Rd_takeAtStart_72 ⟨show 0 + C29 ≤ mc by omega, show 0 + S30 ≤ ms by omega⟩ (fun v w hq => ?_)
        obtain ⟨a27, q28, rfl, _, rfl⟩ := hq
        refine j_norm (pc' := 75) (st' := [.int 1]) (ws' := ((a_scanner_h0, .inr (4, [.ref a_text_a_scanner_h0, .int next_a_scanner_h0, .int kind_a_scanner_h0, .int start_a_scanner_h0, .int width_a_scanner_h0])) :: (a_waiting_h0, .inr (5, [.ref a_cells_a_waiting_h0, .int count_a_waiting_h0])) :: (a_cells_a_waiting_h0, .inl (cI, n_a_cells_a_waiting_h0, .inl b_a_cells_a_waiting_h0)) :: (h0, .inr (2, [.ref a_scanner_h0, .ref a_draft_h0, .ref a_waiting_h0, .ref a_functions_h0, .ref (a27 0), .ref (a27 r8), .ref a_text_h0, .int r10, .int ((levels_h0 - 1) - signs_t), .int 0, .int loops_h0, .int token_h0, .int fault_h0])) :: ((a27 r8), .inr (0, [(frB a27 r8), (frA a27 r7 r8), .int r11, .int r12, .int r13, .int r14, .int r15, .int r16, .int r17, .int r18, .int r19, .int r20, .int r21, .int r22, .int r23])) :: (a_draft_h0, .inr (1, [.ref q28, .int r24])) :: (q28, .inl (cI, r25, .inl r26)) :: fpo a27 r7 r8 r9)) (cl' := 0 + C29) (sl' := 0 + S30) rfl rfl rfl rfl rfl rfl ?_
        refine j_if_eq (tgt := 82) d_Rd_takeAtStart_75 (by decide) (fun c34 => absurd c34 (by decide)) (fun c34 => ?_)
        refine j_iconst (v := 1) d_Rd_takeAtStart_78 (by decide) ?_
        refine j_goto (tgt := 83) d_Rd_takeAtStart_79 (by decide) ?_
        replace h := lf_s h
        obtain ⟨h, e1, e2⟩ := h
        replace h := Prod.mk.inj h
        obtain ⟨h9, h⟩ := h
        subst h9
        replace h := Prod.mk.inj h
        obtain ⟨h9, h⟩ := h
        subst h9
        replace h := Prod.mk.inj h
        obtain ⟨h9, h⟩ := h
        subst h9
        replace h := Prod.mk.inj h
        obtain ⟨h9, h⟩ := h
        subst h9
        replace h := Prod.mk.inj h
        obtain ⟨h9, h⟩ := h
        subst h9
        replace h := Prod.mk.inj h
        obtain ⟨h9, h⟩ := h
        subst h9
        replace h := Prod.mk.inj h
        obtain ⟨h9, h⟩ := h
        subst h9
        replace h := Prod.mk.inj h
        obtain ⟨h9, h⟩ := h
        subst h9
        replace h := Prod.mk.inj h
        obtain ⟨h9, h⟩ := h
        subst h9
        replace h := Prod.mk.inj h
        obtain ⟨h9, h⟩ := h
        subst h9
        replace h := Prod.mk.inj h
        obtain ⟨h9, h⟩ := h
        subst h9
        replace h := Prod.mk.inj h
        obtain ⟨h9, h⟩ := h
        subst h9
        replace h := Prod.mk.inj h
        obtain ⟨h9, h⟩ := h
        subst h9
        replace h := Prod.mk.inj h
        obtain ⟨h9, h⟩ := h
        subst h9
        replace h := Prod.mk.inj h
        obtain ⟨h9, h⟩ := h
        subst h9
        replace h := Prod.mk.inj h
        obtain ⟨h9, h⟩ := h
        subst h9
        replace h := Prod.mk.inj h
        obtain ⟨h9, h⟩ := h
        subst h9
        replace h := Prod.mk.inj h
        obtain ⟨h9, h⟩ := h
        subst h9
        replace h := Prod.mk.inj h
        obtain ⟨h9, h⟩ := h
        subst h9
        replace h := Prod.mk.inj h
        obtain ⟨h9, h⟩ := h
        subst h9
        replace h := Prod.mk.inj h
        obtain ⟨h9, h⟩ := h
        subst h9
        replace h := Prod.mk.inj h
        obtain ⟨h9, h⟩ := h
        subst h9
        replace h := Prod.mk.inj h
        obtain ⟨h9, h⟩ := h
        subst h9
        replace h := Prod.mk.inj h
        obtain ⟨h9, h⟩ := h
        subst h9
        replace h := Prod.mk.inj h
        obtain ⟨h9, h⟩ := h
        subst h9
        subst h
        refine j_widen (cl' := mc) (sl' := ms) (by omega) (by omega) ?_
        refine j_subP (w := [(h0, .inr (2, [.ref a_scanner_h0, .ref a_draft_h0, .ref a_waiting_h0, .ref a_functions_h0, .ref (a27 0), .ref (a27 r8), .ref a_text_h0, .int r10, .int ((levels_h0 - 1) - signs_t), .int 0, .int loops_h0, .int token_h0, .int fault_h0])), ((a27 r8), .inr (0, [(frB a27 r8), (frA a27 r7 r8), .int r11, .int r12, .int r13, .int r14, .int r15, .int r16, .int r17, .int r18, .int r19, .int r20, .int r21, .int r22, .int r23])), (a_draft_h0, .inr (1, [.ref q28, .int r24])), (a_scanner_h0, .inr (4, [.ref a_text_a_scanner_h0, .int next_a_scanner_h0, .int kind_a_scanner_h0, .int start_a_scanner_h0, .int width_a_scanner_h0])), (a_waiting_h0, .inr (5, [.ref a_cells_a_waiting_h0, .int count_a_waiting_h0])), (q28, .inl (cI, r25, .inl r26)), (a_cells_a_waiting_h0, .inl (cI, n_a_cells_a_waiting_h0, .inl b_a_cells_a_waiting_h0))]) (pl := fpo a27 r7 r8 r9) (lv' := []) [3, 4, 5, 0, 1, 6, 2] [] 7 rfl rfl (by decide) [] rfl ?_
        exact j_zretE hr (zb_n zb1) d_Rd_takeAtStart_83 ⟨a27, q28, a_cells_a_waiting_h0, rfl, zb1, rfl⟩
  · replace h := it_f c1 h
    by_cases c35 : token_h0 = 58
    · replace h := it_t c35 h
      refine j_look (tgt := 129) (off := 125) d_Rd_takeAtStart_4 (by decide) (by rw [c35]; decide) (by decide) ?_
      refine j_aload_n d_Rd_takeAtStart_129 rfl 0 rfl ?_
      refine j_get ig_Rd rfl 0 rfl 5 (by decide) rfl m_174 rfl d_Rd_takeAtStart_130 ?_
      refine j_get ig_Fr rfl 1 rfl 2 (by decide) rfl m_111 rfl d_Rd_takeAtStart_133 ?_
      refine j_bipush (v := 33) d_Rd_takeAtStart_136 (by decide) ?_
      refine j_icmp_ne (tgt := 163) d_Rd_takeAtStart_138 (by decide) (fun c36 => ?_) (fun c36 => ?_)
      · replace h := it_f c36 h
        refine j_iconst (v := 0) d_Rd_takeAtStart_163 (by decide) ?_
        replace h := lf_s h
        obtain ⟨h, e1, e2⟩ := h
        replace h := Prod.mk.inj h
        obtain ⟨h9, h⟩ := h
        subst h9
        replace h := Prod.mk.inj h
        obtain ⟨h9, h⟩ := h
        subst h9
        replace h := Prod.mk.inj h
        obtain ⟨h9, h⟩ := h
        subst h9
        replace h := Prod.mk.inj h
        obtain ⟨h9, h⟩ := h
        subst h9
        replace h := Prod.mk.inj h
        obtain ⟨h9, h⟩ := h
        subst h9
        replace h := Prod.mk.inj h
        obtain ⟨h9, h⟩ := h
        subst h9
        replace h := Prod.mk.inj h
        obtain ⟨h9, h⟩ := h
        subst h9
        replace h := Prod.mk.inj h
        obtain ⟨h9, h⟩ := h
        subst h9
        replace h := Prod.mk.inj h
        obtain ⟨h9, h⟩ := h
        subst h9
        replace h := Prod.mk.inj h
        obtain ⟨h9, h⟩ := h
        subst h9
        replace h := Prod.mk.inj h
        obtain ⟨h9, h⟩ := h
        subst h9
        replace h := Prod.mk.inj h
        obtain ⟨h9, h⟩ := h
        subst h9
        replace h := Prod.mk.inj h
        obtain ⟨h9, h⟩ := h
        subst h9
        replace h := Prod.mk.inj h
        obtain ⟨h9, h⟩ := h
        subst h9
        replace h := Prod.mk.inj h
        obtain ⟨h9, h⟩ := h
        subst h9
        replace h := Prod.mk.inj h
        obtain ⟨h9, h⟩ := h
        subst h9
        replace h := Prod.mk.inj h
        obtain ⟨h9, h⟩ := h
        subst h9
        replace h := Prod.mk.inj h
        obtain ⟨h9, h⟩ := h
        subst h9
        replace h := Prod.mk.inj h
        obtain ⟨h9, h⟩ := h
        subst h9
        replace h := Prod.mk.inj h
        obtain ⟨h9, h⟩ := h
        subst h9
        replace h := Prod.mk.inj h
        obtain ⟨h9, h⟩ := h
        subst h9
        replace h := Prod.mk.inj h
        obtain ⟨h9, h⟩ := h
        subst h9
        replace h := Prod.mk.inj h
        obtain ⟨h9, h⟩ := h
        subst h9
        replace h := Prod.mk.inj h
        obtain ⟨h9, h⟩ := h
        subst h9
        replace h := Prod.mk.inj h
        obtain ⟨h9, h⟩ := h
        subst h9
        subst h
        refine j_widen (cl' := mc) (sl' := ms) (by omega) (by omega) ?_
        refine j_subP (w := [(h0, .inr (2, [.ref a_scanner_h0, .ref a_draft_h0, .ref a_waiting_h0, .ref a_functions_h0, .ref (fad 0), .ref (fad fd), .ref a_text_h0, .int mode_h0, .int levels_h0, .int signs_h0, .int loops_h0, .int token_h0, .int fault_h0])), ((fad fd), .inr (0, [(frB fad fd), (frA fad fn fd), .int kind_t, .int place_t, .int width_t, .int second_t, .int parts_t, .int innerParts_t, .int innerPlace_t, .int innerWidth_t, .int signs_t, .int waitingBelow_t, .int limited_t, .int targets_t, .int lastBlock_t])), (a_draft_h0, .inr (1, [.ref a_cells_a_draft_h0, .int count_a_draft_h0])), (a_scanner_h0, .inr (4, [.ref a_text_a_scanner_h0, .int next_a_scanner_h0, .int kind_a_scanner_h0, .int start_a_scanner_h0, .int width_a_scanner_h0])), (a_waiting_h0, .inr (5, [.ref a_cells_a_waiting_h0, .int count_a_waiting_h0])), (a_cells_a_draft_h0, .inl (cI, n_a_cells_a_draft_h0, .inl b_a_cells_a_draft_h0)), (a_cells_a_waiting_h0, .inl (cI, n_a_cells_a_waiting_h0, .inl b_a_cells_a_waiting_h0))]) (pl := fpo fad fn fd fcf) (lv' := []) [0, 1, 2, 4, 5, 3, 6] [] 7 rfl rfl (by decide) [] rfl ?_
        exact j_zretE hr (zb_n zb0) d_Rd_takeAtStart_164 ⟨fad, a_cells_a_draft_h0, a_cells_a_waiting_h0, rfl, zb0, rfl⟩
      · replace h := it_t c36 h
        refine j_aload_n d_Rd_takeAtStart_141 rfl 0 rfl ?_
        refine j_get ig_Rd rfl 0 rfl 5 (by decide) rfl m_174 rfl d_Rd_takeAtStart_142 ?_
        refine j_get ig_Fr rfl 1 rfl 6 (by decide) rfl m_119 rfl d_Rd_takeAtStart_145 ?_
        refine j_iconst (v := 2) d_Rd_takeAtStart_148 (by decide) ?_
        refine j_icmp_ge (tgt := 163) d_Rd_takeAtStart_149 (by decide) (fun c37 => ?_) (fun c37 => ?_)
        · replace h := it_t c37 h
          refine j_iconst (v := 0) d_Rd_takeAtStart_163 (by decide) ?_
          replace h := lf_s h
          obtain ⟨h, e1, e2⟩ := h
          replace h := Prod.mk.inj h
          obtain ⟨h9, h⟩ := h
          subst h9
          replace h := Prod.mk.inj h
          obtain ⟨h9, h⟩ := h
          subst h9
          replace h := Prod.mk.inj h
          obtain ⟨h9, h⟩ := h
          subst h9
          replace h := Prod.mk.inj h
          obtain ⟨h9, h⟩ := h
          subst h9
          replace h := Prod.mk.inj h
          obtain ⟨h9, h⟩ := h
          subst h9
          replace h := Prod.mk.inj h
          obtain ⟨h9, h⟩ := h
          subst h9
          replace h := Prod.mk.inj h
          obtain ⟨h9, h⟩ := h
          subst h9
          replace h := Prod.mk.inj h
          obtain ⟨h9, h⟩ := h
          subst h9
          replace h := Prod.mk.inj h
          obtain ⟨h9, h⟩ := h
          subst h9
          replace h := Prod.mk.inj h
          obtain ⟨h9, h⟩ := h
          subst h9
          replace h := Prod.mk.inj h
          obtain ⟨h9, h⟩ := h
          subst h9
          replace h := Prod.mk.inj h
          obtain ⟨h9, h⟩ := h
          subst h9
          replace h := Prod.mk.inj h
          obtain ⟨h9, h⟩ := h
          subst h9
          replace h := Prod.mk.inj h
          obtain ⟨h9, h⟩ := h
          subst h9
          replace h := Prod.mk.inj h
          obtain ⟨h9, h⟩ := h
          subst h9
          replace h := Prod.mk.inj h
          obtain ⟨h9, h⟩ := h
          subst h9
          replace h := Prod.mk.inj h
          obtain ⟨h9, h⟩ := h
          subst h9
          replace h := Prod.mk.inj h
          obtain ⟨h9, h⟩ := h
          subst h9
          replace h := Prod.mk.inj h
          obtain ⟨h9, h⟩ := h
          subst h9
          replace h := Prod.mk.inj h
          obtain ⟨h9, h⟩ := h
          subst h9
          replace h := Prod.mk.inj h
          obtain ⟨h9, h⟩ := h
          subst h9
          replace h := Prod.mk.inj h
          obtain ⟨h9, h⟩ := h
          subst h9
          replace h := Prod.mk.inj h
          obtain ⟨h9, h⟩ := h
          subst h9
          replace h := Prod.mk.inj h
          obtain ⟨h9, h⟩ := h
          subst h9
          replace h := Prod.mk.inj h
          obtain ⟨h9, h⟩ := h
          subst h9
          subst h
          refine j_widen (cl' := mc) (sl' := ms) (by omega) (by omega) ?_
          refine j_subP (w := [(h0, .inr (2, [.ref a_scanner_h0, .ref a_draft_h0, .ref a_waiting_h0, .ref a_functions_h0, .ref (fad 0), .ref (fad fd), .ref a_text_h0, .int mode_h0, .int levels_h0, .int signs_h0, .int loops_h0, .int token_h0, .int fault_h0])), ((fad fd), .inr (0, [(frB fad fd), (frA fad fn fd), .int kind_t, .int place_t, .int width_t, .int second_t, .int parts_t, .int innerParts_t, .int innerPlace_t, .int innerWidth_t, .int signs_t, .int waitingBelow_t, .int limited_t, .int targets_t, .int lastBlock_t])), (a_draft_h0, .inr (1, [.ref a_cells_a_draft_h0, .int count_a_draft_h0])), (a_scanner_h0, .inr (4, [.ref a_text_a_scanner_h0, .int next_a_scanner_h0, .int kind_a_scanner_h0, .int start_a_scanner_h0, .int width_a_scanner_h0])), (a_waiting_h0, .inr (5, [.ref a_cells_a_waiting_h0, .int count_a_waiting_h0])), (a_cells_a_draft_h0, .inl (cI, n_a_cells_a_draft_h0, .inl b_a_cells_a_draft_h0)), (a_cells_a_waiting_h0, .inl (cI, n_a_cells_a_waiting_h0, .inl b_a_cells_a_waiting_h0))]) (pl := fpo fad fn fd fcf) (lv' := []) [0, 1, 2, 4, 5, 3, 6] [] 7 rfl rfl (by decide) [] rfl ?_
          exact j_zretE hr (zb_n zb0) d_Rd_takeAtStart_164 ⟨fad, a_cells_a_draft_h0, a_cells_a_waiting_h0, rfl, zb0, rfl⟩
        · replace h := it_f c37 h
          refine j_aload_n d_Rd_takeAtStart_152 rfl 0 rfl ?_
          replace h := bw_s h
          obtain ⟨⟨r38, r39, r40⟩, C42, S43, C44, S45, k46, h, e1, e2⟩ := h
          replace hC : 0 + C42 + C44 ≤ mc := by omega
          replace hS : 0 + S43 + S45 ≤ ms := by omega
          clear e1 e2
          refine j_callVg (n := 0) (As := []) (rest := []) (wr := ([(a_waiting_h0, .inr (5, [.ref a_cells_a_waiting_h0, .int count_a_waiting_h0])), (a_cells_a_waiting_h0, .inl (cI, n_a_cells_a_waiting_h0, .inl b_a_cells_a_waiting_h0))] ++ fpo fad fn fd fcf)) (c_Rd_addAll l D cI cB cJ cS h0 a_scanner_h0 a_draft_h0 a_waiting_h0 a_functions_h0 (fad 0) (fad fd) a_text_h0 a_text_a_scanner_h0 a_cells_a_draft_h0 (frB fad fd) (frA fad fn fd) mode_h0 levels_h0 signs_h0 loops_h0 token_h0 fault_h0 next_a_scanner_h0 kind_a_scanner_h0 start_a_scanner_h0 width_a_scanner_h0 count_a_draft_h0 n_a_cells_a_draft_h0 b_a_cells_a_draft_h0 kind_t place_t width_t second_t parts_t innerParts_t innerPlace_t innerWidth_t signs_t waitingBelow_t limited_t targets_t lastBlock_t  r38 r39 r40 C42 S43 k46) k_Rd_324 (by decide) ⟨Nat.le_of_ble_eq_true rfl, Nat.le_of_ble_eq_true rfl⟩ rfl 0 rfl (pk_mid (wr := [(a_waiting_h0, .inr (5, [.ref a_cells_a_waiting_h0, .int count_a_waiting_h0])), (a_cells_a_waiting_h0, .inl (cI, n_a_cells_a_waiting_h0, .inl b_a_cells_a_waiting_h0))]) (w0 := [(h0, .inr (2, [.ref a_scanner_h0, .ref a_draft_h0, .ref a_waiting_h0, .ref a_functions_h0, .ref (fad 0), .ref (fad fd), .ref a_text_h0, .int mode_h0, .int levels_h0, .int signs_h0, .int loops_h0, .int token_h0, .int fault_h0])), (a_scanner_h0, .inr (4, [.ref a_text_a_scanner_h0, .int next_a_scanner_h0, .int kind_a_scanner_h0, .int start_a_scanner_h0, .int width_a_scanner_h0])), (a_draft_h0, .inr (1, [.ref a_cells_a_draft_h0, .int count_a_draft_h0])), (a_cells_a_draft_h0, .inl (cI, n_a_cells_a_draft_h0, .inl b_a_cells_a_draft_h0)), ((fad fd), .inr (0, [(frB fad fd), (frA fad fn fd), .int kind_t, .int place_t, .int width_t, .int second_t, .int parts_t, .int innerParts_t, .int innerPlace_t, .int innerWidth_t, .int signs_t, .int waitingBelow_t, .int limited_t, .int targets_t, .int lastBlock_t]))]) (pl := fpo fad fn fd fcf) [5, 6, 0, 4, 2, 3, 1] 7 rfl rfl (by decide)) rfl rfl (Nat.le_of_ble_eq_true rfl) d_Rd_takeAtStart_153 ⟨show 0 + C42 ≤ mc by omega, show 0 + S43 ≤ ms by omega⟩ (fun v w hq => ?_)
          obtain ⟨q41, rfl, _, rfl⟩ := hq
          refine j_perm (ws' := ((a_waiting_h0, .inr (5, [.ref a_cells_a_waiting_h0, .int count_a_waiting_h0])) :: (a_cells_a_waiting_h0, .inl (cI, n_a_cells_a_waiting_h0, .inl b_a_cells_a_waiting_h0)) :: (h0, .inr (2, [.ref a_scanner_h0, .ref a_draft_h0, .ref a_waiting_h0, .ref a_functions_h0, .ref (fad 0), .ref (fad fd), .ref a_text_h0, .int 35, .int levels_h0, .int signs_h0, .int loops_h0, .int token_h0, .int fault_h0])) :: (a_scanner_h0, .inr (4, [.ref a_text_a_scanner_h0, .int next_a_scanner_h0, .int kind_a_scanner_h0, .int start_a_scanner_h0, .int width_a_scanner_h0])) :: (a_draft_h0, .inr (1, [.ref q41, .int r38])) :: ((fad fd), .inr (0, [(frB fad fd), (frA fad fn fd), .int kind_t, .int place_t, .int width_t, .int second_t, .int parts_t, .int innerParts_t, .int innerPlace_t, .int innerWidth_t, .int signs_t, .int waitingBelow_t, .int 1, .int targets_t, .int lastBlock_t])) :: (q41, .inl (cI, r39, .inl r40)) :: fpo fad fn fd fcf)) (pm_eq (a := [(a_waiting_h0, .inr (5, [.ref a_cells_a_waiting_h0, .int count_a_waiting_h0])), (a_cells_a_waiting_h0, .inl (cI, n_a_cells_a_waiting_h0, .inl b_a_cells_a_waiting_h0))]) (b := fpo fad fn fd fcf) (c := [(h0, .inr (2, [.ref a_scanner_h0, .ref a_draft_h0, .ref a_waiting_h0, .ref a_functions_h0, .ref (fad 0), .ref (fad fd), .ref a_text_h0, .int 35, .int levels_h0, .int signs_h0, .int loops_h0, .int token_h0, .int fault_h0])), (a_scanner_h0, .inr (4, [.ref a_text_a_scanner_h0, .int next_a_scanner_h0, .int kind_a_scanner_h0, .int start_a_scanner_h0, .int width_a_scanner_h0])), (a_draft_h0, .inr (1, [.ref q41, .int r38])), ((fad fd), .inr (0, [(frB fad fd), (frA fad fn fd), .int kind_t, .int place_t, .int width_t, .int second_t, .int parts_t, .int innerParts_t, .int innerPlace_t, .int innerWidth_t, .int signs_t, .int waitingBelow_t, .int 1, .int targets_t, .int lastBlock_t])), (q41, .inl (cI, r39, .inl r40))]) rfl) ?_
          refine j_norm (pc' := 156) (st' := [.int 1]) (ws' := ((a_waiting_h0, .inr (5, [.ref a_cells_a_waiting_h0, .int count_a_waiting_h0])) :: (a_cells_a_waiting_h0, .inl (cI, n_a_cells_a_waiting_h0, .inl b_a_cells_a_waiting_h0)) :: (h0, .inr (2, [.ref a_scanner_h0, .ref a_draft_h0, .ref a_waiting_h0, .ref a_functions_h0, .ref (fad 0), .ref (fad fd), .ref a_text_h0, .int 35, .int levels_h0, .int signs_h0, .int loops_h0, .int token_h0, .int fault_h0])) :: (a_scanner_h0, .inr (4, [.ref a_text_a_scanner_h0, .int next_a_scanner_h0, .int kind_a_scanner_h0, .int start_a_scanner_h0, .int width_a_scanner_h0])) :: (a_draft_h0, .inr (1, [.ref q41, .int r38])) :: ((fad fd), .inr (0, [(frB fad fd), (frA fad fn fd), .int kind_t, .int place_t, .int width_t, .int second_t, .int parts_t, .int innerParts_t, .int innerPlace_t, .int innerWidth_t, .int signs_t, .int waitingBelow_t, .int 1, .int targets_t, .int lastBlock_t])) :: (q41, .inl (cI, r39, .inl r40)) :: fpo fad fn fd fcf)) (cl' := 0 + C42) (sl' := 0 + S43) rfl rfl rfl rfl rfl rfl ?_
          refine j_if_eq (tgt := 163) d_Rd_takeAtStart_156 (by decide) (fun c47 => absurd c47 (by decide)) (fun c47 => ?_)
          refine j_iconst (v := 1) d_Rd_takeAtStart_159 (by decide) ?_
          refine j_goto (tgt := 164) d_Rd_takeAtStart_160 (by decide) ?_
          replace h := lf_s h
          obtain ⟨h, e1, e2⟩ := h
          replace h := Prod.mk.inj h
          obtain ⟨h9, h⟩ := h
          subst h9
          replace h := Prod.mk.inj h
          obtain ⟨h9, h⟩ := h
          subst h9
          replace h := Prod.mk.inj h
          obtain ⟨h9, h⟩ := h
          subst h9
          replace h := Prod.mk.inj h
          obtain ⟨h9, h⟩ := h
          subst h9
          replace h := Prod.mk.inj h
          obtain ⟨h9, h⟩ := h
          subst h9
          replace h := Prod.mk.inj h
          obtain ⟨h9, h⟩ := h
          subst h9
          replace h := Prod.mk.inj h
          obtain ⟨h9, h⟩ := h
          subst h9
          replace h := Prod.mk.inj h
          obtain ⟨h9, h⟩ := h
          subst h9
          replace h := Prod.mk.inj h
          obtain ⟨h9, h⟩ := h
          subst h9
          replace h := Prod.mk.inj h
          obtain ⟨h9, h⟩ := h
          subst h9
          replace h := Prod.mk.inj h
          obtain ⟨h9, h⟩ := h
          subst h9
          replace h := Prod.mk.inj h
          obtain ⟨h9, h⟩ := h
          subst h9
          replace h := Prod.mk.inj h
          obtain ⟨h9, h⟩ := h
          subst h9
          replace h := Prod.mk.inj h
          obtain ⟨h9, h⟩ := h
          subst h9
          replace h := Prod.mk.inj h
          obtain ⟨h9, h⟩ := h
          subst h9
          replace h := Prod.mk.inj h
          obtain ⟨h9, h⟩ := h
          subst h9
          replace h := Prod.mk.inj h
          obtain ⟨h9, h⟩ := h
          subst h9
          replace h := Prod.mk.inj h
          obtain ⟨h9, h⟩ := h
          subst h9
          replace h := Prod.mk.inj h
          obtain ⟨h9, h⟩ := h
          subst h9
          replace h := Prod.mk.inj h
          obtain ⟨h9, h⟩ := h
          subst h9
          replace h := Prod.mk.inj h
          obtain ⟨h9, h⟩ := h
          subst h9
          replace h := Prod.mk.inj h
          obtain ⟨h9, h⟩ := h
          subst h9
          replace h := Prod.mk.inj h
          obtain ⟨h9, h⟩ := h
          subst h9
          replace h := Prod.mk.inj h
          obtain ⟨h9, h⟩ := h
          subst h9
          replace h := Prod.mk.inj h
          obtain ⟨h9, h⟩ := h
          subst h9
          subst h
          refine j_widen (cl' := mc) (sl' := ms) (by omega) (by omega) ?_
          refine j_subP (w := [(h0, .inr (2, [.ref a_scanner_h0, .ref a_draft_h0, .ref a_waiting_h0, .ref a_functions_h0, .ref (fad 0), .ref (fad fd), .ref a_text_h0, .int 35, .int levels_h0, .int signs_h0, .int loops_h0, .int token_h0, .int fault_h0])), ((fad fd), .inr (0, [(frB fad fd), (frA fad fn fd), .int kind_t, .int place_t, .int width_t, .int second_t, .int parts_t, .int innerParts_t, .int innerPlace_t, .int innerWidth_t, .int signs_t, .int waitingBelow_t, .int 1, .int targets_t, .int lastBlock_t])), (a_draft_h0, .inr (1, [.ref q41, .int r38])), (a_scanner_h0, .inr (4, [.ref a_text_a_scanner_h0, .int next_a_scanner_h0, .int kind_a_scanner_h0, .int start_a_scanner_h0, .int width_a_scanner_h0])), (a_waiting_h0, .inr (5, [.ref a_cells_a_waiting_h0, .int count_a_waiting_h0])), (q41, .inl (cI, r39, .inl r40)), (a_cells_a_waiting_h0, .inl (cI, n_a_cells_a_waiting_h0, .inl b_a_cells_a_waiting_h0))]) (pl := fpo fad fn fd fcf) (lv' := []) [2, 5, 4, 3, 0, 6, 1] [] 7 rfl rfl (by decide) [] rfl ?_
          exact j_zretE hr (zb_n zb1) d_Rd_takeAtStart_164 ⟨fad, q41, a_cells_a_waiting_h0, rfl, zb1, rfl⟩
    · replace h := it_f c35 h
      by_cases c48 : token_h0 = 93
      · replace h := it_t c48 h
        refine j_look (tgt := 84) (off := 80) d_Rd_takeAtStart_4 (by decide) (by rw [c48]; decide) (by decide) ?_
        refine j_aload_n d_Rd_takeAtStart_84 rfl 0 rfl ?_
        refine j_get ig_Rd rfl 0 rfl 5 (by decide) rfl m_174 rfl d_Rd_takeAtStart_85 ?_
        refine j_get ig_Fr rfl 1 rfl 2 (by decide) rfl m_111 rfl d_Rd_takeAtStart_88 ?_
        refine j_bipush (v := 36) d_Rd_takeAtStart_91 (by decide) ?_
        refine j_icmp_ne (tgt := 127) d_Rd_takeAtStart_93 (by decide) (fun c49 => ?_) (fun c49 => ?_)
        · replace h := it_f c49 h
          refine j_iconst (v := 0) d_Rd_takeAtStart_127 (by decide) ?_
          replace h := lf_s h
          obtain ⟨h, e1, e2⟩ := h
          replace h := Prod.mk.inj h
          obtain ⟨h9, h⟩ := h
          subst h9
          replace h := Prod.mk.inj h
          obtain ⟨h9, h⟩ := h
          subst h9
          replace h := Prod.mk.inj h
          obtain ⟨h9, h⟩ := h
          subst h9
          replace h := Prod.mk.inj h
          obtain ⟨h9, h⟩ := h
          subst h9
          replace h := Prod.mk.inj h
          obtain ⟨h9, h⟩ := h
          subst h9
          replace h := Prod.mk.inj h
          obtain ⟨h9, h⟩ := h
          subst h9
          replace h := Prod.mk.inj h
          obtain ⟨h9, h⟩ := h
          subst h9
          replace h := Prod.mk.inj h
          obtain ⟨h9, h⟩ := h
          subst h9
          replace h := Prod.mk.inj h
          obtain ⟨h9, h⟩ := h
          subst h9
          replace h := Prod.mk.inj h
          obtain ⟨h9, h⟩ := h
          subst h9
          replace h := Prod.mk.inj h
          obtain ⟨h9, h⟩ := h
          subst h9
          replace h := Prod.mk.inj h
          obtain ⟨h9, h⟩ := h
          subst h9
          replace h := Prod.mk.inj h
          obtain ⟨h9, h⟩ := h
          subst h9
          replace h := Prod.mk.inj h
          obtain ⟨h9, h⟩ := h
          subst h9
          replace h := Prod.mk.inj h
          obtain ⟨h9, h⟩ := h
          subst h9
          replace h := Prod.mk.inj h
          obtain ⟨h9, h⟩ := h
          subst h9
          replace h := Prod.mk.inj h
          obtain ⟨h9, h⟩ := h
          subst h9
          replace h := Prod.mk.inj h
          obtain ⟨h9, h⟩ := h
          subst h9
          replace h := Prod.mk.inj h
          obtain ⟨h9, h⟩ := h
          subst h9
          replace h := Prod.mk.inj h
          obtain ⟨h9, h⟩ := h
          subst h9
          replace h := Prod.mk.inj h
          obtain ⟨h9, h⟩ := h
          subst h9
          replace h := Prod.mk.inj h
          obtain ⟨h9, h⟩ := h
          subst h9
          replace h := Prod.mk.inj h
          obtain ⟨h9, h⟩ := h
          subst h9
          replace h := Prod.mk.inj h
          obtain ⟨h9, h⟩ := h
          subst h9
          replace h := Prod.mk.inj h
          obtain ⟨h9, h⟩ := h
          subst h9
          subst h
          refine j_widen (cl' := mc) (sl' := ms) (by omega) (by omega) ?_
          refine j_subP (w := [(h0, .inr (2, [.ref a_scanner_h0, .ref a_draft_h0, .ref a_waiting_h0, .ref a_functions_h0, .ref (fad 0), .ref (fad fd), .ref a_text_h0, .int mode_h0, .int levels_h0, .int signs_h0, .int loops_h0, .int token_h0, .int fault_h0])), ((fad fd), .inr (0, [(frB fad fd), (frA fad fn fd), .int kind_t, .int place_t, .int width_t, .int second_t, .int parts_t, .int innerParts_t, .int innerPlace_t, .int innerWidth_t, .int signs_t, .int waitingBelow_t, .int limited_t, .int targets_t, .int lastBlock_t])), (a_draft_h0, .inr (1, [.ref a_cells_a_draft_h0, .int count_a_draft_h0])), (a_scanner_h0, .inr (4, [.ref a_text_a_scanner_h0, .int next_a_scanner_h0, .int kind_a_scanner_h0, .int start_a_scanner_h0, .int width_a_scanner_h0])), (a_waiting_h0, .inr (5, [.ref a_cells_a_waiting_h0, .int count_a_waiting_h0])), (a_cells_a_draft_h0, .inl (cI, n_a_cells_a_draft_h0, .inl b_a_cells_a_draft_h0)), (a_cells_a_waiting_h0, .inl (cI, n_a_cells_a_waiting_h0, .inl b_a_cells_a_waiting_h0))]) (pl := fpo fad fn fd fcf) (lv' := []) [0, 1, 2, 4, 5, 3, 6] [] 7 rfl rfl (by decide) [] rfl ?_
          exact j_zretE hr (zb_n zb0) d_Rd_takeAtStart_128 ⟨fad, a_cells_a_draft_h0, a_cells_a_waiting_h0, rfl, zb0, rfl⟩
        · replace h := it_t c49 h
          refine j_aload_n d_Rd_takeAtStart_96 rfl 0 rfl ?_
          refine j_get ig_Rd rfl 0 rfl 5 (by decide) rfl m_174 rfl d_Rd_takeAtStart_97 ?_
          refine j_get ig_Fr rfl 1 rfl 6 (by decide) rfl m_119 rfl d_Rd_takeAtStart_100 ?_
          refine j_if_ne (tgt := 127) d_Rd_takeAtStart_103 (by decide) (fun c50 => ?_) (fun c50 => ?_)
          · replace h := it_f c50 h
            refine j_iconst (v := 0) d_Rd_takeAtStart_127 (by decide) ?_
            replace h := lf_s h
            obtain ⟨h, e1, e2⟩ := h
            replace h := Prod.mk.inj h
            obtain ⟨h9, h⟩ := h
            subst h9
            replace h := Prod.mk.inj h
            obtain ⟨h9, h⟩ := h
            subst h9
            replace h := Prod.mk.inj h
            obtain ⟨h9, h⟩ := h
            subst h9
            replace h := Prod.mk.inj h
            obtain ⟨h9, h⟩ := h
            subst h9
            replace h := Prod.mk.inj h
            obtain ⟨h9, h⟩ := h
            subst h9
            replace h := Prod.mk.inj h
            obtain ⟨h9, h⟩ := h
            subst h9
            replace h := Prod.mk.inj h
            obtain ⟨h9, h⟩ := h
            subst h9
            replace h := Prod.mk.inj h
            obtain ⟨h9, h⟩ := h
            subst h9
            replace h := Prod.mk.inj h
            obtain ⟨h9, h⟩ := h
            subst h9
            replace h := Prod.mk.inj h
            obtain ⟨h9, h⟩ := h
            subst h9
            replace h := Prod.mk.inj h
            obtain ⟨h9, h⟩ := h
            subst h9
            replace h := Prod.mk.inj h
            obtain ⟨h9, h⟩ := h
            subst h9
            replace h := Prod.mk.inj h
            obtain ⟨h9, h⟩ := h
            subst h9
            replace h := Prod.mk.inj h
            obtain ⟨h9, h⟩ := h
            subst h9
            replace h := Prod.mk.inj h
            obtain ⟨h9, h⟩ := h
            subst h9
            replace h := Prod.mk.inj h
            obtain ⟨h9, h⟩ := h
            subst h9
            replace h := Prod.mk.inj h
            obtain ⟨h9, h⟩ := h
            subst h9
            replace h := Prod.mk.inj h
            obtain ⟨h9, h⟩ := h
            subst h9
            replace h := Prod.mk.inj h
            obtain ⟨h9, h⟩ := h
            subst h9
            replace h := Prod.mk.inj h
            obtain ⟨h9, h⟩ := h
            subst h9
            replace h := Prod.mk.inj h
            obtain ⟨h9, h⟩ := h
            subst h9
            replace h := Prod.mk.inj h
            obtain ⟨h9, h⟩ := h
            subst h9
            replace h := Prod.mk.inj h
            obtain ⟨h9, h⟩ := h
            subst h9
            replace h := Prod.mk.inj h
            obtain ⟨h9, h⟩ := h
            subst h9
            replace h := Prod.mk.inj h
            obtain ⟨h9, h⟩ := h
            subst h9
            subst h
            refine j_widen (cl' := mc) (sl' := ms) (by omega) (by omega) ?_
            refine j_subP (w := [(h0, .inr (2, [.ref a_scanner_h0, .ref a_draft_h0, .ref a_waiting_h0, .ref a_functions_h0, .ref (fad 0), .ref (fad fd), .ref a_text_h0, .int mode_h0, .int levels_h0, .int signs_h0, .int loops_h0, .int token_h0, .int fault_h0])), ((fad fd), .inr (0, [(frB fad fd), (frA fad fn fd), .int kind_t, .int place_t, .int width_t, .int second_t, .int parts_t, .int innerParts_t, .int innerPlace_t, .int innerWidth_t, .int signs_t, .int waitingBelow_t, .int limited_t, .int targets_t, .int lastBlock_t])), (a_draft_h0, .inr (1, [.ref a_cells_a_draft_h0, .int count_a_draft_h0])), (a_scanner_h0, .inr (4, [.ref a_text_a_scanner_h0, .int next_a_scanner_h0, .int kind_a_scanner_h0, .int start_a_scanner_h0, .int width_a_scanner_h0])), (a_waiting_h0, .inr (5, [.ref a_cells_a_waiting_h0, .int count_a_waiting_h0])), (a_cells_a_draft_h0, .inl (cI, n_a_cells_a_draft_h0, .inl b_a_cells_a_draft_h0)), (a_cells_a_waiting_h0, .inl (cI, n_a_cells_a_waiting_h0, .inl b_a_cells_a_waiting_h0))]) (pl := fpo fad fn fd fcf) (lv' := []) [0, 1, 2, 4, 5, 3, 6] [] 7 rfl rfl (by decide) [] rfl ?_
            exact j_zretE hr (zb_n zb0) d_Rd_takeAtStart_128 ⟨fad, a_cells_a_draft_h0, a_cells_a_waiting_h0, rfl, zb0, rfl⟩
          · replace h := it_t c50 h
            refine j_aload_n d_Rd_takeAtStart_106 rfl 0 rfl ?_
            refine j_get ig_Rd rfl 0 rfl 5 (by decide) rfl m_174 rfl d_Rd_takeAtStart_107 ?_
            refine j_get ig_Fr rfl 1 rfl 7 (by decide) rfl m_121 rfl d_Rd_takeAtStart_110 ?_
            refine j_if_ne (tgt := 127) d_Rd_takeAtStart_113 (by decide) (fun c51 => ?_) (fun c51 => ?_)
            · replace h := it_f c51 h
              refine j_iconst (v := 0) d_Rd_takeAtStart_127 (by decide) ?_
              replace h := lf_s h
              obtain ⟨h, e1, e2⟩ := h
              replace h := Prod.mk.inj h
              obtain ⟨h9, h⟩ := h
              subst h9
              replace h := Prod.mk.inj h
              obtain ⟨h9, h⟩ := h
              subst h9
              replace h := Prod.mk.inj h
              obtain ⟨h9, h⟩ := h
              subst h9
              replace h := Prod.mk.inj h
              obtain ⟨h9, h⟩ := h
              subst h9
              replace h := Prod.mk.inj h
              obtain ⟨h9, h⟩ := h
              subst h9
              replace h := Prod.mk.inj h
              obtain ⟨h9, h⟩ := h
              subst h9
              replace h := Prod.mk.inj h
              obtain ⟨h9, h⟩ := h
              subst h9
              replace h := Prod.mk.inj h
              obtain ⟨h9, h⟩ := h
              subst h9
              replace h := Prod.mk.inj h
              obtain ⟨h9, h⟩ := h
              subst h9
              replace h := Prod.mk.inj h
              obtain ⟨h9, h⟩ := h
              subst h9
              replace h := Prod.mk.inj h
              obtain ⟨h9, h⟩ := h
              subst h9
              replace h := Prod.mk.inj h
              obtain ⟨h9, h⟩ := h
              subst h9
              replace h := Prod.mk.inj h
              obtain ⟨h9, h⟩ := h
              subst h9
              replace h := Prod.mk.inj h
              obtain ⟨h9, h⟩ := h
              subst h9
              replace h := Prod.mk.inj h
              obtain ⟨h9, h⟩ := h
              subst h9
              replace h := Prod.mk.inj h
              obtain ⟨h9, h⟩ := h
              subst h9
              replace h := Prod.mk.inj h
              obtain ⟨h9, h⟩ := h
              subst h9
              replace h := Prod.mk.inj h
              obtain ⟨h9, h⟩ := h
              subst h9
              replace h := Prod.mk.inj h
              obtain ⟨h9, h⟩ := h
              subst h9
              replace h := Prod.mk.inj h
              obtain ⟨h9, h⟩ := h
              subst h9
              replace h := Prod.mk.inj h
              obtain ⟨h9, h⟩ := h
              subst h9
              replace h := Prod.mk.inj h
              obtain ⟨h9, h⟩ := h
              subst h9
              replace h := Prod.mk.inj h
              obtain ⟨h9, h⟩ := h
              subst h9
              replace h := Prod.mk.inj h
              obtain ⟨h9, h⟩ := h
              subst h9
              replace h := Prod.mk.inj h
              obtain ⟨h9, h⟩ := h
              subst h9
              subst h
              refine j_widen (cl' := mc) (sl' := ms) (by omega) (by omega) ?_
              refine j_subP (w := [(h0, .inr (2, [.ref a_scanner_h0, .ref a_draft_h0, .ref a_waiting_h0, .ref a_functions_h0, .ref (fad 0), .ref (fad fd), .ref a_text_h0, .int mode_h0, .int levels_h0, .int signs_h0, .int loops_h0, .int token_h0, .int fault_h0])), ((fad fd), .inr (0, [(frB fad fd), (frA fad fn fd), .int kind_t, .int place_t, .int width_t, .int second_t, .int parts_t, .int innerParts_t, .int innerPlace_t, .int innerWidth_t, .int signs_t, .int waitingBelow_t, .int limited_t, .int targets_t, .int lastBlock_t])), (a_draft_h0, .inr (1, [.ref a_cells_a_draft_h0, .int count_a_draft_h0])), (a_scanner_h0, .inr (4, [.ref a_text_a_scanner_h0, .int next_a_scanner_h0, .int kind_a_scanner_h0, .int start_a_scanner_h0, .int width_a_scanner_h0])), (a_waiting_h0, .inr (5, [.ref a_cells_a_waiting_h0, .int count_a_waiting_h0])), (a_cells_a_draft_h0, .inl (cI, n_a_cells_a_draft_h0, .inl b_a_cells_a_draft_h0)), (a_cells_a_waiting_h0, .inl (cI, n_a_cells_a_waiting_h0, .inl b_a_cells_a_waiting_h0))]) (pl := fpo fad fn fd fcf) (lv' := []) [0, 1, 2, 4, 5, 3, 6] [] 7 rfl rfl (by decide) [] rfl ?_
              exact j_zretE hr (zb_n zb0) d_Rd_takeAtStart_128 ⟨fad, a_cells_a_draft_h0, a_cells_a_waiting_h0, rfl, zb0, rfl⟩
            · replace h := it_t c51 h
              refine j_aload_n d_Rd_takeAtStart_116 rfl 0 rfl ?_
              replace h := bw_s h
              obtain ⟨⟨r52, r53, r54, r55, r56, r57, r58, r59, r60, r61, r62, r63, r64, r65, r66, r67, r68, r69, r70, r71⟩, C74, S75, C76, S77, k78, h, e1, e2⟩ := h
              replace hC : 0 + C74 + C76 ≤ mc := by omega
              replace hS : 0 + S75 + S77 ≤ ms := by omega
              clear e1 e2
              refine j_callVg (n := 0) (As := []) (rest := []) (wr := [(a_scanner_h0, .inr (4, [.ref a_text_a_scanner_h0, .int next_a_scanner_h0, .int kind_a_scanner_h0, .int start_a_scanner_h0, .int width_a_scanner_h0])), (a_waiting_h0, .inr (5, [.ref a_cells_a_waiting_h0, .int count_a_waiting_h0])), (a_cells_a_waiting_h0, .inl (cI, n_a_cells_a_waiting_h0, .inl b_a_cells_a_waiting_h0))]) (c_Rd_closeRows l D cI cB cJ cS h0 fad a_scanner_h0 a_draft_h0 a_waiting_h0 a_functions_h0 a_text_h0 a_cells_a_draft_h0 fn fd fcf mode_h0 levels_h0 signs_h0 loops_h0 token_h0 fault_h0 kind_t place_t width_t second_t parts_t innerParts_t innerPlace_t innerWidth_t signs_t waitingBelow_t limited_t targets_t lastBlock_t count_a_draft_h0 n_a_cells_a_draft_h0 b_a_cells_a_draft_h0  r52 r53 r54 r55 r56 r57 r58 r59 r60 r61 r62 r63 r64 r65 r66 r67 r68 r69 r70 r71 C74 S75 k78) k_Rd_321 (by decide) ⟨Nat.le_of_ble_eq_true rfl, Nat.le_of_ble_eq_true rfl⟩ rfl 0 rfl (pk_app (wr := [(a_scanner_h0, .inr (4, [.ref a_text_a_scanner_h0, .int next_a_scanner_h0, .int kind_a_scanner_h0, .int start_a_scanner_h0, .int width_a_scanner_h0])), (a_waiting_h0, .inr (5, [.ref a_cells_a_waiting_h0, .int count_a_waiting_h0])), (a_cells_a_waiting_h0, .inl (cI, n_a_cells_a_waiting_h0, .inl b_a_cells_a_waiting_h0))]) (w0 := [(h0, .inr (2, [.ref a_scanner_h0, .ref a_draft_h0, .ref a_waiting_h0, .ref a_functions_h0, .ref (fad 0), .ref (fad fd), .ref a_text_h0, .int mode_h0, .int levels_h0, .int signs_h0, .int loops_h0, .int token_h0, .int fault_h0])), ((fad fd), .inr (0, [(frB fad fd), (frA fad fn fd), .int kind_t, .int place_t, .int width_t, .int second_t, .int parts_t, .int innerParts_t, .int innerPlace_t, .int innerWidth_t, .int signs_t, .int waitingBelow_t, .int limited_t, .int targets_t, .int lastBlock_t])), (a_draft_h0, .inr (1, [.ref a_cells_a_draft_h0, .int count_a_draft_h0])), (a_cells_a_draft_h0, .inl (cI, n_a_cells_a_draft_h0, .inl b_a_cells_a_draft_h0))]) (pl := fpo fad fn fd fcf) [4, 5, 6, 0, 1, 2, 3] 7 rfl rfl rfl (by decide)) rfl rfl (Nat.le_of_ble_eq_true rfl) d_Rd_takeAtStart_117 ⟨show 0 + C74 ≤ mc by omega, show 0 + S75 ≤ ms by omega⟩ (fun v w hq => ?_)
              obtain ⟨a72, q73, rfl, _, rfl⟩ := hq
              refine j_norm (pc' := 120) (st' := [.int 1]) (ws' := ((a_scanner_h0, .inr (4, [.ref a_text_a_scanner_h0, .int next_a_scanner_h0, .int kind_a_scanner_h0, .int start_a_scanner_h0, .int width_a_scanner_h0])) :: (a_waiting_h0, .inr (5, [.ref a_cells_a_waiting_h0, .int count_a_waiting_h0])) :: (a_cells_a_waiting_h0, .inl (cI, n_a_cells_a_waiting_h0, .inl b_a_cells_a_waiting_h0)) :: (h0, .inr (2, [.ref a_scanner_h0, .ref a_draft_h0, .ref a_waiting_h0, .ref a_functions_h0, .ref (a72 0), .ref (a72 r53), .ref a_text_h0, .int r55, .int ((levels_h0 - 1) - signs_t), .int 0, .int loops_h0, .int token_h0, .int fault_h0])) :: ((a72 r53), .inr (0, [(frB a72 r53), (frA a72 r52 r53), .int r56, .int r57, .int r58, .int r59, .int r60, .int r61, .int r62, .int r63, .int r64, .int r65, .int r66, .int r67, .int r68])) :: (a_draft_h0, .inr (1, [.ref q73, .int r69])) :: (q73, .inl (cI, r70, .inl r71)) :: fpo a72 r52 r53 r54)) (cl' := 0 + C74) (sl' := 0 + S75) rfl rfl rfl rfl rfl rfl ?_
              refine j_if_eq (tgt := 127) d_Rd_takeAtStart_120 (by decide) (fun c79 => absurd c79 (by decide)) (fun c79 => ?_)
              refine j_iconst (v := 1) d_Rd_takeAtStart_123 (by decide) ?_
              refine j_goto (tgt := 128) d_Rd_takeAtStart_124 (by decide) ?_
              replace h := lf_s h
              obtain ⟨h, e1, e2⟩ := h
              replace h := Prod.mk.inj h
              obtain ⟨h9, h⟩ := h
              subst h9
              replace h := Prod.mk.inj h
              obtain ⟨h9, h⟩ := h
              subst h9
              replace h := Prod.mk.inj h
              obtain ⟨h9, h⟩ := h
              subst h9
              replace h := Prod.mk.inj h
              obtain ⟨h9, h⟩ := h
              subst h9
              replace h := Prod.mk.inj h
              obtain ⟨h9, h⟩ := h
              subst h9
              replace h := Prod.mk.inj h
              obtain ⟨h9, h⟩ := h
              subst h9
              replace h := Prod.mk.inj h
              obtain ⟨h9, h⟩ := h
              subst h9
              replace h := Prod.mk.inj h
              obtain ⟨h9, h⟩ := h
              subst h9
              replace h := Prod.mk.inj h
              obtain ⟨h9, h⟩ := h
              subst h9
              replace h := Prod.mk.inj h
              obtain ⟨h9, h⟩ := h
              subst h9
              replace h := Prod.mk.inj h
              obtain ⟨h9, h⟩ := h
              subst h9
              replace h := Prod.mk.inj h
              obtain ⟨h9, h⟩ := h
              subst h9
              replace h := Prod.mk.inj h
              obtain ⟨h9, h⟩ := h
              subst h9
              replace h := Prod.mk.inj h
              obtain ⟨h9, h⟩ := h
              subst h9
              replace h := Prod.mk.inj h
              obtain ⟨h9, h⟩ := h
              subst h9
              replace h := Prod.mk.inj h
              obtain ⟨h9, h⟩ := h
              subst h9
              replace h := Prod.mk.inj h
              obtain ⟨h9, h⟩ := h
              subst h9
              replace h := Prod.mk.inj h
              obtain ⟨h9, h⟩ := h
              subst h9
              replace h := Prod.mk.inj h
              obtain ⟨h9, h⟩ := h
              subst h9
              replace h := Prod.mk.inj h
              obtain ⟨h9, h⟩ := h
              subst h9
              replace h := Prod.mk.inj h
              obtain ⟨h9, h⟩ := h
              subst h9
              replace h := Prod.mk.inj h
              obtain ⟨h9, h⟩ := h
              subst h9
              replace h := Prod.mk.inj h
              obtain ⟨h9, h⟩ := h
              subst h9
              replace h := Prod.mk.inj h
              obtain ⟨h9, h⟩ := h
              subst h9
              replace h := Prod.mk.inj h
              obtain ⟨h9, h⟩ := h
              subst h9
              subst h
              refine j_widen (cl' := mc) (sl' := ms) (by omega) (by omega) ?_
              refine j_subP (w := [(h0, .inr (2, [.ref a_scanner_h0, .ref a_draft_h0, .ref a_waiting_h0, .ref a_functions_h0, .ref (a72 0), .ref (a72 r53), .ref a_text_h0, .int r55, .int ((levels_h0 - 1) - signs_t), .int 0, .int loops_h0, .int token_h0, .int fault_h0])), ((a72 r53), .inr (0, [(frB a72 r53), (frA a72 r52 r53), .int r56, .int r57, .int r58, .int r59, .int r60, .int r61, .int r62, .int r63, .int r64, .int r65, .int r66, .int r67, .int r68])), (a_draft_h0, .inr (1, [.ref q73, .int r69])), (a_scanner_h0, .inr (4, [.ref a_text_a_scanner_h0, .int next_a_scanner_h0, .int kind_a_scanner_h0, .int start_a_scanner_h0, .int width_a_scanner_h0])), (a_waiting_h0, .inr (5, [.ref a_cells_a_waiting_h0, .int count_a_waiting_h0])), (q73, .inl (cI, r70, .inl r71)), (a_cells_a_waiting_h0, .inl (cI, n_a_cells_a_waiting_h0, .inl b_a_cells_a_waiting_h0))]) (pl := fpo a72 r52 r53 r54) (lv' := []) [3, 4, 5, 0, 1, 6, 2] [] 7 rfl rfl (by decide) [] rfl ?_
              exact j_zretE hr (zb_n zb1) d_Rd_takeAtStart_128 ⟨a72, q73, a_cells_a_waiting_h0, rfl, zb1, rfl⟩
      · replace h := it_f c48 h
        by_cases c80 : token_h0 = 126
        · replace h := it_t c80 h
          refine j_look (tgt := 165) (off := 161) d_Rd_takeAtStart_4 (by decide) (by rw [c80]; decide) (by decide) ?_
          refine j_aload_n d_Rd_takeAtStart_165 rfl 0 rfl ?_
          replace h := bw_s h
          obtain ⟨⟨r81, r82, r83, r84, r85, r86, r87⟩, C90, S91, C92, S93, k94, h, e1, e2⟩ := h
          replace hC : 0 + C90 + C92 ≤ mc := by omega
          replace hS : 0 + S91 + S93 ≤ ms := by omega
          clear e1 e2
          refine j_callVg (n := 0) (As := []) (rest := []) (wr := ([((fad fd), .inr (0, [(frB fad fd), (frA fad fn fd), .int kind_t, .int place_t, .int width_t, .int second_t, .int parts_t, .int innerParts_t, .int innerPlace_t, .int innerWidth_t, .int signs_t, .int waitingBelow_t, .int limited_t, .int targets_t, .int lastBlock_t])), (a_draft_h0, .inr (1, [.ref a_cells_a_draft_h0, .int count_a_draft_h0])), (a_cells_a_draft_h0, .inl (cI, n_a_cells_a_draft_h0, .inl b_a_cells_a_draft_h0))] ++ fpo fad fn fd fcf)) (c_Rd_takeSign l D cI cB cJ cS h0 a_scanner_h0 a_draft_h0 a_waiting_h0 a_functions_h0 (fad 0) (fad fd) a_text_h0 a_text_a_scanner_h0 a_cells_a_waiting_h0 mode_h0 levels_h0 signs_h0 loops_h0 token_h0 fault_h0 next_a_scanner_h0 kind_a_scanner_h0 start_a_scanner_h0 width_a_scanner_h0 count_a_waiting_h0 n_a_cells_a_waiting_h0 b_a_cells_a_waiting_h0  r81 r82 r83 r84 r85 r86 r87 C90 S91 k94) k_Rd_327 (by decide) ⟨Nat.le_of_ble_eq_true rfl, Nat.le_of_ble_eq_true rfl⟩ rfl 0 rfl (pk_mid (wr := [((fad fd), .inr (0, [(frB fad fd), (frA fad fn fd), .int kind_t, .int place_t, .int width_t, .int second_t, .int parts_t, .int innerParts_t, .int innerPlace_t, .int innerWidth_t, .int signs_t, .int waitingBelow_t, .int limited_t, .int targets_t, .int lastBlock_t])), (a_draft_h0, .inr (1, [.ref a_cells_a_draft_h0, .int count_a_draft_h0])), (a_cells_a_draft_h0, .inl (cI, n_a_cells_a_draft_h0, .inl b_a_cells_a_draft_h0))]) (w0 := [(h0, .inr (2, [.ref a_scanner_h0, .ref a_draft_h0, .ref a_waiting_h0, .ref a_functions_h0, .ref (fad 0), .ref (fad fd), .ref a_text_h0, .int mode_h0, .int levels_h0, .int signs_h0, .int loops_h0, .int token_h0, .int fault_h0])), (a_scanner_h0, .inr (4, [.ref a_text_a_scanner_h0, .int next_a_scanner_h0, .int kind_a_scanner_h0, .int start_a_scanner_h0, .int width_a_scanner_h0])), (a_waiting_h0, .inr (5, [.ref a_cells_a_waiting_h0, .int count_a_waiting_h0])), (a_cells_a_waiting_h0, .inl (cI, n_a_cells_a_waiting_h0, .inl b_a_cells_a_waiting_h0))]) (pl := fpo fad fn fd fcf) [1, 2, 3, 0, 4, 5, 6] 7 rfl rfl (by decide)) rfl rfl (Nat.le_of_ble_eq_true rfl) d_Rd_takeAtStart_166 ⟨show 0 + C90 ≤ mc by omega, show 0 + S91 ≤ ms by omega⟩ (fun v w hq => ?_)
          obtain ⟨q88, rfl, z89, rfl⟩ := hq
          refine j_perm (ws' := (((fad fd), .inr (0, [(frB fad fd), (frA fad fn fd), .int kind_t, .int place_t, .int width_t, .int second_t, .int parts_t, .int innerParts_t, .int innerPlace_t, .int innerWidth_t, .int signs_t, .int waitingBelow_t, .int limited_t, .int targets_t, .int lastBlock_t])) :: (a_draft_h0, .inr (1, [.ref a_cells_a_draft_h0, .int count_a_draft_h0])) :: (a_cells_a_draft_h0, .inl (cI, n_a_cells_a_draft_h0, .inl b_a_cells_a_draft_h0)) :: (h0, .inr (2, [.ref a_scanner_h0, .ref a_draft_h0, .ref a_waiting_h0, .ref a_functions_h0, .ref (fad 0), .ref (fad fd), .ref a_text_h0, .int r82, .int r83, .int r84, .int loops_h0, .int token_h0, .int fault_h0])) :: (a_scanner_h0, .inr (4, [.ref a_text_a_scanner_h0, .int next_a_scanner_h0, .int kind_a_scanner_h0, .int start_a_scanner_h0, .int width_a_scanner_h0])) :: (a_waiting_h0, .inr (5, [.ref q88, .int r85])) :: (q88, .inl (cI, r86, .inl r87)) :: fpo fad fn fd fcf)) (pm_eq (a := [((fad fd), .inr (0, [(frB fad fd), (frA fad fn fd), .int kind_t, .int place_t, .int width_t, .int second_t, .int parts_t, .int innerParts_t, .int innerPlace_t, .int innerWidth_t, .int signs_t, .int waitingBelow_t, .int limited_t, .int targets_t, .int lastBlock_t])), (a_draft_h0, .inr (1, [.ref a_cells_a_draft_h0, .int count_a_draft_h0])), (a_cells_a_draft_h0, .inl (cI, n_a_cells_a_draft_h0, .inl b_a_cells_a_draft_h0))]) (b := fpo fad fn fd fcf) (c := [(h0, .inr (2, [.ref a_scanner_h0, .ref a_draft_h0, .ref a_waiting_h0, .ref a_functions_h0, .ref (fad 0), .ref (fad fd), .ref a_text_h0, .int r82, .int r83, .int r84, .int loops_h0, .int token_h0, .int fault_h0])), (a_scanner_h0, .inr (4, [.ref a_text_a_scanner_h0, .int next_a_scanner_h0, .int kind_a_scanner_h0, .int start_a_scanner_h0, .int width_a_scanner_h0])), (a_waiting_h0, .inr (5, [.ref q88, .int r85])), (q88, .inl (cI, r86, .inl r87))]) rfl) ?_
          refine j_norm (pc' := 169) (st' := [.int r81]) (ws' := (((fad fd), .inr (0, [(frB fad fd), (frA fad fn fd), .int kind_t, .int place_t, .int width_t, .int second_t, .int parts_t, .int innerParts_t, .int innerPlace_t, .int innerWidth_t, .int signs_t, .int waitingBelow_t, .int limited_t, .int targets_t, .int lastBlock_t])) :: (a_draft_h0, .inr (1, [.ref a_cells_a_draft_h0, .int count_a_draft_h0])) :: (a_cells_a_draft_h0, .inl (cI, n_a_cells_a_draft_h0, .inl b_a_cells_a_draft_h0)) :: (h0, .inr (2, [.ref a_scanner_h0, .ref a_draft_h0, .ref a_waiting_h0, .ref a_functions_h0, .ref (fad 0), .ref (fad fd), .ref a_text_h0, .int r82, .int r83, .int r84, .int loops_h0, .int token_h0, .int fault_h0])) :: (a_scanner_h0, .inr (4, [.ref a_text_a_scanner_h0, .int next_a_scanner_h0, .int kind_a_scanner_h0, .int start_a_scanner_h0, .int width_a_scanner_h0])) :: (a_waiting_h0, .inr (5, [.ref q88, .int r85])) :: (q88, .inl (cI, r86, .inl r87)) :: fpo fad fn fd fcf)) (cl' := 0 + C90) (sl' := 0 + S91) rfl rfl rfl rfl rfl rfl ?_
          refine j_if_eq (tgt := 181) d_Rd_takeAtStart_169 (by decide) (fun c95 => ?_) (fun c95 => ?_)
          · replace h := it_t c95 h
            refine j_aload_n d_Rd_takeAtStart_181 rfl 0 rfl ?_
            refine j_aload_n d_Rd_takeAtStart_182 rfl 0 rfl ?_
            refine j_get ig_Rd rfl 3 rfl 0 (by decide) rfl m_169 rfl d_Rd_takeAtStart_183 ?_
            refine j_callVg (n := 0) (As := []) (rest := [.ref h0]) (wr := ([((fad fd), .inr (0, [(frB fad fd), (frA fad fn fd), .int kind_t, .int place_t, .int width_t, .int second_t, .int parts_t, .int innerParts_t, .int innerPlace_t, .int innerWidth_t, .int signs_t, .int waitingBelow_t, .int limited_t, .int targets_t, .int lastBlock_t])), (a_draft_h0, .inr (1, [.ref a_cells_a_draft_h0, .int count_a_draft_h0])), (a_cells_a_draft_h0, .inl (cI, n_a_cells_a_draft_h0, .inl b_a_cells_a_draft_h0)), (h0, .inr (2, [.ref a_scanner_h0, .ref a_draft_h0, .ref a_waiting_h0, .ref a_functions_h0, .ref (fad 0), .ref (fad fd), .ref a_text_h0, .int r82, .int r83, .int r84, .int loops_h0, .int token_h0, .int fault_h0])), (a_waiting_h0, .inr (5, [.ref q88, .int r85])), (q88, .inl (cI, r86, .inl r87))] ++ fpo fad fn fd fcf)) (c_Sc_start l D cI cB cJ cS a_scanner_h0 a_text_a_scanner_h0 next_a_scanner_h0 kind_a_scanner_h0 start_a_scanner_h0 width_a_scanner_h0  ) k_Rd_113 (by decide) ⟨Nat.le_of_ble_eq_true rfl, Nat.le_of_ble_eq_true rfl⟩ rfl 0 rfl (pk_mid (wr := [((fad fd), .inr (0, [(frB fad fd), (frA fad fn fd), .int kind_t, .int place_t, .int width_t, .int second_t, .int parts_t, .int innerParts_t, .int innerPlace_t, .int innerWidth_t, .int signs_t, .int waitingBelow_t, .int limited_t, .int targets_t, .int lastBlock_t])), (a_draft_h0, .inr (1, [.ref a_cells_a_draft_h0, .int count_a_draft_h0])), (a_cells_a_draft_h0, .inl (cI, n_a_cells_a_draft_h0, .inl b_a_cells_a_draft_h0)), (h0, .inr (2, [.ref a_scanner_h0, .ref a_draft_h0, .ref a_waiting_h0, .ref a_functions_h0, .ref (fad 0), .ref (fad fd), .ref a_text_h0, .int r82, .int r83, .int r84, .int loops_h0, .int token_h0, .int fault_h0])), (a_waiting_h0, .inr (5, [.ref q88, .int r85])), (q88, .inl (cI, r86, .inl r87))]) (w0 := [(a_scanner_h0, .inr (4, [.ref a_text_a_scanner_h0, .int next_a_scanner_h0, .int kind_a_scanner_h0, .int start_a_scanner_h0, .int width_a_scanner_h0]))]) (pl := fpo fad fn fd fcf) [0, 1, 2, 3, 5, 6, 4] 7 rfl rfl (by decide)) rfl rfl (Nat.le_of_ble_eq_true rfl) d_Rd_takeAtStart_186 ⟨show 0 + C90 + 0 ≤ mc by omega, show 0 + S91 + 0 ≤ ms by omega⟩ (fun v w hq => ?_)
            obtain ⟨rfl, rfl⟩ := hq
            refine j_perm (ws' := (((fad fd), .inr (0, [(frB fad fd), (frA fad fn fd), .int kind_t, .int place_t, .int width_t, .int second_t, .int parts_t, .int innerParts_t, .int innerPlace_t, .int innerWidth_t, .int signs_t, .int waitingBelow_t, .int limited_t, .int targets_t, .int lastBlock_t])) :: (a_draft_h0, .inr (1, [.ref a_cells_a_draft_h0, .int count_a_draft_h0])) :: (a_cells_a_draft_h0, .inl (cI, n_a_cells_a_draft_h0, .inl b_a_cells_a_draft_h0)) :: (h0, .inr (2, [.ref a_scanner_h0, .ref a_draft_h0, .ref a_waiting_h0, .ref a_functions_h0, .ref (fad 0), .ref (fad fd), .ref a_text_h0, .int r82, .int r83, .int r84, .int loops_h0, .int token_h0, .int fault_h0])) :: (a_waiting_h0, .inr (5, [.ref q88, .int r85])) :: (q88, .inl (cI, r86, .inl r87)) :: (a_scanner_h0, .inr (4, [.ref a_text_a_scanner_h0, .int next_a_scanner_h0, .int kind_a_scanner_h0, .int start_a_scanner_h0, .int width_a_scanner_h0])) :: fpo fad fn fd fcf)) (pm_eq (a := [((fad fd), .inr (0, [(frB fad fd), (frA fad fn fd), .int kind_t, .int place_t, .int width_t, .int second_t, .int parts_t, .int innerParts_t, .int innerPlace_t, .int innerWidth_t, .int signs_t, .int waitingBelow_t, .int limited_t, .int targets_t, .int lastBlock_t])), (a_draft_h0, .inr (1, [.ref a_cells_a_draft_h0, .int count_a_draft_h0])), (a_cells_a_draft_h0, .inl (cI, n_a_cells_a_draft_h0, .inl b_a_cells_a_draft_h0)), (h0, .inr (2, [.ref a_scanner_h0, .ref a_draft_h0, .ref a_waiting_h0, .ref a_functions_h0, .ref (fad 0), .ref (fad fd), .ref a_text_h0, .int r82, .int r83, .int r84, .int loops_h0, .int token_h0, .int fault_h0])), (a_waiting_h0, .inr (5, [.ref q88, .int r85])), (q88, .inl (cI, r86, .inl r87))]) (b := fpo fad fn fd fcf) (c := [(a_scanner_h0, .inr (4, [.ref a_text_a_scanner_h0, .int next_a_scanner_h0, .int kind_a_scanner_h0, .int start_a_scanner_h0, .int width_a_scanner_h0]))]) rfl) ?_
            refine j_norm (pc' := 189) (st' := [.int start_a_scanner_h0, .ref h0]) (ws' := (((fad fd), .inr (0, [(frB fad fd), (frA fad fn fd), .int kind_t, .int place_t, .int width_t, .int second_t, .int parts_t, .int innerParts_t, .int innerPlace_t, .int innerWidth_t, .int signs_t, .int waitingBelow_t, .int limited_t, .int targets_t, .int lastBlock_t])) :: (a_draft_h0, .inr (1, [.ref a_cells_a_draft_h0, .int count_a_draft_h0])) :: (a_cells_a_draft_h0, .inl (cI, n_a_cells_a_draft_h0, .inl b_a_cells_a_draft_h0)) :: (h0, .inr (2, [.ref a_scanner_h0, .ref a_draft_h0, .ref a_waiting_h0, .ref a_functions_h0, .ref (fad 0), .ref (fad fd), .ref a_text_h0, .int r82, .int r83, .int r84, .int loops_h0, .int token_h0, .int fault_h0])) :: (a_waiting_h0, .inr (5, [.ref q88, .int r85])) :: (q88, .inl (cI, r86, .inl r87)) :: (a_scanner_h0, .inr (4, [.ref a_text_a_scanner_h0, .int next_a_scanner_h0, .int kind_a_scanner_h0, .int start_a_scanner_h0, .int width_a_scanner_h0])) :: fpo fad fn fd fcf)) (cl' := 0 + C90) (sl' := 0 + S91) rfl rfl rfl rfl rfl rfl ?_
            replace h := bw_s h
            obtain ⟨⟨r97, r98, r99, r100, r101, r102, r103, r104, r105, r106, r107, r108, r109, r110, r111, r112⟩, C115, S116, C117, S118, k119, h, e1, e2⟩ := h
            replace hC : 0 + C90 + C115 + C117 ≤ mc := by omega
            replace hS : 0 + S91 + S116 + S118 ≤ ms := by omega
            clear e1 e2
            refine j_callVg (n := 1) (As := [.int start_a_scanner_h0]) (rest := []) (wr := [(a_waiting_h0, .inr (5, [.ref q88, .int r85])), (q88, .inl (cI, r86, .inl r87)), (a_scanner_h0, .inr (4, [.ref a_text_a_scanner_h0, .int next_a_scanner_h0, .int kind_a_scanner_h0, .int start_a_scanner_h0, .int width_a_scanner_h0]))]) (c_Rd_becomeTargets l D cI cB cJ cS h0 fad a_scanner_h0 a_draft_h0 a_waiting_h0 a_functions_h0 a_text_h0 a_cells_a_draft_h0 start_a_scanner_h0 fn fd fcf r82 r83 r84 loops_h0 token_h0 fault_h0 kind_t place_t width_t second_t parts_t innerParts_t innerPlace_t innerWidth_t signs_t waitingBelow_t limited_t targets_t lastBlock_t count_a_draft_h0 n_a_cells_a_draft_h0 b_a_cells_a_draft_h0  r97 r98 r99 r100 r101 r102 r103 r104 r105 r106 r107 r108 r109 r110 r111 r112 C115 S116 k119) k_Rd_171 (by decide) ⟨Nat.le_of_ble_eq_true rfl, Nat.le_of_ble_eq_true rfl⟩ rfl 0 rfl (pk_app (wr := [(a_waiting_h0, .inr (5, [.ref q88, .int r85])), (q88, .inl (cI, r86, .inl r87)), (a_scanner_h0, .inr (4, [.ref a_text_a_scanner_h0, .int next_a_scanner_h0, .int kind_a_scanner_h0, .int start_a_scanner_h0, .int width_a_scanner_h0]))]) (w0 := [(h0, .inr (2, [.ref a_scanner_h0, .ref a_draft_h0, .ref a_waiting_h0, .ref a_functions_h0, .ref (fad 0), .ref (fad fd), .ref a_text_h0, .int r82, .int r83, .int r84, .int loops_h0, .int token_h0, .int fault_h0])), ((fad fd), .inr (0, [(frB fad fd), (frA fad fn fd), .int kind_t, .int place_t, .int width_t, .int second_t, .int parts_t, .int innerParts_t, .int innerPlace_t, .int innerWidth_t, .int signs_t, .int waitingBelow_t, .int limited_t, .int targets_t, .int lastBlock_t])), (a_draft_h0, .inr (1, [.ref a_cells_a_draft_h0, .int count_a_draft_h0])), (a_cells_a_draft_h0, .inl (cI, n_a_cells_a_draft_h0, .inl b_a_cells_a_draft_h0))]) (pl := fpo fad fn fd fcf) [4, 5, 6, 3, 0, 1, 2] 7 rfl rfl rfl (by decide)) rfl rfl (Nat.le_of_ble_eq_true rfl) d_Rd_takeAtStart_189 ⟨show 0 + C90 + C115 ≤ mc by omega, show 0 + S91 + S116 ≤ ms by omega⟩ (fun v w hq => ?_)
            obtain ⟨a113, q114, rfl, _, rfl⟩ := hq
            refine j_norm (pc' := 192) (st' := [.int 1]) (ws' := ((a_waiting_h0, .inr (5, [.ref q88, .int r85])) :: (q88, .inl (cI, r86, .inl r87)) :: (a_scanner_h0, .inr (4, [.ref a_text_a_scanner_h0, .int next_a_scanner_h0, .int kind_a_scanner_h0, .int start_a_scanner_h0, .int width_a_scanner_h0])) :: (h0, .inr (2, [.ref a_scanner_h0, .ref a_draft_h0, .ref a_waiting_h0, .ref a_functions_h0, .ref (a113 0), .ref (a113 r98), .ref a_text_h0, .int 21, .int r83, .int signs_t, .int loops_h0, .int token_h0, .int fault_h0])) :: ((a113 r98), .inr (0, [(frB a113 r98), (frA a113 r97 r98), .int 10, .int r100, .int r101, .int place_t, .int r102, .int (innerParts_t + 1), .int r103, .int r104, .int r105, .int r106, .int r107, .int r108, .int r109])) :: (a_draft_h0, .inr (1, [.ref q114, .int r110])) :: (q114, .inl (cI, r111, .inl r112)) :: fpo a113 r97 r98 r99)) (cl' := 0 + C90 + C115) (sl' := 0 + S91 + S116) rfl rfl rfl rfl rfl rfl ?_
            replace h := lf_s h
            obtain ⟨h, e1, e2⟩ := h
            replace h := Prod.mk.inj h
            obtain ⟨h9, h⟩ := h
            subst h9
            replace h := Prod.mk.inj h
            obtain ⟨h9, h⟩ := h
            subst h9
            replace h := Prod.mk.inj h
            obtain ⟨h9, h⟩ := h
            subst h9
            replace h := Prod.mk.inj h
            obtain ⟨h9, h⟩ := h
            subst h9
            replace h := Prod.mk.inj h
            obtain ⟨h9, h⟩ := h
            subst h9
            replace h := Prod.mk.inj h
            obtain ⟨h9, h⟩ := h
            subst h9
            replace h := Prod.mk.inj h
            obtain ⟨h9, h⟩ := h
            subst h9
            replace h := Prod.mk.inj h
            obtain ⟨h9, h⟩ := h
            subst h9
            replace h := Prod.mk.inj h
            obtain ⟨h9, h⟩ := h
            subst h9
            replace h := Prod.mk.inj h
            obtain ⟨h9, h⟩ := h
            subst h9
            replace h := Prod.mk.inj h
            obtain ⟨h9, h⟩ := h
            subst h9
            replace h := Prod.mk.inj h
            obtain ⟨h9, h⟩ := h
            subst h9
            replace h := Prod.mk.inj h
            obtain ⟨h9, h⟩ := h
            subst h9
            replace h := Prod.mk.inj h
            obtain ⟨h9, h⟩ := h
            subst h9
            replace h := Prod.mk.inj h
            obtain ⟨h9, h⟩ := h
            subst h9
            replace h := Prod.mk.inj h
            obtain ⟨h9, h⟩ := h
            subst h9
            replace h := Prod.mk.inj h
            obtain ⟨h9, h⟩ := h
            subst h9
            replace h := Prod.mk.inj h
            obtain ⟨h9, h⟩ := h
            subst h9
            replace h := Prod.mk.inj h
            obtain ⟨h9, h⟩ := h
            subst h9
            replace h := Prod.mk.inj h
            obtain ⟨h9, h⟩ := h
            subst h9
            replace h := Prod.mk.inj h
            obtain ⟨h9, h⟩ := h
            subst h9
            replace h := Prod.mk.inj h
            obtain ⟨h9, h⟩ := h
            subst h9
            replace h := Prod.mk.inj h
            obtain ⟨h9, h⟩ := h
            subst h9
            replace h := Prod.mk.inj h
            obtain ⟨h9, h⟩ := h
            subst h9
            replace h := Prod.mk.inj h
            obtain ⟨h9, h⟩ := h
            subst h9
            subst h
            refine j_widen (cl' := mc) (sl' := ms) (by omega) (by omega) ?_
            refine j_subP (w := [(h0, .inr (2, [.ref a_scanner_h0, .ref a_draft_h0, .ref a_waiting_h0, .ref a_functions_h0, .ref (a113 0), .ref (a113 r98), .ref a_text_h0, .int 21, .int r83, .int signs_t, .int loops_h0, .int token_h0, .int fault_h0])), ((a113 r98), .inr (0, [(frB a113 r98), (frA a113 r97 r98), .int 10, .int r100, .int r101, .int place_t, .int r102, .int (innerParts_t + 1), .int r103, .int r104, .int r105, .int r106, .int r107, .int r108, .int r109])), (a_draft_h0, .inr (1, [.ref q114, .int r110])), (a_scanner_h0, .inr (4, [.ref a_text_a_scanner_h0, .int next_a_scanner_h0, .int kind_a_scanner_h0, .int start_a_scanner_h0, .int width_a_scanner_h0])), (a_waiting_h0, .inr (5, [.ref q88, .int r85])), (q114, .inl (cI, r111, .inl r112)), (q88, .inl (cI, r86, .inl r87))]) (pl := fpo a113 r97 r98 r99) (lv' := []) [3, 4, 5, 2, 0, 6, 1] [] 7 rfl rfl (by decide) [] rfl ?_
            exact j_zretE hr (zb_n zb1) d_Rd_takeAtStart_192 ⟨a113, q114, q88, rfl, zb1, rfl⟩
          · replace h := it_f c95 h
            refine j_aload_n d_Rd_takeAtStart_172 rfl 0 rfl ?_
            refine j_bipush (v := 42) d_Rd_takeAtStart_173 (by decide) ?_
            refine j_callVg (n := 1) (As := [.int 42]) (rest := []) (wr := ([((fad fd), .inr (0, [(frB fad fd), (frA fad fn fd), .int kind_t, .int place_t, .int width_t, .int second_t, .int parts_t, .int innerParts_t, .int innerPlace_t, .int innerWidth_t, .int signs_t, .int waitingBelow_t, .int limited_t, .int targets_t, .int lastBlock_t])), (a_draft_h0, .inr (1, [.ref a_cells_a_draft_h0, .int count_a_draft_h0])), (a_cells_a_draft_h0, .inl (cI, n_a_cells_a_draft_h0, .inl b_a_cells_a_draft_h0)), (a_scanner_h0, .inr (4, [.ref a_text_a_scanner_h0, .int next_a_scanner_h0, .int kind_a_scanner_h0, .int start_a_scanner_h0, .int width_a_scanner_h0])), (a_waiting_h0, .inr (5, [.ref q88, .int r85])), (q88, .inl (cI, r86, .inl r87))] ++ fpo fad fn fd fcf)) (c_Rd_goOn l D cI cB cJ cS h0 a_scanner_h0 a_draft_h0 a_waiting_h0 a_functions_h0 (fad 0) (fad fd) a_text_h0 42 r82 r83 r84 loops_h0 token_h0 fault_h0  ) k_Rd_130 (by decide) ⟨Nat.le_of_ble_eq_true rfl, Nat.le_of_ble_eq_true rfl⟩ rfl 0 rfl (pk_mid (wr := [((fad fd), .inr (0, [(frB fad fd), (frA fad fn fd), .int kind_t, .int place_t, .int width_t, .int second_t, .int parts_t, .int innerParts_t, .int innerPlace_t, .int innerWidth_t, .int signs_t, .int waitingBelow_t, .int limited_t, .int targets_t, .int lastBlock_t])), (a_draft_h0, .inr (1, [.ref a_cells_a_draft_h0, .int count_a_draft_h0])), (a_cells_a_draft_h0, .inl (cI, n_a_cells_a_draft_h0, .inl b_a_cells_a_draft_h0)), (a_scanner_h0, .inr (4, [.ref a_text_a_scanner_h0, .int next_a_scanner_h0, .int kind_a_scanner_h0, .int start_a_scanner_h0, .int width_a_scanner_h0])), (a_waiting_h0, .inr (5, [.ref q88, .int r85])), (q88, .inl (cI, r86, .inl r87))]) (w0 := [(h0, .inr (2, [.ref a_scanner_h0, .ref a_draft_h0, .ref a_waiting_h0, .ref a_functions_h0, .ref (fad 0), .ref (fad fd), .ref a_text_h0, .int r82, .int r83, .int r84, .int loops_h0, .int token_h0, .int fault_h0]))]) (pl := fpo fad fn fd fcf) [0, 1, 2, 4, 5, 6, 3] 7 rfl rfl (by decide)) rfl rfl (Nat.le_of_ble_eq_true rfl) d_Rd_takeAtStart_175 ⟨show 0 + C90 + 0 ≤ mc by omega, show 0 + S91 + 0 ≤ ms by omega⟩ (fun v w hq => ?_)
            obtain ⟨rfl, _, rfl⟩ := hq
            refine j_perm (ws' := (((fad fd), .inr (0, [(frB fad fd), (frA fad fn fd), .int kind_t, .int place_t, .int width_t, .int second_t, .int parts_t, .int innerParts_t, .int innerPlace_t, .int innerWidth_t, .int signs_t, .int waitingBelow_t, .int limited_t, .int targets_t, .int lastBlock_t])) :: (a_draft_h0, .inr (1, [.ref a_cells_a_draft_h0, .int count_a_draft_h0])) :: (a_cells_a_draft_h0, .inl (cI, n_a_cells_a_draft_h0, .inl b_a_cells_a_draft_h0)) :: (a_scanner_h0, .inr (4, [.ref a_text_a_scanner_h0, .int next_a_scanner_h0, .int kind_a_scanner_h0, .int start_a_scanner_h0, .int width_a_scanner_h0])) :: (a_waiting_h0, .inr (5, [.ref q88, .int r85])) :: (q88, .inl (cI, r86, .inl r87)) :: (h0, .inr (2, [.ref a_scanner_h0, .ref a_draft_h0, .ref a_waiting_h0, .ref a_functions_h0, .ref (fad 0), .ref (fad fd), .ref a_text_h0, .int 42, .int r83, .int r84, .int loops_h0, .int token_h0, .int fault_h0])) :: fpo fad fn fd fcf)) (pm_eq (a := [((fad fd), .inr (0, [(frB fad fd), (frA fad fn fd), .int kind_t, .int place_t, .int width_t, .int second_t, .int parts_t, .int innerParts_t, .int innerPlace_t, .int innerWidth_t, .int signs_t, .int waitingBelow_t, .int limited_t, .int targets_t, .int lastBlock_t])), (a_draft_h0, .inr (1, [.ref a_cells_a_draft_h0, .int count_a_draft_h0])), (a_cells_a_draft_h0, .inl (cI, n_a_cells_a_draft_h0, .inl b_a_cells_a_draft_h0)), (a_scanner_h0, .inr (4, [.ref a_text_a_scanner_h0, .int next_a_scanner_h0, .int kind_a_scanner_h0, .int start_a_scanner_h0, .int width_a_scanner_h0])), (a_waiting_h0, .inr (5, [.ref q88, .int r85])), (q88, .inl (cI, r86, .inl r87))]) (b := fpo fad fn fd fcf) (c := [(h0, .inr (2, [.ref a_scanner_h0, .ref a_draft_h0, .ref a_waiting_h0, .ref a_functions_h0, .ref (fad 0), .ref (fad fd), .ref a_text_h0, .int 42, .int r83, .int r84, .int loops_h0, .int token_h0, .int fault_h0]))]) rfl) ?_
            refine j_norm (pc' := 178) (st' := [.int 1]) (ws' := (((fad fd), .inr (0, [(frB fad fd), (frA fad fn fd), .int kind_t, .int place_t, .int width_t, .int second_t, .int parts_t, .int innerParts_t, .int innerPlace_t, .int innerWidth_t, .int signs_t, .int waitingBelow_t, .int limited_t, .int targets_t, .int lastBlock_t])) :: (a_draft_h0, .inr (1, [.ref a_cells_a_draft_h0, .int count_a_draft_h0])) :: (a_cells_a_draft_h0, .inl (cI, n_a_cells_a_draft_h0, .inl b_a_cells_a_draft_h0)) :: (a_scanner_h0, .inr (4, [.ref a_text_a_scanner_h0, .int next_a_scanner_h0, .int kind_a_scanner_h0, .int start_a_scanner_h0, .int width_a_scanner_h0])) :: (a_waiting_h0, .inr (5, [.ref q88, .int r85])) :: (q88, .inl (cI, r86, .inl r87)) :: (h0, .inr (2, [.ref a_scanner_h0, .ref a_draft_h0, .ref a_waiting_h0, .ref a_functions_h0, .ref (fad 0), .ref (fad fd), .ref a_text_h0, .int 42, .int r83, .int r84, .int loops_h0, .int token_h0, .int fault_h0])) :: fpo fad fn fd fcf)) (cl' := 0 + C90) (sl' := 0 + S91) rfl rfl rfl rfl rfl rfl ?_
            refine j_goto (tgt := 192) d_Rd_takeAtStart_178 (by decide) ?_
            replace h := lf_s h
            obtain ⟨h, e1, e2⟩ := h
            replace h := Prod.mk.inj h
            obtain ⟨h9, h⟩ := h
            subst h9
            replace h := Prod.mk.inj h
            obtain ⟨h9, h⟩ := h
            subst h9
            replace h := Prod.mk.inj h
            obtain ⟨h9, h⟩ := h
            subst h9
            replace h := Prod.mk.inj h
            obtain ⟨h9, h⟩ := h
            subst h9
            replace h := Prod.mk.inj h
            obtain ⟨h9, h⟩ := h
            subst h9
            replace h := Prod.mk.inj h
            obtain ⟨h9, h⟩ := h
            subst h9
            replace h := Prod.mk.inj h
            obtain ⟨h9, h⟩ := h
            subst h9
            replace h := Prod.mk.inj h
            obtain ⟨h9, h⟩ := h
            subst h9
            replace h := Prod.mk.inj h
            obtain ⟨h9, h⟩ := h
            subst h9
            replace h := Prod.mk.inj h
            obtain ⟨h9, h⟩ := h
            subst h9
            replace h := Prod.mk.inj h
            obtain ⟨h9, h⟩ := h
            subst h9
            replace h := Prod.mk.inj h
            obtain ⟨h9, h⟩ := h
            subst h9
            replace h := Prod.mk.inj h
            obtain ⟨h9, h⟩ := h
            subst h9
            replace h := Prod.mk.inj h
            obtain ⟨h9, h⟩ := h
            subst h9
            replace h := Prod.mk.inj h
            obtain ⟨h9, h⟩ := h
            subst h9
            replace h := Prod.mk.inj h
            obtain ⟨h9, h⟩ := h
            subst h9
            replace h := Prod.mk.inj h
            obtain ⟨h9, h⟩ := h
            subst h9
            replace h := Prod.mk.inj h
            obtain ⟨h9, h⟩ := h
            subst h9
            replace h := Prod.mk.inj h
            obtain ⟨h9, h⟩ := h
            subst h9
            replace h := Prod.mk.inj h
            obtain ⟨h9, h⟩ := h
            subst h9
            replace h := Prod.mk.inj h
            obtain ⟨h9, h⟩ := h
            subst h9
            replace h := Prod.mk.inj h
            obtain ⟨h9, h⟩ := h
            subst h9
            replace h := Prod.mk.inj h
            obtain ⟨h9, h⟩ := h
            subst h9
            replace h := Prod.mk.inj h
            obtain ⟨h9, h⟩ := h
            subst h9
            replace h := Prod.mk.inj h
            obtain ⟨h9, h⟩ := h
            subst h9
            subst h
            refine j_widen (cl' := mc) (sl' := ms) (by omega) (by omega) ?_
            refine j_subP (w := [(h0, .inr (2, [.ref a_scanner_h0, .ref a_draft_h0, .ref a_waiting_h0, .ref a_functions_h0, .ref (fad 0), .ref (fad fd), .ref a_text_h0, .int 42, .int r83, .int r84, .int loops_h0, .int token_h0, .int fault_h0])), ((fad fd), .inr (0, [(frB fad fd), (frA fad fn fd), .int kind_t, .int place_t, .int width_t, .int second_t, .int parts_t, .int innerParts_t, .int innerPlace_t, .int innerWidth_t, .int signs_t, .int waitingBelow_t, .int limited_t, .int targets_t, .int lastBlock_t])), (a_draft_h0, .inr (1, [.ref a_cells_a_draft_h0, .int count_a_draft_h0])), (a_scanner_h0, .inr (4, [.ref a_text_a_scanner_h0, .int next_a_scanner_h0, .int kind_a_scanner_h0, .int start_a_scanner_h0, .int width_a_scanner_h0])), (a_waiting_h0, .inr (5, [.ref q88, .int r85])), (a_cells_a_draft_h0, .inl (cI, n_a_cells_a_draft_h0, .inl b_a_cells_a_draft_h0)), (q88, .inl (cI, r86, .inl r87))]) (pl := fpo fad fn fd fcf) (lv' := []) [6, 0, 1, 3, 4, 2, 5] [] 7 rfl rfl (by decide) [] rfl ?_
            exact j_zretE hr (zb_n zb1) d_Rd_takeAtStart_192 ⟨fad, a_cells_a_draft_h0, q88, rfl, zb1, rfl⟩
        · replace h := it_f c80 h
          refine j_look (tgt := 193) (off := 189) d_Rd_takeAtStart_4 (by decide) (by show Op.lookupswitch.offset [(41, _), (58, _), (93, _), (126, _)] _ _ = _; rw [lv_osw c1 (by decide), lv_osw c35 (by decide), lv_osw c48 (by decide), lv_osw c80 (by decide)]; rfl) (by decide) ?_
          refine j_iconst (v := 0) d_Rd_takeAtStart_193 (by decide) ?_
          replace h := lf_s h
          obtain ⟨h, e1, e2⟩ := h
          replace h := Prod.mk.inj h
          obtain ⟨h9, h⟩ := h
          subst h9
          replace h := Prod.mk.inj h
          obtain ⟨h9, h⟩ := h
          subst h9
          replace h := Prod.mk.inj h
          obtain ⟨h9, h⟩ := h
          subst h9
          replace h := Prod.mk.inj h
          obtain ⟨h9, h⟩ := h
          subst h9
          replace h := Prod.mk.inj h
          obtain ⟨h9, h⟩ := h
          subst h9
          replace h := Prod.mk.inj h
          obtain ⟨h9, h⟩ := h
          subst h9
          replace h := Prod.mk.inj h
          obtain ⟨h9, h⟩ := h
          subst h9
          replace h := Prod.mk.inj h
          obtain ⟨h9, h⟩ := h
          subst h9
          replace h := Prod.mk.inj h
          obtain ⟨h9, h⟩ := h
          subst h9
          replace h := Prod.mk.inj h
          obtain ⟨h9, h⟩ := h
          subst h9
          replace h := Prod.mk.inj h
          obtain ⟨h9, h⟩ := h
          subst h9
          replace h := Prod.mk.inj h
          obtain ⟨h9, h⟩ := h
          subst h9
          replace h := Prod.mk.inj h
          obtain ⟨h9, h⟩ := h
          subst h9
          replace h := Prod.mk.inj h
          obtain ⟨h9, h⟩ := h
          subst h9
          replace h := Prod.mk.inj h
          obtain ⟨h9, h⟩ := h
          subst h9
          replace h := Prod.mk.inj h
          obtain ⟨h9, h⟩ := h
          subst h9
          replace h := Prod.mk.inj h
          obtain ⟨h9, h⟩ := h
          subst h9
          replace h := Prod.mk.inj h
          obtain ⟨h9, h⟩ := h
          subst h9
          replace h := Prod.mk.inj h
          obtain ⟨h9, h⟩ := h
          subst h9
          replace h := Prod.mk.inj h
          obtain ⟨h9, h⟩ := h
          subst h9
          replace h := Prod.mk.inj h
          obtain ⟨h9, h⟩ := h
          subst h9
          replace h := Prod.mk.inj h
          obtain ⟨h9, h⟩ := h
          subst h9
          replace h := Prod.mk.inj h
          obtain ⟨h9, h⟩ := h
          subst h9
          replace h := Prod.mk.inj h
          obtain ⟨h9, h⟩ := h
          subst h9
          replace h := Prod.mk.inj h
          obtain ⟨h9, h⟩ := h
          subst h9
          subst h
          refine j_widen (cl' := mc) (sl' := ms) (by omega) (by omega) ?_
          refine j_subP (w := [(h0, .inr (2, [.ref a_scanner_h0, .ref a_draft_h0, .ref a_waiting_h0, .ref a_functions_h0, .ref (fad 0), .ref (fad fd), .ref a_text_h0, .int mode_h0, .int levels_h0, .int signs_h0, .int loops_h0, .int token_h0, .int fault_h0])), ((fad fd), .inr (0, [(frB fad fd), (frA fad fn fd), .int kind_t, .int place_t, .int width_t, .int second_t, .int parts_t, .int innerParts_t, .int innerPlace_t, .int innerWidth_t, .int signs_t, .int waitingBelow_t, .int limited_t, .int targets_t, .int lastBlock_t])), (a_draft_h0, .inr (1, [.ref a_cells_a_draft_h0, .int count_a_draft_h0])), (a_scanner_h0, .inr (4, [.ref a_text_a_scanner_h0, .int next_a_scanner_h0, .int kind_a_scanner_h0, .int start_a_scanner_h0, .int width_a_scanner_h0])), (a_waiting_h0, .inr (5, [.ref a_cells_a_waiting_h0, .int count_a_waiting_h0])), (a_cells_a_draft_h0, .inl (cI, n_a_cells_a_draft_h0, .inl b_a_cells_a_draft_h0)), (a_cells_a_waiting_h0, .inl (cI, n_a_cells_a_waiting_h0, .inl b_a_cells_a_waiting_h0))]) (pl := fpo fad fn fd fcf) (lv' := []) [0, 1, 2, 4, 5, 3, 6] [] 7 rfl rfl (by decide) [] rfl ?_
          exact j_zretE hr (zb_n zb0) d_Rd_takeAtStart_194 ⟨fad, a_cells_a_draft_h0, a_cells_a_waiting_h0, rfl, zb0, rfl⟩
