noncomputable def F_Rd_standsInStatement (fn : Nat) (fd : Nat) (fcf : Nat → FrC) (mode_h0 : Int32) (levels_h0 : Int32) (signs_h0 : Int32) (loops_h0 : Int32) (token_h0 : Int32) (fault_h0 : Int32) (kind_t : Int32) (place_t : Int32) (width_t : Int32) (second_t : Int32) (parts_t : Int32) (innerParts_t : Int32) (innerPlace_t : Int32) (innerWidth_t : Int32) (signs_t : Int32) (waitingBelow_t : Int32) (limited_t : Int32) (targets_t : Int32) (lastBlock_t : Int32) (next_a_scanner_h0 : Int32) (kind_a_scanner_h0 : Int32) (start_a_scanner_h0 : Int32) (width_a_scanner_h0 : Int32) (count_a_waiting_h0 : Int32) (count_a_draft_h0 : Int32) (n_a_cells_a_draft_h0 : Nat) (b_a_cells_a_draft_h0 : Nat → Int32) : Option ((Nat × Nat × (Nat → FrC) × Int32 × Int32 × Int32 × Int32 × Int32 × Int32 × Int32 × Int32 × Int32 × Int32 × Int32 × Int32 × Int32 × Int32 × Int32 × Int32 × Int32 × Int32 × Int32 × Nat × (Nat → Int32)) × Nat × Nat) :=
  if mode_h0 = 0 then (bw (F_Rd_beginStatement fn fd fcf mode_h0 levels_h0 signs_h0 loops_h0 token_h0 fault_h0 kind_t place_t width_t second_t parts_t innerParts_t innerPlace_t innerWidth_t signs_t waitingBelow_t limited_t targets_t lastBlock_t next_a_scanner_h0 kind_a_scanner_h0 start_a_scanner_h0 width_a_scanner_h0 count_a_waiting_h0 count_a_draft_h0 n_a_cells_a_draft_h0 b_a_cells_a_draft_h0) fun ⟨r2, r3, r4, r5, r6, r7, r8, r9, r10, r11, r12, r13, r14, r15, r16, r17, r18, r19, r20, r21, r22, r23, r24, r25⟩ =>
    (some ((r2, r3, r4, r5, r6, r7, r8, r9, r10, r11, r12, r13, r14, r15, r16, r17, r18, r19, r20, r21, r22, r23, r24, r25), 0, 0)))
  else if mode_h0 = 1 then (if token_h0 = 59 then (some ((fn, fd, fcf, 1, 0, levels_h0, signs_h0, loops_h0, kind_t, place_t, width_t, second_t, parts_t, innerParts_t + 1, innerPlace_t, innerWidth_t, signs_t, waitingBelow_t, limited_t, targets_t, lastBlock_t, count_a_draft_h0, n_a_cells_a_draft_h0, b_a_cells_a_draft_h0), 0, 0))
    else (some ((fn, fd, fcf, 0, mode_h0, levels_h0, signs_h0, loops_h0, kind_t, place_t, width_t, second_t, parts_t, innerParts_t, innerPlace_t, innerWidth_t, signs_t, waitingBelow_t, limited_t, targets_t, lastBlock_t, count_a_draft_h0, n_a_cells_a_draft_h0, b_a_cells_a_draft_h0), 0, 0)))
  else if mode_h0 = 2 then (if token_h0 = 40 then (nm (F_Rd_goDeeper mode_h0 levels_h0 signs_h0 loops_h0 token_h0 fault_h0) fun ⟨r40, r41⟩ =>
      if r40 = 0 then (some ((fn, fd, fcf, 0, mode_h0, r41, signs_h0, loops_h0, kind_t, place_t, width_t, second_t, parts_t, innerParts_t, innerPlace_t, innerWidth_t, signs_t, waitingBelow_t, limited_t, targets_t, lastBlock_t, count_a_draft_h0, n_a_cells_a_draft_h0, b_a_cells_a_draft_h0), 0, 0))
      else (bw (F_Rd_openHead fn fd fcf mode_h0 r41 signs_h0 loops_h0 token_h0 fault_h0 kind_t place_t width_t second_t parts_t innerParts_t innerPlace_t innerWidth_t signs_t waitingBelow_t limited_t targets_t lastBlock_t next_a_scanner_h0 kind_a_scanner_h0 start_a_scanner_h0 width_a_scanner_h0 count_a_waiting_h0) fun ⟨r45, r46, r47, r48⟩ =>
        (some ((r45, r46, r47, 1, r48, r41, 0, loops_h0, 51, start_a_scanner_h0, width_a_scanner_h0, (-1), 0, 0, start_a_scanner_h0, width_a_scanner_h0, signs_h0, count_a_waiting_h0, 0, 0, 0, count_a_draft_h0, n_a_cells_a_draft_h0, b_a_cells_a_draft_h0), 0, 0))))
    else (some ((fn, fd, fcf, 0, mode_h0, levels_h0, signs_h0, loops_h0, kind_t, place_t, width_t, second_t, parts_t, innerParts_t, innerPlace_t, innerWidth_t, signs_t, waitingBelow_t, limited_t, targets_t, lastBlock_t, count_a_draft_h0, n_a_cells_a_draft_h0, b_a_cells_a_draft_h0), 0, 0)))
  else if mode_h0 = 3 then (if token_h0 = 2 then (bw (F_Rd_addName 4 mode_h0 levels_h0 signs_h0 loops_h0 token_h0 fault_h0 next_a_scanner_h0 kind_a_scanner_h0 start_a_scanner_h0 width_a_scanner_h0 count_a_draft_h0 n_a_cells_a_draft_h0 b_a_cells_a_draft_h0) fun ⟨r58, r59, r60⟩ =>
      (some ((fn, fd, fcf, 1, 4, levels_h0, signs_h0, loops_h0, kind_t, place_t, width_t, second_t, parts_t, innerParts_t, innerPlace_t, innerWidth_t, signs_t, waitingBelow_t, limited_t, targets_t, lastBlock_t, r58, r59, r60), 0, 0)))
    else (some ((fn, fd, fcf, 0, mode_h0, levels_h0, signs_h0, loops_h0, kind_t, place_t, width_t, second_t, parts_t, innerParts_t, innerPlace_t, innerWidth_t, signs_t, waitingBelow_t, limited_t, targets_t, lastBlock_t, count_a_draft_h0, n_a_cells_a_draft_h0, b_a_cells_a_draft_h0), 0, 0)))
  else if mode_h0 = 4 then (if token_h0 = 61 then (some ((fn, fd, fcf, 1, 30, levels_h0, signs_h0, loops_h0, kind_t, place_t, width_t, second_t, parts_t, innerParts_t, innerPlace_t, innerWidth_t, signs_t, waitingBelow_t, limited_t, targets_t, lastBlock_t, count_a_draft_h0, n_a_cells_a_draft_h0, b_a_cells_a_draft_h0), 0, 0))
    else (some ((fn, fd, fcf, 0, mode_h0, levels_h0, signs_h0, loops_h0, kind_t, place_t, width_t, second_t, parts_t, innerParts_t, innerPlace_t, innerWidth_t, signs_t, waitingBelow_t, limited_t, targets_t, lastBlock_t, count_a_draft_h0, n_a_cells_a_draft_h0, b_a_cells_a_draft_h0), 0, 0)))
  else (some ((fn, fd, fcf, 0, mode_h0, levels_h0, signs_h0, loops_h0, kind_t, place_t, width_t, second_t, parts_t, innerParts_t, innerPlace_t, innerWidth_t, signs_t, waitingBelow_t, limited_t, targets_t, lastBlock_t, count_a_draft_h0, n_a_cells_a_draft_h0, b_a_cells_a_draft_h0), 0, 0))
theorem d_Rd_standsInStatement_0 : decode prog_6_method_13_code 0 = .ok (.aload_n 0, 1) := by decide +kernel
theorem d_Rd_standsInStatement_1 : decode prog_6_method_13_code 1 = .ok (.getfield 56, 3) := by decide +kernel
theorem d_Rd_standsInStatement_4 : decode prog_6_method_13_code 4 = .ok (.tableswitch 138 0 4 #[36, 41, 63, 92, 114], 36) := by decide +kernel
theorem d_Rd_standsInStatement_40 : decode prog_6_method_13_code 40 = .ok (.aload_n 0, 1) := by decide +kernel
theorem d_Rd_standsInStatement_41 : decode prog_6_method_13_code 41 = .ok (.invokevirtual 180, 3) := by decide +kernel
theorem d_Rd_standsInStatement_44 : decode prog_6_method_13_code 44 = .ok (.ireturn, 1) := by decide +kernel
theorem d_Rd_standsInStatement_45 : decode prog_6_method_13_code 45 = .ok (.aload_n 0, 1) := by decide +kernel
theorem d_Rd_standsInStatement_46 : decode prog_6_method_13_code 46 = .ok (.getfield 69, 3) := by decide +kernel
theorem d_Rd_standsInStatement_49 : decode prog_6_method_13_code 49 = .ok (.bipush 59, 2) := by decide +kernel
theorem d_Rd_standsInStatement_51 : decode prog_6_method_13_code 51 = .ok (.if_icmp .ne 14, 3) := by decide +kernel
theorem d_Rd_standsInStatement_54 : decode prog_6_method_13_code 54 = .ok (.aload_n 0, 1) := by decide +kernel
theorem d_Rd_standsInStatement_55 : decode prog_6_method_13_code 55 = .ok (.invokevirtual 183, 3) := by decide +kernel
theorem d_Rd_standsInStatement_58 : decode prog_6_method_13_code 58 = .ok (.ifCond .eq 7, 3) := by decide +kernel
theorem d_Rd_standsInStatement_61 : decode prog_6_method_13_code 61 = .ok (.iconst 1, 1) := by decide +kernel
theorem d_Rd_standsInStatement_62 : decode prog_6_method_13_code 62 = .ok (.goto 4, 3) := by decide +kernel
theorem d_Rd_standsInStatement_65 : decode prog_6_method_13_code 65 = .ok (.iconst 0, 1) := by decide +kernel
theorem d_Rd_standsInStatement_66 : decode prog_6_method_13_code 66 = .ok (.ireturn, 1) := by decide +kernel
theorem d_Rd_standsInStatement_67 : decode prog_6_method_13_code 67 = .ok (.aload_n 0, 1) := by decide +kernel
theorem d_Rd_standsInStatement_68 : decode prog_6_method_13_code 68 = .ok (.getfield 69, 3) := by decide +kernel
theorem d_Rd_standsInStatement_71 : decode prog_6_method_13_code 71 = .ok (.bipush 40, 2) := by decide +kernel
theorem d_Rd_standsInStatement_73 : decode prog_6_method_13_code 73 = .ok (.if_icmp .ne 21, 3) := by decide +kernel
theorem d_Rd_standsInStatement_76 : decode prog_6_method_13_code 76 = .ok (.aload_n 0, 1) := by decide +kernel
theorem d_Rd_standsInStatement_77 : decode prog_6_method_13_code 77 = .ok (.invokevirtual 186, 3) := by decide +kernel
theorem d_Rd_standsInStatement_80 : decode prog_6_method_13_code 80 = .ok (.ifCond .eq 14, 3) := by decide +kernel
theorem d_Rd_standsInStatement_83 : decode prog_6_method_13_code 83 = .ok (.aload_n 0, 1) := by decide +kernel
theorem d_Rd_standsInStatement_84 : decode prog_6_method_13_code 84 = .ok (.invokevirtual 189, 3) := by decide +kernel
theorem d_Rd_standsInStatement_87 : decode prog_6_method_13_code 87 = .ok (.ifCond .eq 7, 3) := by decide +kernel
theorem d_Rd_standsInStatement_90 : decode prog_6_method_13_code 90 = .ok (.iconst 1, 1) := by decide +kernel
theorem d_Rd_standsInStatement_91 : decode prog_6_method_13_code 91 = .ok (.goto 4, 3) := by decide +kernel
theorem d_Rd_standsInStatement_94 : decode prog_6_method_13_code 94 = .ok (.iconst 0, 1) := by decide +kernel
theorem d_Rd_standsInStatement_95 : decode prog_6_method_13_code 95 = .ok (.ireturn, 1) := by decide +kernel
theorem d_Rd_standsInStatement_96 : decode prog_6_method_13_code 96 = .ok (.aload_n 0, 1) := by decide +kernel
theorem d_Rd_standsInStatement_97 : decode prog_6_method_13_code 97 = .ok (.getfield 69, 3) := by decide +kernel
theorem d_Rd_standsInStatement_100 : decode prog_6_method_13_code 100 = .ok (.iconst 2, 1) := by decide +kernel
theorem d_Rd_standsInStatement_101 : decode prog_6_method_13_code 101 = .ok (.if_icmp .ne 15, 3) := by decide +kernel
theorem d_Rd_standsInStatement_104 : decode prog_6_method_13_code 104 = .ok (.aload_n 0, 1) := by decide +kernel
theorem d_Rd_standsInStatement_105 : decode prog_6_method_13_code 105 = .ok (.iconst 4, 1) := by decide +kernel
theorem d_Rd_standsInStatement_106 : decode prog_6_method_13_code 106 = .ok (.invokevirtual 192, 3) := by decide +kernel
theorem d_Rd_standsInStatement_109 : decode prog_6_method_13_code 109 = .ok (.ifCond .eq 7, 3) := by decide +kernel
theorem d_Rd_standsInStatement_112 : decode prog_6_method_13_code 112 = .ok (.iconst 1, 1) := by decide +kernel
theorem d_Rd_standsInStatement_113 : decode prog_6_method_13_code 113 = .ok (.goto 4, 3) := by decide +kernel
theorem d_Rd_standsInStatement_116 : decode prog_6_method_13_code 116 = .ok (.iconst 0, 1) := by decide +kernel
theorem d_Rd_standsInStatement_117 : decode prog_6_method_13_code 117 = .ok (.ireturn, 1) := by decide +kernel
theorem d_Rd_standsInStatement_118 : decode prog_6_method_13_code 118 = .ok (.aload_n 0, 1) := by decide +kernel
theorem d_Rd_standsInStatement_119 : decode prog_6_method_13_code 119 = .ok (.getfield 69, 3) := by decide +kernel
theorem d_Rd_standsInStatement_122 : decode prog_6_method_13_code 122 = .ok (.bipush 61, 2) := by decide +kernel
theorem d_Rd_standsInStatement_124 : decode prog_6_method_13_code 124 = .ok (.if_icmp .ne 16, 3) := by decide +kernel
theorem d_Rd_standsInStatement_127 : decode prog_6_method_13_code 127 = .ok (.aload_n 0, 1) := by decide +kernel
theorem d_Rd_standsInStatement_128 : decode prog_6_method_13_code 128 = .ok (.bipush 30, 2) := by decide +kernel
theorem d_Rd_standsInStatement_130 : decode prog_6_method_13_code 130 = .ok (.invokevirtual 130, 3) := by decide +kernel
theorem d_Rd_standsInStatement_133 : decode prog_6_method_13_code 133 = .ok (.ifCond .eq 7, 3) := by decide +kernel
theorem d_Rd_standsInStatement_136 : decode prog_6_method_13_code 136 = .ok (.iconst 1, 1) := by decide +kernel
theorem d_Rd_standsInStatement_137 : decode prog_6_method_13_code 137 = .ok (.goto 4, 3) := by decide +kernel
theorem d_Rd_standsInStatement_140 : decode prog_6_method_13_code 140 = .ok (.iconst 0, 1) := by decide +kernel
theorem d_Rd_standsInStatement_141 : decode prog_6_method_13_code 141 = .ok (.ireturn, 1) := by decide +kernel
theorem d_Rd_standsInStatement_142 : decode prog_6_method_13_code 142 = .ok (.iconst 0, 1) := by decide +kernel
theorem d_Rd_standsInStatement_143 : decode prog_6_method_13_code 143 = .ok (.ireturn, 1) := by decide +kernel
set_option maxHeartbeats 4000000 in
set_option maxRecDepth 100000 in
theorem c_Rd_standsInStatement (l : Launch) (D : va_G) (cI cB cJ cS : ClassId) (h0 : Nat) (fad : Nat → Nat) (a_scanner_h0 : Nat) (a_draft_h0 : Nat) (a_waiting_h0 : Nat) (a_functions_h0 : Nat) (a_text_h0 : Nat) (a_text_a_scanner_h0 : Nat) (a_cells_a_waiting_h0 : Nat) (a_cells_a_draft_h0 : Nat) (fn : Nat) (fd : Nat) (fcf : Nat → FrC) (mode_h0 : Int32) (levels_h0 : Int32) (signs_h0 : Int32) (loops_h0 : Int32) (token_h0 : Int32) (fault_h0 : Int32) (kind_t : Int32) (place_t : Int32) (width_t : Int32) (second_t : Int32) (parts_t : Int32) (innerParts_t : Int32) (innerPlace_t : Int32) (innerWidth_t : Int32) (signs_t : Int32) (waitingBelow_t : Int32) (limited_t : Int32) (targets_t : Int32) (lastBlock_t : Int32) (next_a_scanner_h0 : Int32) (kind_a_scanner_h0 : Int32) (start_a_scanner_h0 : Int32) (width_a_scanner_h0 : Int32) (count_a_waiting_h0 : Int32) (count_a_draft_h0 : Int32) (n_a_cells_a_draft_h0 : Nat) (b_a_cells_a_draft_h0 : Nat → Int32) (on_p : Nat) (od_p : Nat) (ocf_p : Nat → FrC) (ret : Int32) (o_0_7 : Int32) (o_0_8 : Int32) (o_0_9 : Int32) (o_0_10 : Int32) (o_1_2 : Int32) (o_1_3 : Int32) (o_1_4 : Int32) (o_1_5 : Int32) (o_1_6 : Int32) (o_1_7 : Int32) (o_1_8 : Int32) (o_1_9 : Int32) (o_1_10 : Int32) (o_1_11 : Int32) (o_1_12 : Int32) (o_1_13 : Int32) (o_1_14 : Int32) (o_4_1 : Int32) (on_nq_4_0 : Nat) (ob_nq_4_0 : Nat → Int32) (mc ms : Nat) (h : F_Rd_standsInStatement fn fd fcf mode_h0 levels_h0 signs_h0 loops_h0 token_h0 fault_h0 kind_t place_t width_t second_t parts_t innerParts_t innerPlace_t innerWidth_t signs_t waitingBelow_t limited_t targets_t lastBlock_t next_a_scanner_h0 kind_a_scanner_h0 start_a_scanner_h0 width_a_scanner_h0 count_a_waiting_h0 count_a_draft_h0 n_a_cells_a_draft_h0 b_a_cells_a_draft_h0 = some ((on_p, od_p, ocf_p, ret, o_0_7, o_0_8, o_0_9, o_0_10, o_1_2, o_1_3, o_1_4, o_1_5, o_1_6, o_1_7, o_1_8, o_1_9, o_1_10, o_1_11, o_1_12, o_1_13, o_1_14, o_4_1, on_nq_4_0, ob_nq_4_0), mc, ms)) : Ct l D (gT cI cB cJ cS) y_Rd_standsInStatement prog_6_method_13_code 1 (Option.some Jvm.ClassFile.FieldType.boolean) 6 174 mc ms [.ref h0] ((h0, .inr (2, [.ref a_scanner_h0, .ref a_draft_h0, .ref a_waiting_h0, .ref a_functions_h0, .ref (fad 0), .ref (fad fd), .ref a_text_h0, .int mode_h0, .int levels_h0, .int signs_h0, .int loops_h0, .int token_h0, .int fault_h0])) :: ((fad fd), .inr (0, [(frB fad fd), (frA fad fn fd), .int kind_t, .int place_t, .int width_t, .int second_t, .int parts_t, .int innerParts_t, .int innerPlace_t, .int innerWidth_t, .int signs_t, .int waitingBelow_t, .int limited_t, .int targets_t, .int lastBlock_t])) :: (a_scanner_h0, .inr (4, [.ref a_text_a_scanner_h0, .int next_a_scanner_h0, .int kind_a_scanner_h0, .int start_a_scanner_h0, .int width_a_scanner_h0])) :: (a_waiting_h0, .inr (5, [.ref a_cells_a_waiting_h0, .int count_a_waiting_h0])) :: (a_draft_h0, .inr (1, [.ref a_cells_a_draft_h0, .int count_a_draft_h0])) :: (a_cells_a_draft_h0, .inl (cI, n_a_cells_a_draft_h0, .inl b_a_cells_a_draft_h0)) :: fpo fad fn fd fcf) (fun v w => ∃ nad : Nat → Nat, ∃ nq_4_0 : Nat, v = some (.int ret) ∧ zb ret ∧ w = ((h0, .inr (2, [.ref a_scanner_h0, .ref a_draft_h0, .ref a_waiting_h0, .ref a_functions_h0, .ref (nad 0), .ref (nad od_p), .ref a_text_h0, .int o_0_7, .int o_0_8, .int o_0_9, .int o_0_10, .int token_h0, .int fault_h0])) :: ((nad od_p), .inr (0, [(frB nad od_p), (frA nad on_p od_p), .int o_1_2, .int o_1_3, .int o_1_4, .int o_1_5, .int o_1_6, .int o_1_7, .int o_1_8, .int o_1_9, .int o_1_10, .int o_1_11, .int o_1_12, .int o_1_13, .int o_1_14])) :: (a_scanner_h0, .inr (4, [.ref a_text_a_scanner_h0, .int next_a_scanner_h0, .int kind_a_scanner_h0, .int start_a_scanner_h0, .int width_a_scanner_h0])) :: (a_waiting_h0, .inr (5, [.ref a_cells_a_waiting_h0, .int count_a_waiting_h0])) :: (a_draft_h0, .inr (1, [.ref nq_4_0, .int o_4_1])) :: (nq_4_0, .inl (cI, on_nq_4_0, .inl ob_nq_4_0)) :: fpo nad on_p od_p ocf_p)) := by
  refine Ct.mk (by decide) (Nat.le_of_ble_eq_true rfl) ?_
  intro p e s m below meth c hr hnm
  refine j_norm (pc' := 0) (lv' := [(0, .ref h0)]) (st' := []) (ws' := ((h0, .inr (2, [.ref a_scanner_h0, .ref a_draft_h0, .ref a_waiting_h0, .ref a_functions_h0, .ref (fad 0), .ref (fad fd), .ref a_text_h0, .int mode_h0, .int levels_h0, .int signs_h0, .int loops_h0, .int token_h0, .int fault_h0])) :: ((fad fd), .inr (0, [(frB fad fd), (frA fad fn fd), .int kind_t, .int place_t, .int width_t, .int second_t, .int parts_t, .int innerParts_t, .int innerPlace_t, .int innerWidth_t, .int signs_t, .int waitingBelow_t, .int limited_t, .int targets_t, .int lastBlock_t])) :: (a_scanner_h0, .inr (4, [.ref a_text_a_scanner_h0, .int next_a_scanner_h0, .int kind_a_scanner_h0, .int start_a_scanner_h0, .int width_a_scanner_h0])) :: (a_waiting_h0, .inr (5, [.ref a_cells_a_waiting_h0, .int count_a_waiting_h0])) :: (a_draft_h0, .inr (1, [.ref a_cells_a_draft_h0, .int count_a_draft_h0])) :: (a_cells_a_draft_h0, .inl (cI, n_a_cells_a_draft_h0, .inl b_a_cells_a_draft_h0)) :: fpo fad fn fd fcf)) (cl' := 0) (sl' := 0) rfl rfl rfl rfl rfl rfl ?_
  unfold F_Rd_standsInStatement at h
  have hC : 0 + mc ≤ mc := by omega
  have hS : 0 + ms ≤ ms := by omega
  refine j_aload_n d_Rd_standsInStatement_0 rfl 0 rfl ?_
  refine j_get ig_Rd rfl 0 rfl 7 (by decide) rfl m_176 rfl d_Rd_standsInStatement_1 ?_
  by_cases c1 : mode_h0 = 0
  · replace h := it_t c1 h
    refine j_tabIn (tgt := 40) (off := 36) d_Rd_standsInStatement_4 0 c1 (by decide) (by decide) (by decide) (by decide) ?_
    refine j_aload_n d_Rd_standsInStatement_40 rfl 0 rfl ?_
    replace h := bw_s h
    obtain ⟨⟨r2, r3, r4, r5, r6, r7, r8, r9, r10, r11, r12, r13, r14, r15, r16, r17, r18, r19, r20, r21, r22, r23, r24, r25⟩, C29, S30, C31, S32, k33, h, e1, e2⟩ := h
    replace hC : 0 + C29 + C31 ≤ mc := by omega
    replace hS : 0 + S30 + S32 ≤ ms := by omega
    clear e1 e2
    refine j_callVg (n := 0) (As := []) (rest := []) (wr := []) (c_Rd_beginStatement l D cI cB cJ cS h0 fad a_scanner_h0 a_draft_h0 a_waiting_h0 a_functions_h0 a_text_h0 a_text_a_scanner_h0 a_cells_a_waiting_h0 a_cells_a_draft_h0 fn fd fcf mode_h0 levels_h0 signs_h0 loops_h0 token_h0 fault_h0 kind_t place_t width_t second_t parts_t innerParts_t innerPlace_t innerWidth_t signs_t waitingBelow_t limited_t targets_t lastBlock_t next_a_scanner_h0 kind_a_scanner_h0 start_a_scanner_h0 width_a_scanner_h0 count_a_waiting_h0 count_a_draft_h0 n_a_cells_a_draft_h0 b_a_cells_a_draft_h0  r2 r3 r4 r5 r6 r7 r8 r9 r10 r11 r12 r13 r14 r15 r16 r17 r18 r19 r20 r21 r22 r23 r24 r25 C29 S30 k33) k_Rd_180 (by decide) ⟨Nat.le_of_ble_eq_true rfl, Nat.le_of_ble_eq_true rfl⟩ rfl 0 rfl (pk_app (wr := []) (w0 := [(h0, .inr (2, [.ref a_scanner_h0, .ref a_draft_h0, .ref a_waiting_h0, .ref a_functions_h0, .ref (fad 0), .ref (fad fd), .ref a_text_h0, .int mode_h0, .int levels_h0, .int signs_h0, .int loops_h0, .int token_h0, .int fault_h0])), ((fad fd), .inr (0, [(frB fad fd), (frA fad fn fd), .int kind_t, .int place_t, .int width_t, .int second_t, .int parts_t, .int innerParts_t, .int innerPlace_t, .int innerWidth_t, .int signs_t, .int waitingBelow_t, .int limited_t, .int targets_t, .int lastBlock_t])), (a_scanner_h0, .inr (4, [.ref a_text_a_scanner_h0, .int next_a_scanner_h0, .int kind_a_scanner_h0, .int start_a_scanner_h0, .int width_a_scanner_h0])), (a_waiting_h0, .inr (5, [.ref a_cells_a_waiting_h0, .int count_a_waiting_h0])), (a_draft_h0, .inr (1, [.ref a_cells_a_draft_h0, .int count_a_draft_h0])), (a_cells_a_draft_h0, .inl (cI, n_a_cells_a_draft_h0, .inl b_a_cells_a_draft_h0))]) (pl := fpo fad fn fd fcf) [0, 1, 2, 3, 4, 5] 6 rfl rfl rfl (by decide)) rfl rfl (Nat.le_of_ble_eq_true rfl) d_Rd_standsInStatement_41 ⟨show 0 + C29 ≤ mc by omega, show 0 + S30 ≤ ms by omega⟩ (fun v w hq => ?_)
    obtain ⟨a26, q27, rfl, z28, rfl⟩ := hq
    refine j_norm (pc' := 44) (st' := [.int r5]) (ws' := ((h0, .inr (2, [.ref a_scanner_h0, .ref a_draft_h0, .ref a_waiting_h0, .ref a_functions_h0, .ref (a26 0), .ref (a26 r3), .ref a_text_h0, .int r6, .int r7, .int r8, .int r9, .int token_h0, .int fault_h0])) :: ((a26 r3), .inr (0, [(frB a26 r3), (frA a26 r2 r3), .int r10, .int r11, .int r12, .int r13, .int r14, .int r15, .int r16, .int r17, .int r18, .int r19, .int r20, .int r21, .int r22])) :: (a_scanner_h0, .inr (4, [.ref a_text_a_scanner_h0, .int next_a_scanner_h0, .int kind_a_scanner_h0, .int start_a_scanner_h0, .int width_a_scanner_h0])) :: (a_waiting_h0, .inr (5, [.ref a_cells_a_waiting_h0, .int count_a_waiting_h0])) :: (a_draft_h0, .inr (1, [.ref q27, .int r23])) :: (q27, .inl (cI, r24, .inl r25)) :: fpo a26 r2 r3 r4)) (cl' := 0 + C29) (sl' := 0 + S30) rfl rfl rfl rfl rfl rfl ?_
    replace h := lf_s h
    obtain ⟨h, e1, e2⟩ := h
    replace h := Prod.mk.inj h
    obtain ⟨h9, h⟩ := h
    subst h9
    replace h := Prod.mk.inj h
    obtain ⟨h9, h⟩ := h
    subst h9
    replace h := Prod.mk.inj h
    obtain ⟨h9, h⟩ := h
    subst h9
    replace h := Prod.mk.inj h
    obtain ⟨h9, h⟩ := h
    subst h9
    replace h := Prod.mk.inj h
    obtain ⟨h9, h⟩ := h
    subst h9
    replace h := Prod.mk.inj h
    obtain ⟨h9, h⟩ := h
    subst h9
    replace h := Prod.mk.inj h
    obtain ⟨h9, h⟩ := h
    subst h9
    replace h := Prod.mk.inj h
    obtain ⟨h9, h⟩ := h
    subst h9
    replace h := Prod.mk.inj h
    obtain ⟨h9, h⟩ := h
    subst h9
    replace h := Prod.mk.inj h
    obtain ⟨h9, h⟩ := h
    subst h9
    replace h := Prod.mk.inj h
    obtain ⟨h9, h⟩ := h
    subst h9
    replace h := Prod.mk.inj h
    obtain ⟨h9, h⟩ := h
    subst h9
    replace h := Prod.mk.inj h
    obtain ⟨h9, h⟩ := h
    subst h9
    replace h := Prod.mk.inj h
    obtain ⟨h9, h⟩ := h
    subst h9
    replace h := Prod.mk.inj h
    obtain ⟨h9, h⟩ := h
    subst h9
    replace h := Prod.mk.inj h
    obtain ⟨h9, h⟩ := h
    subst h9
    replace h := Prod.mk.inj h
    obtain ⟨h9, h⟩ := h
    subst h9
    replace h := Prod.mk.inj h
    obtain ⟨h9, h⟩ := h
    subst h9
    replace h := Prod.mk.inj h
    obtain ⟨h9, h⟩ := h
    subst h9
    replace h := Prod.mk.inj h
    obtain ⟨h9, h⟩ := h
    subst h9
    replace h := Prod.mk.inj h
    obtain ⟨h9, h⟩ := h
    subst h9
    replace h := Prod.mk.inj h
    obtain ⟨h9, h⟩ := h
    subst h9
    replace h := Prod.mk.inj h
    obtain ⟨h9, h⟩ := h
    subst h9
    subst h
    refine j_widen (cl' := mc) (sl' := ms) (by omega) (by omega) ?_
    refine j_subP (w := [(h0, .inr (2, [.ref a_scanner_h0, .ref a_draft_h0, .ref a_waiting_h0, .ref a_functions_h0, .ref (a26 0), .ref (a26 r3), .ref a_text_h0, .int r6, .int r7, .int r8, .int r9, .int token_h0, .int fault_h0])), ((a26 r3), .inr (0, [(frB a26 r3), (frA a26 r2 r3), .int r10, .int r11, .int r12, .int r13, .int r14, .int r15, .int r16, .int r17, .int r18, .int r19, .int r20, .int r21, .int r22])), (a_scanner_h0, .inr (4, [.ref a_text_a_scanner_h0, .int next_a_scanner_h0, .int kind_a_scanner_h0, .int start_a_scanner_h0, .int width_a_scanner_h0])), (a_waiting_h0, .inr (5, [.ref a_cells_a_waiting_h0, .int count_a_waiting_h0])), (a_draft_h0, .inr (1, [.ref q27, .int r23])), (q27, .inl (cI, r24, .inl r25))]) (pl := fpo a26 r2 r3 r4) (lv' := []) [0, 1, 2, 3, 4, 5] [] 6 rfl rfl (by decide) [] rfl ?_
    exact j_zretE hr (zb_n z28) d_Rd_standsInStatement_44 ⟨a26, q27, rfl, z28, rfl⟩
  · replace h := it_f c1 h
    by_cases c34 : mode_h0 = 1
    · replace h := it_t c34 h
      refine j_tabIn (tgt := 45) (off := 41) d_Rd_standsInStatement_4 1 c34 (by decide) (by decide) (by decide) (by decide) ?_
      refine j_aload_n d_Rd_standsInStatement_45 rfl 0 rfl ?_
      refine j_get ig_Rd rfl 0 rfl 11 (by decide) rfl m_180 rfl d_Rd_standsInStatement_46 ?_
      refine j_bipush (v := 59) d_Rd_standsInStatement_49 (by decide) ?_
      refine j_icmp_ne (tgt := 65) d_Rd_standsInStatement_51 (by decide) (fun c35 => ?_) (fun c35 => ?_)
      · replace h := it_f c35 h
        refine j_iconst (v := 0) d_Rd_standsInStatement_65 (by decide) ?_
        replace h := lf_s h
        obtain ⟨h, e1, e2⟩ := h
        replace h := Prod.mk.inj h
        obtain ⟨h9, h⟩ := h
        subst h9
        replace h := Prod.mk.inj h
        obtain ⟨h9, h⟩ := h
        subst h9
        replace h := Prod.mk.inj h
        obtain ⟨h9, h⟩ := h
        subst h9
        replace h := Prod.mk.inj h
        obtain ⟨h9, h⟩ := h
        subst h9
        replace h := Prod.mk.inj h
        obtain ⟨h9, h⟩ := h
        subst h9
        replace h := Prod.mk.inj h
        obtain ⟨h9, h⟩ := h
        subst h9
        replace h := Prod.mk.inj h
        obtain ⟨h9, h⟩ := h
        subst h9
        replace h := Prod.mk.inj h
        obtain ⟨h9, h⟩ := h
        subst h9
        replace h := Prod.mk.inj h
        obtain ⟨h9, h⟩ := h
        subst h9
        replace h := Prod.mk.inj h
        obtain ⟨h9, h⟩ := h
        subst h9
        replace h := Prod.mk.inj h
        obtain ⟨h9, h⟩ := h
        subst h9
        replace h := Prod.mk.inj h
        obtain ⟨h9, h⟩ := h
        subst h9
        replace h := Prod.mk.inj h
        obtain ⟨h9, h⟩ := h
        subst h9
        replace h := Prod.mk.inj h
        obtain ⟨h9, h⟩ := h
        subst h9
        replace h := Prod.mk.inj h
        obtain ⟨h9, h⟩ := h
        subst h9
        replace h := Prod.mk.inj h
        obtain ⟨h9, h⟩ := h
        subst h9
        replace h := Prod.mk.inj h
        obtain ⟨h9, h⟩ := h
        subst h9
        replace h := Prod.mk.inj h
        obtain ⟨h9, h⟩ := h
        subst h9
        replace h := Prod.mk.inj h
        obtain ⟨h9, h⟩ := h
        subst h9
        replace h := Prod.mk.inj h
        obtain ⟨h9, h⟩ := h
        subst h9
        replace h := Prod.mk.inj h
        obtain ⟨h9, h⟩ := h
        subst h9
        replace h := Prod.mk.inj h
        obtain ⟨h9, h⟩ := h
        subst h9
        replace h := Prod.mk.inj h
        obtain ⟨h9, h⟩ := h
        subst h9
        subst h
        refine j_widen (cl' := mc) (sl' := ms) (by omega) (by omega) ?_
        refine j_subP (w := [(h0, .inr (2, [.ref a_scanner_h0, .ref a_draft_h0, .ref a_waiting_h0, .ref a_functions_h0, .ref (fad 0), .ref (fad fd), .ref a_text_h0, .int mode_h0, .int levels_h0, .int signs_h0, .int loops_h0, .int token_h0, .int fault_h0])), ((fad fd), .inr (0, [(frB fad fd), (frA fad fn fd), .int kind_t, .int place_t, .int width_t, .int second_t, .int parts_t, .int innerParts_t, .int innerPlace_t, .int innerWidth_t, .int signs_t, .int waitingBelow_t, .int limited_t, .int targets_t, .int lastBlock_t])), (a_scanner_h0, .inr (4, [.ref a_text_a_scanner_h0, .int next_a_scanner_h0, .int kind_a_scanner_h0, .int start_a_scanner_h0, .int width_a_scanner_h0])), (a_waiting_h0, .inr (5, [.ref a_cells_a_waiting_h0, .int count_a_waiting_h0])), (a_draft_h0, .inr (1, [.ref a_cells_a_draft_h0, .int count_a_draft_h0])), (a_cells_a_draft_h0, .inl (cI, n_a_cells_a_draft_h0, .inl b_a_cells_a_draft_h0))]) (pl := fpo fad fn fd fcf) (lv' := []) [0, 1, 2, 3, 4, 5] [] 6 rfl rfl (by decide) [] rfl ?_
        exact j_zretE hr (zb_n zb0) d_Rd_standsInStatement_66 ⟨fad, a_cells_a_draft_h0, rfl, zb0, rfl⟩
      · replace h := it_t c35 h
        refine j_aload_n d_Rd_standsInStatement_54 rfl 0 rfl ?_
        refine j_callVg (n := 0) (As := []) (rest := []) (wr := ([(a_scanner_h0, .inr (4, [.ref a_text_a_scanner_h0, .int next_a_scanner_h0, .int kind_a_scanner_h0, .int start_a_scanner_h0, .int width_a_scanner_h0])), (a_waiting_h0, .inr (5, [.ref a_cells_a_waiting_h0, .int count_a_waiting_h0])), (a_draft_h0, .inr (1, [.ref a_cells_a_draft_h0, .int count_a_draft_h0])), (a_cells_a_draft_h0, .inl (cI, n_a_cells_a_draft_h0, .inl b_a_cells_a_draft_h0))] ++ fpo fad fn fd fcf)) (c_Rd_endStatement l D cI cB cJ cS h0 a_scanner_h0 a_draft_h0 a_waiting_h0 a_functions_h0 (fad 0) (fad fd) a_text_h0 (frB fad fd) (frA fad fn fd) mode_h0 levels_h0 signs_h0 loops_h0 token_h0 fault_h0 kind_t place_t width_t second_t parts_t innerParts_t innerPlace_t innerWidth_t signs_t waitingBelow_t limited_t targets_t lastBlock_t  ) k_Rd_183 (by decide) ⟨Nat.le_of_ble_eq_true rfl, Nat.le_of_ble_eq_true rfl⟩ rfl 0 rfl (pk_mid (wr := [(a_scanner_h0, .inr (4, [.ref a_text_a_scanner_h0, .int next_a_scanner_h0, .int kind_a_scanner_h0, .int start_a_scanner_h0, .int width_a_scanner_h0])), (a_waiting_h0, .inr (5, [.ref a_cells_a_waiting_h0, .int count_a_waiting_h0])), (a_draft_h0, .inr (1, [.ref a_cells_a_draft_h0, .int count_a_draft_h0])), (a_cells_a_draft_h0, .inl (cI, n_a_cells_a_draft_h0, .inl b_a_cells_a_draft_h0))]) (w0 := [(h0, .inr (2, [.ref a_scanner_h0, .ref a_draft_h0, .ref a_waiting_h0, .ref a_functions_h0, .ref (fad 0), .ref (fad fd), .ref a_text_h0, .int mode_h0, .int levels_h0, .int signs_h0, .int loops_h0, .int token_h0, .int fault_h0])), ((fad fd), .inr (0, [(frB fad fd), (frA fad fn fd), .int kind_t, .int place_t, .int width_t, .int second_t, .int parts_t, .int innerParts_t, .int innerPlace_t, .int innerWidth_t, .int signs_t, .int waitingBelow_t, .int limited_t, .int targets_t, .int lastBlock_t]))]) (pl := fpo fad fn fd fcf) [2, 3, 4, 5, 0, 1] 6 rfl rfl (by decide)) rfl rfl (Nat.le_of_ble_eq_true rfl) d_Rd_standsInStatement_55 ⟨show 0 + 0 ≤ mc by omega, show 0 + 0 ≤ ms by omega⟩ (fun v w hq => ?_)
        obtain ⟨rfl, _, rfl⟩ := hq
        refine j_perm (ws' := ((a_scanner_h0, .inr (4, [.ref a_text_a_scanner_h0, .int next_a_scanner_h0, .int kind_a_scanner_h0, .int start_a_scanner_h0, .int width_a_scanner_h0])) :: (a_waiting_h0, .inr (5, [.ref a_cells_a_waiting_h0, .int count_a_waiting_h0])) :: (a_draft_h0, .inr (1, [.ref a_cells_a_draft_h0, .int count_a_draft_h0])) :: (a_cells_a_draft_h0, .inl (cI, n_a_cells_a_draft_h0, .inl b_a_cells_a_draft_h0)) :: (h0, .inr (2, [.ref a_scanner_h0, .ref a_draft_h0, .ref a_waiting_h0, .ref a_functions_h0, .ref (fad 0), .ref (fad fd), .ref a_text_h0, .int 0, .int levels_h0, .int signs_h0, .int loops_h0, .int token_h0, .int fault_h0])) :: ((fad fd), .inr (0, [(frB fad fd), (frA fad fn fd), .int kind_t, .int place_t, .int width_t, .int second_t, .int parts_t, .int (innerParts_t + 1), .int innerPlace_t, .int innerWidth_t, .int signs_t, .int waitingBelow_t, .int limited_t, .int targets_t, .int lastBlock_t])) :: fpo fad fn fd fcf)) (pm_eq (a := [(a_scanner_h0, .inr (4, [.ref a_text_a_scanner_h0, .int next_a_scanner_h0, .int kind_a_scanner_h0, .int start_a_scanner_h0, .int width_a_scanner_h0])), (a_waiting_h0, .inr (5, [.ref a_cells_a_waiting_h0, .int count_a_waiting_h0])), (a_draft_h0, .inr (1, [.ref a_cells_a_draft_h0, .int count_a_draft_h0])), (a_cells_a_draft_h0, .inl (cI, n_a_cells_a_draft_h0, .inl b_a_cells_a_draft_h0))]) (b := fpo fad fn fd fcf) (c := [(h0, .inr (2, [.ref a_scanner_h0, .ref a_draft_h0, .ref a_waiting_h0, .ref a_functions_h0, .ref (fad 0), .ref (fad fd), .ref a_text_h0, .int 0, .int levels_h0, .int signs_h0, .int loops_h0, .int token_h0, .int fault_h0])), ((fad fd), .inr (0, [(frB fad fd), (frA fad fn fd), .int kind_t, .int place_t, .int width_t, .int second_t, .int parts_t, .int (innerParts_t + 1), .int innerPlace_t, .int innerWidth_t, .int signs_t, .int waitingBelow_t, .int limited_t, .int targets_t, .int lastBlock_t]))]) rfl) ?_
        refine j_norm (pc' := 58) (st' := [.int 1]) (ws' := ((a_scanner_h0, .inr (4, [.ref a_text_a_scanner_h0, .int next_a_scanner_h0, .int kind_a_scanner_h0, .int start_a_scanner_h0, .int width_a_scanner_h0])) :: (a_waiting_h0, .inr (5, [.ref a_cells_a_waiting_h0, .int count_a_waiting_h0])) :: (a_draft_h0, .inr (1, [.ref a_cells_a_draft_h0, .int count_a_draft_h0])) :: (a_cells_a_draft_h0, .inl (cI, n_a_cells_a_draft_h0, .inl b_a_cells_a_draft_h0)) :: (h0, .inr (2, [.ref a_scanner_h0, .ref a_draft_h0, .ref a_waiting_h0, .ref a_functions_h0, .ref (fad 0), .ref (fad fd), .ref a_text_h0, .int 0, .int levels_h0, .int signs_h0, .int loops_h0, .int token_h0, .int fault_h0])) :: ((fad fd), .inr (0, [(frB fad fd), (frA fad fn fd), .int kind_t, .int place_t, .int width_t, .int second_t, .int parts_t, .int (innerParts_t + 1), .int innerPlace_t, .int innerWidth_t, .int signs_t, .int waitingBelow_t, .int limited_t, .int targets_t, .int lastBlock_t])) :: fpo fad fn fd fcf)) (cl' := 0) (sl' := 0) rfl rfl rfl rfl rfl rfl ?_
        refine j_if_eq (tgt := 65) d_Rd_standsInStatement_58 (by decide) (fun c37 => absurd c37 (by decide)) (fun c37 => ?_)
        refine j_iconst (v := 1) d_Rd_standsInStatement_61 (by decide) ?_
        refine j_goto (tgt := 66) d_Rd_standsInStatement_62 (by decide) ?_
        replace h := lf_s h
        obtain ⟨h, e1, e2⟩ := h
        replace h := Prod.mk.inj h
        obtain ⟨h9, h⟩ := h
        subst h9
        replace h := Prod.mk.inj h
        obtain ⟨h9, h⟩ := h
        subst h9
        replace h := Prod.mk.inj h
        obtain ⟨h9, h⟩ := h
        subst h9
        replace h := Prod.mk.inj h
        obtain ⟨h9, h⟩ := h
        subst h9
        replace h := Prod.mk.inj h
        obtain ⟨h9, h⟩ := h
        subst h9
        replace h := Prod.mk.inj h
        obtain ⟨h9, h⟩ := h
        subst h9
        replace h := Prod.mk.inj h
        obtain ⟨h9, h⟩ := h
        subst h9
        replace h := Prod.mk.inj h
        obtain ⟨h9, h⟩ := h
        subst h9
        replace h := Prod.mk.inj h
        obtain ⟨h9, h⟩ := h
        subst h9
        replace h := Prod.mk.inj h
        obtain ⟨h9, h⟩ := h
        subst h9
        replace h := Prod.mk.inj h
        obtain ⟨h9, h⟩ := h
        subst h9
        replace h := Prod.mk.inj h
        obtain ⟨h9, h⟩ := h
        subst h9
        replace h := Prod.mk.inj h
        obtain ⟨h9, h⟩ := h
        subst h9
        replace h := Prod.mk.inj h
        obtain ⟨h9, h⟩ := h
        subst h9
        replace h := Prod.mk.inj h
        obtain ⟨h9, h⟩ := h
        subst h9
        replace h := Prod.mk.inj h
        obtain ⟨h9, h⟩ := h
        subst h9
        replace h := Prod.mk.inj h
        obtain ⟨h9, h⟩ := h
        subst h9
        replace h := Prod.mk.inj h
        obtain ⟨h9, h⟩ := h
        subst h9
        replace h := Prod.mk.inj h
        obtain ⟨h9, h⟩ := h
        subst h9
        replace h := Prod.mk.inj h
        obtain ⟨h9, h⟩ := h
        subst h9
        replace h := Prod.mk.inj h
        obtain ⟨h9, h⟩ := h
        subst h9
        replace h := Prod.mk.inj h
        obtain ⟨h9, h⟩ := h
        subst h9
        replace h := Prod.mk.inj h
        obtain ⟨h9, h⟩ := h
        subst h9
        subst h
        refine j_widen (cl' := mc) (sl' := ms) (by omega) (by omega) ?_
        refine j_subP (w := [(h0, .inr (2, [.ref a_scanner_h0, .ref a_draft_h0, .ref a_waiting_h0, .ref a_functions_h0, .ref (fad 0), .ref (fad fd), .ref a_text_h0, .int 0, .int levels_h0, .int signs_h0, .int loops_h0, .int token_h0, .int fault_h0])), ((fad fd), .inr (0, [(frB fad fd), (frA fad fn fd), .int kind_t, .int place_t, .int width_t, .int second_t, .int parts_t, .int (innerParts_t + 1), .int innerPlace_t, .int innerWidth_t, .int signs_t, .int waitingBelow_t, .int limited_t, .int targets_t, .int lastBlock_t])), (a_scanner_h0, .inr (4, [.ref a_text_a_scanner_h0, .int next_a_scanner_h0, .int kind_a_scanner_h0, .int start_a_scanner_h0, .int width_a_scanner_h0])), (a_waiting_h0, .inr (5, [.ref a_cells_a_waiting_h0, .int count_a_waiting_h0])), (a_draft_h0, .inr (1, [.ref a_cells_a_draft_h0, .int count_a_draft_h0])), (a_cells_a_draft_h0, .inl (cI, n_a_cells_a_draft_h0, .inl b_a_cells_a_draft_h0))]) (pl := fpo fad fn fd fcf) (lv' := []) [4, 5, 0, 1, 2, 3] [] 6 rfl rfl (by decide) [] rfl ?_
        exact j_zretE hr (zb_n zb1) d_Rd_standsInStatement_66 ⟨fad, a_cells_a_draft_h0, rfl, zb1, rfl⟩
    · replace h := it_f c34 h
      by_cases c38 : mode_h0 = 2
      · replace h := it_t c38 h
        refine j_tabIn (tgt := 67) (off := 63) d_Rd_standsInStatement_4 2 c38 (by decide) (by decide) (by decide) (by decide) ?_
        refine j_aload_n d_Rd_standsInStatement_67 rfl 0 rfl ?_
        refine j_get ig_Rd rfl 0 rfl 11 (by decide) rfl m_180 rfl d_Rd_standsInStatement_68 ?_
        refine j_bipush (v := 40) d_Rd_standsInStatement_71 (by decide) ?_
        refine j_icmp_ne (tgt := 94) d_Rd_standsInStatement_73 (by decide) (fun c39 => ?_) (fun c39 => ?_)
        · replace h := it_f c39 h
          refine j_iconst (v := 0) d_Rd_standsInStatement_94 (by decide) ?_
          replace h := lf_s h
          obtain ⟨h, e1, e2⟩ := h
          replace h := Prod.mk.inj h
          obtain ⟨h9, h⟩ := h
          subst h9
          replace h := Prod.mk.inj h
          obtain ⟨h9, h⟩ := h
          subst h9
          replace h := Prod.mk.inj h
          obtain ⟨h9, h⟩ := h
          subst h9
          replace h := Prod.mk.inj h
          obtain ⟨h9, h⟩ := h
          subst h9
          replace h := Prod.mk.inj h
          obtain ⟨h9, h⟩ := h
          subst h9
          replace h := Prod.mk.inj h
          obtain ⟨h9, h⟩ := h
          subst h9
          replace h := Prod.mk.inj h
          obtain ⟨h9, h⟩ := h
          subst h9
          replace h := Prod.mk.inj h
          obtain ⟨h9, h⟩ := h
          subst h9
          replace h := Prod.mk.inj h
          obtain ⟨h9, h⟩ := h
          subst h9
          replace h := Prod.mk.inj h
          obtain ⟨h9, h⟩ := h
          subst h9
          replace h := Prod.mk.inj h
          obtain ⟨h9, h⟩ := h
          subst h9
          replace h := Prod.mk.inj h
          obtain ⟨h9, h⟩ := h
          subst h9
          replace h := Prod.mk.inj h
          obtain ⟨h9, h⟩ := h
          subst h9
          replace h := Prod.mk.inj h
          obtain ⟨h9, h⟩ := h
          subst h9
          replace h := Prod.mk.inj h
          obtain ⟨h9, h⟩ := h
          subst h9
          replace h := Prod.mk.inj h
          obtain ⟨h9, h⟩ := h
          subst h9
          replace h := Prod.mk.inj h
          obtain ⟨h9, h⟩ := h
          subst h9
          replace h := Prod.mk.inj h
          obtain ⟨h9, h⟩ := h
          subst h9
          replace h := Prod.mk.inj h
          obtain ⟨h9, h⟩ := h
          subst h9
          replace h := Prod.mk.inj h
          obtain ⟨h9, h⟩ := h
          subst h9
          replace h := Prod.mk.inj h
          obtain ⟨h9, h⟩ := h
          subst h9
          replace h := Prod.mk.inj h
          obtain ⟨h9, h⟩ := h
          subst h9
          replace h := Prod.mk.inj h
          obtain ⟨h9, h⟩ := h
          subst h9
          subst h
          refine j_widen (cl' := mc) (sl' := ms) (by omega) (by omega) ?_
          refine j_subP (w := [(h0, .inr (2, [.ref a_scanner_h0, .ref a_draft_h0, .ref a_waiting_h0, .ref a_functions_h0, .ref (fad 0), .ref (fad fd), .ref a_text_h0, .int mode_h0, .int levels_h0, .int signs_h0, .int loops_h0, .int token_h0, .int fault_h0])), ((fad fd), .inr (0, [(frB fad fd), (frA fad fn fd), .int kind_t, .int place_t, .int width_t, .int second_t, .int parts_t, .int innerParts_t, .int innerPlace_t, .int innerWidth_t, .int signs_t, .int waitingBelow_t, .int limited_t, .int targets_t, .int lastBlock_t])), (a_scanner_h0, .inr (4, [.ref a_text_a_scanner_h0, .int next_a_scanner_h0, .int kind_a_scanner_h0, .int start_a_scanner_h0, .int width_a_scanner_h0])), (a_waiting_h0, .inr (5, [.ref a_cells_a_waiting_h0, .int count_a_waiting_h0])), (a_draft_h0, .inr (1, [.ref a_cells_a_draft_h0, .int count_a_draft_h0])), (a_cells_a_draft_h0, .inl (cI, n_a_cells_a_draft_h0, .inl b_a_cells_a_draft_h0))]) (pl := fpo fad fn fd fcf) (lv' := []) [0, 1, 2, 3, 4, 5] [] 6 rfl rfl (by decide) [] rfl ?_
          exact j_zretE hr (zb_n zb0) d_Rd_standsInStatement_95 ⟨fad, a_cells_a_draft_h0, rfl, zb0, rfl⟩
        · replace h := it_t c39 h
          refine j_aload_n d_Rd_standsInStatement_76 rfl 0 rfl ?_
          obtain ⟨⟨r40, r41⟩, k43⟩ : ∃ z, (F_Rd_goDeeper mode_h0 levels_h0 signs_h0 loops_h0 token_h0 fault_h0) = z := ⟨_, rfl⟩
          replace h := nm_at k43 h
          refine j_callVg (n := 0) (As := []) (rest := []) (wr := ([((fad fd), .inr (0, [(frB fad fd), (frA fad fn fd), .int kind_t, .int place_t, .int width_t, .int second_t, .int parts_t, .int innerParts_t, .int innerPlace_t, .int innerWidth_t, .int signs_t, .int waitingBelow_t, .int limited_t, .int targets_t, .int lastBlock_t])), (a_scanner_h0, .inr (4, [.ref a_text_a_scanner_h0, .int next_a_scanner_h0, .int kind_a_scanner_h0, .int start_a_scanner_h0, .int width_a_scanner_h0])), (a_waiting_h0, .inr (5, [.ref a_cells_a_waiting_h0, .int count_a_waiting_h0])), (a_draft_h0, .inr (1, [.ref a_cells_a_draft_h0, .int count_a_draft_h0])), (a_cells_a_draft_h0, .inl (cI, n_a_cells_a_draft_h0, .inl b_a_cells_a_draft_h0))] ++ fpo fad fn fd fcf)) (c_Rd_goDeeper l D cI cB cJ cS h0 a_scanner_h0 a_draft_h0 a_waiting_h0 a_functions_h0 (fad 0) (fad fd) a_text_h0 mode_h0 levels_h0 signs_h0 loops_h0 token_h0 fault_h0  r40 r41 k43) k_Rd_186 (by decide) ⟨Nat.le_of_ble_eq_true rfl, Nat.le_of_ble_eq_true rfl⟩ rfl 0 rfl (pk_mid (wr := [((fad fd), .inr (0, [(frB fad fd), (frA fad fn fd), .int kind_t, .int place_t, .int width_t, .int second_t, .int parts_t, .int innerParts_t, .int innerPlace_t, .int innerWidth_t, .int signs_t, .int waitingBelow_t, .int limited_t, .int targets_t, .int lastBlock_t])), (a_scanner_h0, .inr (4, [.ref a_text_a_scanner_h0, .int next_a_scanner_h0, .int kind_a_scanner_h0, .int start_a_scanner_h0, .int width_a_scanner_h0])), (a_waiting_h0, .inr (5, [.ref a_cells_a_waiting_h0, .int count_a_waiting_h0])), (a_draft_h0, .inr (1, [.ref a_cells_a_draft_h0, .int count_a_draft_h0])), (a_cells_a_draft_h0, .inl (cI, n_a_cells_a_draft_h0, .inl b_a_cells_a_draft_h0))]) (w0 := [(h0, .inr (2, [.ref a_scanner_h0, .ref a_draft_h0, .ref a_waiting_h0, .ref a_functions_h0, .ref (fad 0), .ref (fad fd), .ref a_text_h0, .int mode_h0, .int levels_h0, .int signs_h0, .int loops_h0, .int token_h0, .int fault_h0]))]) (pl := fpo fad fn fd fcf) [1, 2, 3, 4, 5, 0] 6 rfl rfl (by decide)) rfl rfl (Nat.le_of_ble_eq_true rfl) d_Rd_standsInStatement_77 ⟨show 0 + 0 ≤ mc by omega, show 0 + 0 ≤ ms by omega⟩ (fun v w hq => ?_)
          obtain ⟨rfl, z42, rfl⟩ := hq
          refine j_perm (ws' := (((fad fd), .inr (0, [(frB fad fd), (frA fad fn fd), .int kind_t, .int place_t, .int width_t, .int second_t, .int parts_t, .int innerParts_t, .int innerPlace_t, .int innerWidth_t, .int signs_t, .int waitingBelow_t, .int limited_t, .int targets_t, .int lastBlock_t])) :: (a_scanner_h0, .inr (4, [.ref a_text_a_scanner_h0, .int next_a_scanner_h0, .int kind_a_scanner_h0, .int start_a_scanner_h0, .int width_a_scanner_h0])) :: (a_waiting_h0, .inr (5, [.ref a_cells_a_waiting_h0, .int count_a_waiting_h0])) :: (a_draft_h0, .inr (1, [.ref a_cells_a_draft_h0, .int count_a_draft_h0])) :: (a_cells_a_draft_h0, .inl (cI, n_a_cells_a_draft_h0, .inl b_a_cells_a_draft_h0)) :: (h0, .inr (2, [.ref a_scanner_h0, .ref a_draft_h0, .ref a_waiting_h0, .ref a_functions_h0, .ref (fad 0), .ref (fad fd), .ref a_text_h0, .int mode_h0, .int r41, .int signs_h0, .int loops_h0, .int token_h0, .int fault_h0])) :: fpo fad fn fd fcf)) (pm_eq (a := [((fad fd), .inr (0, [(frB fad fd), (frA fad fn fd), .int kind_t, .int place_t, .int width_t, .int second_t, .int parts_t, .int innerParts_t, .int innerPlace_t, .int innerWidth_t, .int signs_t, .int waitingBelow_t, .int limited_t, .int targets_t, .int lastBlock_t])), (a_scanner_h0, .inr (4, [.ref a_text_a_scanner_h0, .int next_a_scanner_h0, .int kind_a_scanner_h0, .int start_a_scanner_h0, .int width_a_scanner_h0])), (a_waiting_h0, .inr (5, [.ref a_cells_a_waiting_h0, .int count_a_waiting_h0])), (a_draft_h0, .inr (1, [.ref a_cells_a_draft_h0, .int count_a_draft_h0])), (a_cells_a_draft_h0, .inl (cI, n_a_cells_a_draft_h0, .inl b_a_cells_a_draft_h0))]) (b := fpo fad fn fd fcf) (c := [(h0, .inr (2, [.ref a_scanner_h0, .ref a_draft_h0, .ref a_waiting_h0, .ref a_functions_h0, .ref (fad 0), .ref (fad fd), .ref a_text_h0, .int mode_h0, .int r41, .int signs_h0, .int loops_h0, .int token_h0, .int fault_h0]))]) rfl) ?_
          refine j_norm (pc' := 80) (st' := [.int r40]) (ws' := (((fad fd), .inr (0, [(frB fad fd), (frA fad fn fd), .int kind_t, .int place_t, .int width_t, .int second_t, .int parts_t, .int innerParts_t, .int innerPlace_t, .int innerWidth_t, .int signs_t, .int waitingBelow_t, .int limited_t, .int targets_t, .int lastBlock_t])) :: (a_scanner_h0, .inr (4, [.ref a_text_a_scanner_h0, .int next_a_scanner_h0, .int kind_a_scanner_h0, .int start_a_scanner_h0, .int width_a_scanner_h0])) :: (a_waiting_h0, .inr (5, [.ref a_cells_a_waiting_h0, .int count_a_waiting_h0])) :: (a_draft_h0, .inr (1, [.ref a_cells_a_draft_h0, .int count_a_draft_h0])) :: (a_cells_a_draft_h0, .inl (cI, n_a_cells_a_draft_h0, .inl b_a_cells_a_draft_h0)) :: (h0, .inr (2, [.ref a_scanner_h0, .ref a_draft_h0, .ref a_waiting_h0, .ref a_functions_h0, .ref (fad 0), .ref (fad fd), .ref a_text_h0, .int mode_h0, .int r41, .int signs_h0, .int loops_h0, .int token_h0, .int fault_h0])) :: fpo fad fn fd fcf)) (cl' := 0) (sl' := 0) rfl rfl rfl rfl rfl rfl ?_
          refine j_if_eq (tgt := 94) d_Rd_standsInStatement_80 (by decide) (fun c44 => ?_) (fun c44 => ?_)
          · replace h := it_t c44 h
            refine j_iconst (v := 0) d_Rd_standsInStatement_94 (by decide) ?_
            replace h := lf_s h
            obtain ⟨h, e1, e2⟩ := h
            replace h := Prod.mk.inj h
            obtain ⟨h9, h⟩ := h
            subst h9
            replace h := Prod.mk.inj h
            obtain ⟨h9, h⟩ := h
            subst h9
            replace h := Prod.mk.inj h
            obtain ⟨h9, h⟩ := h
            subst h9
            replace h := Prod.mk.inj h
            obtain ⟨h9, h⟩ := h
            subst h9
            replace h := Prod.mk.inj h
            obtain ⟨h9, h⟩ := h
            subst h9
            replace h := Prod.mk.inj h
            obtain ⟨h9, h⟩ := h
            subst h9
            replace h := Prod.mk.inj h
            obtain ⟨h9, h⟩ := h
            subst h9
            replace h := Prod.mk.inj h
            obtain ⟨h9, h⟩ := h
            subst h9
            replace h := Prod.mk.inj h
            obtain ⟨h9, h⟩ := h
            subst h9
            replace h := Prod.mk.inj h
            obtain ⟨h9, h⟩ := h
            subst h9
            replace h := Prod.mk.inj h
            obtain ⟨h9, h⟩ := h
            subst h9
            replace h := Prod.mk.inj h
            obtain ⟨h9, h⟩ := h
            subst h9
            replace h := Prod.mk.inj h
            obtain ⟨h9, h⟩ := h
            subst h9
            replace h := Prod.mk.inj h
            obtain ⟨h9, h⟩ := h
            subst h9
            replace h := Prod.mk.inj h
            obtain ⟨h9, h⟩ := h
            subst h9
            replace h := Prod.mk.inj h
            obtain ⟨h9, h⟩ := h
            subst h9
            replace h := Prod.mk.inj h
            obtain ⟨h9, h⟩ := h
            subst h9
            replace h := Prod.mk.inj h
            obtain ⟨h9, h⟩ := h
            subst h9
            replace h := Prod.mk.inj h
            obtain ⟨h9, h⟩ := h
            subst h9
            replace h := Prod.mk.inj h
            obtain ⟨h9, h⟩ := h
            subst h9
            replace h := Prod.mk.inj h
            obtain ⟨h9, h⟩ := h
            subst h9
            replace h := Prod.mk.inj h
            obtain ⟨h9, h⟩ := h
            subst h9
            replace h := Prod.mk.inj h
            obtain ⟨h9, h⟩ := h
            subst h9
            subst h
            refine j_widen (cl' := mc) (sl' := ms) (by omega) (by omega) ?_
            refine j_subP (w := [(h0, .inr (2, [.ref a_scanner_h0, .ref a_draft_h0, .ref a_waiting_h0, .ref a_functions_h0, .ref (fad 0), .ref (fad fd), .ref a_text_h0, .int mode_h0, .int r41, .int signs_h0, .int loops_h0, .int token_h0, .int fault_h0])), ((fad fd), .inr (0, [(frB fad fd), (frA fad fn fd), .int kind_t, .int place_t, .int width_t, .int second_t, .int parts_t, .int innerParts_t, .int innerPlace_t, .int innerWidth_t, .int signs_t, .int waitingBelow_t, .int limited_t, .int targets_t, .int lastBlock_t])), (a_scanner_h0, .inr (4, [.ref a_text_a_scanner_h0, .int next_a_scanner_h0, .int kind_a_scanner_h0, .int start_a_scanner_h0, .int width_a_scanner_h0])), (a_waiting_h0, .inr (5, [.ref a_cells_a_waiting_h0, .int count_a_waiting_h0])), (a_draft_h0, .inr (1, [.ref a_cells_a_draft_h0, .int count_a_draft_h0])), (a_cells_a_draft_h0, .inl (cI, n_a_cells_a_draft_h0, .inl b_a_cells_a_draft_h0))]) (pl := fpo fad fn fd fcf) (lv' := []) [5, 0, 1, 2, 3, 4] [] 6 rfl rfl (by decide) [] rfl ?_
            exact j_zretE hr (zb_n zb0) d_Rd_standsInStatement_95 ⟨fad, a_cells_a_draft_h0, rfl, zb0, rfl⟩
          · replace h := it_f c44 h
            refine j_aload_n d_Rd_standsInStatement_83 rfl 0 rfl ?_
            replace h := bw_s h
            obtain ⟨⟨r45, r46, r47, r48⟩, C50, S51, C52, S53, k54, h, e1, e2⟩ := h
            replace hC : 0 + C50 + C52 ≤ mc := by omega
            replace hS : 0 + S51 + S53 ≤ ms := by omega
            clear e1 e2
            refine j_callVg (n := 0) (As := []) (rest := []) (wr := [(a_draft_h0, .inr (1, [.ref a_cells_a_draft_h0, .int count_a_draft_h0])), (a_cells_a_draft_h0, .inl (cI, n_a_cells_a_draft_h0, .inl b_a_cells_a_draft_h0))]) (c_Rd_openHead l D cI cB cJ cS h0 fad a_scanner_h0 a_draft_h0 a_waiting_h0 a_functions_h0 a_text_h0 a_text_a_scanner_h0 a_cells_a_waiting_h0 fn fd fcf mode_h0 r41 signs_h0 loops_h0 token_h0 fault_h0 kind_t place_t width_t second_t parts_t innerParts_t innerPlace_t innerWidth_t signs_t waitingBelow_t limited_t targets_t lastBlock_t next_a_scanner_h0 kind_a_scanner_h0 start_a_scanner_h0 width_a_scanner_h0 count_a_waiting_h0  r45 r46 r47 r48 C50 S51 k54) k_Rd_189 (by decide) ⟨Nat.le_of_ble_eq_true rfl, Nat.le_of_ble_eq_true rfl⟩ rfl 0 rfl (pk_app (wr := [(a_draft_h0, .inr (1, [.ref a_cells_a_draft_h0, .int count_a_draft_h0])), (a_cells_a_draft_h0, .inl (cI, n_a_cells_a_draft_h0, .inl b_a_cells_a_draft_h0))]) (w0 := [(h0, .inr (2, [.ref a_scanner_h0, .ref a_draft_h0, .ref a_waiting_h0, .ref a_functions_h0, .ref (fad 0), .ref (fad fd), .ref a_text_h0, .int mode_h0, .int r41, .int signs_h0, .int loops_h0, .int token_h0, .int fault_h0])), ((fad fd), .inr (0, [(frB fad fd), (frA fad fn fd), .int kind_t, .int place_t, .int width_t, .int second_t, .int parts_t, .int innerParts_t, .int innerPlace_t, .int innerWidth_t, .int signs_t, .int waitingBelow_t, .int limited_t, .int targets_t, .int lastBlock_t])), (a_scanner_h0, .inr (4, [.ref a_text_a_scanner_h0, .int next_a_scanner_h0, .int kind_a_scanner_h0, .int start_a_scanner_h0, .int width_a_scanner_h0])), (a_waiting_h0, .inr (5, [.ref a_cells_a_waiting_h0, .int count_a_waiting_h0]))]) (pl := fpo fad fn fd fcf) [3, 4, 5, 0, 1, 2] 6 rfl rfl rfl (by decide)) rfl rfl (Nat.le_of_ble_eq_true rfl) d_Rd_standsInStatement_84 ⟨show 0 + C50 ≤ mc by omega, show 0 + S51 ≤ ms by omega⟩ (fun v w hq => ?_)
            obtain ⟨a49, rfl, _, rfl⟩ := hq
            refine j_norm (pc' := 87) (st' := [.int 1]) (ws' := ((a_draft_h0, .inr (1, [.ref a_cells_a_draft_h0, .int count_a_draft_h0])) :: (a_cells_a_draft_h0, .inl (cI, n_a_cells_a_draft_h0, .inl b_a_cells_a_draft_h0)) :: (h0, .inr (2, [.ref a_scanner_h0, .ref a_draft_h0, .ref a_waiting_h0, .ref a_functions_h0, .ref (a49 0), .ref (a49 r46), .ref a_text_h0, .int r48, .int r41, .int 0, .int loops_h0, .int token_h0, .int fault_h0])) :: ((a49 r46), .inr (0, [(frB a49 r46), (frA a49 r45 r46), .int 51, .int start_a_scanner_h0, .int width_a_scanner_h0, .int (-1), .int 0, .int 0, .int start_a_scanner_h0, .int width_a_scanner_h0, .int signs_h0, .int count_a_waiting_h0, .int 0, .int 0, .int 0])) :: (a_scanner_h0, .inr (4, [.ref a_text_a_scanner_h0, .int next_a_scanner_h0, .int kind_a_scanner_h0, .int start_a_scanner_h0, .int width_a_scanner_h0])) :: (a_waiting_h0, .inr (5, [.ref a_cells_a_waiting_h0, .int count_a_waiting_h0])) :: fpo a49 r45 r46 r47)) (cl' := 0 + C50) (sl' := 0 + S51) rfl rfl rfl rfl rfl rfl ?_
            refine j_if_eq (tgt := 94) d_Rd_standsInStatement_87 (by decide) (fun c55 => absurd c55 (by decide)) (fun c55 => ?_)
            refine j_iconst (v := 1) d_Rd_standsInStatement_90 (by decide) ?_
            refine j_goto (tgt := 95) d_Rd_standsInStatement_91 (by decide) ?_
            replace h := lf_s h
            obtain ⟨h, e1, e2⟩ := h
            replace h := Prod.mk.inj h
            obtain ⟨h9, h⟩ := h
            subst h9
            replace h := Prod.mk.inj h
            obtain ⟨h9, h⟩ := h
            subst h9
            replace h := Prod.mk.inj h
            obtain ⟨h9, h⟩ := h
            subst h9
            replace h := Prod.mk.inj h
            obtain ⟨h9, h⟩ := h
            subst h9
            replace h := Prod.mk.inj h
            obtain ⟨h9, h⟩ := h
            subst h9
            replace h := Prod.mk.inj h
            obtain ⟨h9, h⟩ := h
            subst h9
            replace h := Prod.mk.inj h
            obtain ⟨h9, h⟩ := h
            subst h9
            replace h := Prod.mk.inj h
            obtain ⟨h9, h⟩ := h
            subst h9
            replace h := Prod.mk.inj h
            obtain ⟨h9, h⟩ := h
            subst h9
            replace h := Prod.mk.inj h
            obtain ⟨h9, h⟩ := h
            subst h9
            replace h := Prod.mk.inj h
            obtain ⟨h9, h⟩ := h
            subst h9
            replace h := Prod.mk.inj h
            obtain ⟨h9, h⟩ := h
            subst h9
            replace h := Prod.mk.inj h
            obtain ⟨h9, h⟩ := h
            subst h9
            replace h := Prod.mk.inj h
            obtain ⟨h9, h⟩ := h
            subst h9
            replace h := Prod.mk.inj h
            obtain ⟨h9, h⟩ := h
            subst h9
            replace h := Prod.mk.inj h
            obtain ⟨h9, h⟩ := h
            subst h9
            replace h := Prod.mk.inj h
            obtain ⟨h9, h⟩ := h
            subst h9
            replace h := Prod.mk.inj h
            obtain ⟨h9, h⟩ := h
            subst h9
            replace h := Prod.mk.inj h
            obtain ⟨h9, h⟩ := h
            subst h9
            replace h := Prod.mk.inj h
            obtain ⟨h9, h⟩ := h
            subst h9
            replace h := Prod.mk.inj h
            obtain ⟨h9, h⟩ := h
            subst h9
            replace h := Prod.mk.inj h
            obtain ⟨h9, h⟩ := h
            subst h9
            replace h := Prod.mk.inj h
            obtain ⟨h9, h⟩ := h
            subst h9
            subst h
            refine j_widen (cl' := mc) (sl' := ms) (by omega) (by omega) ?_
            refine j_subP (w := [(h0, .inr (2, [.ref a_scanner_h0, .ref a_draft_h0, .ref a_waiting_h0, .ref a_functions_h0, .ref (a49 0), .ref (a49 r46), .ref a_text_h0, .int r48, .int r41, .int 0, .int loops_h0, .int token_h0, .int fault_h0])), ((a49 r46), .inr (0, [(frB a49 r46), (frA a49 r45 r46), .int 51, .int start_a_scanner_h0, .int width_a_scanner_h0, .int (-1), .int 0, .int 0, .int start_a_scanner_h0, .int width_a_scanner_h0, .int signs_h0, .int count_a_waiting_h0, .int 0, .int 0, .int 0])), (a_scanner_h0, .inr (4, [.ref a_text_a_scanner_h0, .int next_a_scanner_h0, .int kind_a_scanner_h0, .int start_a_scanner_h0, .int width_a_scanner_h0])), (a_waiting_h0, .inr (5, [.ref a_cells_a_waiting_h0, .int count_a_waiting_h0])), (a_draft_h0, .inr (1, [.ref a_cells_a_draft_h0, .int count_a_draft_h0])), (a_cells_a_draft_h0, .inl (cI, n_a_cells_a_draft_h0, .inl b_a_cells_a_draft_h0))]) (pl := fpo a49 r45 r46 r47) (lv' := []) [2, 3, 4, 5, 0, 1] [] 6 rfl rfl (by decide) [] rfl ?_
            exact j_zretE hr (zb_n zb1) d_Rd_standsInStatement_95 ⟨a49, a_cells_a_draft_h0, rfl, zb1, rfl⟩
      · replace h := it_f c38 h
        by_cases c56 : mode_h0 = 3
        · replace h := it_t c56 h
          refine j_tabIn (tgt := 96) (off := 92) d_Rd_standsInStatement_4 3 c56 (by decide) (by decide) (by decide) (by decide) ?_
          refine j_aload_n d_Rd_standsInStatement_96 rfl 0 rfl ?_
          refine j_get ig_Rd rfl 0 rfl 11 (by decide) rfl m_180 rfl d_Rd_standsInStatement_97 ?_
          refine j_iconst (v := 2) d_Rd_standsInStatement_100 (by decide) ?_
          refine j_icmp_ne (tgt := 116) d_Rd_standsInStatement_101 (by decide) (fun c57 => ?_) (fun c57 => ?_)
          · replace h := it_f c57 h
            refine j_iconst (v := 0) d_Rd_standsInStatement_116 (by decide) ?_
            replace h := lf_s h
            obtain ⟨h, e1, e2⟩ := h
            replace h := Prod.mk.inj h
            obtain ⟨h9, h⟩ := h
            subst h9
            replace h := Prod.mk.inj h
            obtain ⟨h9, h⟩ := h
            subst h9
            replace h := Prod.mk.inj h
            obtain ⟨h9, h⟩ := h
            subst h9
            replace h := Prod.mk.inj h
            obtain ⟨h9, h⟩ := h
            subst h9
            replace h := Prod.mk.inj h
            obtain ⟨h9, h⟩ := h
            subst h9
            replace h := Prod.mk.inj h
            obtain ⟨h9, h⟩ := h
            subst h9
            replace h := Prod.mk.inj h
            obtain ⟨h9, h⟩ := h
            subst h9
            replace h := Prod.mk.inj h
            obtain ⟨h9, h⟩ := h
            subst h9
            replace h := Prod.mk.inj h
            obtain ⟨h9, h⟩ := h
            subst h9
            replace h := Prod.mk.inj h
            obtain ⟨h9, h⟩ := h
            subst h9
            replace h := Prod.mk.inj h
            obtain ⟨h9, h⟩ := h
            subst h9
            replace h := Prod.mk.inj h
            obtain ⟨h9, h⟩ := h
            subst h9
            replace h := Prod.mk.inj h
            obtain ⟨h9, h⟩ := h
            subst h9
            replace h := Prod.mk.inj h
            obtain ⟨h9, h⟩ := h
            subst h9
            replace h := Prod.mk.inj h
            obtain ⟨h9, h⟩ := h
            subst h9
            replace h := Prod.mk.inj h
            obtain ⟨h9, h⟩ := h
            subst h9
            replace h := Prod.mk.inj h
            obtain ⟨h9, h⟩ := h
            subst h9
            replace h := Prod.mk.inj h
            obtain ⟨h9, h⟩ := h
            subst h9
            replace h := Prod.mk.inj h
            obtain ⟨h9, h⟩ := h
            subst h9
            replace h := Prod.mk.inj h
            obtain ⟨h9, h⟩ := h
            subst h9
            replace h := Prod.mk.inj h
            obtain ⟨h9, h⟩ := h
            subst h9
            replace h := Prod.mk.inj h
            obtain ⟨h9, h⟩ := h
            subst h9
            replace h := Prod.mk.inj h
            obtain ⟨h9, h⟩ := h
            subst h9
            subst h
            refine j_widen (cl' := mc) (sl' := ms) (by omega) (by omega) ?_
            refine j_subP (w := [(h0, .inr (2, [.ref a_scanner_h0, .ref a_draft_h0, .ref a_waiting_h0, .ref a_functions_h0, .ref (fad 0), .ref (fad fd), .ref a_text_h0, .int mode_h0, .int levels_h0, .int signs_h0, .int loops_h0, .int token_h0, .int fault_h0])), ((fad fd), .inr (0, [(frB fad fd), (frA fad fn fd), .int kind_t, .int place_t, .int width_t, .int second_t, .int parts_t, .int innerParts_t, .int innerPlace_t, .int innerWidth_t, .int signs_t, .int waitingBelow_t, .int limited_t, .int targets_t, .int lastBlock_t])), (a_scanner_h0, .inr (4, [.ref a_text_a_scanner_h0, .int next_a_scanner_h0, .int kind_a_scanner_h0, .int start_a_scanner_h0, .int width_a_scanner_h0])), (a_waiting_h0, .inr (5, [.ref a_cells_a_waiting_h0, .int count_a_waiting_h0])), (a_draft_h0, .inr (1, [.ref a_cells_a_draft_h0, .int count_a_draft_h0])), (a_cells_a_draft_h0, .inl (cI, n_a_cells_a_draft_h0, .inl b_a_cells_a_draft_h0))]) (pl := fpo fad fn fd fcf) (lv' := []) [0, 1, 2, 3, 4, 5] [] 6 rfl rfl (by decide) [] rfl ?_
            exact j_zretE hr (zb_n zb0) d_Rd_standsInStatement_117 ⟨fad, a_cells_a_draft_h0, rfl, zb0, rfl⟩
          · replace h := it_t c57 h
            refine j_aload_n d_Rd_standsInStatement_104 rfl 0 rfl ?_
            refine j_iconst (v := 4) d_Rd_standsInStatement_105 (by decide) ?_
            replace h := bw_s h
            obtain ⟨⟨r58, r59, r60⟩, C62, S63, C64, S65, k66, h, e1, e2⟩ := h
            replace hC : 0 + C62 + C64 ≤ mc := by omega
            replace hS : 0 + S63 + S65 ≤ ms := by omega
            clear e1 e2
            refine j_callVg (n := 1) (As := [.int 4]) (rest := []) (wr := ([((fad fd), .inr (0, [(frB fad fd), (frA fad fn fd), .int kind_t, .int place_t, .int width_t, .int second_t, .int parts_t, .int innerParts_t, .int innerPlace_t, .int innerWidth_t, .int signs_t, .int waitingBelow_t, .int limited_t, .int targets_t, .int lastBlock_t])), (a_waiting_h0, .inr (5, [.ref a_cells_a_waiting_h0, .int count_a_waiting_h0]))] ++ fpo fad fn fd fcf)) (c_Rd_addName l D cI cB cJ cS h0 a_scanner_h0 a_draft_h0 a_waiting_h0 a_functions_h0 (fad 0) (fad fd) a_text_h0 a_text_a_scanner_h0 a_cells_a_draft_h0 4 mode_h0 levels_h0 signs_h0 loops_h0 token_h0 fault_h0 next_a_scanner_h0 kind_a_scanner_h0 start_a_scanner_h0 width_a_scanner_h0 count_a_draft_h0 n_a_cells_a_draft_h0 b_a_cells_a_draft_h0  r58 r59 r60 C62 S63 k66) k_Rd_192 (by decide) ⟨Nat.le_of_ble_eq_true rfl, Nat.le_of_ble_eq_true rfl⟩ rfl 0 rfl (pk_mid (wr := [((fad fd), .inr (0, [(frB fad fd), (frA fad fn fd), .int kind_t, .int place_t, .int width_t, .int second_t, .int parts_t, .int innerParts_t, .int innerPlace_t, .int innerWidth_t, .int signs_t, .int waitingBelow_t, .int limited_t, .int targets_t, .int lastBlock_t])), (a_waiting_h0, .inr (5, [.ref a_cells_a_waiting_h0, .int count_a_waiting_h0]))]) (w0 := [(h0, .inr (2, [.ref a_scanner_h0, .ref a_draft_h0, .ref a_waiting_h0, .ref a_functions_h0, .ref (fad 0), .ref (fad fd), .ref a_text_h0, .int mode_h0, .int levels_h0, .int signs_h0, .int loops_h0, .int token_h0, .int fault_h0])), (a_scanner_h0, .inr (4, [.ref a_text_a_scanner_h0, .int next_a_scanner_h0, .int kind_a_scanner_h0, .int start_a_scanner_h0, .int width_a_scanner_h0])), (a_draft_h0, .inr (1, [.ref a_cells_a_draft_h0, .int count_a_draft_h0])), (a_cells_a_draft_h0, .inl (cI, n_a_cells_a_draft_h0, .inl b_a_cells_a_draft_h0))]) (pl := fpo fad fn fd fcf) [1, 3, 0, 2, 4, 5] 6 rfl rfl (by decide)) rfl rfl (Nat.le_of_ble_eq_true rfl) d_Rd_standsInStatement_106 ⟨show 0 + C62 ≤ mc by omega, show 0 + S63 ≤ ms by omega⟩ (fun v w hq => ?_)
            obtain ⟨q61, rfl, _, rfl⟩ := hq
            refine j_perm (ws' := (((fad fd), .inr (0, [(frB fad fd), (frA fad fn fd), .int kind_t, .int place_t, .int width_t, .int second_t, .int parts_t, .int innerParts_t, .int innerPlace_t, .int innerWidth_t, .int signs_t, .int waitingBelow_t, .int limited_t, .int targets_t, .int lastBlock_t])) :: (a_waiting_h0, .inr (5, [.ref a_cells_a_waiting_h0, .int count_a_waiting_h0])) :: (h0, .inr (2, [.ref a_scanner_h0, .ref a_draft_h0, .ref a_waiting_h0, .ref a_functions_h0, .ref (fad 0), .ref (fad fd), .ref a_text_h0, .int 4, .int levels_h0, .int signs_h0, .int loops_h0, .int token_h0, .int fault_h0])) :: (a_scanner_h0, .inr (4, [.ref a_text_a_scanner_h0, .int next_a_scanner_h0, .int kind_a_scanner_h0, .int start_a_scanner_h0, .int width_a_scanner_h0])) :: (a_draft_h0, .inr (1, [.ref q61, .int r58])) :: (q61, .inl (cI, r59, .inl r60)) :: fpo fad fn fd fcf)) (pm_eq (a := [((fad fd), .inr (0, [(frB fad fd), (frA fad fn fd), .int kind_t, .int place_t, .int width_t, .int second_t, .int parts_t, .int innerParts_t, .int innerPlace_t, .int innerWidth_t, .int signs_t, .int waitingBelow_t, .int limited_t, .int targets_t, .int lastBlock_t])), (a_waiting_h0, .inr (5, [.ref a_cells_a_waiting_h0, .int count_a_waiting_h0]))]) (b := fpo fad fn fd fcf) (c := [(h0, .inr (2, [.ref a_scanner_h0, .ref a_draft_h0, .ref a_waiting_h0, .ref a_functions_h0, .ref (fad 0), .ref (fad fd), .ref a_text_h0, .int 4, .int levels_h0, .int signs_h0, .int loops_h0, .int token_h0, .int fault_h0])), (a_scanner_h0, .inr (4, [.ref a_text_a_scanner_h0, .int next_a_scanner_h0, .int kind_a_scanner_h0, .int start_a_scanner_h0, .int width_a_scanner_h0])), (a_draft_h0, .inr (1, [.ref q61, .int r58])), (q61, .inl (cI, r59, .inl r60))]) rfl) ?_
            refine j_norm (pc' := 109) (st' := [.int 1]) (ws' := (((fad fd), .inr (0, [(frB fad fd), (frA fad fn fd), .int kind_t, .int place_t, .int width_t, .int second_t, .int parts_t, .int innerParts_t, .int innerPlace_t, .int innerWidth_t, .int signs_t, .int waitingBelow_t, .int limited_t, .int targets_t, .int lastBlock_t])) :: (a_waiting_h0, .inr (5, [.ref a_cells_a_waiting_h0, .int count_a_waiting_h0])) :: (h0, .inr (2, [.ref a_scanner_h0, .ref a_draft_h0, .ref a_waiting_h0, .ref a_functions_h0, .ref (fad 0), .ref (fad fd), .ref a_text_h0, .int 4, .int levels_h0, .int signs_h0, .int loops_h0, .int token_h0, .int fault_h0])) :: (a_scanner_h0, .inr (4, [.ref a_text_a_scanner_h0, .int next_a_scanner_h0, .int kind_a_scanner_h0, .int start_a_scanner_h0, .int width_a_scanner_h0])) :: (a_draft_h0, .inr (1, [.ref q61, .int r58])) :: (q61, .inl (cI, r59, .inl r60)) :: fpo fad fn fd fcf)) (cl' := 0 + C62) (sl' := 0 + S63) rfl rfl rfl rfl rfl rfl ?_
            refine j_if_eq (tgt := 116) d_Rd_standsInStatement_109 (by decide) (fun c67 => absurd c67 (by decide)) (fun c67 => ?_)
            refine j_iconst (v := 1) d_Rd_standsInStatement_112 (by decide) ?_
            refine j_goto (tgt := 117) d_Rd_standsInStatement_113 (by decide) ?_
            replace h := lf_s h
            obtain ⟨h, e1, e2⟩ := h
            replace h := Prod.mk.inj h
            obtain ⟨h9, h⟩ := h
            subst h9
            replace h := Prod.mk.inj h
            obtain ⟨h9, h⟩ := h
            subst h9
            replace h := Prod.mk.inj h
            obtain ⟨h9, h⟩ := h
            subst h9
            replace h := Prod.mk.inj h
            obtain ⟨h9, h⟩ := h
            subst h9
            replace h := Prod.mk.inj h
            obtain ⟨h9, h⟩ := h
            subst h9
            replace h := Prod.mk.inj h
            obtain ⟨h9, h⟩ := h
            subst h9
            replace h := Prod.mk.inj h
            obtain ⟨h9, h⟩ := h
            subst h9
            replace h := Prod.mk.inj h
            obtain ⟨h9, h⟩ := h
            subst h9
            replace h := Prod.mk.inj h
            obtain ⟨h9, h⟩ := h
            subst h9
            replace h := Prod.mk.inj h
            obtain ⟨h9, h⟩ := h
            subst h9
            replace h := Prod.mk.inj h
            obtain ⟨h9, h⟩ := h
            subst h9
            replace h := Prod.mk.inj h
            obtain ⟨h9, h⟩ := h
            subst h9
            replace h := Prod.mk.inj h
            obtain ⟨h9, h⟩ := h
            subst h9
            replace h := Prod.mk.inj h
            obtain ⟨h9, h⟩ := h
            subst h9
            replace h := Prod.mk.inj h
            obtain ⟨h9, h⟩ := h
            subst h9
            replace h := Prod.mk.inj h
            obtain ⟨h9, h⟩ := h
            subst h9
            replace h := Prod.mk.inj h
            obtain ⟨h9, h⟩ := h
            subst h9
            replace h := Prod.mk.inj h
            obtain ⟨h9, h⟩ := h
            subst h9
            replace h := Prod.mk.inj h
            obtain ⟨h9, h⟩ := h
            subst h9
            replace h := Prod.mk.inj h
            obtain ⟨h9, h⟩ := h
            subst h9
            replace h := Prod.mk.inj h
            obtain ⟨h9, h⟩ := h
            subst h9
            replace h := Prod.mk.inj h
            obtain ⟨h9, h⟩ := h
            subst h9
            replace h := Prod.mk.inj h
            obtain ⟨h9, h⟩ := h
            subst h9
            subst h
            refine j_widen (cl' := mc) (sl' := ms) (by omega) (by omega) ?_
            refine j_subP (w := [(h0, .inr (2, [.ref a_scanner_h0, .ref a_draft_h0, .ref a_waiting_h0, .ref a_functions_h0, .ref (fad 0), .ref (fad fd), .ref a_text_h0, .int 4, .int levels_h0, .int signs_h0, .int loops_h0, .int token_h0, .int fault_h0])), ((fad fd), .inr (0, [(frB fad fd), (frA fad fn fd), .int kind_t, .int place_t, .int width_t, .int second_t, .int parts_t, .int innerParts_t, .int innerPlace_t, .int innerWidth_t, .int signs_t, .int waitingBelow_t, .int limited_t, .int targets_t, .int lastBlock_t])), (a_scanner_h0, .inr (4, [.ref a_text_a_scanner_h0, .int next_a_scanner_h0, .int kind_a_scanner_h0, .int start_a_scanner_h0, .int width_a_scanner_h0])), (a_waiting_h0, .inr (5, [.ref a_cells_a_waiting_h0, .int count_a_waiting_h0])), (a_draft_h0, .inr (1, [.ref q61, .int r58])), (q61, .inl (cI, r59, .inl r60))]) (pl := fpo fad fn fd fcf) (lv' := []) [2, 0, 3, 1, 4, 5] [] 6 rfl rfl (by decide) [] rfl ?_
            exact j_zretE hr (zb_n zb1) d_Rd_standsInStatement_117 ⟨fad, q61, rfl, zb1, rfl⟩
        · replace h := it_f c56 h
          by_cases c68 : mode_h0 = 4
          · replace h := it_t c68 h
            refine j_tabIn (tgt := 118) (off := 114) d_Rd_standsInStatement_4 4 c68 (by decide) (by decide) (by decide) (by decide) ?_
            refine j_aload_n d_Rd_standsInStatement_118 rfl 0 rfl ?_
            refine j_get ig_Rd rfl 0 rfl 11 (by decide) rfl m_180 rfl d_Rd_standsInStatement_119 ?_
            refine j_bipush (v := 61) d_Rd_standsInStatement_122 (by decide) ?_
            refine j_icmp_ne (tgt := 140) d_Rd_standsInStatement_124 (by decide) (fun c69 => ?_) (fun c69 => ?_)
            · replace h := it_f c69 h
              refine j_iconst (v := 0) d_Rd_standsInStatement_140 (by decide) ?_
              replace h := lf_s h
              obtain ⟨h, e1, e2⟩ := h
              replace h := Prod.mk.inj h
              obtain ⟨h9, h⟩ := h
              subst h9
              replace h := Prod.mk.inj h
              obtain ⟨h9, h⟩ := h
              subst h9
              replace h := Prod.mk.inj h
              obtain ⟨h9, h⟩ := h
              subst h9
              replace h := Prod.mk.inj h
              obtain ⟨h9, h⟩ := h
              subst h9
              replace h := Prod.mk.inj h
              obtain ⟨h9, h⟩ := h
              subst h9
              replace h := Prod.mk.inj h
              obtain ⟨h9, h⟩ := h
              subst h9
              replace h := Prod.mk.inj h
              obtain ⟨h9, h⟩ := h
              subst h9
              replace h := Prod.mk.inj h
              obtain ⟨h9, h⟩ := h
              subst h9
              replace h := Prod.mk.inj h
              obtain ⟨h9, h⟩ := h
              subst h9
              replace h := Prod.mk.inj h
              obtain ⟨h9, h⟩ := h
              subst h9
              replace h := Prod.mk.inj h
              obtain ⟨h9, h⟩ := h
              subst h9
              replace h := Prod.mk.inj h
              obtain ⟨h9, h⟩ := h
              subst h9
              replace h := Prod.mk.inj h
              obtain ⟨h9, h⟩ := h
              subst h9
              replace h := Prod.mk.inj h
              obtain ⟨h9, h⟩ := h
              subst h9
              replace h := Prod.mk.inj h
              obtain ⟨h9, h⟩ := h
              subst h9
              replace h := Prod.mk.inj h
              obtain ⟨h9, h⟩ := h
              subst h9
              replace h := Prod.mk.inj h
              obtain ⟨h9, h⟩ := h
              subst h9
              replace h := Prod.mk.inj h
              obtain ⟨h9, h⟩ := h
              subst h9
              replace h := Prod.mk.inj h
              obtain ⟨h9, h⟩ := h
              subst h9
              replace h := Prod.mk.inj h
              obtain ⟨h9, h⟩ := h
              subst h9
              replace h := Prod.mk.inj h
              obtain ⟨h9, h⟩ := h
              subst h9
              replace h := Prod.mk.inj h
              obtain ⟨h9, h⟩ := h
              subst h9
              replace h := Prod.mk.inj h
              obtain ⟨h9, h⟩ := h
              subst h9
              subst h
              refine j_widen (cl' := mc) (sl' := ms) (by omega) (by omega) ?_
              refine j_subP (w := [(h0, .inr (2, [.ref a_scanner_h0, .ref a_draft_h0, .ref a_waiting_h0, .ref a_functions_h0, .ref (fad 0), .ref (fad fd), .ref a_text_h0, .int mode_h0, .int levels_h0, .int signs_h0, .int loops_h0, .int token_h0, .int fault_h0])), ((fad fd), .inr (0, [(frB fad fd), (frA fad fn fd), .int kind_t, .int place_t, .int width_t, .int second_t, .int parts_t, .int innerParts_t, .int innerPlace_t, .int innerWidth_t, .int signs_t, .int waitingBelow_t, .int limited_t, .int targets_t, .int lastBlock_t])), (a_scanner_h0, .inr (4, [.ref a_text_a_scanner_h0, .int next_a_scanner_h0, .int kind_a_scanner_h0, .int start_a_scanner_h0, .int width_a_scanner_h0])), (a_waiting_h0, .inr (5, [.ref a_cells_a_waiting_h0, .int count_a_waiting_h0])), (a_draft_h0, .inr (1, [.ref a_cells_a_draft_h0, .int count_a_draft_h0])), (a_cells_a_draft_h0, .inl (cI, n_a_cells_a_draft_h0, .inl b_a_cells_a_draft_h0))]) (pl := fpo fad fn fd fcf) (lv' := []) [0, 1, 2, 3, 4, 5] [] 6 rfl rfl (by decide) [] rfl ?_
              exact j_zretE hr (zb_n zb0) d_Rd_standsInStatement_141 ⟨fad, a_cells_a_draft_h0, rfl, zb0, rfl⟩
            · replace h := it_t c69 h
              refine j_aload_n d_Rd_standsInStatement_127 rfl 0 rfl ?_
              refine j_bipush (v := 30) d_Rd_standsInStatement_128 (by decide) ?_
              refine j_callVg (n := 1) (As := [.int 30]) (rest := []) (wr := ([((fad fd), .inr (0, [(frB fad fd), (frA fad fn fd), .int kind_t, .int place_t, .int width_t, .int second_t, .int parts_t, .int innerParts_t, .int innerPlace_t, .int innerWidth_t, .int signs_t, .int waitingBelow_t, .int limited_t, .int targets_t, .int lastBlock_t])), (a_scanner_h0, .inr (4, [.ref a_text_a_scanner_h0, .int next_a_scanner_h0, .int kind_a_scanner_h0, .int start_a_scanner_h0, .int width_a_scanner_h0])), (a_waiting_h0, .inr (5, [.ref a_cells_a_waiting_h0, .int count_a_waiting_h0])), (a_draft_h0, .inr (1, [.ref a_cells_a_draft_h0, .int count_a_draft_h0])), (a_cells_a_draft_h0, .inl (cI, n_a_cells_a_draft_h0, .inl b_a_cells_a_draft_h0))] ++ fpo fad fn fd fcf)) (c_Rd_goOn l D cI cB cJ cS h0 a_scanner_h0 a_draft_h0 a_waiting_h0 a_functions_h0 (fad 0) (fad fd) a_text_h0 30 mode_h0 levels_h0 signs_h0 loops_h0 token_h0 fault_h0  ) k_Rd_130 (by decide) ⟨Nat.le_of_ble_eq_true rfl, Nat.le_of_ble_eq_true rfl⟩ rfl 0 rfl (pk_mid (wr := [((fad fd), .inr (0, [(frB fad fd), (frA fad fn fd), .int kind_t, .int place_t, .int width_t, .int second_t, .int parts_t, .int innerParts_t, .int innerPlace_t, .int innerWidth_t, .int signs_t, .int waitingBelow_t, .int limited_t, .int targets_t, .int lastBlock_t])), (a_scanner_h0, .inr (4, [.ref a_text_a_scanner_h0, .int next_a_scanner_h0, .int kind_a_scanner_h0, .int start_a_scanner_h0, .int width_a_scanner_h0])), (a_waiting_h0, .inr (5, [.ref a_cells_a_waiting_h0, .int count_a_waiting_h0])), (a_draft_h0, .inr (1, [.ref a_cells_a_draft_h0, .int count_a_draft_h0])), (a_cells_a_draft_h0, .inl (cI, n_a_cells_a_draft_h0, .inl b_a_cells_a_draft_h0))]) (w0 := [(h0, .inr (2, [.ref a_scanner_h0, .ref a_draft_h0, .ref a_waiting_h0, .ref a_functions_h0, .ref (fad 0), .ref (fad fd), .ref a_text_h0, .int mode_h0, .int levels_h0, .int signs_h0, .int loops_h0, .int token_h0, .int fault_h0]))]) (pl := fpo fad fn fd fcf) [1, 2, 3, 4, 5, 0] 6 rfl rfl (by decide)) rfl rfl (Nat.le_of_ble_eq_true rfl) d_Rd_standsInStatement_130 ⟨show 0 + 0 ≤ mc by omega, show 0 + 0 ≤ ms by omega⟩ (fun v w hq => ?_)
              obtain ⟨rfl, _, rfl⟩ := hq
              refine j_perm (ws' := (((fad fd), .inr (0, [(frB fad fd), (frA fad fn fd), .int kind_t, .int place_t, .int width_t, .int second_t, .int parts_t, .int innerParts_t, .int innerPlace_t, .int innerWidth_t, .int signs_t, .int waitingBelow_t, .int limited_t, .int targets_t, .int lastBlock_t])) :: (a_scanner_h0, .inr (4, [.ref a_text_a_scanner_h0, .int next_a_scanner_h0, .int kind_a_scanner_h0, .int start_a_scanner_h0, .int width_a_scanner_h0])) :: (a_waiting_h0, .inr (5, [.ref a_cells_a_waiting_h0, .int count_a_waiting_h0])) :: (a_draft_h0, .inr (1, [.ref a_cells_a_draft_h0, .int count_a_draft_h0])) :: (a_cells_a_draft_h0, .inl (cI, n_a_cells_a_draft_h0, .inl b_a_cells_a_draft_h0)) :: (h0, .inr (2, [.ref a_scanner_h0, .ref a_draft_h0, .ref a_waiting_h0, .ref a_functions_h0, .ref (fad 0), .ref (fad fd), .ref a_text_h0, .int 30, .int levels_h0, .int signs_h0, .int loops_h0, .int token_h0, .int fault_h0])) :: fpo fad fn fd fcf)) (pm_eq (a := [((fad fd), .inr (0, [(frB fad fd), (frA fad fn fd), .int kind_t, .int place_t, .int width_t, .int second_t, .int parts_t, .int innerParts_t, .int innerPlace_t, .int innerWidth_t, .int signs_t, .int waitingBelow_t, .int limited_t, .int targets_t, .int lastBlock_t])), (a_scanner_h0, .inr (4, [.ref a_text_a_scanner_h0, .int next_a_scanner_h0, .int kind_a_scanner_h0, .int start_a_scanner_h0, .int width_a_scanner_h0])), (a_waiting_h0, .inr (5, [.ref a_cells_a_waiting_h0, .int count_a_waiting_h0])), (a_draft_h0, .inr (1, [.ref a_cells_a_draft_h0, .int count_a_draft_h0])), (a_cells_a_draft_h0, .inl (cI, n_a_cells_a_draft_h0, .inl b_a_cells_a_draft_h0))]) (b := fpo fad fn fd fcf) (c := [(h0, .inr (2, [.ref a_scanner_h0, .ref a_draft_h0, .ref a_waiting_h0, .ref a_functions_h0, .ref (fad 0), .ref (fad fd), .ref a_text_h0, .int 30, .int levels_h0, .int signs_h0, .int loops_h0, .int token_h0, .int fault_h0]))]) rfl) ?_
              refine j_norm (pc' := 133) (st' := [.int 1]) (ws' := (((fad fd), .inr (0, [(frB fad fd), (frA fad fn fd), .int kind_t, .int place_t, .int width_t, .int second_t, .int parts_t, .int innerParts_t, .int innerPlace_t, .int innerWidth_t, .int signs_t, .int waitingBelow_t, .int limited_t, .int targets_t, .int lastBlock_t])) :: (a_scanner_h0, .inr (4, [.ref a_text_a_scanner_h0, .int next_a_scanner_h0, .int kind_a_scanner_h0, .int start_a_scanner_h0, .int width_a_scanner_h0])) :: (a_waiting_h0, .inr (5, [.ref a_cells_a_waiting_h0, .int count_a_waiting_h0])) :: (a_draft_h0, .inr (1, [.ref a_cells_a_draft_h0, .int count_a_draft_h0])) :: (a_cells_a_draft_h0, .inl (cI, n_a_cells_a_draft_h0, .inl b_a_cells_a_draft_h0)) :: (h0, .inr (2, [.ref a_scanner_h0, .ref a_draft_h0, .ref a_waiting_h0, .ref a_functions_h0, .ref (fad 0), .ref (fad fd), .ref a_text_h0, .int 30, .int levels_h0, .int signs_h0, .int loops_h0, .int token_h0, .int fault_h0])) :: fpo fad fn fd fcf)) (cl' := 0) (sl' := 0) rfl rfl rfl rfl rfl rfl ?_
              refine j_if_eq (tgt := 140) d_Rd_standsInStatement_133 (by decide) (fun c71 => absurd c71 (by decide)) (fun c71 => ?_)
              refine j_iconst (v := 1) d_Rd_standsInStatement_136 (by decide) ?_
              refine j_goto (tgt := 141) d_Rd_standsInStatement_137 (by decide) ?_
              replace h := lf_s h
              obtain ⟨h, e1, e2⟩ := h
              replace h := Prod.mk.inj h
              obtain ⟨h9, h⟩ := h
              subst h9
              replace h := Prod.mk.inj h
              obtain ⟨h9, h⟩ := h
              subst h9
              replace h := Prod.mk.inj h
              obtain ⟨h9, h⟩ := h
              subst h9
              replace h := Prod.mk.inj h
              obtain ⟨h9, h⟩ := h
              subst h9
              replace h := Prod.mk.inj h
              obtain ⟨h9, h⟩ := h
              subst h9
              replace h := Prod.mk.inj h
              obtain ⟨h9, h⟩ := h
              subst h9
              replace h := Prod.mk.inj h
              obtain ⟨h9, h⟩ := h
              subst h9
              replace h := Prod.mk.inj h
              obtain ⟨h9, h⟩ := h
              subst h9
              replace h := Prod.mk.inj h
              obtain ⟨h9, h⟩ := h
              subst h9
              replace h := Prod.mk.inj h
              obtain ⟨h9, h⟩ := h
              subst h9
              replace h := Prod.mk.inj h
              obtain ⟨h9, h⟩ := h
              subst h9
              replace h := Prod.mk.inj h
              obtain ⟨h9, h⟩ := h
              subst h9
              replace h := Prod.mk.inj h
              obtain ⟨h9, h⟩ := h
              subst h9
              replace h := Prod.mk.inj h
              obtain ⟨h9, h⟩ := h
              subst h9
              replace h := Prod.mk.inj h
              obtain ⟨h9, h⟩ := h
              subst h9
              replace h := Prod.mk.inj h
              obtain ⟨h9, h⟩ := h
              subst h9
              replace h := Prod.mk.inj h
              obtain ⟨h9, h⟩ := h
              subst h9
              replace h := Prod.mk.inj h
              obtain ⟨h9, h⟩ := h
              subst h9
              replace h := Prod.mk.inj h
              obtain ⟨h9, h⟩ := h
              subst h9
              replace h := Prod.mk.inj h
              obtain ⟨h9, h⟩ := h
              subst h9
              replace h := Prod.mk.inj h
              obtain ⟨h9, h⟩ := h
              subst h9
              replace h := Prod.mk.inj h
              obtain ⟨h9, h⟩ := h
              subst h9
              replace h := Prod.mk.inj h
              obtain ⟨h9, h⟩ := h
              subst h9
              subst h
              refine j_widen (cl' := mc) (sl' := ms) (by omega) (by omega) ?_
              refine j_subP (w := [(h0, .inr (2, [.ref a_scanner_h0, .ref a_draft_h0, .ref a_waiting_h0, .ref a_functions_h0, .ref (fad 0), .ref (fad fd), .ref a_text_h0, .int 30, .int levels_h0, .int signs_h0, .int loops_h0, .int token_h0, .int fault_h0])), ((fad fd), .inr (0, [(frB fad fd), (frA fad fn fd), .int kind_t, .int place_t, .int width_t, .int second_t, .int parts_t, .int innerParts_t, .int innerPlace_t, .int innerWidth_t, .int signs_t, .int waitingBelow_t, .int limited_t, .int targets_t, .int lastBlock_t])), (a_scanner_h0, .inr (4, [.ref a_text_a_scanner_h0, .int next_a_scanner_h0, .int kind_a_scanner_h0, .int start_a_scanner_h0, .int width_a_scanner_h0])), (a_waiting_h0, .inr (5, [.ref a_cells_a_waiting_h0, .int count_a_waiting_h0])), (a_draft_h0, .inr (1, [.ref a_cells_a_draft_h0, .int count_a_draft_h0])), (a_cells_a_draft_h0, .inl (cI, n_a_cells_a_draft_h0, .inl b_a_cells_a_draft_h0))]) (pl := fpo fad fn fd fcf) (lv' := []) [5, 0, 1, 2, 3, 4] [] 6 rfl rfl (by decide) [] rfl ?_
              exact j_zretE hr (zb_n zb1) d_Rd_standsInStatement_141 ⟨fad, a_cells_a_draft_h0, rfl, zb1, rfl⟩
          · replace h := it_f c68 h
            refine j_tabOut (tgt := 142) d_Rd_standsInStatement_4 (by have := lv_neT c1 (by decide : (0 : Int32).toInt = 0); have := lv_neT c34 (by decide : (1 : Int32).toInt = 1); have := lv_neT c38 (by decide : (2 : Int32).toInt = 2); have := lv_neT c56 (by decide : (3 : Int32).toInt = 3); have := lv_neT c68 (by decide : (4 : Int32).toInt = 4); omega) (by decide) ?_
            refine j_iconst (v := 0) d_Rd_standsInStatement_142 (by decide) ?_
            replace h := lf_s h
            obtain ⟨h, e1, e2⟩ := h
            replace h := Prod.mk.inj h
            obtain ⟨h9, h⟩ := h
            subst h9
            replace h := Prod.mk.inj h
            obtain ⟨h9, h⟩ := h
            subst h9
            replace h := Prod.mk.inj h
            obtain ⟨h9, h⟩ := h
            subst h9
            replace h := Prod.mk.inj h
            obtain ⟨h9, h⟩ := h
            subst h9
            replace h := Prod.mk.inj h
            obtain ⟨h9, h⟩ := h
            subst h9
            replace h := Prod.mk.inj h
            obtain ⟨h9, h⟩ := h
            subst h9
            replace h := Prod.mk.inj h
            obtain ⟨h9, h⟩ := h
            subst h9
            replace h := Prod.mk.inj h
            obtain ⟨h9, h⟩ := h
            subst h9
            replace h := Prod.mk.inj h
            obtain ⟨h9, h⟩ := h
            subst h9
            replace h := Prod.mk.inj h
            obtain ⟨h9, h⟩ := h
            subst h9
            replace h := Prod.mk.inj h
            obtain ⟨h9, h⟩ := h
            subst h9
            replace h := Prod.mk.inj h
            obtain ⟨h9, h⟩ := h
            subst h9
            replace h := Prod.mk.inj h
            obtain ⟨h9, h⟩ := h
            subst h9
            replace h := Prod.mk.inj h
            obtain ⟨h9, h⟩ := h
            subst h9
            replace h := Prod.mk.inj h
            obtain ⟨h9, h⟩ := h
            subst h9
            replace h := Prod.mk.inj h
            obtain ⟨h9, h⟩ := h
            subst h9
            replace h := Prod.mk.inj h
            obtain ⟨h9, h⟩ := h
            subst h9
            replace h := Prod.mk.inj h
            obtain ⟨h9, h⟩ := h
            subst h9
            replace h := Prod.mk.inj h
            obtain ⟨h9, h⟩ := h
            subst h9
            replace h := Prod.mk.inj h
            obtain ⟨h9, h⟩ := h
            subst h9
            replace h := Prod.mk.inj h
            obtain ⟨h9, h⟩ := h
            subst h9
            replace h := Prod.mk.inj h
            obtain ⟨h9, h⟩ := h
            subst h9
            replace h := Prod.mk.inj h
            obtain ⟨h9, h⟩ := h
            subst h9
            subst h
            refine j_widen (cl' := mc) (sl' := ms) (by omega) (by omega) ?_
            refine j_subP (w := [(h0, .inr (2, [.ref a_scanner_h0, .ref a_draft_h0, .ref a_waiting_h0, .ref a_functions_h0, .ref (fad 0), .ref (fad fd), .ref a_text_h0, .int mode_h0, .int levels_h0, .int signs_h0, .int loops_h0, .int token_h0, .int fault_h0])), ((fad fd), .inr (0, [(frB fad fd), (frA fad fn fd), .int kind_t, .int place_t, .int width_t, .int second_t, .int parts_t, .int innerParts_t, .int innerPlace_t, .int innerWidth_t, .int signs_t, .int waitingBelow_t, .int limited_t, .int targets_t, .int lastBlock_t])), (a_scanner_h0, .inr (4, [.ref a_text_a_scanner_h0, .int next_a_scanner_h0, .int kind_a_scanner_h0, .int start_a_scanner_h0, .int width_a_scanner_h0])), (a_waiting_h0, .inr (5, [.ref a_cells_a_waiting_h0, .int count_a_waiting_h0])), (a_draft_h0, .inr (1, [.ref a_cells_a_draft_h0, .int count_a_draft_h0])), (a_cells_a_draft_h0, .inl (cI, n_a_cells_a_draft_h0, .inl b_a_cells_a_draft_h0))]) (pl := fpo fad fn fd fcf) (lv' := []) [0, 1, 2, 3, 4, 5] [] 6 rfl rfl (by decide) [] rfl ?_
            exact j_zretE hr (zb_n zb0) d_Rd_standsInStatement_143 ⟨fad, a_cells_a_draft_h0, rfl, zb0, rfl⟩
