noncomputable def F_Rd_endRow (mode_h0 : Int32) (levels_h0 : Int32) (signs_h0 : Int32) (loops_h0 : Int32) (token_h0 : Int32) (fault_h0 : Int32) (kind_a_top_h0 : Int32) (place_a_top_h0 : Int32) (width_a_top_h0 : Int32) (second_a_top_h0 : Int32) (parts_a_top_h0 : Int32) (innerParts_a_top_h0 : Int32) (innerPlace_a_top_h0 : Int32) (innerWidth_a_top_h0 : Int32) (signs_a_top_h0 : Int32) (waitingBelow_a_top_h0 : Int32) (limited_a_top_h0 : Int32) (targets_a_top_h0 : Int32) (lastBlock_a_top_h0 : Int32) (count_a_draft_h0 : Int32) (n_a_cells_a_draft_h0 : Nat) (b_a_cells_a_draft_h0 : Nat → Int32) : Option ((Int32 × Nat × (Nat → Int32)) × Nat × Nat) :=
  bw (F_Nd_add 37 innerPlace_a_top_h0 (-1) (innerParts_a_top_h0 + 1) innerWidth_a_top_h0 count_a_draft_h0 n_a_cells_a_draft_h0 b_a_cells_a_draft_h0) fun ⟨r1, r2, r3⟩ =>
  (some ((r1, r2, r3), 0, 0))
theorem d_Rd_endRow_0 : decode prog_6_method_69_code 0 = .ok (.aload_n 0, 1) := by decide +kernel
theorem d_Rd_endRow_1 : decode prog_6_method_69_code 1 = .ok (.getfield 23, 3) := by decide +kernel
theorem d_Rd_endRow_4 : decode prog_6_method_69_code 4 = .ok (.bipush 37, 2) := by decide +kernel
theorem d_Rd_endRow_6 : decode prog_6_method_69_code 6 = .ok (.aload_n 0, 1) := by decide +kernel
theorem d_Rd_endRow_7 : decode prog_6_method_69_code 7 = .ok (.getfield 46, 3) := by decide +kernel
theorem d_Rd_endRow_10 : decode prog_6_method_69_code 10 = .ok (.getfield 174, 3) := by decide +kernel
theorem d_Rd_endRow_13 : decode prog_6_method_69_code 13 = .ok (.iconst (-1), 1) := by decide +kernel
theorem d_Rd_endRow_14 : decode prog_6_method_69_code 14 = .ok (.aload_n 0, 1) := by decide +kernel
theorem d_Rd_endRow_15 : decode prog_6_method_69_code 15 = .ok (.getfield 46, 3) := by decide +kernel
theorem d_Rd_endRow_18 : decode prog_6_method_69_code 18 = .ok (.getfield 90, 3) := by decide +kernel
theorem d_Rd_endRow_21 : decode prog_6_method_69_code 21 = .ok (.iconst 1, 1) := by decide +kernel
theorem d_Rd_endRow_22 : decode prog_6_method_69_code 22 = .ok (.iadd, 1) := by decide +kernel
theorem d_Rd_endRow_23 : decode prog_6_method_69_code 23 = .ok (.aload_n 0, 1) := by decide +kernel
theorem d_Rd_endRow_24 : decode prog_6_method_69_code 24 = .ok (.getfield 46, 3) := by decide +kernel
theorem d_Rd_endRow_27 : decode prog_6_method_69_code 27 = .ok (.getfield 177, 3) := by decide +kernel
theorem d_Rd_endRow_30 : decode prog_6_method_69_code 30 = .ok (.invokevirtual 93, 3) := by decide +kernel
theorem d_Rd_endRow_33 : decode prog_6_method_69_code 33 = .ok (.aload_n 0, 1) := by decide +kernel
theorem d_Rd_endRow_34 : decode prog_6_method_69_code 34 = .ok (.getfield 46, 3) := by decide +kernel
theorem d_Rd_endRow_37 : decode prog_6_method_69_code 37 = .ok (.dup, 1) := by decide +kernel
theorem d_Rd_endRow_38 : decode prog_6_method_69_code 38 = .ok (.getfield 224, 3) := by decide +kernel
theorem d_Rd_endRow_41 : decode prog_6_method_69_code 41 = .ok (.iconst 1, 1) := by decide +kernel
theorem d_Rd_endRow_42 : decode prog_6_method_69_code 42 = .ok (.iadd, 1) := by decide +kernel
theorem d_Rd_endRow_43 : decode prog_6_method_69_code 43 = .ok (.putfield 224, 3) := by decide +kernel
theorem d_Rd_endRow_46 : decode prog_6_method_69_code 46 = .ok (.aload_n 0, 1) := by decide +kernel
theorem d_Rd_endRow_47 : decode prog_6_method_69_code 47 = .ok (.getfield 46, 3) := by decide +kernel
theorem d_Rd_endRow_50 : decode prog_6_method_69_code 50 = .ok (.iconst 0, 1) := by decide +kernel
theorem d_Rd_endRow_51 : decode prog_6_method_69_code 51 = .ok (.putfield 90, 3) := by decide +kernel
theorem d_Rd_endRow_54 : decode prog_6_method_69_code 54 = .ok (.iconst 1, 1) := by decide +kernel
theorem d_Rd_endRow_55 : decode prog_6_method_69_code 55 = .ok (.ireturn, 1) := by decide +kernel
set_option maxHeartbeats 4000000 in
set_option maxRecDepth 100000 in
theorem c_Rd_endRow (l : Launch) (D : va_G) (cI cB cJ cS : ClassId) (h0 : Nat) (a_scanner_h0 : Nat) (a_draft_h0 : Nat) (a_waiting_h0 : Nat) (a_functions_h0 : Nat) (a_bottom_h0 : Nat) (a_top_h0 : Nat) (a_text_h0 : Nat) (V_below_a_top_h0 : Value) (V_above_a_top_h0 : Value) (a_cells_a_draft_h0 : Nat) (mode_h0 : Int32) (levels_h0 : Int32) (signs_h0 : Int32) (loops_h0 : Int32) (token_h0 : Int32) (fault_h0 : Int32) (kind_a_top_h0 : Int32) (place_a_top_h0 : Int32) (width_a_top_h0 : Int32) (second_a_top_h0 : Int32) (parts_a_top_h0 : Int32) (innerParts_a_top_h0 : Int32) (innerPlace_a_top_h0 : Int32) (innerWidth_a_top_h0 : Int32) (signs_a_top_h0 : Int32) (waitingBelow_a_top_h0 : Int32) (limited_a_top_h0 : Int32) (targets_a_top_h0 : Int32) (lastBlock_a_top_h0 : Int32) (count_a_draft_h0 : Int32) (n_a_cells_a_draft_h0 : Nat) (b_a_cells_a_draft_h0 : Nat → Int32) (o_2_1 : Int32) (on_nq_2_0 : Nat) (ob_nq_2_0 : Nat → Int32) (mc ms : Nat) (h : F_Rd_endRow mode_h0 levels_h0 signs_h0 loops_h0 token_h0 fault_h0 kind_a_top_h0 place_a_top_h0 width_a_top_h0 second_a_top_h0 parts_a_top_h0 innerParts_a_top_h0 innerPlace_a_top_h0 innerWidth_a_top_h0 signs_a_top_h0 waitingBelow_a_top_h0 limited_a_top_h0 targets_a_top_h0 lastBlock_a_top_h0 count_a_draft_h0 n_a_cells_a_draft_h0 b_a_cells_a_draft_h0 = some ((o_2_1, on_nq_2_0, ob_nq_2_0), mc, ms)) : Ct l D (gT cI cB cJ cS) y_Rd_endRow prog_6_method_69_code 1 (Option.some Jvm.ClassFile.FieldType.boolean) 3 110 mc ms [.ref h0] [(h0, .inr (2, [.ref a_scanner_h0, .ref a_draft_h0, .ref a_waiting_h0, .ref a_functions_h0, .ref a_bottom_h0, .ref a_top_h0, .ref a_text_h0, .int mode_h0, .int levels_h0, .int signs_h0, .int loops_h0, .int token_h0, .int fault_h0])), (a_top_h0, .inr (0, [V_below_a_top_h0, V_above_a_top_h0, .int kind_a_top_h0, .int place_a_top_h0, .int width_a_top_h0, .int second_a_top_h0, .int parts_a_top_h0, .int innerParts_a_top_h0, .int innerPlace_a_top_h0, .int innerWidth_a_top_h0, .int signs_a_top_h0, .int waitingBelow_a_top_h0, .int limited_a_top_h0, .int targets_a_top_h0, .int lastBlock_a_top_h0])), (a_draft_h0, .inr (1, [.ref a_cells_a_draft_h0, .int count_a_draft_h0])), (a_cells_a_draft_h0, .inl (cI, n_a_cells_a_draft_h0, .inl b_a_cells_a_draft_h0))] (fun v w => ∃ nq_2_0 : Nat, v = some (.int 1) ∧ zb 1 ∧ w = [(h0, .inr (2, [.ref a_scanner_h0, .ref a_draft_h0, .ref a_waiting_h0, .ref a_functions_h0, .ref a_bottom_h0, .ref a_top_h0, .ref a_text_h0, .int mode_h0, .int levels_h0, .int signs_h0, .int loops_h0, .int token_h0, .int fault_h0])), (a_top_h0, .inr (0, [V_below_a_top_h0, V_above_a_top_h0, .int kind_a_top_h0, .int place_a_top_h0, .int width_a_top_h0, .int second_a_top_h0, .int (parts_a_top_h0 + 1), .int 0, .int innerPlace_a_top_h0, .int innerWidth_a_top_h0, .int signs_a_top_h0, .int waitingBelow_a_top_h0, .int limited_a_top_h0, .int targets_a_top_h0, .int lastBlock_a_top_h0])), (a_draft_h0, .inr (1, [.ref nq_2_0, .int o_2_1])), (nq_2_0, .inl (cI, on_nq_2_0, .inl ob_nq_2_0))]) := by
  refine Ct.mk (by decide) (Nat.le_of_ble_eq_true rfl) ?_
  intro p e s m below meth c hr hnm
  refine j_norm (pc' := 0) (lv' := [(0, .ref h0)]) (st' := []) (ws' := [(h0, .inr (2, [.ref a_scanner_h0, .ref a_draft_h0, .ref a_waiting_h0, .ref a_functions_h0, .ref a_bottom_h0, .ref a_top_h0, .ref a_text_h0, .int mode_h0, .int levels_h0, .int signs_h0, .int loops_h0, .int token_h0, .int fault_h0])), (a_top_h0, .inr (0, [V_below_a_top_h0, V_above_a_top_h0, .int kind_a_top_h0, .int place_a_top_h0, .int width_a_top_h0, .int second_a_top_h0, .int parts_a_top_h0, .int innerParts_a_top_h0, .int innerPlace_a_top_h0, .int innerWidth_a_top_h0, .int signs_a_top_h0, .int waitingBelow_a_top_h0, .int limited_a_top_h0, .int targets_a_top_h0, .int lastBlock_a_top_h0])), (a_draft_h0, .inr (1, [.ref a_cells_a_draft_h0, .int count_a_draft_h0])), (a_cells_a_draft_h0, .inl (cI, n_a_cells_a_draft_h0, .inl b_a_cells_a_draft_h0))]) (cl' := 0) (sl' := 0) rfl rfl rfl rfl rfl rfl ?_
  unfold F_Rd_endRow at h
  have hC : 0 + mc ≤ mc := by omega
  have hS : 0 + ms ≤ ms := by omega
  refine j_aload_n d_Rd_endRow_0 rfl 0 rfl ?_
  refine j_get ig_Rd rfl 0 rfl 1 (by decide) rfl m_170 rfl d_Rd_endRow_1 ?_
  refine j_bipush (v := 37) d_Rd_endRow_4 (by decide) ?_
  refine j_aload_n d_Rd_endRow_6 rfl 0 rfl ?_
  refine j_get ig_Rd rfl 0 rfl 5 (by decide) rfl m_174 rfl d_Rd_endRow_7 ?_
  refine j_get ig_Fr rfl 1 rfl 8 (by decide) rfl m_123 rfl d_Rd_endRow_10 ?_
  refine j_iconst (v := (-1)) d_Rd_endRow_13 (by decide) ?_
  refine j_aload_n d_Rd_endRow_14 rfl 0 rfl ?_
  refine j_get ig_Rd rfl 0 rfl 5 (by decide) rfl m_174 rfl d_Rd_endRow_15 ?_
  refine j_get ig_Fr rfl 1 rfl 7 (by decide) rfl m_121 rfl d_Rd_endRow_18 ?_
  refine j_iconst (v := 1) d_Rd_endRow_21 (by decide) ?_
  refine j_iadd d_Rd_endRow_22 ?_
  refine j_aload_n d_Rd_endRow_23 rfl 0 rfl ?_
  refine j_get ig_Rd rfl 0 rfl 5 (by decide) rfl m_174 rfl d_Rd_endRow_24 ?_
  refine j_get ig_Fr rfl 1 rfl 9 (by decide) rfl m_125 rfl d_Rd_endRow_27 ?_
  replace h := bw_s h
  obtain ⟨⟨r1, r2, r3⟩, C5, S6, C7, S8, k9, h, e1, e2⟩ := h
  replace hC : 0 + C5 + C7 ≤ mc := by omega
  replace hS : 0 + S6 + S8 ≤ ms := by omega
  clear e1 e2
  refine j_callV (n := 5) (As := [.int 37, .int innerPlace_a_top_h0, .int (-1), .int (innerParts_a_top_h0 + 1), .int innerWidth_a_top_h0]) (rest := []) (wr := [(h0, .inr (2, [.ref a_scanner_h0, .ref a_draft_h0, .ref a_waiting_h0, .ref a_functions_h0, .ref a_bottom_h0, .ref a_top_h0, .ref a_text_h0, .int mode_h0, .int levels_h0, .int signs_h0, .int loops_h0, .int token_h0, .int fault_h0])), (a_top_h0, .inr (0, [V_below_a_top_h0, V_above_a_top_h0, .int kind_a_top_h0, .int place_a_top_h0, .int width_a_top_h0, .int second_a_top_h0, .int parts_a_top_h0, .int innerParts_a_top_h0, .int innerPlace_a_top_h0, .int innerWidth_a_top_h0, .int signs_a_top_h0, .int waitingBelow_a_top_h0, .int limited_a_top_h0, .int targets_a_top_h0, .int lastBlock_a_top_h0]))]) (c_Nd_add l D cI cB cJ cS a_draft_h0 a_cells_a_draft_h0 37 innerPlace_a_top_h0 (-1) (innerParts_a_top_h0 + 1) innerWidth_a_top_h0 count_a_draft_h0 n_a_cells_a_draft_h0 b_a_cells_a_draft_h0  r1 r2 r3 C5 S6 k9) k_Rd_93 (by decide) ⟨Nat.le_of_ble_eq_true rfl, Nat.le_of_ble_eq_true rfl⟩ rfl 0 rfl [2, 3] [0, 1] rfl (by decide) rfl (by decide) (by decide) rfl rfl (Nat.le_of_ble_eq_true rfl) d_Rd_endRow_30 ⟨show 0 + C5 ≤ mc by omega, show 0 + S6 ≤ ms by omega⟩ (fun v w hq => ?_)
  obtain ⟨q4, rfl, rfl⟩ := hq
  refine j_norm (pc' := 33) (st' := []) (ws' := [(h0, .inr (2, [.ref a_scanner_h0, .ref a_draft_h0, .ref a_waiting_h0, .ref a_functions_h0, .ref a_bottom_h0, .ref a_top_h0, .ref a_text_h0, .int mode_h0, .int levels_h0, .int signs_h0, .int loops_h0, .int token_h0, .int fault_h0])), (a_top_h0, .inr (0, [V_below_a_top_h0, V_above_a_top_h0, .int kind_a_top_h0, .int place_a_top_h0, .int width_a_top_h0, .int second_a_top_h0, .int parts_a_top_h0, .int innerParts_a_top_h0, .int innerPlace_a_top_h0, .int innerWidth_a_top_h0, .int signs_a_top_h0, .int waitingBelow_a_top_h0, .int limited_a_top_h0, .int targets_a_top_h0, .int lastBlock_a_top_h0])), (a_draft_h0, .inr (1, [.ref q4, .int r1])), (q4, .inl (cI, r2, .inl r3))]) (cl' := 0 + C5) (sl' := 0 + S6) rfl rfl rfl rfl rfl rfl ?_
  refine j_aload_n d_Rd_endRow_33 rfl 0 rfl ?_
  refine j_get ig_Rd rfl 0 rfl 5 (by decide) rfl m_174 rfl d_Rd_endRow_34 ?_
  refine j_dup rfl d_Rd_endRow_37 ?_
  refine j_get ig_Fr rfl 1 rfl 6 (by decide) rfl m_119 rfl d_Rd_endRow_38 ?_
  refine j_iconst (v := 1) d_Rd_endRow_41 (by decide) ?_
  refine j_iadd d_Rd_endRow_42 ?_
  refine j_put (ws' := [(h0, .inr (2, [.ref a_scanner_h0, .ref a_draft_h0, .ref a_waiting_h0, .ref a_functions_h0, .ref a_bottom_h0, .ref a_top_h0, .ref a_text_h0, .int mode_h0, .int levels_h0, .int signs_h0, .int loops_h0, .int token_h0, .int fault_h0])), (a_top_h0, .inr (0, [V_below_a_top_h0, V_above_a_top_h0, .int kind_a_top_h0, .int place_a_top_h0, .int width_a_top_h0, .int second_a_top_h0, .int (parts_a_top_h0 + 1), .int innerParts_a_top_h0, .int innerPlace_a_top_h0, .int innerWidth_a_top_h0, .int signs_a_top_h0, .int waitingBelow_a_top_h0, .int limited_a_top_h0, .int targets_a_top_h0, .int lastBlock_a_top_h0])), (a_draft_h0, .inr (1, [.ref q4, .int r1])), (q4, .inl (cI, r2, .inl r3))]) ig_Fr tk_Fr nm_Fr rfl 1 rfl 6 (by decide) rfl m_119 rfl (tk_Fr 6 (by decide)) rfl rfl (Nat.le_of_ble_eq_true rfl) d_Rd_endRow_43 rfl ?_
  refine j_aload_n d_Rd_endRow_46 rfl 0 rfl ?_
  refine j_get ig_Rd rfl 0 rfl 5 (by decide) rfl m_174 rfl d_Rd_endRow_47 ?_
  refine j_iconst (v := 0) d_Rd_endRow_50 (by decide) ?_
  refine j_put (ws' := [(h0, .inr (2, [.ref a_scanner_h0, .ref a_draft_h0, .ref a_waiting_h0, .ref a_functions_h0, .ref a_bottom_h0, .ref a_top_h0, .ref a_text_h0, .int mode_h0, .int levels_h0, .int signs_h0, .int loops_h0, .int token_h0, .int fault_h0])), (a_top_h0, .inr (0, [V_below_a_top_h0, V_above_a_top_h0, .int kind_a_top_h0, .int place_a_top_h0, .int width_a_top_h0, .int second_a_top_h0, .int (parts_a_top_h0 + 1), .int 0, .int innerPlace_a_top_h0, .int innerWidth_a_top_h0, .int signs_a_top_h0, .int waitingBelow_a_top_h0, .int limited_a_top_h0, .int targets_a_top_h0, .int lastBlock_a_top_h0])), (a_draft_h0, .inr (1, [.ref q4, .int r1])), (q4, .inl (cI, r2, .inl r3))]) ig_Fr tk_Fr nm_Fr rfl 1 rfl 7 (by decide) rfl m_121 rfl (tk_Fr 7 (by decide)) rfl rfl (Nat.le_of_ble_eq_true rfl) d_Rd_endRow_51 rfl ?_
  refine j_iconst (v := 1) d_Rd_endRow_54 (by decide) ?_
  replace h := lf_s h
  obtain ⟨h, e1, e2⟩ := h
  replace h := Prod.mk.inj h
  obtain ⟨h9, h⟩ := h
  subst h9
  replace h := Prod.mk.inj h
  obtain ⟨h9, h⟩ := h
  subst h9
  subst h
  refine j_widen (cl' := mc) (sl' := ms) (by omega) (by omega) ?_
  exact j_zret (w := [(h0, .inr (2, [.ref a_scanner_h0, .ref a_draft_h0, .ref a_waiting_h0, .ref a_functions_h0, .ref a_bottom_h0, .ref a_top_h0, .ref a_text_h0, .int mode_h0, .int levels_h0, .int signs_h0, .int loops_h0, .int token_h0, .int fault_h0])), (a_top_h0, .inr (0, [V_below_a_top_h0, V_above_a_top_h0, .int kind_a_top_h0, .int place_a_top_h0, .int width_a_top_h0, .int second_a_top_h0, .int (parts_a_top_h0 + 1), .int 0, .int innerPlace_a_top_h0, .int innerWidth_a_top_h0, .int signs_a_top_h0, .int waitingBelow_a_top_h0, .int limited_a_top_h0, .int targets_a_top_h0, .int lastBlock_a_top_h0])), (a_draft_h0, .inr (1, [.ref q4, .int r1])), (q4, .inl (cI, r2, .inl r3))]) hr (zb_n zb1) d_Rd_endRow_55 [0, 1, 2, 3] rfl (by decide) ⟨q4, rfl, zb1, rfl⟩
noncomputable def F_Rd_closeRows (fn : Nat) (fd : Nat) (fcf : Nat → FrC) (mode_h0 : Int32) (levels_h0 : Int32) (signs_h0 : Int32) (loops_h0 : Int32) (token_h0 : Int32) (fault_h0 : Int32) (kind_t : Int32) (place_t : Int32) (width_t : Int32) (second_t : Int32) (parts_t : Int32) (innerParts_t : Int32) (innerPlace_t : Int32) (innerWidth_t : Int32) (signs_t : Int32) (waitingBelow_t : Int32) (limited_t : Int32) (targets_t : Int32) (lastBlock_t : Int32) (count_a_draft_h0 : Int32) (n_a_cells_a_draft_h0 : Nat) (b_a_cells_a_draft_h0 : Nat → Int32) : Option ((Nat × Nat × (Nat → FrC) × Int32 × Int32 × Int32 × Int32 × Int32 × Int32 × Int32 × Int32 × Int32 × Int32 × Int32 × Int32 × Int32 × Int32 × Int32 × Nat × (Nat → Int32)) × Nat × Nat) :=
  bw (F_Nd_add 36 place_t (-1) parts_t width_t count_a_draft_h0 n_a_cells_a_draft_h0 b_a_cells_a_draft_h0) fun ⟨r1, r2, r3⟩ =>
  Option.bind (F_Rd_closeItem fn fd fcf mode_h0 levels_h0 signs_h0 loops_h0 token_h0 fault_h0 kind_t place_t width_t second_t parts_t innerParts_t innerPlace_t innerWidth_t signs_t waitingBelow_t limited_t targets_t lastBlock_t) fun ⟨r10, r11, r12, r13, r14, r15, r16, r17, r18, r19, r20, r21, r22, r23, r24, r25⟩ =>
  if targets_t = 0 then (some ((r10, r11, r12, 34, r13, r14, r15, r16, r17, r18, r19, r20, r21, r22, r23, r24, r25, r1, r2, r3), 0, 0))
  else (some ((r10, r11, r12, 41, r13, r14, r15, r16, r17, r18, r19, r20, r21, r22, r23, r24, r25, r1, r2, r3), 0, 0))
theorem d_Rd_closeRows_0 : decode prog_6_method_70_code 0 = .ok (.aload_n 0, 1) := by decide +kernel
theorem d_Rd_closeRows_1 : decode prog_6_method_70_code 1 = .ok (.getfield 46, 3) := by decide +kernel
theorem d_Rd_closeRows_4 : decode prog_6_method_70_code 4 = .ok (.getfield 160, 3) := by decide +kernel
theorem d_Rd_closeRows_7 : decode prog_6_method_70_code 7 = .ok (.istore_n 1, 1) := by decide +kernel
theorem d_Rd_closeRows_8 : decode prog_6_method_70_code 8 = .ok (.aload_n 0, 1) := by decide +kernel
theorem d_Rd_closeRows_9 : decode prog_6_method_70_code 9 = .ok (.getfield 23, 3) := by decide +kernel
theorem d_Rd_closeRows_12 : decode prog_6_method_70_code 12 = .ok (.bipush 36, 2) := by decide +kernel
theorem d_Rd_closeRows_14 : decode prog_6_method_70_code 14 = .ok (.aload_n 0, 1) := by decide +kernel
theorem d_Rd_closeRows_15 : decode prog_6_method_70_code 15 = .ok (.getfield 46, 3) := by decide +kernel
theorem d_Rd_closeRows_18 : decode prog_6_method_70_code 18 = .ok (.getfield 227, 3) := by decide +kernel
theorem d_Rd_closeRows_21 : decode prog_6_method_70_code 21 = .ok (.iconst (-1), 1) := by decide +kernel
theorem d_Rd_closeRows_22 : decode prog_6_method_70_code 22 = .ok (.aload_n 0, 1) := by decide +kernel
theorem d_Rd_closeRows_23 : decode prog_6_method_70_code 23 = .ok (.getfield 46, 3) := by decide +kernel
theorem d_Rd_closeRows_26 : decode prog_6_method_70_code 26 = .ok (.getfield 224, 3) := by decide +kernel
theorem d_Rd_closeRows_29 : decode prog_6_method_70_code 29 = .ok (.aload_n 0, 1) := by decide +kernel
theorem d_Rd_closeRows_30 : decode prog_6_method_70_code 30 = .ok (.getfield 46, 3) := by decide +kernel
theorem d_Rd_closeRows_33 : decode prog_6_method_70_code 33 = .ok (.getfield 230, 3) := by decide +kernel
theorem d_Rd_closeRows_36 : decode prog_6_method_70_code 36 = .ok (.invokevirtual 93, 3) := by decide +kernel
theorem d_Rd_closeRows_39 : decode prog_6_method_70_code 39 = .ok (.aload_n 0, 1) := by decide +kernel
theorem d_Rd_closeRows_40 : decode prog_6_method_70_code 40 = .ok (.invokevirtual 378, 3) := by decide +kernel
theorem d_Rd_closeRows_43 : decode prog_6_method_70_code 43 = .ok (.pop, 1) := by decide +kernel
theorem d_Rd_closeRows_44 : decode prog_6_method_70_code 44 = .ok (.aload_n 0, 1) := by decide +kernel
theorem d_Rd_closeRows_45 : decode prog_6_method_70_code 45 = .ok (.iload_n 1, 1) := by decide +kernel
theorem d_Rd_closeRows_46 : decode prog_6_method_70_code 46 = .ok (.ifCond .eq 8, 3) := by decide +kernel
theorem d_Rd_closeRows_49 : decode prog_6_method_70_code 49 = .ok (.bipush 41, 2) := by decide +kernel
theorem d_Rd_closeRows_51 : decode prog_6_method_70_code 51 = .ok (.goto 5, 3) := by decide +kernel
theorem d_Rd_closeRows_54 : decode prog_6_method_70_code 54 = .ok (.bipush 34, 2) := by decide +kernel
theorem d_Rd_closeRows_56 : decode prog_6_method_70_code 56 = .ok (.invokevirtual 130, 3) := by decide +kernel
theorem d_Rd_closeRows_59 : decode prog_6_method_70_code 59 = .ok (.ireturn, 1) := by decide +kernel
set_option maxHeartbeats 4000000 in
set_option maxRecDepth 100000 in
theorem c_Rd_closeRows (l : Launch) (D : va_G) (cI cB cJ cS : ClassId) (h0 : Nat) (fad : Nat → Nat) (a_scanner_h0 : Nat) (a_draft_h0 : Nat) (a_waiting_h0 : Nat) (a_functions_h0 : Nat) (a_text_h0 : Nat) (a_cells_a_draft_h0 : Nat) (fn : Nat) (fd : Nat) (fcf : Nat → FrC) (mode_h0 : Int32) (levels_h0 : Int32) (signs_h0 : Int32) (loops_h0 : Int32) (token_h0 : Int32) (fault_h0 : Int32) (kind_t : Int32) (place_t : Int32) (width_t : Int32) (second_t : Int32) (parts_t : Int32) (innerParts_t : Int32) (innerPlace_t : Int32) (innerWidth_t : Int32) (signs_t : Int32) (waitingBelow_t : Int32) (limited_t : Int32) (targets_t : Int32) (lastBlock_t : Int32) (count_a_draft_h0 : Int32) (n_a_cells_a_draft_h0 : Nat) (b_a_cells_a_draft_h0 : Nat → Int32) (on_p : Nat) (od_p : Nat) (ocf_p : Nat → FrC) (o_0_7 : Int32) (o_1_2 : Int32) (o_1_3 : Int32) (o_1_4 : Int32) (o_1_5 : Int32) (o_1_6 : Int32) (o_1_7 : Int32) (o_1_8 : Int32) (o_1_9 : Int32) (o_1_10 : Int32) (o_1_11 : Int32) (o_1_12 : Int32) (o_1_13 : Int32) (o_1_14 : Int32) (o_2_1 : Int32) (on_nq_2_0 : Nat) (ob_nq_2_0 : Nat → Int32) (mc ms : Nat) (h : F_Rd_closeRows fn fd fcf mode_h0 levels_h0 signs_h0 loops_h0 token_h0 fault_h0 kind_t place_t width_t second_t parts_t innerParts_t innerPlace_t innerWidth_t signs_t waitingBelow_t limited_t targets_t lastBlock_t count_a_draft_h0 n_a_cells_a_draft_h0 b_a_cells_a_draft_h0 = some ((on_p, od_p, ocf_p, o_0_7, o_1_2, o_1_3, o_1_4, o_1_5, o_1_6, o_1_7, o_1_8, o_1_9, o_1_10, o_1_11, o_1_12, o_1_13, o_1_14, o_2_1, on_nq_2_0, ob_nq_2_0), mc, ms)) : Ct l D (gT cI cB cJ cS) y_Rd_closeRows prog_6_method_70_code 2 (Option.some Jvm.ClassFile.FieldType.boolean) 3 110 mc ms [.ref h0] ((h0, .inr (2, [.ref a_scanner_h0, .ref a_draft_h0, .ref a_waiting_h0, .ref a_functions_h0, .ref (fad 0), .ref (fad fd), .ref a_text_h0, .int mode_h0, .int levels_h0, .int signs_h0, .int loops_h0, .int token_h0, .int fault_h0])) :: ((fad fd), .inr (0, [(frB fad fd), (frA fad fn fd), .int kind_t, .int place_t, .int width_t, .int second_t, .int parts_t, .int innerParts_t, .int innerPlace_t, .int innerWidth_t, .int signs_t, .int waitingBelow_t, .int limited_t, .int targets_t, .int lastBlock_t])) :: (a_draft_h0, .inr (1, [.ref a_cells_a_draft_h0, .int count_a_draft_h0])) :: (a_cells_a_draft_h0, .inl (cI, n_a_cells_a_draft_h0, .inl b_a_cells_a_draft_h0)) :: fpo fad fn fd fcf) (fun v w => ∃ nad : Nat → Nat, ∃ nq_2_0 : Nat, v = some (.int 1) ∧ zb 1 ∧ w = ((h0, .inr (2, [.ref a_scanner_h0, .ref a_draft_h0, .ref a_waiting_h0, .ref a_functions_h0, .ref (nad 0), .ref (nad od_p), .ref a_text_h0, .int o_0_7, .int ((levels_h0 - 1) - signs_t), .int 0, .int loops_h0, .int token_h0, .int fault_h0])) :: ((nad od_p), .inr (0, [(frB nad od_p), (frA nad on_p od_p), .int o_1_2, .int o_1_3, .int o_1_4, .int o_1_5, .int o_1_6, .int o_1_7, .int o_1_8, .int o_1_9, .int o_1_10, .int o_1_11, .int o_1_12, .int o_1_13, .int o_1_14])) :: (a_draft_h0, .inr (1, [.ref nq_2_0, .int o_2_1])) :: (nq_2_0, .inl (cI, on_nq_2_0, .inl ob_nq_2_0)) :: fpo nad on_p od_p ocf_p)) := by
  refine Ct.mk (by decide) (Nat.le_of_ble_eq_true rfl) ?_
  intro p e s m below meth c hr hnm
  refine j_norm (pc' := 0) (lv' := [(0, .ref h0)]) (st' := []) (ws' := ((h0, .inr (2, [.ref a_scanner_h0, .ref a_draft_h0, .ref a_waiting_h0, .ref a_functions_h0, .ref (fad 0), .ref (fad fd), .ref a_text_h0, .int mode_h0, .int levels_h0, .int signs_h0, .int loops_h0, .int token_h0, .int fault_h0])) :: ((fad fd), .inr (0, [(frB fad fd), (frA fad fn fd), .int kind_t, .int place_t, .int width_t, .int second_t, .int parts_t, .int innerParts_t, .int innerPlace_t, .int innerWidth_t, .int signs_t, .int waitingBelow_t, .int limited_t, .int targets_t, .int lastBlock_t])) :: (a_draft_h0, .inr (1, [.ref a_cells_a_draft_h0, .int count_a_draft_h0])) :: (a_cells_a_draft_h0, .inl (cI, n_a_cells_a_draft_h0, .inl b_a_cells_a_draft_h0)) :: fpo fad fn fd fcf)) (cl' := 0) (sl' := 0) rfl rfl rfl rfl rfl rfl ?_
  unfold F_Rd_closeRows at h
  have hC : 0 + mc ≤ mc := by omega
  have hS : 0 + ms ≤ ms := by omega
  refine j_aload_n d_Rd_closeRows_0 rfl 0 rfl ?_
  refine j_get ig_Rd rfl 0 rfl 5 (by decide) rfl m_174 rfl d_Rd_closeRows_1 ?_
  refine j_get ig_Fr rfl 1 rfl 13 (by decide) rfl m_133 rfl d_Rd_closeRows_4 ?_
  refine j_istore_n (lv' := [(1, .int targets_t), (0, .ref h0)]) d_Rd_closeRows_7 rfl (by decide) rfl ?_
  refine j_aload_n d_Rd_closeRows_8 rfl 1 rfl ?_
  refine j_get ig_Rd rfl 0 rfl 1 (by decide) rfl m_170 rfl d_Rd_closeRows_9 ?_
  refine j_bipush (v := 36) d_Rd_closeRows_12 (by decide) ?_
  refine j_aload_n d_Rd_closeRows_14 rfl 1 rfl ?_
  refine j_get ig_Rd rfl 0 rfl 5 (by decide) rfl m_174 rfl d_Rd_closeRows_15 ?_
  refine j_get ig_Fr rfl 1 rfl 3 (by decide) rfl m_113 rfl d_Rd_closeRows_18 ?_
  refine j_iconst (v := (-1)) d_Rd_closeRows_21 (by decide) ?_
  refine j_aload_n d_Rd_closeRows_22 rfl 1 rfl ?_
  refine j_get ig_Rd rfl 0 rfl 5 (by decide) rfl m_174 rfl d_Rd_closeRows_23 ?_
  refine j_get ig_Fr rfl 1 rfl 6 (by decide) rfl m_119 rfl d_Rd_closeRows_26 ?_
  refine j_aload_n d_Rd_closeRows_29 rfl 1 rfl ?_
  refine j_get ig_Rd rfl 0 rfl 5 (by decide) rfl m_174 rfl d_Rd_closeRows_30 ?_
  refine j_get ig_Fr rfl 1 rfl 4 (by decide) rfl m_115 rfl d_Rd_closeRows_33 ?_
  replace h := bw_s h
  obtain ⟨⟨r1, r2, r3⟩, C5, S6, C7, S8, k9, h, e1, e2⟩ := h
  replace hC : 0 + C5 + C7 ≤ mc := by omega
  replace hS : 0 + S6 + S8 ≤ ms := by omega
  clear e1 e2
  refine j_callVg (n := 5) (As := [.int 36, .int place_t, .int (-1), .int parts_t, .int width_t]) (rest := []) (wr := ([(h0, .inr (2, [.ref a_scanner_h0, .ref a_draft_h0, .ref a_waiting_h0, .ref a_functions_h0, .ref (fad 0), .ref (fad fd), .ref a_text_h0, .int mode_h0, .int levels_h0, .int signs_h0, .int loops_h0, .int token_h0, .int fault_h0])), ((fad fd), .inr (0, [(frB fad fd), (frA fad fn fd), .int kind_t, .int place_t, .int width_t, .int second_t, .int parts_t, .int innerParts_t, .int innerPlace_t, .int innerWidth_t, .int signs_t, .int waitingBelow_t, .int limited_t, .int targets_t, .int lastBlock_t]))] ++ fpo fad fn fd fcf)) (c_Nd_add l D cI cB cJ cS a_draft_h0 a_cells_a_draft_h0 36 place_t (-1) parts_t width_t count_a_draft_h0 n_a_cells_a_draft_h0 b_a_cells_a_draft_h0  r1 r2 r3 C5 S6 k9) k_Rd_93 (by decide) ⟨Nat.le_of_ble_eq_true rfl, Nat.le_of_ble_eq_true rfl⟩ rfl 0 rfl (pk_mid (wr := [(h0, .inr (2, [.ref a_scanner_h0, .ref a_draft_h0, .ref a_waiting_h0, .ref a_functions_h0, .ref (fad 0), .ref (fad fd), .ref a_text_h0, .int mode_h0, .int levels_h0, .int signs_h0, .int loops_h0, .int token_h0, .int fault_h0])), ((fad fd), .inr (0, [(frB fad fd), (frA fad fn fd), .int kind_t, .int place_t, .int width_t, .int second_t, .int parts_t, .int innerParts_t, .int innerPlace_t, .int innerWidth_t, .int signs_t, .int waitingBelow_t, .int limited_t, .int targets_t, .int lastBlock_t]))]) (w0 := [(a_draft_h0, .inr (1, [.ref a_cells_a_draft_h0, .int count_a_draft_h0])), (a_cells_a_draft_h0, .inl (cI, n_a_cells_a_draft_h0, .inl b_a_cells_a_draft_h0))]) (pl := fpo fad fn fd fcf) [0, 1, 2, 3] 4 rfl rfl (by decide)) rfl rfl (Nat.le_of_ble_eq_true rfl) d_Rd_closeRows_36 ⟨show 0 + C5 ≤ mc by omega, show 0 + S6 ≤ ms by omega⟩ (fun v w hq => ?_)
  obtain ⟨q4, rfl, rfl⟩ := hq
  refine j_perm (ws' := ((h0, .inr (2, [.ref a_scanner_h0, .ref a_draft_h0, .ref a_waiting_h0, .ref a_functions_h0, .ref (fad 0), .ref (fad fd), .ref a_text_h0, .int mode_h0, .int levels_h0, .int signs_h0, .int loops_h0, .int token_h0, .int fault_h0])) :: ((fad fd), .inr (0, [(frB fad fd), (frA fad fn fd), .int kind_t, .int place_t, .int width_t, .int second_t, .int parts_t, .int innerParts_t, .int innerPlace_t, .int innerWidth_t, .int signs_t, .int waitingBelow_t, .int limited_t, .int targets_t, .int lastBlock_t])) :: (a_draft_h0, .inr (1, [.ref q4, .int r1])) :: (q4, .inl (cI, r2, .inl r3)) :: fpo fad fn fd fcf)) (pm_eq (a := [(h0, .inr (2, [.ref a_scanner_h0, .ref a_draft_h0, .ref a_waiting_h0, .ref a_functions_h0, .ref (fad 0), .ref (fad fd), .ref a_text_h0, .int mode_h0, .int levels_h0, .int signs_h0, .int loops_h0, .int token_h0, .int fault_h0])), ((fad fd), .inr (0, [(frB fad fd), (frA fad fn fd), .int kind_t, .int place_t, .int width_t, .int second_t, .int parts_t, .int innerParts_t, .int innerPlace_t, .int innerWidth_t, .int signs_t, .int waitingBelow_t, .int limited_t, .int targets_t, .int lastBlock_t]))]) (b := fpo fad fn fd fcf) (c := [(a_draft_h0, .inr (1, [.ref q4, .int r1])), (q4, .inl (cI, r2, .inl r3))]) rfl) ?_
  refine j_norm (pc' := 39) (st' := []) (ws' := ((h0, .inr (2, [.ref a_scanner_h0, .ref a_draft_h0, .ref a_waiting_h0, .ref a_functions_h0, .ref (fad 0), .ref (fad fd), .ref a_text_h0, .int mode_h0, .int levels_h0, .int signs_h0, .int loops_h0, .int token_h0, .int fault_h0])) :: ((fad fd), .inr (0, [(frB fad fd), (frA fad fn fd), .int kind_t, .int place_t, .int width_t, .int second_t, .int parts_t, .int innerParts_t, .int innerPlace_t, .int innerWidth_t, .int signs_t, .int waitingBelow_t, .int limited_t, .int targets_t, .int lastBlock_t])) :: (a_draft_h0, .inr (1, [.ref q4, .int r1])) :: (q4, .inl (cI, r2, .inl r3)) :: fpo fad fn fd fcf)) (cl' := 0 + C5) (sl' := 0 + S6) rfl rfl rfl rfl rfl rfl ?_
  refine j_aload_n d_Rd_closeRows_39 rfl 1 rfl ?_
  replace h := bd_s h
  obtain ⟨⟨r10, r11, r12, r13, r14, r15, r16, r17, r18, r19, r20, r21, r22, r23, r24, r25⟩, k27, h⟩ := h
  refine j_callVg (n := 0) (As := []) (rest := []) (wr := [(a_draft_h0, .inr (1, [.ref q4, .int r1])), (q4, .inl (cI, r2, .inl r3))]) (c_Rd_closeItem l D cI cB cJ cS h0 fad a_scanner_h0 a_draft_h0 a_waiting_h0 a_functions_h0 a_text_h0 fn fd fcf mode_h0 levels_h0 signs_h0 loops_h0 token_h0 fault_h0 kind_t place_t width_t second_t parts_t innerParts_t innerPlace_t innerWidth_t signs_t waitingBelow_t limited_t targets_t lastBlock_t  r10 r11 r12 r13 r14 r15 r16 r17 r18 r19 r20 r21 r22 r23 r24 r25 k27) k_Rd_378 (by decide) ⟨Nat.le_of_ble_eq_true rfl, Nat.le_of_ble_eq_true rfl⟩ rfl 0 rfl (pk_app (wr := [(a_draft_h0, .inr (1, [.ref q4, .int r1])), (q4, .inl (cI, r2, .inl r3))]) (w0 := [(h0, .inr (2, [.ref a_scanner_h0, .ref a_draft_h0, .ref a_waiting_h0, .ref a_functions_h0, .ref (fad 0), .ref (fad fd), .ref a_text_h0, .int mode_h0, .int levels_h0, .int signs_h0, .int loops_h0, .int token_h0, .int fault_h0])), ((fad fd), .inr (0, [(frB fad fd), (frA fad fn fd), .int kind_t, .int place_t, .int width_t, .int second_t, .int parts_t, .int innerParts_t, .int innerPlace_t, .int innerWidth_t, .int signs_t, .int waitingBelow_t, .int limited_t, .int targets_t, .int lastBlock_t]))]) (pl := fpo fad fn fd fcf) [2, 3, 0, 1] 4 rfl rfl rfl (by decide)) rfl rfl (Nat.le_of_ble_eq_true rfl) d_Rd_closeRows_40 ⟨show 0 + C5 + 0 ≤ mc by omega, show 0 + S6 + 0 ≤ ms by omega⟩ (fun v w hq => ?_)
  obtain ⟨a26, rfl, _, rfl⟩ := hq
  refine j_norm (pc' := 43) (st' := [.int 1]) (ws' := ((a_draft_h0, .inr (1, [.ref q4, .int r1])) :: (q4, .inl (cI, r2, .inl r3)) :: (h0, .inr (2, [.ref a_scanner_h0, .ref a_draft_h0, .ref a_waiting_h0, .ref a_functions_h0, .ref (a26 0), .ref (a26 r11), .ref a_text_h0, .int 34, .int ((levels_h0 - 1) - signs_t), .int 0, .int loops_h0, .int token_h0, .int fault_h0])) :: ((a26 r11), .inr (0, [(frB a26 r11), (frA a26 r10 r11), .int r13, .int r14, .int r15, .int r16, .int r17, .int r18, .int r19, .int r20, .int r21, .int r22, .int r23, .int r24, .int r25])) :: fpo a26 r10 r11 r12)) (cl' := 0 + C5) (sl' := 0 + S6) rfl rfl rfl rfl rfl rfl ?_
  refine j_pop rfl d_Rd_closeRows_43 ?_
  refine j_aload_n d_Rd_closeRows_44 rfl 1 rfl ?_
  refine j_iload_n d_Rd_closeRows_45 rfl 0 rfl ?_
  refine j_if_eq (tgt := 54) d_Rd_closeRows_46 (by decide) (fun c28 => ?_) (fun c28 => ?_)
  · replace h := it_t c28 h
    refine j_bipush (v := 34) d_Rd_closeRows_54 (by decide) ?_
    refine j_callVg (n := 1) (As := [.int 34]) (rest := []) (wr := ([(a_draft_h0, .inr (1, [.ref q4, .int r1])), (q4, .inl (cI, r2, .inl r3)), ((a26 r11), .inr (0, [(frB a26 r11), (frA a26 r10 r11), .int r13, .int r14, .int r15, .int r16, .int r17, .int r18, .int r19, .int r20, .int r21, .int r22, .int r23, .int r24, .int r25]))] ++ fpo a26 r10 r11 r12)) (c_Rd_goOn l D cI cB cJ cS h0 a_scanner_h0 a_draft_h0 a_waiting_h0 a_functions_h0 (a26 0) (a26 r11) a_text_h0 34 34 ((levels_h0 - 1) - signs_t) 0 loops_h0 token_h0 fault_h0  ) k_Rd_130 (by decide) ⟨Nat.le_of_ble_eq_true rfl, Nat.le_of_ble_eq_true rfl⟩ rfl 0 rfl (pk_mid (wr := [(a_draft_h0, .inr (1, [.ref q4, .int r1])), (q4, .inl (cI, r2, .inl r3)), ((a26 r11), .inr (0, [(frB a26 r11), (frA a26 r10 r11), .int r13, .int r14, .int r15, .int r16, .int r17, .int r18, .int r19, .int r20, .int r21, .int r22, .int r23, .int r24, .int r25]))]) (w0 := [(h0, .inr (2, [.ref a_scanner_h0, .ref a_draft_h0, .ref a_waiting_h0, .ref a_functions_h0, .ref (a26 0), .ref (a26 r11), .ref a_text_h0, .int 34, .int ((levels_h0 - 1) - signs_t), .int 0, .int loops_h0, .int token_h0, .int fault_h0]))]) (pl := fpo a26 r10 r11 r12) [0, 1, 3, 2] 4 rfl rfl (by decide)) rfl rfl (Nat.le_of_ble_eq_true rfl) d_Rd_closeRows_56 ⟨show 0 + C5 + 0 ≤ mc by omega, show 0 + S6 + 0 ≤ ms by omega⟩ (fun v w hq => ?_)
    obtain ⟨rfl, _, rfl⟩ := hq
    refine j_perm (ws' := ((a_draft_h0, .inr (1, [.ref q4, .int r1])) :: (q4, .inl (cI, r2, .inl r3)) :: ((a26 r11), .inr (0, [(frB a26 r11), (frA a26 r10 r11), .int r13, .int r14, .int r15, .int r16, .int r17, .int r18, .int r19, .int r20, .int r21, .int r22, .int r23, .int r24, .int r25])) :: (h0, .inr (2, [.ref a_scanner_h0, .ref a_draft_h0, .ref a_waiting_h0, .ref a_functions_h0, .ref (a26 0), .ref (a26 r11), .ref a_text_h0, .int 34, .int ((levels_h0 - 1) - signs_t), .int 0, .int loops_h0, .int token_h0, .int fault_h0])) :: fpo a26 r10 r11 r12)) (pm_eq (a := [(a_draft_h0, .inr (1, [.ref q4, .int r1])), (q4, .inl (cI, r2, .inl r3)), ((a26 r11), .inr (0, [(frB a26 r11), (frA a26 r10 r11), .int r13, .int r14, .int r15, .int r16, .int r17, .int r18, .int r19, .int r20, .int r21, .int r22, .int r23, .int r24, .int r25]))]) (b := fpo a26 r10 r11 r12) (c := [(h0, .inr (2, [.ref a_scanner_h0, .ref a_draft_h0, .ref a_waiting_h0, .ref a_functions_h0, .ref (a26 0), .ref (a26 r11), .ref a_text_h0, .int 34, .int ((levels_h0 - 1) - signs_t), .int 0, .int loops_h0, .int token_h0, .int fault_h0]))]) rfl) ?_
    refine j_norm (pc' := 59) (st' := [.int 1]) (ws' := ((a_draft_h0, .inr (1, [.ref q4, .int r1])) :: (q4, .inl (cI, r2, .inl r3)) :: ((a26 r11), .inr (0, [(frB a26 r11), (frA a26 r10 r11), .int r13, .int r14, .int r15, .int r16, .int r17, .int r18, .int r19, .int r20, .int r21, .int r22, .int r23, .int r24, .int r25])) :: (h0, .inr (2, [.ref a_scanner_h0, .ref a_draft_h0, .ref a_waiting_h0, .ref a_functions_h0, .ref (a26 0), .ref (a26 r11), .ref a_text_h0, .int 34, .int ((levels_h0 - 1) - signs_t), .int 0, .int loops_h0, .int token_h0, .int fault_h0])) :: fpo a26 r10 r11 r12)) (cl' := 0 + C5) (sl' := 0 + S6) rfl rfl rfl rfl rfl rfl ?_
    replace h := lf_s h
    obtain ⟨h, e1, e2⟩ := h
    replace h := Prod.mk.inj h
    obtain ⟨h9, h⟩ := h
    subst h9
    replace h := Prod.mk.inj h
    obtain ⟨h9, h⟩ := h
    subst h9
    replace h := Prod.mk.inj h
    obtain ⟨h9, h⟩ := h
    subst h9
    replace h := Prod.mk.inj h
    obtain ⟨h9, h⟩ := h
    subst h9
    replace h := Prod.mk.inj h
    obtain ⟨h9, h⟩ := h
    subst h9
    replace h := Prod.mk.inj h
    obtain ⟨h9, h⟩ := h
    subst h9
    replace h := Prod.mk.inj h
    obtain ⟨h9, h⟩ := h
    subst h9
    replace h := Prod.mk.inj h
    obtain ⟨h9, h⟩ := h
    subst h9
    replace h := Prod.mk.inj h
    obtain ⟨h9, h⟩ := h
    subst h9
    replace h := Prod.mk.inj h
    obtain ⟨h9, h⟩ := h
    subst h9
    replace h := Prod.mk.inj h
    obtain ⟨h9, h⟩ := h
    subst h9
    replace h := Prod.mk.inj h
    obtain ⟨h9, h⟩ := h
    subst h9
    replace h := Prod.mk.inj h
    obtain ⟨h9, h⟩ := h
    subst h9
    replace h := Prod.mk.inj h
    obtain ⟨h9, h⟩ := h
    subst h9
    replace h := Prod.mk.inj h
    obtain ⟨h9, h⟩ := h
    subst h9
    replace h := Prod.mk.inj h
    obtain ⟨h9, h⟩ := h
    subst h9
    replace h := Prod.mk.inj h
    obtain ⟨h9, h⟩ := h
    subst h9
    replace h := Prod.mk.inj h
    obtain ⟨h9, h⟩ := h
    subst h9
    replace h := Prod.mk.inj h
    obtain ⟨h9, h⟩ := h
    subst h9
    subst h
    refine j_widen (cl' := mc) (sl' := ms) (by omega) (by omega) ?_
    refine j_subP (w := [(h0, .inr (2, [.ref a_scanner_h0, .ref a_draft_h0, .ref a_waiting_h0, .ref a_functions_h0, .ref (a26 0), .ref (a26 r11), .ref a_text_h0, .int 34, .int ((levels_h0 - 1) - signs_t), .int 0, .int loops_h0, .int token_h0, .int fault_h0])), ((a26 r11), .inr (0, [(frB a26 r11), (frA a26 r10 r11), .int r13, .int r14, .int r15, .int r16, .int r17, .int r18, .int r19, .int r20, .int r21, .int r22, .int r23, .int r24, .int r25])), (a_draft_h0, .inr (1, [.ref q4, .int r1])), (q4, .inl (cI, r2, .inl r3))]) (pl := fpo a26 r10 r11 r12) (lv' := []) [3, 2, 0, 1] [] 4 rfl rfl (by decide) [] rfl ?_
    exact j_zretE hr (zb_n zb1) d_Rd_closeRows_59 ⟨a26, q4, rfl, zb1, rfl⟩
  · replace h := it_f c28 h
    refine j_bipush (v := 41) d_Rd_closeRows_49 (by decide) ?_
    refine j_goto (tgt := 56) d_Rd_closeRows_51 (by decide) ?_
    refine j_callVg (n := 1) (As := [.int 41]) (rest := []) (wr := ([(a_draft_h0, .inr (1, [.ref q4, .int r1])), (q4, .inl (cI, r2, .inl r3)), ((a26 r11), .inr (0, [(frB a26 r11), (frA a26 r10 r11), .int r13, .int r14, .int r15, .int r16, .int r17, .int r18, .int r19, .int r20, .int r21, .int r22, .int r23, .int r24, .int r25]))] ++ fpo a26 r10 r11 r12)) (c_Rd_goOn l D cI cB cJ cS h0 a_scanner_h0 a_draft_h0 a_waiting_h0 a_functions_h0 (a26 0) (a26 r11) a_text_h0 41 34 ((levels_h0 - 1) - signs_t) 0 loops_h0 token_h0 fault_h0  ) k_Rd_130 (by decide) ⟨Nat.le_of_ble_eq_true rfl, Nat.le_of_ble_eq_true rfl⟩ rfl 0 rfl (pk_mid (wr := [(a_draft_h0, .inr (1, [.ref q4, .int r1])), (q4, .inl (cI, r2, .inl r3)), ((a26 r11), .inr (0, [(frB a26 r11), (frA a26 r10 r11), .int r13, .int r14, .int r15, .int r16, .int r17, .int r18, .int r19, .int r20, .int r21, .int r22, .int r23, .int r24, .int r25]))]) (w0 := [(h0, .inr (2, [.ref a_scanner_h0, .ref a_draft_h0, .ref a_waiting_h0, .ref a_functions_h0, .ref (a26 0), .ref (a26 r11), .ref a_text_h0, .int 34, .int ((levels_h0 - 1) - signs_t), .int 0, .int loops_h0, .int token_h0, .int fault_h0]))]) (pl := fpo a26 r10 r11 r12) [0, 1, 3, 2] 4 rfl rfl (by decide)) rfl rfl (Nat.le_of_ble_eq_true rfl) d_Rd_closeRows_56 ⟨show 0 + C5 + 0 ≤ mc by omega, show 0 + S6 + 0 ≤ ms by omega⟩ (fun v w hq => ?_)
    obtain ⟨rfl, _, rfl⟩ := hq
    refine j_perm (ws' := ((a_draft_h0, .inr (1, [.ref q4, .int r1])) :: (q4, .inl (cI, r2, .inl r3)) :: ((a26 r11), .inr (0, [(frB a26 r11), (frA a26 r10 r11), .int r13, .int r14, .int r15, .int r16, .int r17, .int r18, .int r19, .int r20, .int r21, .int r22, .int r23, .int r24, .int r25])) :: (h0, .inr (2, [.ref a_scanner_h0, .ref a_draft_h0, .ref a_waiting_h0, .ref a_functions_h0, .ref (a26 0), .ref (a26 r11), .ref a_text_h0, .int 41, .int ((levels_h0 - 1) - signs_t), .int 0, .int loops_h0, .int token_h0, .int fault_h0])) :: fpo a26 r10 r11 r12)) (pm_eq (a := [(a_draft_h0, .inr (1, [.ref q4, .int r1])), (q4, .inl (cI, r2, .inl r3)), ((a26 r11), .inr (0, [(frB a26 r11), (frA a26 r10 r11), .int r13, .int r14, .int r15, .int r16, .int r17, .int r18, .int r19, .int r20, .int r21, .int r22, .int r23, .int r24, .int r25]))]) (b := fpo a26 r10 r11 r12) (c := [(h0, .inr (2, [.ref a_scanner_h0, .ref a_draft_h0, .ref a_waiting_h0, .ref a_functions_h0, .ref (a26 0), .ref (a26 r11), .ref a_text_h0, .int 41, .int ((levels_h0 - 1) - signs_t), .int 0, .int loops_h0, .int token_h0, .int fault_h0]))]) rfl) ?_
    refine j_norm (pc' := 59) (st' := [.int 1]) (ws' := ((a_draft_h0, .inr (1, [.ref q4, .int r1])) :: (q4, .inl (cI, r2, .inl r3)) :: ((a26 r11), .inr (0, [(frB a26 r11), (frA a26 r10 r11), .int r13, .int r14, .int r15, .int r16, .int r17, .int r18, .int r19, .int r20, .int r21, .int r22, .int r23, .int r24, .int r25])) :: (h0, .inr (2, [.ref a_scanner_h0, .ref a_draft_h0, .ref a_waiting_h0, .ref a_functions_h0, .ref (a26 0), .ref (a26 r11), .ref a_text_h0, .int 41, .int ((levels_h0 - 1) - signs_t), .int 0, .int loops_h0, .int token_h0, .int fault_h0])) :: fpo a26 r10 r11 r12)) (cl' := 0 + C5) (sl' := 0 + S6) rfl rfl rfl rfl rfl rfl ?_
    replace h := lf_s h
    obtain ⟨h, e1, e2⟩ := h
    replace h := Prod.mk.inj h
    obtain ⟨h9, h⟩ := h
    subst h9
    replace h := Prod.mk.inj h
    obtain ⟨h9, h⟩ := h
    subst h9
    replace h := Prod.mk.inj h
    obtain ⟨h9, h⟩ := h
    subst h9
    replace h := Prod.mk.inj h
    obtain ⟨h9, h⟩ := h
    subst h9
    replace h := Prod.mk.inj h
    obtain ⟨h9, h⟩ := h
    subst h9
    replace h := Prod.mk.inj h
    obtain ⟨h9, h⟩ := h
    subst h9
    replace h := Prod.mk.inj h
    obtain ⟨h9, h⟩ := h
    subst h9
    replace h := Prod.mk.inj h
    obtain ⟨h9, h⟩ := h
    subst h9
    replace h := Prod.mk.inj h
    obtain ⟨h9, h⟩ := h
    subst h9
    replace h := Prod.mk.inj h
    obtain ⟨h9, h⟩ := h
    subst h9
    replace h := Prod.mk.inj h
    obtain ⟨h9, h⟩ := h
    subst h9
    replace h := Prod.mk.inj h
    obtain ⟨h9, h⟩ := h
    subst h9
    replace h := Prod.mk.inj h
    obtain ⟨h9, h⟩ := h
    subst h9
    replace h := Prod.mk.inj h
    obtain ⟨h9, h⟩ := h
    subst h9
    replace h := Prod.mk.inj h
    obtain ⟨h9, h⟩ := h
    subst h9
    replace h := Prod.mk.inj h
    obtain ⟨h9, h⟩ := h
    subst h9
    replace h := Prod.mk.inj h
    obtain ⟨h9, h⟩ := h
    subst h9
    replace h := Prod.mk.inj h
    obtain ⟨h9, h⟩ := h
    subst h9
    replace h := Prod.mk.inj h
    obtain ⟨h9, h⟩ := h
    subst h9
    subst h
    refine j_widen (cl' := mc) (sl' := ms) (by omega) (by omega) ?_
    refine j_subP (w := [(h0, .inr (2, [.ref a_scanner_h0, .ref a_draft_h0, .ref a_waiting_h0, .ref a_functions_h0, .ref (a26 0), .ref (a26 r11), .ref a_text_h0, .int 41, .int ((levels_h0 - 1) - signs_t), .int 0, .int loops_h0, .int token_h0, .int fault_h0])), ((a26 r11), .inr (0, [(frB a26 r11), (frA a26 r10 r11), .int r13, .int r14, .int r15, .int r16, .int r17, .int r18, .int r19, .int r20, .int r21, .int r22, .int r23, .int r24, .int r25])), (a_draft_h0, .inr (1, [.ref q4, .int r1])), (q4, .inl (cI, r2, .inl r3))]) (pl := fpo a26 r10 r11 r12) (lv' := []) [3, 2, 0, 1] [] 4 rfl rfl (by decide) [] rfl ?_
    exact j_zretE hr (zb_n zb1) d_Rd_closeRows_59 ⟨a26, q4, rfl, zb1, rfl⟩
noncomputable def F_Rd_settle_142 (levels_h0 : Int32) (loops_h0 : Int32) (token_h0 : Int32) (fault_h0 : Int32) (count_a_waiting_h0 : Int32) (n_a_cells_a_waiting_h0 : Nat) (b_a_cells_a_waiting_h0 : Nat → Int32) (count_a_draft_h0 : Int32) (n_a_cells_a_draft_h0 : Nat) (b_a_cells_a_draft_h0 : Nat → Int32) (n9_142 : Nat) (d9_142 : Nat) (c9_142 : Nat → FrC) (f0_7_142 : Int32) (f0_9_142 : Int32) (f1_2_142 : Int32) (f1_3_142 : Int32) (f1_4_142 : Int32) (f1_5_142 : Int32) (f1_6_142 : Int32) (f1_7_142 : Int32) (f1_8_142 : Int32) (f1_9_142 : Int32) (f1_10_142 : Int32) (f1_11_142 : Int32) (f1_12_142 : Int32) (f1_13_142 : Int32) (f1_14_142 : Int32) : Option ((Nat × Nat × (Nat → FrC) × Int32 × Int32 × Int32 × Int32 × Int32 × Int32 × Int32 × Int32 × Int32 × Int32 × Int32 × Int32 × Int32 × Int32 × Int32 × Int32 × Int32 × Int32 × Nat × (Nat → Int32)) × Nat × Nat) :=
    if f0_7_142 = 42 then (Option.bind (F_Tk_last 1 count_a_waiting_h0 n_a_cells_a_waiting_h0 b_a_cells_a_waiting_h0) fun r2 =>
      nm (F_Tk_dropLast count_a_waiting_h0) fun r4 =>
      bw (F_Rd_becomeTargets r2 n9_142 d9_142 c9_142 34 (levels_h0 - f0_9_142) 0 loops_h0 token_h0 fault_h0 f1_2_142 f1_3_142 f1_4_142 f1_5_142 f1_6_142 f1_7_142 f1_8_142 f1_9_142 f1_10_142 f1_11_142 f1_12_142 f1_13_142 f1_14_142 count_a_draft_h0 n_a_cells_a_draft_h0 b_a_cells_a_draft_h0) fun ⟨r7, r8, r9, r10, r11, r12, r13, r14, r15, r16, r17, r18, r19, r20, r21, r22⟩ =>
      (some ((r7, r8, r9, 21, (levels_h0 - f0_9_142), f1_10_142, 10, r10, r11, f1_3_142, r12, f1_7_142 + 1, r13, r14, r15, r16, r17, r18, r19, r4, r20, r21, r22), 0, 0)))
    else (some ((n9_142, d9_142, c9_142, f0_7_142, levels_h0, f0_9_142, f1_2_142, f1_3_142, f1_4_142, f1_5_142, f1_6_142, f1_7_142, f1_8_142, f1_9_142, f1_10_142, f1_11_142, f1_12_142, f1_13_142, f1_14_142, count_a_waiting_h0, count_a_draft_h0, n_a_cells_a_draft_h0, b_a_cells_a_draft_h0), 0, 0))
noncomputable def F_Rd_settle_98 (levels_h0 : Int32) (loops_h0 : Int32) (token_h0 : Int32) (fault_h0 : Int32) (count_a_waiting_h0 : Int32) (n_a_cells_a_waiting_h0 : Nat) (b_a_cells_a_waiting_h0 : Nat → Int32) (count_a_draft_h0 : Int32) (n_a_cells_a_draft_h0 : Nat) (b_a_cells_a_draft_h0 : Nat → Int32) (n9_98 : Nat) (d9_98 : Nat) (c9_98 : Nat → FrC) (f0_7_98 : Int32) (f0_9_98 : Int32) (f1_2_98 : Int32) (f1_3_98 : Int32) (f1_4_98 : Int32) (f1_5_98 : Int32) (f1_6_98 : Int32) (f1_7_98 : Int32) (f1_8_98 : Int32) (f1_9_98 : Int32) (f1_10_98 : Int32) (f1_11_98 : Int32) (f1_12_98 : Int32) (f1_13_98 : Int32) (f1_14_98 : Int32) : Option ((Nat × Nat × (Nat → FrC) × Int32 × Int32 × Int32 × Int32 × Int32 × Int32 × Int32 × Int32 × Int32 × Int32 × Int32 × Int32 × Int32 × Int32 × Int32 × Int32 × Int32 × Int32 × Nat × (Nat → Int32)) × Nat × Nat) :=
    if f0_7_98 = 42 then (if token_h0 = 44 then (F_Rd_settle_142 levels_h0 loops_h0 token_h0 fault_h0 count_a_waiting_h0 n_a_cells_a_waiting_h0 b_a_cells_a_waiting_h0 count_a_draft_h0 n_a_cells_a_draft_h0 b_a_cells_a_draft_h0   n9_98 d9_98 c9_98 f0_7_98 f0_9_98 f1_2_98 f1_3_98 f1_4_98 f1_5_98 f1_6_98 f1_7_98 f1_8_98 f1_9_98 f1_10_98 f1_11_98 f1_12_98 f1_13_98 f1_14_98)
      else if token_h0 = 93 then (F_Rd_settle_142 levels_h0 loops_h0 token_h0 fault_h0 count_a_waiting_h0 n_a_cells_a_waiting_h0 b_a_cells_a_waiting_h0 count_a_draft_h0 n_a_cells_a_draft_h0 b_a_cells_a_draft_h0   n9_98 d9_98 c9_98 f0_7_98 f0_9_98 f1_2_98 f1_3_98 f1_4_98 f1_5_98 f1_6_98 f1_7_98 f1_8_98 f1_9_98 f1_10_98 f1_11_98 f1_12_98 f1_13_98 f1_14_98)
      else (some ((n9_98, d9_98, c9_98, 31, levels_h0, f0_9_98, f1_2_98, f1_3_98, f1_4_98, f1_5_98, f1_6_98, f1_7_98, f1_8_98, f1_9_98, f1_10_98, f1_11_98, f1_12_98, 0, f1_14_98, count_a_waiting_h0, count_a_draft_h0, n_a_cells_a_draft_h0, b_a_cells_a_draft_h0), 0, 0)))
    else (F_Rd_settle_142 levels_h0 loops_h0 token_h0 fault_h0 count_a_waiting_h0 n_a_cells_a_waiting_h0 b_a_cells_a_waiting_h0 count_a_draft_h0 n_a_cells_a_draft_h0 b_a_cells_a_draft_h0   n9_98 d9_98 c9_98 f0_7_98 f0_9_98 f1_2_98 f1_3_98 f1_4_98 f1_5_98 f1_6_98 f1_7_98 f1_8_98 f1_9_98 f1_10_98 f1_11_98 f1_12_98 f1_13_98 f1_14_98)
noncomputable def F_Rd_settle_71 (levels_h0 : Int32) (loops_h0 : Int32) (token_h0 : Int32) (fault_h0 : Int32) (count_a_waiting_h0 : Int32) (n_a_cells_a_waiting_h0 : Nat) (b_a_cells_a_waiting_h0 : Nat → Int32) (count_a_draft_h0 : Int32) (n_a_cells_a_draft_h0 : Nat) (b_a_cells_a_draft_h0 : Nat → Int32) (n9_71 : Nat) (d9_71 : Nat) (c9_71 : Nat → FrC) (f0_7_71 : Int32) (f0_9_71 : Int32) (f1_2_71 : Int32) (f1_3_71 : Int32) (f1_4_71 : Int32) (f1_5_71 : Int32) (f1_6_71 : Int32) (f1_7_71 : Int32) (f1_8_71 : Int32) (f1_9_71 : Int32) (f1_10_71 : Int32) (f1_11_71 : Int32) (f1_12_71 : Int32) (f1_13_71 : Int32) (f1_14_71 : Int32) : Option ((Nat × Nat × (Nat → FrC) × Int32 × Int32 × Int32 × Int32 × Int32 × Int32 × Int32 × Int32 × Int32 × Int32 × Int32 × Int32 × Int32 × Int32 × Int32 × Int32 × Int32 × Int32 × Nat × (Nat → Int32)) × Nat × Nat) :=
    if f0_7_71 = 41 then (if token_h0 = 61 then (F_Rd_settle_98 levels_h0 loops_h0 token_h0 fault_h0 count_a_waiting_h0 n_a_cells_a_waiting_h0 b_a_cells_a_waiting_h0 count_a_draft_h0 n_a_cells_a_draft_h0 b_a_cells_a_draft_h0   n9_71 d9_71 c9_71 f0_7_71 f0_9_71 f1_2_71 f1_3_71 f1_4_71 f1_5_71 f1_6_71 f1_7_71 f1_8_71 f1_9_71 f1_10_71 f1_11_71 f1_12_71 f1_13_71 f1_14_71)
      else (some ((n9_71, d9_71, c9_71, 34, levels_h0, f0_9_71, f1_2_71, f1_3_71, f1_4_71, f1_5_71, f1_6_71, f1_7_71, f1_8_71, f1_9_71, f1_10_71, f1_11_71, f1_12_71, f1_13_71, f1_14_71, count_a_waiting_h0, count_a_draft_h0, n_a_cells_a_draft_h0, b_a_cells_a_draft_h0), 0, 0)))
    else (F_Rd_settle_98 levels_h0 loops_h0 token_h0 fault_h0 count_a_waiting_h0 n_a_cells_a_waiting_h0 b_a_cells_a_waiting_h0 count_a_draft_h0 n_a_cells_a_draft_h0 b_a_cells_a_draft_h0   n9_71 d9_71 c9_71 f0_7_71 f0_9_71 f1_2_71 f1_3_71 f1_4_71 f1_5_71 f1_6_71 f1_7_71 f1_8_71 f1_9_71 f1_10_71 f1_11_71 f1_12_71 f1_13_71 f1_14_71)
noncomputable def F_Rd_settle_29 (levels_h0 : Int32) (loops_h0 : Int32) (token_h0 : Int32) (fault_h0 : Int32) (next_a_scanner_h0 : Int32) (kind_a_scanner_h0 : Int32) (start_a_scanner_h0 : Int32) (width_a_scanner_h0 : Int32) (count_a_waiting_h0 : Int32) (n_a_cells_a_waiting_h0 : Nat) (b_a_cells_a_waiting_h0 : Nat → Int32) (count_a_draft_h0 : Int32) (n_a_cells_a_draft_h0 : Nat) (b_a_cells_a_draft_h0 : Nat → Int32) (n9_29 : Nat) (d9_29 : Nat) (c9_29 : Nat → FrC) (f0_7_29 : Int32) (f0_9_29 : Int32) (f1_2_29 : Int32) (f1_3_29 : Int32) (f1_4_29 : Int32) (f1_5_29 : Int32) (f1_6_29 : Int32) (f1_7_29 : Int32) (f1_8_29 : Int32) (f1_9_29 : Int32) (f1_10_29 : Int32) (f1_11_29 : Int32) (f1_12_29 : Int32) (f1_13_29 : Int32) (f1_14_29 : Int32) : Option ((Nat × Nat × (Nat → FrC) × Int32 × Int32 × Int32 × Int32 × Int32 × Int32 × Int32 × Int32 × Int32 × Int32 × Int32 × Int32 × Int32 × Int32 × Int32 × Int32 × Int32 × Int32 × Nat × (Nat → Int32)) × Nat × Nat) :=
    if f0_7_29 = 30 then (nm (F_Rd_settleStart f0_7_29 levels_h0 f0_9_29 loops_h0 token_h0 fault_h0 f1_2_29 f1_3_29 f1_4_29 f1_5_29 f1_6_29 f1_7_29 f1_8_29 f1_9_29 f1_10_29 f1_11_29 f1_12_29 f1_13_29 f1_14_29 next_a_scanner_h0 kind_a_scanner_h0 start_a_scanner_h0 width_a_scanner_h0) fun ⟨r39, r40, r41, r42⟩ =>
      (some ((n9_29, d9_29, c9_29, r39, levels_h0, f0_9_29, f1_2_29, f1_3_29, f1_4_29, f1_5_29, f1_6_29, f1_7_29, r40, r41, f1_10_29, f1_11_29, f1_12_29, r42, f1_14_29, count_a_waiting_h0, count_a_draft_h0, n_a_cells_a_draft_h0, b_a_cells_a_draft_h0), 0, 0)))
    else if f0_7_29 = 40 then (if token_h0 = 40 then (F_Rd_settle_71 levels_h0 loops_h0 token_h0 fault_h0 count_a_waiting_h0 n_a_cells_a_waiting_h0 b_a_cells_a_waiting_h0 count_a_draft_h0 n_a_cells_a_draft_h0 b_a_cells_a_draft_h0   n9_29 d9_29 c9_29 f0_7_29 f0_9_29 f1_2_29 f1_3_29 f1_4_29 f1_5_29 f1_6_29 f1_7_29 f1_8_29 f1_9_29 f1_10_29 f1_11_29 f1_12_29 f1_13_29 f1_14_29)
      else (some ((n9_29, d9_29, c9_29, 34, levels_h0 - f0_9_29, 0, f1_2_29, f1_3_29, f1_4_29, f1_5_29, f1_6_29, f1_7_29, f1_8_29, f1_9_29, f1_10_29, f1_11_29, f1_12_29, f1_13_29, f1_14_29, count_a_waiting_h0, count_a_draft_h0, n_a_cells_a_draft_h0, b_a_cells_a_draft_h0), 0, 0)))
    else (F_Rd_settle_71 levels_h0 loops_h0 token_h0 fault_h0 count_a_waiting_h0 n_a_cells_a_waiting_h0 b_a_cells_a_waiting_h0 count_a_draft_h0 n_a_cells_a_draft_h0 b_a_cells_a_draft_h0   n9_29 d9_29 c9_29 f0_7_29 f0_9_29 f1_2_29 f1_3_29 f1_4_29 f1_5_29 f1_6_29 f1_7_29 f1_8_29 f1_9_29 f1_10_29 f1_11_29 f1_12_29 f1_13_29 f1_14_29)
noncomputable def F_Rd_settle (fn : Nat) (fd : Nat) (fcf : Nat → FrC) (mode_h0 : Int32) (levels_h0 : Int32) (signs_h0 : Int32) (loops_h0 : Int32) (token_h0 : Int32) (fault_h0 : Int32) (kind_t : Int32) (place_t : Int32) (width_t : Int32) (second_t : Int32) (parts_t : Int32) (innerParts_t : Int32) (innerPlace_t : Int32) (innerWidth_t : Int32) (signs_t : Int32) (waitingBelow_t : Int32) (limited_t : Int32) (targets_t : Int32) (lastBlock_t : Int32) (next_a_scanner_h0 : Int32) (kind_a_scanner_h0 : Int32) (start_a_scanner_h0 : Int32) (width_a_scanner_h0 : Int32) (count_a_waiting_h0 : Int32) (n_a_cells_a_waiting_h0 : Nat) (b_a_cells_a_waiting_h0 : Nat → Int32) (count_a_draft_h0 : Int32) (n_a_cells_a_draft_h0 : Nat) (b_a_cells_a_draft_h0 : Nat → Int32) : Option ((Nat × Nat × (Nat → FrC) × Int32 × Int32 × Int32 × Int32 × Int32 × Int32 × Int32 × Int32 × Int32 × Int32 × Int32 × Int32 × Int32 × Int32 × Int32 × Int32 × Int32 × Int32 × Nat × (Nat → Int32)) × Nat × Nat) :=
  if mode_h0 = 0 then (nm (F_Sc_isWord token_h0) fun r45 =>
    if r45 = 0 then (bw (F_Rd_push 20 fn fd fcf mode_h0 levels_h0 signs_h0 loops_h0 token_h0 fault_h0 kind_t place_t width_t second_t parts_t innerParts_t innerPlace_t innerWidth_t signs_t waitingBelow_t limited_t targets_t lastBlock_t next_a_scanner_h0 kind_a_scanner_h0 start_a_scanner_h0 width_a_scanner_h0 count_a_waiting_h0) fun ⟨r49, r50, r51⟩ =>
      F_Rd_settle_29 levels_h0 loops_h0 token_h0 fault_h0 next_a_scanner_h0 kind_a_scanner_h0 start_a_scanner_h0 width_a_scanner_h0 count_a_waiting_h0 n_a_cells_a_waiting_h0 b_a_cells_a_waiting_h0 count_a_draft_h0 n_a_cells_a_draft_h0 b_a_cells_a_draft_h0   r49 r50 r51 30 0 20 start_a_scanner_h0 width_a_scanner_h0 (-1) 0 0 start_a_scanner_h0 width_a_scanner_h0 signs_h0 count_a_waiting_h0 0 0 0)
    else (F_Rd_settle_29 levels_h0 loops_h0 token_h0 fault_h0 next_a_scanner_h0 kind_a_scanner_h0 start_a_scanner_h0 width_a_scanner_h0 count_a_waiting_h0 n_a_cells_a_waiting_h0 b_a_cells_a_waiting_h0 count_a_draft_h0 n_a_cells_a_draft_h0 b_a_cells_a_draft_h0   fn fd fcf mode_h0 signs_h0 kind_t place_t width_t second_t parts_t innerParts_t innerPlace_t innerWidth_t signs_t waitingBelow_t limited_t targets_t lastBlock_t))
  else (F_Rd_settle_29 levels_h0 loops_h0 token_h0 fault_h0 next_a_scanner_h0 kind_a_scanner_h0 start_a_scanner_h0 width_a_scanner_h0 count_a_waiting_h0 n_a_cells_a_waiting_h0 b_a_cells_a_waiting_h0 count_a_draft_h0 n_a_cells_a_draft_h0 b_a_cells_a_draft_h0   fn fd fcf mode_h0 signs_h0 kind_t place_t width_t second_t parts_t innerParts_t innerPlace_t innerWidth_t signs_t waitingBelow_t limited_t targets_t lastBlock_t)
theorem d_Rd_settle_0 : decode prog_6_method_11_code 0 = .ok (.aload_n 0, 1) := by decide +kernel
theorem d_Rd_settle_1 : decode prog_6_method_11_code 1 = .ok (.getfield 56, 3) := by decide +kernel
theorem d_Rd_settle_4 : decode prog_6_method_11_code 4 = .ok (.ifCond .ne 25, 3) := by decide +kernel
theorem d_Rd_settle_7 : decode prog_6_method_11_code 7 = .ok (.aload_n 0, 1) := by decide +kernel
theorem d_Rd_settle_8 : decode prog_6_method_11_code 8 = .ok (.getfield 69, 3) := by decide +kernel
theorem d_Rd_settle_11 : decode prog_6_method_11_code 11 = .ok (.invokestatic 147, 3) := by decide +kernel
theorem d_Rd_settle_14 : decode prog_6_method_11_code 14 = .ok (.ifCond .ne 15, 3) := by decide +kernel
theorem d_Rd_settle_17 : decode prog_6_method_11_code 17 = .ok (.aload_n 0, 1) := by decide +kernel
theorem d_Rd_settle_18 : decode prog_6_method_11_code 18 = .ok (.bipush 20, 2) := by decide +kernel
theorem d_Rd_settle_20 : decode prog_6_method_11_code 20 = .ok (.invokevirtual 150, 3) := by decide +kernel
theorem d_Rd_settle_23 : decode prog_6_method_11_code 23 = .ok (.aload_n 0, 1) := by decide +kernel
theorem d_Rd_settle_24 : decode prog_6_method_11_code 24 = .ok (.bipush 30, 2) := by decide +kernel
theorem d_Rd_settle_26 : decode prog_6_method_11_code 26 = .ok (.putfield 56, 3) := by decide +kernel
theorem d_Rd_settle_29 : decode prog_6_method_11_code 29 = .ok (.aload_n 0, 1) := by decide +kernel
theorem d_Rd_settle_30 : decode prog_6_method_11_code 30 = .ok (.getfield 56, 3) := by decide +kernel
theorem d_Rd_settle_33 : decode prog_6_method_11_code 33 = .ok (.bipush 30, 2) := by decide +kernel
theorem d_Rd_settle_35 : decode prog_6_method_11_code 35 = .ok (.if_icmp .ne 10, 3) := by decide +kernel
theorem d_Rd_settle_38 : decode prog_6_method_11_code 38 = .ok (.aload_n 0, 1) := by decide +kernel
theorem d_Rd_settle_39 : decode prog_6_method_11_code 39 = .ok (.invokevirtual 154, 3) := by decide +kernel
theorem d_Rd_settle_42 : decode prog_6_method_11_code 42 = .ok (.goto 136, 3) := by decide +kernel
theorem d_Rd_settle_45 : decode prog_6_method_11_code 45 = .ok (.aload_n 0, 1) := by decide +kernel
theorem d_Rd_settle_46 : decode prog_6_method_11_code 46 = .ok (.getfield 56, 3) := by decide +kernel
theorem d_Rd_settle_49 : decode prog_6_method_11_code 49 = .ok (.bipush 40, 2) := by decide +kernel
theorem d_Rd_settle_51 : decode prog_6_method_11_code 51 = .ok (.if_icmp .ne 20, 3) := by decide +kernel
theorem d_Rd_settle_54 : decode prog_6_method_11_code 54 = .ok (.aload_n 0, 1) := by decide +kernel
theorem d_Rd_settle_55 : decode prog_6_method_11_code 55 = .ok (.getfield 69, 3) := by decide +kernel
theorem d_Rd_settle_58 : decode prog_6_method_11_code 58 = .ok (.bipush 40, 2) := by decide +kernel
theorem d_Rd_settle_60 : decode prog_6_method_11_code 60 = .ok (.if_icmp .eq 11, 3) := by decide +kernel
theorem d_Rd_settle_63 : decode prog_6_method_11_code 63 = .ok (.aload_n 0, 1) := by decide +kernel
theorem d_Rd_settle_64 : decode prog_6_method_11_code 64 = .ok (.invokevirtual 157, 3) := by decide +kernel
theorem d_Rd_settle_67 : decode prog_6_method_11_code 67 = .ok (.pop, 1) := by decide +kernel
theorem d_Rd_settle_68 : decode prog_6_method_11_code 68 = .ok (.goto 110, 3) := by decide +kernel
theorem d_Rd_settle_71 : decode prog_6_method_11_code 71 = .ok (.aload_n 0, 1) := by decide +kernel
theorem d_Rd_settle_72 : decode prog_6_method_11_code 72 = .ok (.getfield 56, 3) := by decide +kernel
theorem d_Rd_settle_75 : decode prog_6_method_11_code 75 = .ok (.bipush 41, 2) := by decide +kernel
theorem d_Rd_settle_77 : decode prog_6_method_11_code 77 = .ok (.if_icmp .ne 21, 3) := by decide +kernel
theorem d_Rd_settle_80 : decode prog_6_method_11_code 80 = .ok (.aload_n 0, 1) := by decide +kernel
theorem d_Rd_settle_81 : decode prog_6_method_11_code 81 = .ok (.getfield 69, 3) := by decide +kernel
theorem d_Rd_settle_84 : decode prog_6_method_11_code 84 = .ok (.bipush 61, 2) := by decide +kernel
theorem d_Rd_settle_86 : decode prog_6_method_11_code 86 = .ok (.if_icmp .eq 12, 3) := by decide +kernel
theorem d_Rd_settle_89 : decode prog_6_method_11_code 89 = .ok (.aload_n 0, 1) := by decide +kernel
theorem d_Rd_settle_90 : decode prog_6_method_11_code 90 = .ok (.bipush 34, 2) := by decide +kernel
theorem d_Rd_settle_92 : decode prog_6_method_11_code 92 = .ok (.putfield 56, 3) := by decide +kernel
theorem d_Rd_settle_95 : decode prog_6_method_11_code 95 = .ok (.goto 83, 3) := by decide +kernel
theorem d_Rd_settle_98 : decode prog_6_method_11_code 98 = .ok (.aload_n 0, 1) := by decide +kernel
theorem d_Rd_settle_99 : decode prog_6_method_11_code 99 = .ok (.getfield 56, 3) := by decide +kernel
theorem d_Rd_settle_102 : decode prog_6_method_11_code 102 = .ok (.bipush 42, 2) := by decide +kernel
theorem d_Rd_settle_104 : decode prog_6_method_11_code 104 = .ok (.if_icmp .ne 38, 3) := by decide +kernel
theorem d_Rd_settle_107 : decode prog_6_method_11_code 107 = .ok (.aload_n 0, 1) := by decide +kernel
theorem d_Rd_settle_108 : decode prog_6_method_11_code 108 = .ok (.getfield 69, 3) := by decide +kernel
theorem d_Rd_settle_111 : decode prog_6_method_11_code 111 = .ok (.bipush 44, 2) := by decide +kernel
theorem d_Rd_settle_113 : decode prog_6_method_11_code 113 = .ok (.if_icmp .eq 29, 3) := by decide +kernel
theorem d_Rd_settle_116 : decode prog_6_method_11_code 116 = .ok (.aload_n 0, 1) := by decide +kernel
theorem d_Rd_settle_117 : decode prog_6_method_11_code 117 = .ok (.getfield 69, 3) := by decide +kernel
theorem d_Rd_settle_120 : decode prog_6_method_11_code 120 = .ok (.bipush 93, 2) := by decide +kernel
theorem d_Rd_settle_122 : decode prog_6_method_11_code 122 = .ok (.if_icmp .eq 20, 3) := by decide +kernel
theorem d_Rd_settle_125 : decode prog_6_method_11_code 125 = .ok (.aload_n 0, 1) := by decide +kernel
theorem d_Rd_settle_126 : decode prog_6_method_11_code 126 = .ok (.getfield 46, 3) := by decide +kernel
theorem d_Rd_settle_129 : decode prog_6_method_11_code 129 = .ok (.iconst 0, 1) := by decide +kernel
theorem d_Rd_settle_130 : decode prog_6_method_11_code 130 = .ok (.putfield 160, 3) := by decide +kernel
theorem d_Rd_settle_133 : decode prog_6_method_11_code 133 = .ok (.aload_n 0, 1) := by decide +kernel
theorem d_Rd_settle_134 : decode prog_6_method_11_code 134 = .ok (.bipush 31, 2) := by decide +kernel
theorem d_Rd_settle_136 : decode prog_6_method_11_code 136 = .ok (.putfield 56, 3) := by decide +kernel
theorem d_Rd_settle_139 : decode prog_6_method_11_code 139 = .ok (.goto 39, 3) := by decide +kernel
theorem d_Rd_settle_142 : decode prog_6_method_11_code 142 = .ok (.aload_n 0, 1) := by decide +kernel
theorem d_Rd_settle_143 : decode prog_6_method_11_code 143 = .ok (.getfield 56, 3) := by decide +kernel
theorem d_Rd_settle_146 : decode prog_6_method_11_code 146 = .ok (.bipush 42, 2) := by decide +kernel
theorem d_Rd_settle_148 : decode prog_6_method_11_code 148 = .ok (.if_icmp .ne 30, 3) := by decide +kernel
theorem d_Rd_settle_151 : decode prog_6_method_11_code 151 = .ok (.aload_n 0, 1) := by decide +kernel
theorem d_Rd_settle_152 : decode prog_6_method_11_code 152 = .ok (.getfield 30, 3) := by decide +kernel
theorem d_Rd_settle_155 : decode prog_6_method_11_code 155 = .ok (.iconst 1, 1) := by decide +kernel
theorem d_Rd_settle_156 : decode prog_6_method_11_code 156 = .ok (.invokevirtual 164, 3) := by decide +kernel
theorem d_Rd_settle_159 : decode prog_6_method_11_code 159 = .ok (.istore_n 1, 1) := by decide +kernel
theorem d_Rd_settle_160 : decode prog_6_method_11_code 160 = .ok (.aload_n 0, 1) := by decide +kernel
theorem d_Rd_settle_161 : decode prog_6_method_11_code 161 = .ok (.getfield 30, 3) := by decide +kernel
theorem d_Rd_settle_164 : decode prog_6_method_11_code 164 = .ok (.invokevirtual 168, 3) := by decide +kernel
theorem d_Rd_settle_167 : decode prog_6_method_11_code 167 = .ok (.aload_n 0, 1) := by decide +kernel
theorem d_Rd_settle_168 : decode prog_6_method_11_code 168 = .ok (.invokevirtual 157, 3) := by decide +kernel
theorem d_Rd_settle_171 : decode prog_6_method_11_code 171 = .ok (.pop, 1) := by decide +kernel
theorem d_Rd_settle_172 : decode prog_6_method_11_code 172 = .ok (.aload_n 0, 1) := by decide +kernel
theorem d_Rd_settle_173 : decode prog_6_method_11_code 173 = .ok (.iload_n 1, 1) := by decide +kernel
theorem d_Rd_settle_174 : decode prog_6_method_11_code 174 = .ok (.invokevirtual 171, 3) := by decide +kernel
theorem d_Rd_settle_177 : decode prog_6_method_11_code 177 = .ok (.pop, 1) := by decide +kernel
theorem d_Rd_settle_178 : decode prog_6_method_11_code 178 = .ok (.return_, 1) := by decide +kernel
set_option maxHeartbeats 4000000 in
set_option maxRecDepth 100000 in
theorem L_Rd_settle_142 (l : Launch) (D : va_G) (cI cB cJ cS : ClassId) (h0 : Nat) (fad : Nat → Nat) (a_scanner_h0 : Nat) (a_draft_h0 : Nat) (a_waiting_h0 : Nat) (a_functions_h0 : Nat) (a_text_h0 : Nat) (a_text_a_scanner_h0 : Nat) (a_cells_a_waiting_h0 : Nat) (a_cells_a_draft_h0 : Nat) (fn : Nat) (fd : Nat) (fcf : Nat → FrC) (mode_h0 : Int32) (levels_h0 : Int32) (signs_h0 : Int32) (loops_h0 : Int32) (token_h0 : Int32) (fault_h0 : Int32) (kind_t : Int32) (place_t : Int32) (width_t : Int32) (second_t : Int32) (parts_t : Int32) (innerParts_t : Int32) (innerPlace_t : Int32) (innerWidth_t : Int32) (signs_t : Int32) (waitingBelow_t : Int32) (limited_t : Int32) (targets_t : Int32) (lastBlock_t : Int32) (next_a_scanner_h0 : Int32) (kind_a_scanner_h0 : Int32) (start_a_scanner_h0 : Int32) (width_a_scanner_h0 : Int32) (count_a_waiting_h0 : Int32) (n_a_cells_a_waiting_h0 : Nat) (b_a_cells_a_waiting_h0 : Nat → Int32) (count_a_draft_h0 : Int32) (n_a_cells_a_draft_h0 : Nat) (b_a_cells_a_draft_h0 : Nat → Int32) (on_p : Nat) (od_p : Nat) (ocf_p : Nat → FrC) (o_0_7 : Int32) (o_0_8 : Int32) (o_0_9 : Int32) (o_1_2 : Int32) (o_1_3 : Int32) (o_1_4 : Int32) (o_1_5 : Int32) (o_1_6 : Int32) (o_1_7 : Int32) (o_1_8 : Int32) (o_1_9 : Int32) (o_1_10 : Int32) (o_1_11 : Int32) (o_1_12 : Int32) (o_1_13 : Int32) (o_1_14 : Int32) (o_3_1 : Int32) (o_5_1 : Int32) (on_nq_5_0 : Nat) (ob_nq_5_0 : Nat → Int32) (mc ms : Nat) (p : Program) (e : Env) (s : State) (m : MethodId) (below : List Frame) (meth : Method) (c : Code) (hr : meth.sig.returnType = (Option.none : Option Jvm.ClassFile.FieldType)) (hnm : meth.name = y_Rd_settle.name) : ∀ (a9_142 : Nat → Nat) (n9_142 : Nat) (d9_142 : Nat) (c9_142 : Nat → FrC) (f0_7_142 : Int32) (f0_9_142 : Int32) (f1_2_142 : Int32) (f1_3_142 : Int32) (f1_4_142 : Int32) (f1_5_142 : Int32) (f1_6_142 : Int32) (f1_7_142 : Int32) (f1_8_142 : Int32) (f1_9_142 : Int32) (f1_10_142 : Int32) (f1_11_142 : Int32) (f1_12_142 : Int32) (f1_13_142 : Int32) (f1_14_142 : Int32) (cl_142 sl_142 C_142 S_142 : Nat), F_Rd_settle_142 levels_h0 loops_h0 token_h0 fault_h0 count_a_waiting_h0 n_a_cells_a_waiting_h0 b_a_cells_a_waiting_h0 count_a_draft_h0 n_a_cells_a_draft_h0 b_a_cells_a_draft_h0   n9_142 d9_142 c9_142 f0_7_142 f0_9_142 f1_2_142 f1_3_142 f1_4_142 f1_5_142 f1_6_142 f1_7_142 f1_8_142 f1_9_142 f1_10_142 f1_11_142 f1_12_142 f1_13_142 f1_14_142 = some ((on_p, od_p, ocf_p, o_0_7, o_0_8, o_0_9, o_1_2, o_1_3, o_1_4, o_1_5, o_1_6, o_1_7, o_1_8, o_1_9, o_1_10, o_1_11, o_1_12, o_1_13, o_1_14, o_3_1, o_5_1, on_nq_5_0, ob_nq_5_0), C_142, S_142) → cl_142 + C_142 ≤ mc → sl_142 + S_142 ≤ ms → J (KxOf p l e { frames := 5, cells := mc, slots := ms, locals := 154 } s m [.ref h0].toArray below meth c D (gT cI cB cJ cS) ((h0, .inr (2, [.ref a_scanner_h0, .ref a_draft_h0, .ref a_waiting_h0, .ref a_functions_h0, .ref (fad 0), .ref (fad fd), .ref a_text_h0, .int mode_h0, .int levels_h0, .int signs_h0, .int loops_h0, .int token_h0, .int fault_h0])) :: ((fad fd), .inr (0, [(frB fad fd), (frA fad fn fd), .int kind_t, .int place_t, .int width_t, .int second_t, .int parts_t, .int innerParts_t, .int innerPlace_t, .int innerWidth_t, .int signs_t, .int waitingBelow_t, .int limited_t, .int targets_t, .int lastBlock_t])) :: (a_scanner_h0, .inr (4, [.ref a_text_a_scanner_h0, .int next_a_scanner_h0, .int kind_a_scanner_h0, .int start_a_scanner_h0, .int width_a_scanner_h0])) :: (a_waiting_h0, .inr (5, [.ref a_cells_a_waiting_h0, .int count_a_waiting_h0])) :: (a_cells_a_waiting_h0, .inl (cI, n_a_cells_a_waiting_h0, .inl b_a_cells_a_waiting_h0)) :: (a_draft_h0, .inr (1, [.ref a_cells_a_draft_h0, .int count_a_draft_h0])) :: (a_cells_a_draft_h0, .inl (cI, n_a_cells_a_draft_h0, .inl b_a_cells_a_draft_h0)) :: fpo fad fn fd fcf) (fun v w => ∃ nad : Nat → Nat, ∃ nq_5_0 : Nat, v = none ∧ w = ((h0, .inr (2, [.ref a_scanner_h0, .ref a_draft_h0, .ref a_waiting_h0, .ref a_functions_h0, .ref (nad 0), .ref (nad od_p), .ref a_text_h0, .int o_0_7, .int o_0_8, .int o_0_9, .int loops_h0, .int token_h0, .int fault_h0])) :: ((nad od_p), .inr (0, [(frB nad od_p), (frA nad on_p od_p), .int o_1_2, .int o_1_3, .int o_1_4, .int o_1_5, .int o_1_6, .int o_1_7, .int o_1_8, .int o_1_9, .int o_1_10, .int o_1_11, .int o_1_12, .int o_1_13, .int o_1_14])) :: (a_scanner_h0, .inr (4, [.ref a_text_a_scanner_h0, .int next_a_scanner_h0, .int kind_a_scanner_h0, .int start_a_scanner_h0, .int width_a_scanner_h0])) :: (a_waiting_h0, .inr (5, [.ref a_cells_a_waiting_h0, .int o_3_1])) :: (a_cells_a_waiting_h0, .inl (cI, n_a_cells_a_waiting_h0, .inl b_a_cells_a_waiting_h0)) :: (a_draft_h0, .inr (1, [.ref nq_5_0, .int o_5_1])) :: (nq_5_0, .inl (cI, on_nq_5_0, .inl ob_nq_5_0)) :: fpo nad on_p od_p ocf_p)) mc ms) prog_6_method_11_code 2 R_Rd 142 [(0, .ref h0)] [] ((h0, .inr (2, [.ref a_scanner_h0, .ref a_draft_h0, .ref a_waiting_h0, .ref a_functions_h0, .ref (a9_142 0), .ref (a9_142 d9_142), .ref a_text_h0, .int f0_7_142, .int levels_h0, .int f0_9_142, .int loops_h0, .int token_h0, .int fault_h0])) :: ((a9_142 d9_142), .inr (0, [(frB a9_142 d9_142), (frA a9_142 n9_142 d9_142), .int f1_2_142, .int f1_3_142, .int f1_4_142, .int f1_5_142, .int f1_6_142, .int f1_7_142, .int f1_8_142, .int f1_9_142, .int f1_10_142, .int f1_11_142, .int f1_12_142, .int f1_13_142, .int f1_14_142])) :: (a_scanner_h0, .inr (4, [.ref a_text_a_scanner_h0, .int next_a_scanner_h0, .int kind_a_scanner_h0, .int start_a_scanner_h0, .int width_a_scanner_h0])) :: (a_waiting_h0, .inr (5, [.ref a_cells_a_waiting_h0, .int count_a_waiting_h0])) :: (a_cells_a_waiting_h0, .inl (cI, n_a_cells_a_waiting_h0, .inl b_a_cells_a_waiting_h0)) :: (a_draft_h0, .inr (1, [.ref a_cells_a_draft_h0, .int count_a_draft_h0])) :: (a_cells_a_draft_h0, .inl (cI, n_a_cells_a_draft_h0, .inl b_a_cells_a_draft_h0)) :: fpo a9_142 n9_142 d9_142 c9_142) cl_142 sl_142 := by
  intro a9_142 n9_142 d9_142 c9_142 f0_7_142 f0_9_142 f1_2_142 f1_3_142 f1_4_142 f1_5_142 f1_6_142 f1_7_142 f1_8_142 f1_9_142 f1_10_142 f1_11_142 f1_12_142 f1_13_142 f1_14_142 cl_142 sl_142 C_142 S_142 h hC hS
  unfold F_Rd_settle_142 at h
  refine j_aload_n d_Rd_settle_142 rfl 0 rfl ?_
  refine j_get ig_Rd rfl 0 rfl 7 (by decide) rfl m_176 rfl d_Rd_settle_143 ?_
  refine j_bipush (v := 42) d_Rd_settle_146 (by decide) ?_
  refine j_icmp_ne (tgt := 178) d_Rd_settle_148 (by decide) (fun c1 => ?_) (fun c1 => ?_)
  · replace h := it_f c1 h
    replace h := lf_s h
    obtain ⟨h, e1, e2⟩ := h
    replace h := Prod.mk.inj h
    obtain ⟨h9, h⟩ := h
    subst h9
    replace h := Prod.mk.inj h
    obtain ⟨h9, h⟩ := h
    subst h9
    replace h := Prod.mk.inj h
    obtain ⟨h9, h⟩ := h
    subst h9
    replace h := Prod.mk.inj h
    obtain ⟨h9, h⟩ := h
    subst h9
    replace h := Prod.mk.inj h
    obtain ⟨h9, h⟩ := h
    subst h9
    replace h := Prod.mk.inj h
    obtain ⟨h9, h⟩ := h
    subst h9
    replace h := Prod.mk.inj h
    obtain ⟨h9, h⟩ := h
    subst h9
    replace h := Prod.mk.inj h
    obtain ⟨h9, h⟩ := h
    subst h9
    replace h := Prod.mk.inj h
    obtain ⟨h9, h⟩ := h
    subst h9
    replace h := Prod.mk.inj h
    obtain ⟨h9, h⟩ := h
    subst h9
    replace h := Prod.mk.inj h
    obtain ⟨h9, h⟩ := h
    subst h9
    replace h := Prod.mk.inj h
    obtain ⟨h9, h⟩ := h
    subst h9
    replace h := Prod.mk.inj h
    obtain ⟨h9, h⟩ := h
    subst h9
    replace h := Prod.mk.inj h
    obtain ⟨h9, h⟩ := h
    subst h9
    replace h := Prod.mk.inj h
    obtain ⟨h9, h⟩ := h
    subst h9
    replace h := Prod.mk.inj h
    obtain ⟨h9, h⟩ := h
    subst h9
    replace h := Prod.mk.inj h
    obtain ⟨h9, h⟩ := h
    subst h9
    replace h := Prod.mk.inj h
    obtain ⟨h9, h⟩ := h
    subst h9
    replace h := Prod.mk.inj h
    obtain ⟨h9, h⟩ := h
    subst h9
    replace h := Prod.mk.inj h
    obtain ⟨h9, h⟩ := h
    subst h9
    replace h := Prod.mk.inj h
    obtain ⟨h9, h⟩ := h
    subst h9
    replace h := Prod.mk.inj h
    obtain ⟨h9, h⟩ := h
    subst h9
    subst h
    refine j_widen (cl' := mc) (sl' := ms) (by omega) (by omega) ?_
    refine j_subP (w := [(h0, .inr (2, [.ref a_scanner_h0, .ref a_draft_h0, .ref a_waiting_h0, .ref a_functions_h0, .ref (a9_142 0), .ref (a9_142 d9_142), .ref a_text_h0, .int f0_7_142, .int levels_h0, .int f0_9_142, .int loops_h0, .int token_h0, .int fault_h0])), ((a9_142 d9_142), .inr (0, [(frB a9_142 d9_142), (frA a9_142 n9_142 d9_142), .int f1_2_142, .int f1_3_142, .int f1_4_142, .int f1_5_142, .int f1_6_142, .int f1_7_142, .int f1_8_142, .int f1_9_142, .int f1_10_142, .int f1_11_142, .int f1_12_142, .int f1_13_142, .int f1_14_142])), (a_scanner_h0, .inr (4, [.ref a_text_a_scanner_h0, .int next_a_scanner_h0, .int kind_a_scanner_h0, .int start_a_scanner_h0, .int width_a_scanner_h0])), (a_waiting_h0, .inr (5, [.ref a_cells_a_waiting_h0, .int count_a_waiting_h0])), (a_cells_a_waiting_h0, .inl (cI, n_a_cells_a_waiting_h0, .inl b_a_cells_a_waiting_h0)), (a_draft_h0, .inr (1, [.ref a_cells_a_draft_h0, .int count_a_draft_h0])), (a_cells_a_draft_h0, .inl (cI, n_a_cells_a_draft_h0, .inl b_a_cells_a_draft_h0))]) (pl := fpo a9_142 n9_142 d9_142 c9_142) (lv' := []) [0, 1, 2, 3, 4, 5, 6] [] 7 rfl rfl (by decide) [] rfl ?_
    exact j_vretE hr d_Rd_settle_178 ⟨a9_142, a_cells_a_draft_h0, rfl, rfl⟩
  · replace h := it_t c1 h
    refine j_aload_n d_Rd_settle_151 rfl 0 rfl ?_
    refine j_get ig_Rd rfl 0 rfl 2 (by decide) rfl m_171 rfl d_Rd_settle_152 ?_
    refine j_iconst (v := 1) d_Rd_settle_155 (by decide) ?_
    replace h := bd_s h
    obtain ⟨r2, k3, h⟩ := h
    refine j_callVg (n := 1) (As := [.int 1]) (rest := []) (wr := ([(h0, .inr (2, [.ref a_scanner_h0, .ref a_draft_h0, .ref a_waiting_h0, .ref a_functions_h0, .ref (a9_142 0), .ref (a9_142 d9_142), .ref a_text_h0, .int f0_7_142, .int levels_h0, .int f0_9_142, .int loops_h0, .int token_h0, .int fault_h0])), ((a9_142 d9_142), .inr (0, [(frB a9_142 d9_142), (frA a9_142 n9_142 d9_142), .int f1_2_142, .int f1_3_142, .int f1_4_142, .int f1_5_142, .int f1_6_142, .int f1_7_142, .int f1_8_142, .int f1_9_142, .int f1_10_142, .int f1_11_142, .int f1_12_142, .int f1_13_142, .int f1_14_142])), (a_scanner_h0, .inr (4, [.ref a_text_a_scanner_h0, .int next_a_scanner_h0, .int kind_a_scanner_h0, .int start_a_scanner_h0, .int width_a_scanner_h0])), (a_draft_h0, .inr (1, [.ref a_cells_a_draft_h0, .int count_a_draft_h0])), (a_cells_a_draft_h0, .inl (cI, n_a_cells_a_draft_h0, .inl b_a_cells_a_draft_h0))] ++ fpo a9_142 n9_142 d9_142 c9_142)) (c_Tk_last l D cI cB cJ cS a_waiting_h0 a_cells_a_waiting_h0 1 count_a_waiting_h0 n_a_cells_a_waiting_h0 b_a_cells_a_waiting_h0  r2 k3) k_Rd_164 (by decide) ⟨Nat.le_of_ble_eq_true rfl, Nat.le_of_ble_eq_true rfl⟩ rfl 0 rfl (pk_mid (wr := [(h0, .inr (2, [.ref a_scanner_h0, .ref a_draft_h0, .ref a_waiting_h0, .ref a_functions_h0, .ref (a9_142 0), .ref (a9_142 d9_142), .ref a_text_h0, .int f0_7_142, .int levels_h0, .int f0_9_142, .int loops_h0, .int token_h0, .int fault_h0])), ((a9_142 d9_142), .inr (0, [(frB a9_142 d9_142), (frA a9_142 n9_142 d9_142), .int f1_2_142, .int f1_3_142, .int f1_4_142, .int f1_5_142, .int f1_6_142, .int f1_7_142, .int f1_8_142, .int f1_9_142, .int f1_10_142, .int f1_11_142, .int f1_12_142, .int f1_13_142, .int f1_14_142])), (a_scanner_h0, .inr (4, [.ref a_text_a_scanner_h0, .int next_a_scanner_h0, .int kind_a_scanner_h0, .int start_a_scanner_h0, .int width_a_scanner_h0])), (a_draft_h0, .inr (1, [.ref a_cells_a_draft_h0, .int count_a_draft_h0])), (a_cells_a_draft_h0, .inl (cI, n_a_cells_a_draft_h0, .inl b_a_cells_a_draft_h0))]) (w0 := [(a_waiting_h0, .inr (5, [.ref a_cells_a_waiting_h0, .int count_a_waiting_h0])), (a_cells_a_waiting_h0, .inl (cI, n_a_cells_a_waiting_h0, .inl b_a_cells_a_waiting_h0))]) (pl := fpo a9_142 n9_142 d9_142 c9_142) [0, 1, 2, 5, 6, 3, 4] 7 rfl rfl (by decide)) rfl rfl (Nat.le_of_ble_eq_true rfl) d_Rd_settle_156 ⟨show cl_142 + 0 ≤ mc by omega, show sl_142 + 0 ≤ ms by omega⟩ (fun v w hq => ?_)
    obtain ⟨rfl, rfl⟩ := hq
    refine j_perm (ws' := ((h0, .inr (2, [.ref a_scanner_h0, .ref a_draft_h0, .ref a_waiting_h0, .ref a_functions_h0, .ref (a9_142 0), .ref (a9_142 d9_142), .ref a_text_h0, .int f0_7_142, .int levels_h0, .int f0_9_142, .int loops_h0, .int token_h0, .int fault_h0])) :: ((a9_142 d9_142), .inr (0, [(frB a9_142 d9_142), (frA a9_142 n9_142 d9_142), .int f1_2_142, .int f1_3_142, .int f1_4_142, .int f1_5_142, .int f1_6_142, .int f1_7_142, .int f1_8_142, .int f1_9_142, .int f1_10_142, .int f1_11_142, .int f1_12_142, .int f1_13_142, .int f1_14_142])) :: (a_scanner_h0, .inr (4, [.ref a_text_a_scanner_h0, .int next_a_scanner_h0, .int kind_a_scanner_h0, .int start_a_scanner_h0, .int width_a_scanner_h0])) :: (a_draft_h0, .inr (1, [.ref a_cells_a_draft_h0, .int count_a_draft_h0])) :: (a_cells_a_draft_h0, .inl (cI, n_a_cells_a_draft_h0, .inl b_a_cells_a_draft_h0)) :: (a_waiting_h0, .inr (5, [.ref a_cells_a_waiting_h0, .int count_a_waiting_h0])) :: (a_cells_a_waiting_h0, .inl (cI, n_a_cells_a_waiting_h0, .inl b_a_cells_a_waiting_h0)) :: fpo a9_142 n9_142 d9_142 c9_142)) (pm_eq (a := [(h0, .inr (2, [.ref a_scanner_h0, .ref a_draft_h0, .ref a_waiting_h0, .ref a_functions_h0, .ref (a9_142 0), .ref (a9_142 d9_142), .ref a_text_h0, .int f0_7_142, .int levels_h0, .int f0_9_142, .int loops_h0, .int token_h0, .int fault_h0])), ((a9_142 d9_142), .inr (0, [(frB a9_142 d9_142), (frA a9_142 n9_142 d9_142), .int f1_2_142, .int f1_3_142, .int f1_4_142, .int f1_5_142, .int f1_6_142, .int f1_7_142, .int f1_8_142, .int f1_9_142, .int f1_10_142, .int f1_11_142, .int f1_12_142, .int f1_13_142, .int f1_14_142])), (a_scanner_h0, .inr (4, [.ref a_text_a_scanner_h0, .int next_a_scanner_h0, .int kind_a_scanner_h0, .int start_a_scanner_h0, .int width_a_scanner_h0])), (a_draft_h0, .inr (1, [.ref a_cells_a_draft_h0, .int count_a_draft_h0])), (a_cells_a_draft_h0, .inl (cI, n_a_cells_a_draft_h0, .inl b_a_cells_a_draft_h0))]) (b := fpo a9_142 n9_142 d9_142 c9_142) (c := [(a_waiting_h0, .inr (5, [.ref a_cells_a_waiting_h0, .int count_a_waiting_h0])), (a_cells_a_waiting_h0, .inl (cI, n_a_cells_a_waiting_h0, .inl b_a_cells_a_waiting_h0))]) rfl) ?_
    refine j_norm (pc' := 159) (st' := [.int r2]) (ws' := ((h0, .inr (2, [.ref a_scanner_h0, .ref a_draft_h0, .ref a_waiting_h0, .ref a_functions_h0, .ref (a9_142 0), .ref (a9_142 d9_142), .ref a_text_h0, .int f0_7_142, .int levels_h0, .int f0_9_142, .int loops_h0, .int token_h0, .int fault_h0])) :: ((a9_142 d9_142), .inr (0, [(frB a9_142 d9_142), (frA a9_142 n9_142 d9_142), .int f1_2_142, .int f1_3_142, .int f1_4_142, .int f1_5_142, .int f1_6_142, .int f1_7_142, .int f1_8_142, .int f1_9_142, .int f1_10_142, .int f1_11_142, .int f1_12_142, .int f1_13_142, .int f1_14_142])) :: (a_scanner_h0, .inr (4, [.ref a_text_a_scanner_h0, .int next_a_scanner_h0, .int kind_a_scanner_h0, .int start_a_scanner_h0, .int width_a_scanner_h0])) :: (a_draft_h0, .inr (1, [.ref a_cells_a_draft_h0, .int count_a_draft_h0])) :: (a_cells_a_draft_h0, .inl (cI, n_a_cells_a_draft_h0, .inl b_a_cells_a_draft_h0)) :: (a_waiting_h0, .inr (5, [.ref a_cells_a_waiting_h0, .int count_a_waiting_h0])) :: (a_cells_a_waiting_h0, .inl (cI, n_a_cells_a_waiting_h0, .inl b_a_cells_a_waiting_h0)) :: fpo a9_142 n9_142 d9_142 c9_142)) (cl' := cl_142) (sl' := sl_142) rfl rfl rfl rfl rfl rfl ?_
    refine j_istore_n (lv' := [(1, .int r2), (0, .ref h0)]) d_Rd_settle_159 rfl (by decide) rfl ?_
    refine j_aload_n d_Rd_settle_160 rfl 1 rfl ?_
    refine j_get ig_Rd rfl 0 rfl 2 (by decide) rfl m_171 rfl d_Rd_settle_161 ?_
    obtain ⟨r4, k5⟩ : ∃ z, (F_Tk_dropLast count_a_waiting_h0) = z := ⟨_, rfl⟩
    replace h := nm_at k5 h
    refine j_callVg (n := 0) (As := []) (rest := []) (wr := ([(h0, .inr (2, [.ref a_scanner_h0, .ref a_draft_h0, .ref a_waiting_h0, .ref a_functions_h0, .ref (a9_142 0), .ref (a9_142 d9_142), .ref a_text_h0, .int f0_7_142, .int levels_h0, .int f0_9_142, .int loops_h0, .int token_h0, .int fault_h0])), ((a9_142 d9_142), .inr (0, [(frB a9_142 d9_142), (frA a9_142 n9_142 d9_142), .int f1_2_142, .int f1_3_142, .int f1_4_142, .int f1_5_142, .int f1_6_142, .int f1_7_142, .int f1_8_142, .int f1_9_142, .int f1_10_142, .int f1_11_142, .int f1_12_142, .int f1_13_142, .int f1_14_142])), (a_scanner_h0, .inr (4, [.ref a_text_a_scanner_h0, .int next_a_scanner_h0, .int kind_a_scanner_h0, .int start_a_scanner_h0, .int width_a_scanner_h0])), (a_draft_h0, .inr (1, [.ref a_cells_a_draft_h0, .int count_a_draft_h0])), (a_cells_a_draft_h0, .inl (cI, n_a_cells_a_draft_h0, .inl b_a_cells_a_draft_h0)), (a_cells_a_waiting_h0, .inl (cI, n_a_cells_a_waiting_h0, .inl b_a_cells_a_waiting_h0))] ++ fpo a9_142 n9_142 d9_142 c9_142)) (c_Tk_dropLast l D cI cB cJ cS a_waiting_h0 a_cells_a_waiting_h0 count_a_waiting_h0  r4 k5) k_Rd_168 (by decide) ⟨Nat.le_of_ble_eq_true rfl, Nat.le_of_ble_eq_true rfl⟩ rfl 0 rfl (pk_mid (wr := [(h0, .inr (2, [.ref a_scanner_h0, .ref a_draft_h0, .ref a_waiting_h0, .ref a_functions_h0, .ref (a9_142 0), .ref (a9_142 d9_142), .ref a_text_h0, .int f0_7_142, .int levels_h0, .int f0_9_142, .int loops_h0, .int token_h0, .int fault_h0])), ((a9_142 d9_142), .inr (0, [(frB a9_142 d9_142), (frA a9_142 n9_142 d9_142), .int f1_2_142, .int f1_3_142, .int f1_4_142, .int f1_5_142, .int f1_6_142, .int f1_7_142, .int f1_8_142, .int f1_9_142, .int f1_10_142, .int f1_11_142, .int f1_12_142, .int f1_13_142, .int f1_14_142])), (a_scanner_h0, .inr (4, [.ref a_text_a_scanner_h0, .int next_a_scanner_h0, .int kind_a_scanner_h0, .int start_a_scanner_h0, .int width_a_scanner_h0])), (a_draft_h0, .inr (1, [.ref a_cells_a_draft_h0, .int count_a_draft_h0])), (a_cells_a_draft_h0, .inl (cI, n_a_cells_a_draft_h0, .inl b_a_cells_a_draft_h0)), (a_cells_a_waiting_h0, .inl (cI, n_a_cells_a_waiting_h0, .inl b_a_cells_a_waiting_h0))]) (w0 := [(a_waiting_h0, .inr (5, [.ref a_cells_a_waiting_h0, .int count_a_waiting_h0]))]) (pl := fpo a9_142 n9_142 d9_142 c9_142) [0, 1, 2, 3, 4, 6, 5] 7 rfl rfl (by decide)) rfl rfl (Nat.le_of_ble_eq_true rfl) d_Rd_settle_164 ⟨show cl_142 + 0 ≤ mc by omega, show sl_142 + 0 ≤ ms by omega⟩ (fun v w hq => ?_)
    obtain ⟨rfl, rfl⟩ := hq
    refine j_perm (ws' := ((h0, .inr (2, [.ref a_scanner_h0, .ref a_draft_h0, .ref a_waiting_h0, .ref a_functions_h0, .ref (a9_142 0), .ref (a9_142 d9_142), .ref a_text_h0, .int f0_7_142, .int levels_h0, .int f0_9_142, .int loops_h0, .int token_h0, .int fault_h0])) :: ((a9_142 d9_142), .inr (0, [(frB a9_142 d9_142), (frA a9_142 n9_142 d9_142), .int f1_2_142, .int f1_3_142, .int f1_4_142, .int f1_5_142, .int f1_6_142, .int f1_7_142, .int f1_8_142, .int f1_9_142, .int f1_10_142, .int f1_11_142, .int f1_12_142, .int f1_13_142, .int f1_14_142])) :: (a_scanner_h0, .inr (4, [.ref a_text_a_scanner_h0, .int next_a_scanner_h0, .int kind_a_scanner_h0, .int start_a_scanner_h0, .int width_a_scanner_h0])) :: (a_draft_h0, .inr (1, [.ref a_cells_a_draft_h0, .int count_a_draft_h0])) :: (a_cells_a_draft_h0, .inl (cI, n_a_cells_a_draft_h0, .inl b_a_cells_a_draft_h0)) :: (a_cells_a_waiting_h0, .inl (cI, n_a_cells_a_waiting_h0, .inl b_a_cells_a_waiting_h0)) :: (a_waiting_h0, .inr (5, [.ref a_cells_a_waiting_h0, .int r4])) :: fpo a9_142 n9_142 d9_142 c9_142)) (pm_eq (a := [(h0, .inr (2, [.ref a_scanner_h0, .ref a_draft_h0, .ref a_waiting_h0, .ref a_functions_h0, .ref (a9_142 0), .ref (a9_142 d9_142), .ref a_text_h0, .int f0_7_142, .int levels_h0, .int f0_9_142, .int loops_h0, .int token_h0, .int fault_h0])), ((a9_142 d9_142), .inr (0, [(frB a9_142 d9_142), (frA a9_142 n9_142 d9_142), .int f1_2_142, .int f1_3_142, .int f1_4_142, .int f1_5_142, .int f1_6_142, .int f1_7_142, .int f1_8_142, .int f1_9_142, .int f1_10_142, .int f1_11_142, .int f1_12_142, .int f1_13_142, .int f1_14_142])), (a_scanner_h0, .inr (4, [.ref a_text_a_scanner_h0, .int next_a_scanner_h0, .int kind_a_scanner_h0, .int start_a_scanner_h0, .int width_a_scanner_h0])), (a_draft_h0, .inr (1, [.ref a_cells_a_draft_h0, .int count_a_draft_h0])), (a_cells_a_draft_h0, .inl (cI, n_a_cells_a_draft_h0, .inl b_a_cells_a_draft_h0)), (a_cells_a_waiting_h0, .inl (cI, n_a_cells_a_waiting_h0, .inl b_a_cells_a_waiting_h0))]) (b := fpo a9_142 n9_142 d9_142 c9_142) (c := [(a_waiting_h0, .inr (5, [.ref a_cells_a_waiting_h0, .int r4]))]) rfl) ?_
    refine j_norm (pc' := 167) (st' := []) (ws' := ((h0, .inr (2, [.ref a_scanner_h0, .ref a_draft_h0, .ref a_waiting_h0, .ref a_functions_h0, .ref (a9_142 0), .ref (a9_142 d9_142), .ref a_text_h0, .int f0_7_142, .int levels_h0, .int f0_9_142, .int loops_h0, .int token_h0, .int fault_h0])) :: ((a9_142 d9_142), .inr (0, [(frB a9_142 d9_142), (frA a9_142 n9_142 d9_142), .int f1_2_142, .int f1_3_142, .int f1_4_142, .int f1_5_142, .int f1_6_142, .int f1_7_142, .int f1_8_142, .int f1_9_142, .int f1_10_142, .int f1_11_142, .int f1_12_142, .int f1_13_142, .int f1_14_142])) :: (a_scanner_h0, .inr (4, [.ref a_text_a_scanner_h0, .int next_a_scanner_h0, .int kind_a_scanner_h0, .int start_a_scanner_h0, .int width_a_scanner_h0])) :: (a_draft_h0, .inr (1, [.ref a_cells_a_draft_h0, .int count_a_draft_h0])) :: (a_cells_a_draft_h0, .inl (cI, n_a_cells_a_draft_h0, .inl b_a_cells_a_draft_h0)) :: (a_cells_a_waiting_h0, .inl (cI, n_a_cells_a_waiting_h0, .inl b_a_cells_a_waiting_h0)) :: (a_waiting_h0, .inr (5, [.ref a_cells_a_waiting_h0, .int r4])) :: fpo a9_142 n9_142 d9_142 c9_142)) (cl' := cl_142) (sl' := sl_142) rfl rfl rfl rfl rfl rfl ?_
    refine j_aload_n d_Rd_settle_167 rfl 1 rfl ?_
    refine j_callVg (n := 0) (As := []) (rest := []) (wr := ([((a9_142 d9_142), .inr (0, [(frB a9_142 d9_142), (frA a9_142 n9_142 d9_142), .int f1_2_142, .int f1_3_142, .int f1_4_142, .int f1_5_142, .int f1_6_142, .int f1_7_142, .int f1_8_142, .int f1_9_142, .int f1_10_142, .int f1_11_142, .int f1_12_142, .int f1_13_142, .int f1_14_142])), (a_scanner_h0, .inr (4, [.ref a_text_a_scanner_h0, .int next_a_scanner_h0, .int kind_a_scanner_h0, .int start_a_scanner_h0, .int width_a_scanner_h0])), (a_draft_h0, .inr (1, [.ref a_cells_a_draft_h0, .int count_a_draft_h0])), (a_cells_a_draft_h0, .inl (cI, n_a_cells_a_draft_h0, .inl b_a_cells_a_draft_h0)), (a_cells_a_waiting_h0, .inl (cI, n_a_cells_a_waiting_h0, .inl b_a_cells_a_waiting_h0)), (a_waiting_h0, .inr (5, [.ref a_cells_a_waiting_h0, .int r4]))] ++ fpo a9_142 n9_142 d9_142 c9_142)) (c_Rd_endItem l D cI cB cJ cS h0 a_scanner_h0 a_draft_h0 a_waiting_h0 a_functions_h0 (a9_142 0) (a9_142 d9_142) a_text_h0 f0_7_142 levels_h0 f0_9_142 loops_h0 token_h0 fault_h0  ) k_Rd_157 (by decide) ⟨Nat.le_of_ble_eq_true rfl, Nat.le_of_ble_eq_true rfl⟩ rfl 0 rfl (pk_mid (wr := [((a9_142 d9_142), .inr (0, [(frB a9_142 d9_142), (frA a9_142 n9_142 d9_142), .int f1_2_142, .int f1_3_142, .int f1_4_142, .int f1_5_142, .int f1_6_142, .int f1_7_142, .int f1_8_142, .int f1_9_142, .int f1_10_142, .int f1_11_142, .int f1_12_142, .int f1_13_142, .int f1_14_142])), (a_scanner_h0, .inr (4, [.ref a_text_a_scanner_h0, .int next_a_scanner_h0, .int kind_a_scanner_h0, .int start_a_scanner_h0, .int width_a_scanner_h0])), (a_draft_h0, .inr (1, [.ref a_cells_a_draft_h0, .int count_a_draft_h0])), (a_cells_a_draft_h0, .inl (cI, n_a_cells_a_draft_h0, .inl b_a_cells_a_draft_h0)), (a_cells_a_waiting_h0, .inl (cI, n_a_cells_a_waiting_h0, .inl b_a_cells_a_waiting_h0)), (a_waiting_h0, .inr (5, [.ref a_cells_a_waiting_h0, .int r4]))]) (w0 := [(h0, .inr (2, [.ref a_scanner_h0, .ref a_draft_h0, .ref a_waiting_h0, .ref a_functions_h0, .ref (a9_142 0), .ref (a9_142 d9_142), .ref a_text_h0, .int f0_7_142, .int levels_h0, .int f0_9_142, .int loops_h0, .int token_h0, .int fault_h0]))]) (pl := fpo a9_142 n9_142 d9_142 c9_142) [1, 2, 3, 4, 5, 6, 0] 7 rfl rfl (by decide)) rfl rfl (Nat.le_of_ble_eq_true rfl) d_Rd_settle_168 ⟨show cl_142 + 0 ≤ mc by omega, show sl_142 + 0 ≤ ms by omega⟩ (fun v w hq => ?_)
    obtain ⟨rfl, _, rfl⟩ := hq
    refine j_perm (ws' := (((a9_142 d9_142), .inr (0, [(frB a9_142 d9_142), (frA a9_142 n9_142 d9_142), .int f1_2_142, .int f1_3_142, .int f1_4_142, .int f1_5_142, .int f1_6_142, .int f1_7_142, .int f1_8_142, .int f1_9_142, .int f1_10_142, .int f1_11_142, .int f1_12_142, .int f1_13_142, .int f1_14_142])) :: (a_scanner_h0, .inr (4, [.ref a_text_a_scanner_h0, .int next_a_scanner_h0, .int kind_a_scanner_h0, .int start_a_scanner_h0, .int width_a_scanner_h0])) :: (a_draft_h0, .inr (1, [.ref a_cells_a_draft_h0, .int count_a_draft_h0])) :: (a_cells_a_draft_h0, .inl (cI, n_a_cells_a_draft_h0, .inl b_a_cells_a_draft_h0)) :: (a_cells_a_waiting_h0, .inl (cI, n_a_cells_a_waiting_h0, .inl b_a_cells_a_waiting_h0)) :: (a_waiting_h0, .inr (5, [.ref a_cells_a_waiting_h0, .int r4])) :: (h0, .inr (2, [.ref a_scanner_h0, .ref a_draft_h0, .ref a_waiting_h0, .ref a_functions_h0, .ref (a9_142 0), .ref (a9_142 d9_142), .ref a_text_h0, .int 34, .int (levels_h0 - f0_9_142), .int 0, .int loops_h0, .int token_h0, .int fault_h0])) :: fpo a9_142 n9_142 d9_142 c9_142)) (pm_eq (a := [((a9_142 d9_142), .inr (0, [(frB a9_142 d9_142), (frA a9_142 n9_142 d9_142), .int f1_2_142, .int f1_3_142, .int f1_4_142, .int f1_5_142, .int f1_6_142, .int f1_7_142, .int f1_8_142, .int f1_9_142, .int f1_10_142, .int f1_11_142, .int f1_12_142, .int f1_13_142, .int f1_14_142])), (a_scanner_h0, .inr (4, [.ref a_text_a_scanner_h0, .int next_a_scanner_h0, .int kind_a_scanner_h0, .int start_a_scanner_h0, .int width_a_scanner_h0])), (a_draft_h0, .inr (1, [.ref a_cells_a_draft_h0, .int count_a_draft_h0])), (a_cells_a_draft_h0, .inl (cI, n_a_cells_a_draft_h0, .inl b_a_cells_a_draft_h0)), (a_cells_a_waiting_h0, .inl (cI, n_a_cells_a_waiting_h0, .inl b_a_cells_a_waiting_h0)), (a_waiting_h0, .inr (5, [.ref a_cells_a_waiting_h0, .int r4]))]) (b := fpo a9_142 n9_142 d9_142 c9_142) (c := [(h0, .inr (2, [.ref a_scanner_h0, .ref a_draft_h0, .ref a_waiting_h0, .ref a_functions_h0, .ref (a9_142 0), .ref (a9_142 d9_142), .ref a_text_h0, .int 34, .int (levels_h0 - f0_9_142), .int 0, .int loops_h0, .int token_h0, .int fault_h0]))]) rfl) ?_
    refine j_norm (pc' := 171) (st' := [.int 1]) (ws' := (((a9_142 d9_142), .inr (0, [(frB a9_142 d9_142), (frA a9_142 n9_142 d9_142), .int f1_2_142, .int f1_3_142, .int f1_4_142, .int f1_5_142, .int f1_6_142, .int f1_7_142, .int f1_8_142, .int f1_9_142, .int f1_10_142, .int f1_11_142, .int f1_12_142, .int f1_13_142, .int f1_14_142])) :: (a_scanner_h0, .inr (4, [.ref a_text_a_scanner_h0, .int next_a_scanner_h0, .int kind_a_scanner_h0, .int start_a_scanner_h0, .int width_a_scanner_h0])) :: (a_draft_h0, .inr (1, [.ref a_cells_a_draft_h0, .int count_a_draft_h0])) :: (a_cells_a_draft_h0, .inl (cI, n_a_cells_a_draft_h0, .inl b_a_cells_a_draft_h0)) :: (a_cells_a_waiting_h0, .inl (cI, n_a_cells_a_waiting_h0, .inl b_a_cells_a_waiting_h0)) :: (a_waiting_h0, .inr (5, [.ref a_cells_a_waiting_h0, .int r4])) :: (h0, .inr (2, [.ref a_scanner_h0, .ref a_draft_h0, .ref a_waiting_h0, .ref a_functions_h0, .ref (a9_142 0), .ref (a9_142 d9_142), .ref a_text_h0, .int 34, .int (levels_h0 - f0_9_142), .int 0, .int loops_h0, .int token_h0, .int fault_h0])) :: fpo a9_142 n9_142 d9_142 c9_142)) (cl' := cl_142) (sl' := sl_142) rfl rfl rfl rfl rfl rfl ?_
    refine j_pop rfl d_Rd_settle_171 ?_
    refine j_aload_n d_Rd_settle_172 rfl 1 rfl ?_
    refine j_iload_n d_Rd_settle_173 rfl 0 rfl ?_
    replace h := bw_s h
    obtain ⟨⟨r7, r8, r9, r10, r11, r12, r13, r14, r15, r16, r17, r18, r19, r20, r21, r22⟩, C25, S26, C27, S28, k29, h, e1, e2⟩ := h
    replace hC : cl_142 + C25 + C27 ≤ mc := by omega
    replace hS : sl_142 + S26 + S28 ≤ ms := by omega
    clear e1 e2
    refine j_callVg (n := 1) (As := [.int r2]) (rest := []) (wr := [(a_scanner_h0, .inr (4, [.ref a_text_a_scanner_h0, .int next_a_scanner_h0, .int kind_a_scanner_h0, .int start_a_scanner_h0, .int width_a_scanner_h0])), (a_cells_a_waiting_h0, .inl (cI, n_a_cells_a_waiting_h0, .inl b_a_cells_a_waiting_h0)), (a_waiting_h0, .inr (5, [.ref a_cells_a_waiting_h0, .int r4]))]) (c_Rd_becomeTargets l D cI cB cJ cS h0 a9_142 a_scanner_h0 a_draft_h0 a_waiting_h0 a_functions_h0 a_text_h0 a_cells_a_draft_h0 r2 n9_142 d9_142 c9_142 34 (levels_h0 - f0_9_142) 0 loops_h0 token_h0 fault_h0 f1_2_142 f1_3_142 f1_4_142 f1_5_142 f1_6_142 f1_7_142 f1_8_142 f1_9_142 f1_10_142 f1_11_142 f1_12_142 f1_13_142 f1_14_142 count_a_draft_h0 n_a_cells_a_draft_h0 b_a_cells_a_draft_h0  r7 r8 r9 r10 r11 r12 r13 r14 r15 r16 r17 r18 r19 r20 r21 r22 C25 S26 k29) k_Rd_171 (by decide) ⟨Nat.le_of_ble_eq_true rfl, Nat.le_of_ble_eq_true rfl⟩ rfl 0 rfl (pk_app (wr := [(a_scanner_h0, .inr (4, [.ref a_text_a_scanner_h0, .int next_a_scanner_h0, .int kind_a_scanner_h0, .int start_a_scanner_h0, .int width_a_scanner_h0])), (a_cells_a_waiting_h0, .inl (cI, n_a_cells_a_waiting_h0, .inl b_a_cells_a_waiting_h0)), (a_waiting_h0, .inr (5, [.ref a_cells_a_waiting_h0, .int r4]))]) (w0 := [(h0, .inr (2, [.ref a_scanner_h0, .ref a_draft_h0, .ref a_waiting_h0, .ref a_functions_h0, .ref (a9_142 0), .ref (a9_142 d9_142), .ref a_text_h0, .int 34, .int (levels_h0 - f0_9_142), .int 0, .int loops_h0, .int token_h0, .int fault_h0])), ((a9_142 d9_142), .inr (0, [(frB a9_142 d9_142), (frA a9_142 n9_142 d9_142), .int f1_2_142, .int f1_3_142, .int f1_4_142, .int f1_5_142, .int f1_6_142, .int f1_7_142, .int f1_8_142, .int f1_9_142, .int f1_10_142, .int f1_11_142, .int f1_12_142, .int f1_13_142, .int f1_14_142])), (a_draft_h0, .inr (1, [.ref a_cells_a_draft_h0, .int count_a_draft_h0])), (a_cells_a_draft_h0, .inl (cI, n_a_cells_a_draft_h0, .inl b_a_cells_a_draft_h0))]) (pl := fpo a9_142 n9_142 d9_142 c9_142) [1, 4, 5, 6, 0, 2, 3] 7 rfl rfl rfl (by decide)) rfl rfl (Nat.le_of_ble_eq_true rfl) d_Rd_settle_174 ⟨show cl_142 + C25 ≤ mc by omega, show sl_142 + S26 ≤ ms by omega⟩ (fun v w hq => ?_)
    obtain ⟨a23, q24, rfl, _, rfl⟩ := hq
    refine j_norm (pc' := 177) (st' := [.int 1]) (ws' := ((a_scanner_h0, .inr (4, [.ref a_text_a_scanner_h0, .int next_a_scanner_h0, .int kind_a_scanner_h0, .int start_a_scanner_h0, .int width_a_scanner_h0])) :: (a_cells_a_waiting_h0, .inl (cI, n_a_cells_a_waiting_h0, .inl b_a_cells_a_waiting_h0)) :: (a_waiting_h0, .inr (5, [.ref a_cells_a_waiting_h0, .int r4])) :: (h0, .inr (2, [.ref a_scanner_h0, .ref a_draft_h0, .ref a_waiting_h0, .ref a_functions_h0, .ref (a23 0), .ref (a23 r8), .ref a_text_h0, .int 21, .int (levels_h0 - f0_9_142), .int f1_10_142, .int loops_h0, .int token_h0, .int fault_h0])) :: ((a23 r8), .inr (0, [(frB a23 r8), (frA a23 r7 r8), .int 10, .int r10, .int r11, .int f1_3_142, .int r12, .int (f1_7_142 + 1), .int r13, .int r14, .int r15, .int r16, .int r17, .int r18, .int r19])) :: (a_draft_h0, .inr (1, [.ref q24, .int r20])) :: (q24, .inl (cI, r21, .inl r22)) :: fpo a23 r7 r8 r9)) (cl' := cl_142 + C25) (sl' := sl_142 + S26) rfl rfl rfl rfl rfl rfl ?_
    refine j_pop rfl d_Rd_settle_177 ?_
    replace h := lf_s h
    obtain ⟨h, e1, e2⟩ := h
    replace h := Prod.mk.inj h
    obtain ⟨h9, h⟩ := h
    subst h9
    replace h := Prod.mk.inj h
    obtain ⟨h9, h⟩ := h
    subst h9
    replace h := Prod.mk.inj h
    obtain ⟨h9, h⟩ := h
    subst h9
    replace h := Prod.mk.inj h
    obtain ⟨h9, h⟩ := h
    subst h9
    replace h := Prod.mk.inj h
    obtain ⟨h9, h⟩ := h
    subst h9
    replace h := Prod.mk.inj h
    obtain ⟨h9, h⟩ := h
    subst h9
    replace h := Prod.mk.inj h
    obtain ⟨h9, h⟩ := h
    subst h9
    replace h := Prod.mk.inj h
    obtain ⟨h9, h⟩ := h
    subst h9
    replace h := Prod.mk.inj h
    obtain ⟨h9, h⟩ := h
    subst h9
    replace h := Prod.mk.inj h
    obtain ⟨h9, h⟩ := h
    subst h9
    replace h := Prod.mk.inj h
    obtain ⟨h9, h⟩ := h
    subst h9
    replace h := Prod.mk.inj h
    obtain ⟨h9, h⟩ := h
    subst h9
    replace h := Prod.mk.inj h
    obtain ⟨h9, h⟩ := h
    subst h9
    replace h := Prod.mk.inj h
    obtain ⟨h9, h⟩ := h
    subst h9
    replace h := Prod.mk.inj h
    obtain ⟨h9, h⟩ := h
    subst h9
    replace h := Prod.mk.inj h
    obtain ⟨h9, h⟩ := h
    subst h9
    replace h := Prod.mk.inj h
    obtain ⟨h9, h⟩ := h
    subst h9
    replace h := Prod.mk.inj h
    obtain ⟨h9, h⟩ := h
    subst h9
    replace h := Prod.mk.inj h
    obtain ⟨h9, h⟩ := h
    subst h9
    replace h := Prod.mk.inj h
    obtain ⟨h9, h⟩ := h
    subst h9
    replace h := Prod.mk.inj h
    obtain ⟨h9, h⟩ := h
    subst h9
    replace h := Prod.mk.inj h
    obtain ⟨h9, h⟩ := h
    subst h9
    subst h
    refine j_widen (cl' := mc) (sl' := ms) (by omega) (by omega) ?_
    refine j_subP (w := [(h0, .inr (2, [.ref a_scanner_h0, .ref a_draft_h0, .ref a_waiting_h0, .ref a_functions_h0, .ref (a23 0), .ref (a23 r8), .ref a_text_h0, .int 21, .int (levels_h0 - f0_9_142), .int f1_10_142, .int loops_h0, .int token_h0, .int fault_h0])), ((a23 r8), .inr (0, [(frB a23 r8), (frA a23 r7 r8), .int 10, .int r10, .int r11, .int f1_3_142, .int r12, .int (f1_7_142 + 1), .int r13, .int r14, .int r15, .int r16, .int r17, .int r18, .int r19])), (a_scanner_h0, .inr (4, [.ref a_text_a_scanner_h0, .int next_a_scanner_h0, .int kind_a_scanner_h0, .int start_a_scanner_h0, .int width_a_scanner_h0])), (a_waiting_h0, .inr (5, [.ref a_cells_a_waiting_h0, .int r4])), (a_cells_a_waiting_h0, .inl (cI, n_a_cells_a_waiting_h0, .inl b_a_cells_a_waiting_h0)), (a_draft_h0, .inr (1, [.ref q24, .int r20])), (q24, .inl (cI, r21, .inl r22))]) (pl := fpo a23 r7 r8 r9) (lv' := []) [3, 4, 0, 2, 1, 5, 6] [] 7 rfl rfl (by decide) [] rfl ?_
    exact j_vretE hr d_Rd_settle_178 ⟨a23, q24, rfl, rfl⟩
set_option maxHeartbeats 4000000 in
set_option maxRecDepth 100000 in
theorem L_Rd_settle_98 (l : Launch) (D : va_G) (cI cB cJ cS : ClassId) (h0 : Nat) (fad : Nat → Nat) (a_scanner_h0 : Nat) (a_draft_h0 : Nat) (a_waiting_h0 : Nat) (a_functions_h0 : Nat) (a_text_h0 : Nat) (a_text_a_scanner_h0 : Nat) (a_cells_a_waiting_h0 : Nat) (a_cells_a_draft_h0 : Nat) (fn : Nat) (fd : Nat) (fcf : Nat → FrC) (mode_h0 : Int32) (levels_h0 : Int32) (signs_h0 : Int32) (loops_h0 : Int32) (token_h0 : Int32) (fault_h0 : Int32) (kind_t : Int32) (place_t : Int32) (width_t : Int32) (second_t : Int32) (parts_t : Int32) (innerParts_t : Int32) (innerPlace_t : Int32) (innerWidth_t : Int32) (signs_t : Int32) (waitingBelow_t : Int32) (limited_t : Int32) (targets_t : Int32) (lastBlock_t : Int32) (next_a_scanner_h0 : Int32) (kind_a_scanner_h0 : Int32) (start_a_scanner_h0 : Int32) (width_a_scanner_h0 : Int32) (count_a_waiting_h0 : Int32) (n_a_cells_a_waiting_h0 : Nat) (b_a_cells_a_waiting_h0 : Nat → Int32) (count_a_draft_h0 : Int32) (n_a_cells_a_draft_h0 : Nat) (b_a_cells_a_draft_h0 : Nat → Int32) (on_p : Nat) (od_p : Nat) (ocf_p : Nat → FrC) (o_0_7 : Int32) (o_0_8 : Int32) (o_0_9 : Int32) (o_1_2 : Int32) (o_1_3 : Int32) (o_1_4 : Int32) (o_1_5 : Int32) (o_1_6 : Int32) (o_1_7 : Int32) (o_1_8 : Int32) (o_1_9 : Int32) (o_1_10 : Int32) (o_1_11 : Int32) (o_1_12 : Int32) (o_1_13 : Int32) (o_1_14 : Int32) (o_3_1 : Int32) (o_5_1 : Int32) (on_nq_5_0 : Nat) (ob_nq_5_0 : Nat → Int32) (mc ms : Nat) (p : Program) (e : Env) (s : State) (m : MethodId) (below : List Frame) (meth : Method) (c : Code) (hr : meth.sig.returnType = (Option.none : Option Jvm.ClassFile.FieldType)) (hnm : meth.name = y_Rd_settle.name) : ∀ (a9_98 : Nat → Nat) (n9_98 : Nat) (d9_98 : Nat) (c9_98 : Nat → FrC) (f0_7_98 : Int32) (f0_9_98 : Int32) (f1_2_98 : Int32) (f1_3_98 : Int32) (f1_4_98 : Int32) (f1_5_98 : Int32) (f1_6_98 : Int32) (f1_7_98 : Int32) (f1_8_98 : Int32) (f1_9_98 : Int32) (f1_10_98 : Int32) (f1_11_98 : Int32) (f1_12_98 : Int32) (f1_13_98 : Int32) (f1_14_98 : Int32) (cl_98 sl_98 C_98 S_98 : Nat), F_Rd_settle_98 levels_h0 loops_h0 token_h0 fault_h0 count_a_waiting_h0 n_a_cells_a_waiting_h0 b_a_cells_a_waiting_h0 count_a_draft_h0 n_a_cells_a_draft_h0 b_a_cells_a_draft_h0   n9_98 d9_98 c9_98 f0_7_98 f0_9_98 f1_2_98 f1_3_98 f1_4_98 f1_5_98 f1_6_98 f1_7_98 f1_8_98 f1_9_98 f1_10_98 f1_11_98 f1_12_98 f1_13_98 f1_14_98 = some ((on_p, od_p, ocf_p, o_0_7, o_0_8, o_0_9, o_1_2, o_1_3, o_1_4, o_1_5, o_1_6, o_1_7, o_1_8, o_1_9, o_1_10, o_1_11, o_1_12, o_1_13, o_1_14, o_3_1, o_5_1, on_nq_5_0, ob_nq_5_0), C_98, S_98) → cl_98 + C_98 ≤ mc → sl_98 + S_98 ≤ ms → J (KxOf p l e { frames := 5, cells := mc, slots := ms, locals := 154 } s m [.ref h0].toArray below meth c D (gT cI cB cJ cS) ((h0, .inr (2, [.ref a_scanner_h0, .ref a_draft_h0, .ref a_waiting_h0, .ref a_functions_h0, .ref (fad 0), .ref (fad fd), .ref a_text_h0, .int mode_h0, .int levels_h0, .int signs_h0, .int loops_h0, .int token_h0, .int fault_h0])) :: ((fad fd), .inr (0, [(frB fad fd), (frA fad fn fd), .int kind_t, .int place_t, .int width_t, .int second_t, .int parts_t, .int innerParts_t, .int innerPlace_t, .int innerWidth_t, .int signs_t, .int waitingBelow_t, .int limited_t, .int targets_t, .int lastBlock_t])) :: (a_scanner_h0, .inr (4, [.ref a_text_a_scanner_h0, .int next_a_scanner_h0, .int kind_a_scanner_h0, .int start_a_scanner_h0, .int width_a_scanner_h0])) :: (a_waiting_h0, .inr (5, [.ref a_cells_a_waiting_h0, .int count_a_waiting_h0])) :: (a_cells_a_waiting_h0, .inl (cI, n_a_cells_a_waiting_h0, .inl b_a_cells_a_waiting_h0)) :: (a_draft_h0, .inr (1, [.ref a_cells_a_draft_h0, .int count_a_draft_h0])) :: (a_cells_a_draft_h0, .inl (cI, n_a_cells_a_draft_h0, .inl b_a_cells_a_draft_h0)) :: fpo fad fn fd fcf) (fun v w => ∃ nad : Nat → Nat, ∃ nq_5_0 : Nat, v = none ∧ w = ((h0, .inr (2, [.ref a_scanner_h0, .ref a_draft_h0, .ref a_waiting_h0, .ref a_functions_h0, .ref (nad 0), .ref (nad od_p), .ref a_text_h0, .int o_0_7, .int o_0_8, .int o_0_9, .int loops_h0, .int token_h0, .int fault_h0])) :: ((nad od_p), .inr (0, [(frB nad od_p), (frA nad on_p od_p), .int o_1_2, .int o_1_3, .int o_1_4, .int o_1_5, .int o_1_6, .int o_1_7, .int o_1_8, .int o_1_9, .int o_1_10, .int o_1_11, .int o_1_12, .int o_1_13, .int o_1_14])) :: (a_scanner_h0, .inr (4, [.ref a_text_a_scanner_h0, .int next_a_scanner_h0, .int kind_a_scanner_h0, .int start_a_scanner_h0, .int width_a_scanner_h0])) :: (a_waiting_h0, .inr (5, [.ref a_cells_a_waiting_h0, .int o_3_1])) :: (a_cells_a_waiting_h0, .inl (cI, n_a_cells_a_waiting_h0, .inl b_a_cells_a_waiting_h0)) :: (a_draft_h0, .inr (1, [.ref nq_5_0, .int o_5_1])) :: (nq_5_0, .inl (cI, on_nq_5_0, .inl ob_nq_5_0)) :: fpo nad on_p od_p ocf_p)) mc ms) prog_6_method_11_code 2 R_Rd 98 [(0, .ref h0)] [] ((h0, .inr (2, [.ref a_scanner_h0, .ref a_draft_h0, .ref a_waiting_h0, .ref a_functions_h0, .ref (a9_98 0), .ref (a9_98 d9_98), .ref a_text_h0, .int f0_7_98, .int levels_h0, .int f0_9_98, .int loops_h0, .int token_h0, .int fault_h0])) :: ((a9_98 d9_98), .inr (0, [(frB a9_98 d9_98), (frA a9_98 n9_98 d9_98), .int f1_2_98, .int f1_3_98, .int f1_4_98, .int f1_5_98, .int f1_6_98, .int f1_7_98, .int f1_8_98, .int f1_9_98, .int f1_10_98, .int f1_11_98, .int f1_12_98, .int f1_13_98, .int f1_14_98])) :: (a_scanner_h0, .inr (4, [.ref a_text_a_scanner_h0, .int next_a_scanner_h0, .int kind_a_scanner_h0, .int start_a_scanner_h0, .int width_a_scanner_h0])) :: (a_waiting_h0, .inr (5, [.ref a_cells_a_waiting_h0, .int count_a_waiting_h0])) :: (a_cells_a_waiting_h0, .inl (cI, n_a_cells_a_waiting_h0, .inl b_a_cells_a_waiting_h0)) :: (a_draft_h0, .inr (1, [.ref a_cells_a_draft_h0, .int count_a_draft_h0])) :: (a_cells_a_draft_h0, .inl (cI, n_a_cells_a_draft_h0, .inl b_a_cells_a_draft_h0)) :: fpo a9_98 n9_98 d9_98 c9_98) cl_98 sl_98 := by
  intro a9_98 n9_98 d9_98 c9_98 f0_7_98 f0_9_98 f1_2_98 f1_3_98 f1_4_98 f1_5_98 f1_6_98 f1_7_98 f1_8_98 f1_9_98 f1_10_98 f1_11_98 f1_12_98 f1_13_98 f1_14_98 cl_98 sl_98 C_98 S_98 h hC hS
  unfold F_Rd_settle_98 at h
  refine j_aload_n d_Rd_settle_98 rfl 0 rfl ?_
  refine j_get ig_Rd rfl 0 rfl 7 (by decide) rfl m_176 rfl d_Rd_settle_99 ?_
  refine j_bipush (v := 42) d_Rd_settle_102 (by decide) ?_
  refine j_icmp_ne (tgt := 142) d_Rd_settle_104 (by decide) (fun c30 => ?_) (fun c30 => ?_)
  · replace h := it_f c30 h
    refine j_subP (w := [(h0, .inr (2, [.ref a_scanner_h0, .ref a_draft_h0, .ref a_waiting_h0, .ref a_functions_h0, .ref (a9_98 0), .ref (a9_98 d9_98), .ref a_text_h0, .int f0_7_98, .int levels_h0, .int f0_9_98, .int loops_h0, .int token_h0, .int fault_h0])), ((a9_98 d9_98), .inr (0, [(frB a9_98 d9_98), (frA a9_98 n9_98 d9_98), .int f1_2_98, .int f1_3_98, .int f1_4_98, .int f1_5_98, .int f1_6_98, .int f1_7_98, .int f1_8_98, .int f1_9_98, .int f1_10_98, .int f1_11_98, .int f1_12_98, .int f1_13_98, .int f1_14_98])), (a_scanner_h0, .inr (4, [.ref a_text_a_scanner_h0, .int next_a_scanner_h0, .int kind_a_scanner_h0, .int start_a_scanner_h0, .int width_a_scanner_h0])), (a_waiting_h0, .inr (5, [.ref a_cells_a_waiting_h0, .int count_a_waiting_h0])), (a_cells_a_waiting_h0, .inl (cI, n_a_cells_a_waiting_h0, .inl b_a_cells_a_waiting_h0)), (a_draft_h0, .inr (1, [.ref a_cells_a_draft_h0, .int count_a_draft_h0])), (a_cells_a_draft_h0, .inl (cI, n_a_cells_a_draft_h0, .inl b_a_cells_a_draft_h0))]) (pl := fpo a9_98 n9_98 d9_98 c9_98) (lv' := [(0, .ref h0)]) [0, 1, 2, 3, 4, 5, 6] [] 7 rfl rfl (by decide) [0] rfl ?_
    exact L_Rd_settle_142 l D cI cB cJ cS h0 fad a_scanner_h0 a_draft_h0 a_waiting_h0 a_functions_h0 a_text_h0 a_text_a_scanner_h0 a_cells_a_waiting_h0 a_cells_a_draft_h0 fn fd fcf mode_h0 levels_h0 signs_h0 loops_h0 token_h0 fault_h0 kind_t place_t width_t second_t parts_t innerParts_t innerPlace_t innerWidth_t signs_t waitingBelow_t limited_t targets_t lastBlock_t next_a_scanner_h0 kind_a_scanner_h0 start_a_scanner_h0 width_a_scanner_h0 count_a_waiting_h0 n_a_cells_a_waiting_h0 b_a_cells_a_waiting_h0 count_a_draft_h0 n_a_cells_a_draft_h0 b_a_cells_a_draft_h0 on_p od_p ocf_p o_0_7 o_0_8 o_0_9 o_1_2 o_1_3 o_1_4 o_1_5 o_1_6 o_1_7 o_1_8 o_1_9 o_1_10 o_1_11 o_1_12 o_1_13 o_1_14 o_3_1 o_5_1 on_nq_5_0 ob_nq_5_0 mc ms p e s m below meth c hr hnm a9_98 n9_98 d9_98 c9_98 f0_7_98 f0_9_98 f1_2_98 f1_3_98 f1_4_98 f1_5_98 f1_6_98 f1_7_98 f1_8_98 f1_9_98 f1_10_98 f1_11_98 f1_12_98 f1_13_98 f1_14_98 cl_98 sl_98 C_98 S_98 h hC hS
  · replace h := it_t c30 h
    refine j_aload_n d_Rd_settle_107 rfl 0 rfl ?_
    refine j_get ig_Rd rfl 0 rfl 11 (by decide) rfl m_180 rfl d_Rd_settle_108 ?_
    refine j_bipush (v := 44) d_Rd_settle_111 (by decide) ?_
    refine j_icmp_eq (tgt := 142) d_Rd_settle_113 (by decide) (fun c31 => ?_) (fun c31 => ?_)
    · replace h := it_t c31 h
      refine j_subP (w := [(h0, .inr (2, [.ref a_scanner_h0, .ref a_draft_h0, .ref a_waiting_h0, .ref a_functions_h0, .ref (a9_98 0), .ref (a9_98 d9_98), .ref a_text_h0, .int f0_7_98, .int levels_h0, .int f0_9_98, .int loops_h0, .int token_h0, .int fault_h0])), ((a9_98 d9_98), .inr (0, [(frB a9_98 d9_98), (frA a9_98 n9_98 d9_98), .int f1_2_98, .int f1_3_98, .int f1_4_98, .int f1_5_98, .int f1_6_98, .int f1_7_98, .int f1_8_98, .int f1_9_98, .int f1_10_98, .int f1_11_98, .int f1_12_98, .int f1_13_98, .int f1_14_98])), (a_scanner_h0, .inr (4, [.ref a_text_a_scanner_h0, .int next_a_scanner_h0, .int kind_a_scanner_h0, .int start_a_scanner_h0, .int width_a_scanner_h0])), (a_waiting_h0, .inr (5, [.ref a_cells_a_waiting_h0, .int count_a_waiting_h0])), (a_cells_a_waiting_h0, .inl (cI, n_a_cells_a_waiting_h0, .inl b_a_cells_a_waiting_h0)), (a_draft_h0, .inr (1, [.ref a_cells_a_draft_h0, .int count_a_draft_h0])), (a_cells_a_draft_h0, .inl (cI, n_a_cells_a_draft_h0, .inl b_a_cells_a_draft_h0))]) (pl := fpo a9_98 n9_98 d9_98 c9_98) (lv' := [(0, .ref h0)]) [0, 1, 2, 3, 4, 5, 6] [] 7 rfl rfl (by decide) [0] rfl ?_
      exact L_Rd_settle_142 l D cI cB cJ cS h0 fad a_scanner_h0 a_draft_h0 a_waiting_h0 a_functions_h0 a_text_h0 a_text_a_scanner_h0 a_cells_a_waiting_h0 a_cells_a_draft_h0 fn fd fcf mode_h0 levels_h0 signs_h0 loops_h0 token_h0 fault_h0 kind_t place_t width_t second_t parts_t innerParts_t innerPlace_t innerWidth_t signs_t waitingBelow_t limited_t targets_t lastBlock_t next_a_scanner_h0 kind_a_scanner_h0 start_a_scanner_h0 width_a_scanner_h0 count_a_waiting_h0 n_a_cells_a_waiting_h0 b_a_cells_a_waiting_h0 count_a_draft_h0 n_a_cells_a_draft_h0 b_a_cells_a_draft_h0 on_p od_p ocf_p o_0_7 o_0_8 o_0_9 o_1_2 o_1_3 o_1_4 o_1_5 o_1_6 o_1_7 o_1_8 o_1_9 o_1_10 o_1_11 o_1_12 o_1_13 o_1_14 o_3_1 o_5_1 on_nq_5_0 ob_nq_5_0 mc ms p e s m below meth c hr hnm a9_98 n9_98 d9_98 c9_98 f0_7_98 f0_9_98 f1_2_98 f1_3_98 f1_4_98 f1_5_98 f1_6_98 f1_7_98 f1_8_98 f1_9_98 f1_10_98 f1_11_98 f1_12_98 f1_13_98 f1_14_98 cl_98 sl_98 C_98 S_98 h hC hS
    · replace h := it_f c31 h
      refine j_aload_n d_Rd_settle_116 rfl 0 rfl ?_
      refine j_get ig_Rd rfl 0 rfl 11 (by decide) rfl m_180 rfl d_Rd_settle_117 ?_
      refine j_bipush (v := 93) d_Rd_settle_120 (by decide) ?_
      refine j_icmp_eq (tgt := 142) d_Rd_settle_122 (by decide) (fun c32 => ?_) (fun c32 => ?_)
      · replace h := it_t c32 h
        refine j_subP (w := [(h0, .inr (2, [.ref a_scanner_h0, .ref a_draft_h0, .ref a_waiting_h0, .ref a_functions_h0, .ref (a9_98 0), .ref (a9_98 d9_98), .ref a_text_h0, .int f0_7_98, .int levels_h0, .int f0_9_98, .int loops_h0, .int token_h0, .int fault_h0])), ((a9_98 d9_98), .inr (0, [(frB a9_98 d9_98), (frA a9_98 n9_98 d9_98), .int f1_2_98, .int f1_3_98, .int f1_4_98, .int f1_5_98, .int f1_6_98, .int f1_7_98, .int f1_8_98, .int f1_9_98, .int f1_10_98, .int f1_11_98, .int f1_12_98, .int f1_13_98, .int f1_14_98])), (a_scanner_h0, .inr (4, [.ref a_text_a_scanner_h0, .int next_a_scanner_h0, .int kind_a_scanner_h0, .int start_a_scanner_h0, .int width_a_scanner_h0])), (a_waiting_h0, .inr (5, [.ref a_cells_a_waiting_h0, .int count_a_waiting_h0])), (a_cells_a_waiting_h0, .inl (cI, n_a_cells_a_waiting_h0, .inl b_a_cells_a_waiting_h0)), (a_draft_h0, .inr (1, [.ref a_cells_a_draft_h0, .int count_a_draft_h0])), (a_cells_a_draft_h0, .inl (cI, n_a_cells_a_draft_h0, .inl b_a_cells_a_draft_h0))]) (pl := fpo a9_98 n9_98 d9_98 c9_98) (lv' := [(0, .ref h0)]) [0, 1, 2, 3, 4, 5, 6] [] 7 rfl rfl (by decide) [0] rfl ?_
        exact L_Rd_settle_142 l D cI cB cJ cS h0 fad a_scanner_h0 a_draft_h0 a_waiting_h0 a_functions_h0 a_text_h0 a_text_a_scanner_h0 a_cells_a_waiting_h0 a_cells_a_draft_h0 fn fd fcf mode_h0 levels_h0 signs_h0 loops_h0 token_h0 fault_h0 kind_t place_t width_t second_t parts_t innerParts_t innerPlace_t innerWidth_t signs_t waitingBelow_t limited_t targets_t lastBlock_t next_a_scanner_h0 kind_a_scanner_h0 start_a_scanner_h0 width_a_scanner_h0 count_a_waiting_h0 n_a_cells_a_waiting_h0 b_a_cells_a_waiting_h0 count_a_draft_h0 n_a_cells_a_draft_h0 b_a_cells_a_draft_h0 on_p od_p ocf_p o_0_7 o_0_8 o_0_9 o_1_2 o_1_3 o_1_4 o_1_5 o_1_6 o_1_7 o_1_8 o_1_9 o_1_10 o_1_11 o_1_12 o_1_13 o_1_14 o_3_1 o_5_1 on_nq_5_0 ob_nq_5_0 mc ms p e s m below meth c hr hnm a9_98 n9_98 d9_98 c9_98 f0_7_98 f0_9_98 f1_2_98 f1_3_98 f1_4_98 f1_5_98 f1_6_98 f1_7_98 f1_8_98 f1_9_98 f1_10_98 f1_11_98 f1_12_98 f1_13_98 f1_14_98 cl_98 sl_98 C_98 S_98 h hC hS
      · replace h := it_f c32 h
        refine j_aload_n d_Rd_settle_125 rfl 0 rfl ?_
        refine j_get ig_Rd rfl 0 rfl 5 (by decide) rfl m_174 rfl d_Rd_settle_126 ?_
        refine j_iconst (v := 0) d_Rd_settle_129 (by decide) ?_
        refine j_put (ws' := ((h0, .inr (2, [.ref a_scanner_h0, .ref a_draft_h0, .ref a_waiting_h0, .ref a_functions_h0, .ref (a9_98 0), .ref (a9_98 d9_98), .ref a_text_h0, .int f0_7_98, .int levels_h0, .int f0_9_98, .int loops_h0, .int token_h0, .int fault_h0])) :: ((a9_98 d9_98), .inr (0, [(frB a9_98 d9_98), (frA a9_98 n9_98 d9_98), .int f1_2_98, .int f1_3_98, .int f1_4_98, .int f1_5_98, .int f1_6_98, .int f1_7_98, .int f1_8_98, .int f1_9_98, .int f1_10_98, .int f1_11_98, .int f1_12_98, .int 0, .int f1_14_98])) :: (a_scanner_h0, .inr (4, [.ref a_text_a_scanner_h0, .int next_a_scanner_h0, .int kind_a_scanner_h0, .int start_a_scanner_h0, .int width_a_scanner_h0])) :: (a_waiting_h0, .inr (5, [.ref a_cells_a_waiting_h0, .int count_a_waiting_h0])) :: (a_cells_a_waiting_h0, .inl (cI, n_a_cells_a_waiting_h0, .inl b_a_cells_a_waiting_h0)) :: (a_draft_h0, .inr (1, [.ref a_cells_a_draft_h0, .int count_a_draft_h0])) :: (a_cells_a_draft_h0, .inl (cI, n_a_cells_a_draft_h0, .inl b_a_cells_a_draft_h0)) :: fpo a9_98 n9_98 d9_98 c9_98)) ig_Fr tk_Fr nm_Fr rfl 1 rfl 13 (by decide) rfl m_133 rfl (tk_Fr 13 (by decide)) (zb_n zb0) (zb_fit zb0) (Nat.le_of_ble_eq_true rfl) d_Rd_settle_130 rfl ?_
        refine j_aload_n d_Rd_settle_133 rfl 0 rfl ?_
        refine j_bipush (v := 31) d_Rd_settle_134 (by decide) ?_
        refine j_put (ws' := ((h0, .inr (2, [.ref a_scanner_h0, .ref a_draft_h0, .ref a_waiting_h0, .ref a_functions_h0, .ref (a9_98 0), .ref (a9_98 d9_98), .ref a_text_h0, .int 31, .int levels_h0, .int f0_9_98, .int loops_h0, .int token_h0, .int fault_h0])) :: ((a9_98 d9_98), .inr (0, [(frB a9_98 d9_98), (frA a9_98 n9_98 d9_98), .int f1_2_98, .int f1_3_98, .int f1_4_98, .int f1_5_98, .int f1_6_98, .int f1_7_98, .int f1_8_98, .int f1_9_98, .int f1_10_98, .int f1_11_98, .int f1_12_98, .int 0, .int f1_14_98])) :: (a_scanner_h0, .inr (4, [.ref a_text_a_scanner_h0, .int next_a_scanner_h0, .int kind_a_scanner_h0, .int start_a_scanner_h0, .int width_a_scanner_h0])) :: (a_waiting_h0, .inr (5, [.ref a_cells_a_waiting_h0, .int count_a_waiting_h0])) :: (a_cells_a_waiting_h0, .inl (cI, n_a_cells_a_waiting_h0, .inl b_a_cells_a_waiting_h0)) :: (a_draft_h0, .inr (1, [.ref a_cells_a_draft_h0, .int count_a_draft_h0])) :: (a_cells_a_draft_h0, .inl (cI, n_a_cells_a_draft_h0, .inl b_a_cells_a_draft_h0)) :: fpo a9_98 n9_98 d9_98 c9_98)) ig_Rd tk_Rd nm_Rd rfl 0 rfl 7 (by decide) rfl m_176 rfl (tk_Rd 7 (by decide)) rfl rfl (Nat.le_of_ble_eq_true rfl) d_Rd_settle_136 rfl ?_
        refine j_goto (tgt := 178) d_Rd_settle_139 (by decide) ?_
        replace h := lf_s h
        obtain ⟨h, e1, e2⟩ := h
        replace h := Prod.mk.inj h
        obtain ⟨h9, h⟩ := h
        subst h9
        replace h := Prod.mk.inj h
        obtain ⟨h9, h⟩ := h
        subst h9
        replace h := Prod.mk.inj h
        obtain ⟨h9, h⟩ := h
        subst h9
        replace h := Prod.mk.inj h
        obtain ⟨h9, h⟩ := h
        subst h9
        replace h := Prod.mk.inj h
        obtain ⟨h9, h⟩ := h
        subst h9
        replace h := Prod.mk.inj h
        obtain ⟨h9, h⟩ := h
        subst h9
        replace h := Prod.mk.inj h
        obtain ⟨h9, h⟩ := h
        subst h9
        replace h := Prod.mk.inj h
        obtain ⟨h9, h⟩ := h
        subst h9
        replace h := Prod.mk.inj h
        obtain ⟨h9, h⟩ := h
        subst h9
        replace h := Prod.mk.inj h
        obtain ⟨h9, h⟩ := h
        subst h9
        replace h := Prod.mk.inj h
        obtain ⟨h9, h⟩ := h
        subst h9
        replace h := Prod.mk.inj h
        obtain ⟨h9, h⟩ := h
        subst h9
        replace h := Prod.mk.inj h
        obtain ⟨h9, h⟩ := h
        subst h9
        replace h := Prod.mk.inj h
        obtain ⟨h9, h⟩ := h
        subst h9
        replace h := Prod.mk.inj h
        obtain ⟨h9, h⟩ := h
        subst h9
        replace h := Prod.mk.inj h
        obtain ⟨h9, h⟩ := h
        subst h9
        replace h := Prod.mk.inj h
        obtain ⟨h9, h⟩ := h
        subst h9
        replace h := Prod.mk.inj h
        obtain ⟨h9, h⟩ := h
        subst h9
        replace h := Prod.mk.inj h
        obtain ⟨h9, h⟩ := h
        subst h9
        replace h := Prod.mk.inj h
        obtain ⟨h9, h⟩ := h
        subst h9
        replace h := Prod.mk.inj h
        obtain ⟨h9, h⟩ := h
        subst h9
        replace h := Prod.mk.inj h
        obtain ⟨h9, h⟩ := h
        subst h9
        subst h
        refine j_widen (cl' := mc) (sl' := ms) (by omega) (by omega) ?_
        refine j_subP (w := [(h0, .inr (2, [.ref a_scanner_h0, .ref a_draft_h0, .ref a_waiting_h0, .ref a_functions_h0, .ref (a9_98 0), .ref (a9_98 d9_98), .ref a_text_h0, .int 31, .int levels_h0, .int f0_9_98, .int loops_h0, .int token_h0, .int fault_h0])), ((a9_98 d9_98), .inr (0, [(frB a9_98 d9_98), (frA a9_98 n9_98 d9_98), .int f1_2_98, .int f1_3_98, .int f1_4_98, .int f1_5_98, .int f1_6_98, .int f1_7_98, .int f1_8_98, .int f1_9_98, .int f1_10_98, .int f1_11_98, .int f1_12_98, .int 0, .int f1_14_98])), (a_scanner_h0, .inr (4, [.ref a_text_a_scanner_h0, .int next_a_scanner_h0, .int kind_a_scanner_h0, .int start_a_scanner_h0, .int width_a_scanner_h0])), (a_waiting_h0, .inr (5, [.ref a_cells_a_waiting_h0, .int count_a_waiting_h0])), (a_cells_a_waiting_h0, .inl (cI, n_a_cells_a_waiting_h0, .inl b_a_cells_a_waiting_h0)), (a_draft_h0, .inr (1, [.ref a_cells_a_draft_h0, .int count_a_draft_h0])), (a_cells_a_draft_h0, .inl (cI, n_a_cells_a_draft_h0, .inl b_a_cells_a_draft_h0))]) (pl := fpo a9_98 n9_98 d9_98 c9_98) (lv' := []) [0, 1, 2, 3, 4, 5, 6] [] 7 rfl rfl (by decide) [] rfl ?_
        exact j_vretE hr d_Rd_settle_178 ⟨a9_98, a_cells_a_draft_h0, rfl, rfl⟩
set_option maxHeartbeats 4000000 in
set_option maxRecDepth 100000 in
theorem L_Rd_settle_71 (l : Launch) (D : va_G) (cI cB cJ cS : ClassId) (h0 : Nat) (fad : Nat → Nat) (a_scanner_h0 : Nat) (a_draft_h0 : Nat) (a_waiting_h0 : Nat) (a_functions_h0 : Nat) (a_text_h0 : Nat) (a_text_a_scanner_h0 : Nat) (a_cells_a_waiting_h0 : Nat) (a_cells_a_draft_h0 : Nat) (fn : Nat) (fd : Nat) (fcf : Nat → FrC) (mode_h0 : Int32) (levels_h0 : Int32) (signs_h0 : Int32) (loops_h0 : Int32) (token_h0 : Int32) (fault_h0 : Int32) (kind_t : Int32) (place_t : Int32) (width_t : Int32) (second_t : Int32) (parts_t : Int32) (innerParts_t : Int32) (innerPlace_t : Int32) (innerWidth_t : Int32) (signs_t : Int32) (waitingBelow_t : Int32) (limited_t : Int32) (targets_t : Int32) (lastBlock_t : Int32) (next_a_scanner_h0 : Int32) (kind_a_scanner_h0 : Int32) (start_a_scanner_h0 : Int32) (width_a_scanner_h0 : Int32) (count_a_waiting_h0 : Int32) (n_a_cells_a_waiting_h0 : Nat) (b_a_cells_a_waiting_h0 : Nat → Int32) (count_a_draft_h0 : Int32) (n_a_cells_a_draft_h0 : Nat) (b_a_cells_a_draft_h0 : Nat → Int32) (on_p : Nat) (od_p : Nat) (ocf_p : Nat → FrC) (o_0_7 : Int32) (o_0_8 : Int32) (o_0_9 : Int32) (o_1_2 : Int32) (o_1_3 : Int32) (o_1_4 : Int32) (o_1_5 : Int32) (o_1_6 : Int32) (o_1_7 : Int32) (o_1_8 : Int32) (o_1_9 : Int32) (o_1_10 : Int32) (o_1_11 : Int32) (o_1_12 : Int32) (o_1_13 : Int32) (o_1_14 : Int32) (o_3_1 : Int32) (o_5_1 : Int32) (on_nq_5_0 : Nat) (ob_nq_5_0 : Nat → Int32) (mc ms : Nat) (p : Program) (e : Env) (s : State) (m : MethodId) (below : List Frame) (meth : Method) (c : Code) (hr : meth.sig.returnType = (Option.none : Option Jvm.ClassFile.FieldType)) (hnm : meth.name = y_Rd_settle.name) : ∀ (a9_71 : Nat → Nat) (n9_71 : Nat) (d9_71 : Nat) (c9_71 : Nat → FrC) (f0_7_71 : Int32) (f0_9_71 : Int32) (f1_2_71 : Int32) (f1_3_71 : Int32) (f1_4_71 : Int32) (f1_5_71 : Int32) (f1_6_71 : Int32) (f1_7_71 : Int32) (f1_8_71 : Int32) (f1_9_71 : Int32) (f1_10_71 : Int32) (f1_11_71 : Int32) (f1_12_71 : Int32) (f1_13_71 : Int32) (f1_14_71 : Int32) (cl_71 sl_71 C_71 S_71 : Nat), F_Rd_settle_71 levels_h0 loops_h0 token_h0 fault_h0 count_a_waiting_h0 n_a_cells_a_waiting_h0 b_a_cells_a_waiting_h0 count_a_draft_h0 n_a_cells_a_draft_h0 b_a_cells_a_draft_h0   n9_71 d9_71 c9_71 f0_7_71 f0_9_71 f1_2_71 f1_3_71 f1_4_71 f1_5_71 f1_6_71 f1_7_71 f1_8_71 f1_9_71 f1_10_71 f1_11_71 f1_12_71 f1_13_71 f1_14_71 = some ((on_p, od_p, ocf_p, o_0_7, o_0_8, o_0_9, o_1_2, o_1_3, o_1_4, o_1_5, o_1_6, o_1_7, o_1_8, o_1_9, o_1_10, o_1_11, o_1_12, o_1_13, o_1_14, o_3_1, o_5_1, on_nq_5_0, ob_nq_5_0), C_71, S_71) → cl_71 + C_71 ≤ mc → sl_71 + S_71 ≤ ms → J (KxOf p l e { frames := 5, cells := mc, slots := ms, locals := 154 } s m [.ref h0].toArray below meth c D (gT cI cB cJ cS) ((h0, .inr (2, [.ref a_scanner_h0, .ref a_draft_h0, .ref a_waiting_h0, .ref a_functions_h0, .ref (fad 0), .ref (fad fd), .ref a_text_h0, .int mode_h0, .int levels_h0, .int signs_h0, .int loops_h0, .int token_h0, .int fault_h0])) :: ((fad fd), .inr (0, [(frB fad fd), (frA fad fn fd), .int kind_t, .int place_t, .int width_t, .int second_t, .int parts_t, .int innerParts_t, .int innerPlace_t, .int innerWidth_t, .int signs_t, .int waitingBelow_t, .int limited_t, .int targets_t, .int lastBlock_t])) :: (a_scanner_h0, .inr (4, [.ref a_text_a_scanner_h0, .int next_a_scanner_h0, .int kind_a_scanner_h0, .int start_a_scanner_h0, .int width_a_scanner_h0])) :: (a_waiting_h0, .inr (5, [.ref a_cells_a_waiting_h0, .int count_a_waiting_h0])) :: (a_cells_a_waiting_h0, .inl (cI, n_a_cells_a_waiting_h0, .inl b_a_cells_a_waiting_h0)) :: (a_draft_h0, .inr (1, [.ref a_cells_a_draft_h0, .int count_a_draft_h0])) :: (a_cells_a_draft_h0, .inl (cI, n_a_cells_a_draft_h0, .inl b_a_cells_a_draft_h0)) :: fpo fad fn fd fcf) (fun v w => ∃ nad : Nat → Nat, ∃ nq_5_0 : Nat, v = none ∧ w = ((h0, .inr (2, [.ref a_scanner_h0, .ref a_draft_h0, .ref a_waiting_h0, .ref a_functions_h0, .ref (nad 0), .ref (nad od_p), .ref a_text_h0, .int o_0_7, .int o_0_8, .int o_0_9, .int loops_h0, .int token_h0, .int fault_h0])) :: ((nad od_p), .inr (0, [(frB nad od_p), (frA nad on_p od_p), .int o_1_2, .int o_1_3, .int o_1_4, .int o_1_5, .int o_1_6, .int o_1_7, .int o_1_8, .int o_1_9, .int o_1_10, .int o_1_11, .int o_1_12, .int o_1_13, .int o_1_14])) :: (a_scanner_h0, .inr (4, [.ref a_text_a_scanner_h0, .int next_a_scanner_h0, .int kind_a_scanner_h0, .int start_a_scanner_h0, .int width_a_scanner_h0])) :: (a_waiting_h0, .inr (5, [.ref a_cells_a_waiting_h0, .int o_3_1])) :: (a_cells_a_waiting_h0, .inl (cI, n_a_cells_a_waiting_h0, .inl b_a_cells_a_waiting_h0)) :: (a_draft_h0, .inr (1, [.ref nq_5_0, .int o_5_1])) :: (nq_5_0, .inl (cI, on_nq_5_0, .inl ob_nq_5_0)) :: fpo nad on_p od_p ocf_p)) mc ms) prog_6_method_11_code 2 R_Rd 71 [(0, .ref h0)] [] ((h0, .inr (2, [.ref a_scanner_h0, .ref a_draft_h0, .ref a_waiting_h0, .ref a_functions_h0, .ref (a9_71 0), .ref (a9_71 d9_71), .ref a_text_h0, .int f0_7_71, .int levels_h0, .int f0_9_71, .int loops_h0, .int token_h0, .int fault_h0])) :: ((a9_71 d9_71), .inr (0, [(frB a9_71 d9_71), (frA a9_71 n9_71 d9_71), .int f1_2_71, .int f1_3_71, .int f1_4_71, .int f1_5_71, .int f1_6_71, .int f1_7_71, .int f1_8_71, .int f1_9_71, .int f1_10_71, .int f1_11_71, .int f1_12_71, .int f1_13_71, .int f1_14_71])) :: (a_scanner_h0, .inr (4, [.ref a_text_a_scanner_h0, .int next_a_scanner_h0, .int kind_a_scanner_h0, .int start_a_scanner_h0, .int width_a_scanner_h0])) :: (a_waiting_h0, .inr (5, [.ref a_cells_a_waiting_h0, .int count_a_waiting_h0])) :: (a_cells_a_waiting_h0, .inl (cI, n_a_cells_a_waiting_h0, .inl b_a_cells_a_waiting_h0)) :: (a_draft_h0, .inr (1, [.ref a_cells_a_draft_h0, .int count_a_draft_h0])) :: (a_cells_a_draft_h0, .inl (cI, n_a_cells_a_draft_h0, .inl b_a_cells_a_draft_h0)) :: fpo a9_71 n9_71 d9_71 c9_71) cl_71 sl_71 := by
  intro a9_71 n9_71 d9_71 c9_71 f0_7_71 f0_9_71 f1_2_71 f1_3_71 f1_4_71 f1_5_71 f1_6_71 f1_7_71 f1_8_71 f1_9_71 f1_10_71 f1_11_71 f1_12_71 f1_13_71 f1_14_71 cl_71 sl_71 C_71 S_71 h hC hS
  unfold F_Rd_settle_71 at h
  refine j_aload_n d_Rd_settle_71 rfl 0 rfl ?_
  refine j_get ig_Rd rfl 0 rfl 7 (by decide) rfl m_176 rfl d_Rd_settle_72 ?_
  refine j_bipush (v := 41) d_Rd_settle_75 (by decide) ?_
  refine j_icmp_ne (tgt := 98) d_Rd_settle_77 (by decide) (fun c33 => ?_) (fun c33 => ?_)
  · replace h := it_f c33 h
    refine j_subP (w := [(h0, .inr (2, [.ref a_scanner_h0, .ref a_draft_h0, .ref a_waiting_h0, .ref a_functions_h0, .ref (a9_71 0), .ref (a9_71 d9_71), .ref a_text_h0, .int f0_7_71, .int levels_h0, .int f0_9_71, .int loops_h0, .int token_h0, .int fault_h0])), ((a9_71 d9_71), .inr (0, [(frB a9_71 d9_71), (frA a9_71 n9_71 d9_71), .int f1_2_71, .int f1_3_71, .int f1_4_71, .int f1_5_71, .int f1_6_71, .int f1_7_71, .int f1_8_71, .int f1_9_71, .int f1_10_71, .int f1_11_71, .int f1_12_71, .int f1_13_71, .int f1_14_71])), (a_scanner_h0, .inr (4, [.ref a_text_a_scanner_h0, .int next_a_scanner_h0, .int kind_a_scanner_h0, .int start_a_scanner_h0, .int width_a_scanner_h0])), (a_waiting_h0, .inr (5, [.ref a_cells_a_waiting_h0, .int count_a_waiting_h0])), (a_cells_a_waiting_h0, .inl (cI, n_a_cells_a_waiting_h0, .inl b_a_cells_a_waiting_h0)), (a_draft_h0, .inr (1, [.ref a_cells_a_draft_h0, .int count_a_draft_h0])), (a_cells_a_draft_h0, .inl (cI, n_a_cells_a_draft_h0, .inl b_a_cells_a_draft_h0))]) (pl := fpo a9_71 n9_71 d9_71 c9_71) (lv' := [(0, .ref h0)]) [0, 1, 2, 3, 4, 5, 6] [] 7 rfl rfl (by decide) [0] rfl ?_
    exact L_Rd_settle_98 l D cI cB cJ cS h0 fad a_scanner_h0 a_draft_h0 a_waiting_h0 a_functions_h0 a_text_h0 a_text_a_scanner_h0 a_cells_a_waiting_h0 a_cells_a_draft_h0 fn fd fcf mode_h0 levels_h0 signs_h0 loops_h0 token_h0 fault_h0 kind_t place_t width_t second_t parts_t innerParts_t innerPlace_t innerWidth_t signs_t waitingBelow_t limited_t targets_t lastBlock_t next_a_scanner_h0 kind_a_scanner_h0 start_a_scanner_h0 width_a_scanner_h0 count_a_waiting_h0 n_a_cells_a_waiting_h0 b_a_cells_a_waiting_h0 count_a_draft_h0 n_a_cells_a_draft_h0 b_a_cells_a_draft_h0 on_p od_p ocf_p o_0_7 o_0_8 o_0_9 o_1_2 o_1_3 o_1_4 o_1_5 o_1_6 o_1_7 o_1_8 o_1_9 o_1_10 o_1_11 o_1_12 o_1_13 o_1_14 o_3_1 o_5_1 on_nq_5_0 ob_nq_5_0 mc ms p e s m below meth c hr hnm a9_71 n9_71 d9_71 c9_71 f0_7_71 f0_9_71 f1_2_71 f1_3_71 f1_4_71 f1_5_71 f1_6_71 f1_7_71 f1_8_71 f1_9_71 f1_10_71 f1_11_71 f1_12_71 f1_13_71 f1_14_71 cl_71 sl_71 C_71 S_71 h hC hS
  · replace h := it_t c33 h
    refine j_aload_n d_Rd_settle_80 rfl 0 rfl ?_
    refine j_get ig_Rd rfl 0 rfl 11 (by decide) rfl m_180 rfl d_Rd_settle_81 ?_
    refine j_bipush (v := 61) d_Rd_settle_84 (by decide) ?_
    refine j_icmp_eq (tgt := 98) d_Rd_settle_86 (by decide) (fun c34 => ?_) (fun c34 => ?_)
    · replace h := it_t c34 h
      refine j_subP (w := [(h0, .inr (2, [.ref a_scanner_h0, .ref a_draft_h0, .ref a_waiting_h0, .ref a_functions_h0, .ref (a9_71 0), .ref (a9_71 d9_71), .ref a_text_h0, .int f0_7_71, .int levels_h0, .int f0_9_71, .int loops_h0, .int token_h0, .int fault_h0])), ((a9_71 d9_71), .inr (0, [(frB a9_71 d9_71), (frA a9_71 n9_71 d9_71), .int f1_2_71, .int f1_3_71, .int f1_4_71, .int f1_5_71, .int f1_6_71, .int f1_7_71, .int f1_8_71, .int f1_9_71, .int f1_10_71, .int f1_11_71, .int f1_12_71, .int f1_13_71, .int f1_14_71])), (a_scanner_h0, .inr (4, [.ref a_text_a_scanner_h0, .int next_a_scanner_h0, .int kind_a_scanner_h0, .int start_a_scanner_h0, .int width_a_scanner_h0])), (a_waiting_h0, .inr (5, [.ref a_cells_a_waiting_h0, .int count_a_waiting_h0])), (a_cells_a_waiting_h0, .inl (cI, n_a_cells_a_waiting_h0, .inl b_a_cells_a_waiting_h0)), (a_draft_h0, .inr (1, [.ref a_cells_a_draft_h0, .int count_a_draft_h0])), (a_cells_a_draft_h0, .inl (cI, n_a_cells_a_draft_h0, .inl b_a_cells_a_draft_h0))]) (pl := fpo a9_71 n9_71 d9_71 c9_71) (lv' := [(0, .ref h0)]) [0, 1, 2, 3, 4, 5, 6] [] 7 rfl rfl (by decide) [0] rfl ?_
      exact L_Rd_settle_98 l D cI cB cJ cS h0 fad a_scanner_h0 a_draft_h0 a_waiting_h0 a_functions_h0 a_text_h0 a_text_a_scanner_h0 a_cells_a_waiting_h0 a_cells_a_draft_h0 fn fd fcf mode_h0 levels_h0 signs_h0 loops_h0 token_h0 fault_h0 kind_t place_t width_t second_t parts_t innerParts_t innerPlace_t innerWidth_t signs_t waitingBelow_t limited_t targets_t lastBlock_t next_a_scanner_h0 kind_a_scanner_h0 start_a_scanner_h0 width_a_scanner_h0 count_a_waiting_h0 n_a_cells_a_waiting_h0 b_a_cells_a_waiting_h0 count_a_draft_h0 n_a_cells_a_draft_h0 b_a_cells_a_draft_h0 on_p od_p ocf_p o_0_7 o_0_8 o_0_9 o_1_2 o_1_3 o_1_4 o_1_5 o_1_6 o_1_7 o_1_8 o_1_9 o_1_10 o_1_11 o_1_12 o_1_13 o_1_14 o_3_1 o_5_1 on_nq_5_0 ob_nq_5_0 mc ms p e s m below meth c hr hnm a9_71 n9_71 d9_71 c9_71 f0_7_71 f0_9_71 f1_2_71 f1_3_71 f1_4_71 f1_5_71 f1_6_71 f1_7_71 f1_8_71 f1_9_71 f1_10_71 f1_11_71 f1_12_71 f1_13_71 f1_14_71 cl_71 sl_71 C_71 S_71 h hC hS
    · replace h := it_f c34 h
      refine j_aload_n d_Rd_settle_89 rfl 0 rfl ?_
      refine j_bipush (v := 34) d_Rd_settle_90 (by decide) ?_
      refine j_put (ws' := ((h0, .inr (2, [.ref a_scanner_h0, .ref a_draft_h0, .ref a_waiting_h0, .ref a_functions_h0, .ref (a9_71 0), .ref (a9_71 d9_71), .ref a_text_h0, .int 34, .int levels_h0, .int f0_9_71, .int loops_h0, .int token_h0, .int fault_h0])) :: ((a9_71 d9_71), .inr (0, [(frB a9_71 d9_71), (frA a9_71 n9_71 d9_71), .int f1_2_71, .int f1_3_71, .int f1_4_71, .int f1_5_71, .int f1_6_71, .int f1_7_71, .int f1_8_71, .int f1_9_71, .int f1_10_71, .int f1_11_71, .int f1_12_71, .int f1_13_71, .int f1_14_71])) :: (a_scanner_h0, .inr (4, [.ref a_text_a_scanner_h0, .int next_a_scanner_h0, .int kind_a_scanner_h0, .int start_a_scanner_h0, .int width_a_scanner_h0])) :: (a_waiting_h0, .inr (5, [.ref a_cells_a_waiting_h0, .int count_a_waiting_h0])) :: (a_cells_a_waiting_h0, .inl (cI, n_a_cells_a_waiting_h0, .inl b_a_cells_a_waiting_h0)) :: (a_draft_h0, .inr (1, [.ref a_cells_a_draft_h0, .int count_a_draft_h0])) :: (a_cells_a_draft_h0, .inl (cI, n_a_cells_a_draft_h0, .inl b_a_cells_a_draft_h0)) :: fpo a9_71 n9_71 d9_71 c9_71)) ig_Rd tk_Rd nm_Rd rfl 0 rfl 7 (by decide) rfl m_176 rfl (tk_Rd 7 (by decide)) rfl rfl (Nat.le_of_ble_eq_true rfl) d_Rd_settle_92 rfl ?_
      refine j_goto (tgt := 178) d_Rd_settle_95 (by decide) ?_
      replace h := lf_s h
      obtain ⟨h, e1, e2⟩ := h
      replace h := Prod.mk.inj h
      obtain ⟨h9, h⟩ := h
      subst h9
      replace h := Prod.mk.inj h
      obtain ⟨h9, h⟩ := h
      subst h9
      replace h := Prod.mk.inj h
      obtain ⟨h9, h⟩ := h
      subst h9
      replace h := Prod.mk.inj h
      obtain ⟨h9, h⟩ := h
      subst h9
      replace h := Prod.mk.inj h
      obtain ⟨h9, h⟩ := h
      subst h9
      replace h := Prod.mk.inj h
      obtain ⟨h9, h⟩ := h
      subst h9
      replace h := Prod.mk.inj h
      obtain ⟨h9, h⟩ := h
      subst h9
      replace h := Prod.mk.inj h
      obtain ⟨h9, h⟩ := h
      subst h9
      replace h := Prod.mk.inj h
      obtain ⟨h9, h⟩ := h
      subst h9
      replace h := Prod.mk.inj h
      obtain ⟨h9, h⟩ := h
      subst h9
      replace h := Prod.mk.inj h
      obtain ⟨h9, h⟩ := h
      subst h9
      replace h := Prod.mk.inj h
      obtain ⟨h9, h⟩ := h
      subst h9
      replace h := Prod.mk.inj h
      obtain ⟨h9, h⟩ := h
      subst h9
      replace h := Prod.mk.inj h
      obtain ⟨h9, h⟩ := h
      subst h9
      replace h := Prod.mk.inj h
      obtain ⟨h9, h⟩ := h
      subst h9
      replace h := Prod.mk.inj h
      obtain ⟨h9, h⟩ := h
      subst h9
      replace h := Prod.mk.inj h
      obtain ⟨h9, h⟩ := h
      subst h9
      replace h := Prod.mk.inj h
      obtain ⟨h9, h⟩ := h
      subst h9
      replace h := Prod.mk.inj h
      obtain ⟨h9, h⟩ := h
      subst h9
      replace h := Prod.mk.inj h
      obtain ⟨h9, h⟩ := h
      subst h9
      replace h := Prod.mk.inj h
      obtain ⟨h9, h⟩ := h
      subst h9
      replace h := Prod.mk.inj h
      obtain ⟨h9, h⟩ := h
      subst h9
      subst h
      refine j_widen (cl' := mc) (sl' := ms) (by omega) (by omega) ?_
      refine j_subP (w := [(h0, .inr (2, [.ref a_scanner_h0, .ref a_draft_h0, .ref a_waiting_h0, .ref a_functions_h0, .ref (a9_71 0), .ref (a9_71 d9_71), .ref a_text_h0, .int 34, .int levels_h0, .int f0_9_71, .int loops_h0, .int token_h0, .int fault_h0])), ((a9_71 d9_71), .inr (0, [(frB a9_71 d9_71), (frA a9_71 n9_71 d9_71), .int f1_2_71, .int f1_3_71, .int f1_4_71, .int f1_5_71, .int f1_6_71, .int f1_7_71, .int f1_8_71, .int f1_9_71, .int f1_10_71, .int f1_11_71, .int f1_12_71, .int f1_13_71, .int f1_14_71])), (a_scanner_h0, .inr (4, [.ref a_text_a_scanner_h0, .int next_a_scanner_h0, .int kind_a_scanner_h0, .int start_a_scanner_h0, .int width_a_scanner_h0])), (a_waiting_h0, .inr (5, [.ref a_cells_a_waiting_h0, .int count_a_waiting_h0])), (a_cells_a_waiting_h0, .inl (cI, n_a_cells_a_waiting_h0, .inl b_a_cells_a_waiting_h0)), (a_draft_h0, .inr (1, [.ref a_cells_a_draft_h0, .int count_a_draft_h0])), (a_cells_a_draft_h0, .inl (cI, n_a_cells_a_draft_h0, .inl b_a_cells_a_draft_h0))]) (pl := fpo a9_71 n9_71 d9_71 c9_71) (lv' := []) [0, 1, 2, 3, 4, 5, 6] [] 7 rfl rfl (by decide) [] rfl ?_
      exact j_vretE hr d_Rd_settle_178 ⟨a9_71, a_cells_a_draft_h0, rfl, rfl⟩
set_option maxHeartbeats 4000000 in
set_option maxRecDepth 100000 in
theorem L_Rd_settle_29 (l : Launch) (D : va_G) (cI cB cJ cS : ClassId) (h0 : Nat) (fad : Nat → Nat) (a_scanner_h0 : Nat) (a_draft_h0 : Nat) (a_waiting_h0 : Nat) (a_functions_h0 : Nat) (a_text_h0 : Nat) (a_text_a_scanner_h0 : Nat) (a_cells_a_waiting_h0 : Nat) (a_cells_a_draft_h0 : Nat) (fn : Nat) (fd : Nat) (fcf : Nat → FrC) (mode_h0 : Int32) (levels_h0 : Int32) (signs_h0 : Int32) (loops_h0 : Int32) (token_h0 : Int32) (fault_h0 : Int32) (kind_t : Int32) (place_t : Int32) (width_t : Int32) (second_t : Int32) (parts_t : Int32) (innerParts_t : Int32) (innerPlace_t : Int32) (innerWidth_t : Int32) (signs_t : Int32) (waitingBelow_t : Int32) (limited_t : Int32) (targets_t : Int32) (lastBlock_t : Int32) (next_a_scanner_h0 : Int32) (kind_a_scanner_h0 : Int32) (start_a_scanner_h0 : Int32) (width_a_scanner_h0 : Int32) (count_a_waiting_h0 : Int32) (n_a_cells_a_waiting_h0 : Nat) (b_a_cells_a_waiting_h0 : Nat → Int32) (count_a_draft_h0 : Int32) (n_a_cells_a_draft_h0 : Nat) (b_a_cells_a_draft_h0 : Nat → Int32) (on_p : Nat) (od_p : Nat) (ocf_p : Nat → FrC) (o_0_7 : Int32) (o_0_8 : Int32) (o_0_9 : Int32) (o_1_2 : Int32) (o_1_3 : Int32) (o_1_4 : Int32) (o_1_5 : Int32) (o_1_6 : Int32) (o_1_7 : Int32) (o_1_8 : Int32) (o_1_9 : Int32) (o_1_10 : Int32) (o_1_11 : Int32) (o_1_12 : Int32) (o_1_13 : Int32) (o_1_14 : Int32) (o_3_1 : Int32) (o_5_1 : Int32) (on_nq_5_0 : Nat) (ob_nq_5_0 : Nat → Int32) (mc ms : Nat) (p : Program) (e : Env) (s : State) (m : MethodId) (below : List Frame) (meth : Method) (c : Code) (hr : meth.sig.returnType = (Option.none : Option Jvm.ClassFile.FieldType)) (hnm : meth.name = y_Rd_settle.name) : ∀ (a9_29 : Nat → Nat) (n9_29 : Nat) (d9_29 : Nat) (c9_29 : Nat → FrC) (f0_7_29 : Int32) (f0_9_29 : Int32) (f1_2_29 : Int32) (f1_3_29 : Int32) (f1_4_29 : Int32) (f1_5_29 : Int32) (f1_6_29 : Int32) (f1_7_29 : Int32) (f1_8_29 : Int32) (f1_9_29 : Int32) (f1_10_29 : Int32) (f1_11_29 : Int32) (f1_12_29 : Int32) (f1_13_29 : Int32) (f1_14_29 : Int32) (cl_29 sl_29 C_29 S_29 : Nat), F_Rd_settle_29 levels_h0 loops_h0 token_h0 fault_h0 next_a_scanner_h0 kind_a_scanner_h0 start_a_scanner_h0 width_a_scanner_h0 count_a_waiting_h0 n_a_cells_a_waiting_h0 b_a_cells_a_waiting_h0 count_a_draft_h0 n_a_cells_a_draft_h0 b_a_cells_a_draft_h0   n9_29 d9_29 c9_29 f0_7_29 f0_9_29 f1_2_29 f1_3_29 f1_4_29 f1_5_29 f1_6_29 f1_7_29 f1_8_29 f1_9_29 f1_10_29 f1_11_29 f1_12_29 f1_13_29 f1_14_29 = some ((on_p, od_p, ocf_p, o_0_7, o_0_8, o_0_9, o_1_2, o_1_3, o_1_4, o_1_5, o_1_6, o_1_7, o_1_8, o_1_9, o_1_10, o_1_11, o_1_12, o_1_13, o_1_14, o_3_1, o_5_1, on_nq_5_0, ob_nq_5_0), C_29, S_29) → cl_29 + C_29 ≤ mc → sl_29 + S_29 ≤ ms → J (KxOf p l e { frames := 5, cells := mc, slots := ms, locals := 154 } s m [.ref h0].toArray below meth c D (gT cI cB cJ cS) ((h0, .inr (2, [.ref a_scanner_h0, .ref a_draft_h0, .ref a_waiting_h0, .ref a_functions_h0, .ref (fad 0), .ref (fad fd), .ref a_text_h0, .int mode_h0, .int levels_h0, .int signs_h0, .int loops_h0, .int token_h0, .int fault_h0])) :: ((fad fd), .inr (0, [(frB fad fd), (frA fad fn fd), .int kind_t, .int place_t, .int width_t, .int second_t, .int parts_t, .int innerParts_t, .int innerPlace_t, .int innerWidth_t, .int signs_t, .int waitingBelow_t, .int limited_t, .int targets_t, .int lastBlock_t])) :: (a_scanner_h0, .inr (4, [.ref a_text_a_scanner_h0, .int next_a_scanner_h0, .int kind_a_scanner_h0, .int start_a_scanner_h0, .int width_a_scanner_h0])) :: (a_waiting_h0, .inr (5, [.ref a_cells_a_waiting_h0, .int count_a_waiting_h0])) :: (a_cells_a_waiting_h0, .inl (cI, n_a_cells_a_waiting_h0, .inl b_a_cells_a_waiting_h0)) :: (a_draft_h0, .inr (1, [.ref a_cells_a_draft_h0, .int count_a_draft_h0])) :: (a_cells_a_draft_h0, .inl (cI, n_a_cells_a_draft_h0, .inl b_a_cells_a_draft_h0)) :: fpo fad fn fd fcf) (fun v w => ∃ nad : Nat → Nat, ∃ nq_5_0 : Nat, v = none ∧ w = ((h0, .inr (2, [.ref a_scanner_h0, .ref a_draft_h0, .ref a_waiting_h0, .ref a_functions_h0, .ref (nad 0), .ref (nad od_p), .ref a_text_h0, .int o_0_7, .int o_0_8, .int o_0_9, .int loops_h0, .int token_h0, .int fault_h0])) :: ((nad od_p), .inr (0, [(frB nad od_p), (frA nad on_p od_p), .int o_1_2, .int o_1_3, .int o_1_4, .int o_1_5, .int o_1_6, .int o_1_7, .int o_1_8, .int o_1_9, .int o_1_10, .int o_1_11, .int o_1_12, .int o_1_13, .int o_1_14])) :: (a_scanner_h0, .inr (4, [.ref a_text_a_scanner_h0, .int next_a_scanner_h0, .int kind_a_scanner_h0, .int start_a_scanner_h0, .int width_a_scanner_h0])) :: (a_waiting_h0, .inr (5, [.ref a_cells_a_waiting_h0, .int o_3_1])) :: (a_cells_a_waiting_h0, .inl (cI, n_a_cells_a_waiting_h0, .inl b_a_cells_a_waiting_h0)) :: (a_draft_h0, .inr (1, [.ref nq_5_0, .int o_5_1])) :: (nq_5_0, .inl (cI, on_nq_5_0, .inl ob_nq_5_0)) :: fpo nad on_p od_p ocf_p)) mc ms) prog_6_method_11_code 2 R_Rd 29 [(0, .ref h0)] [] ((h0, .inr (2, [.ref a_scanner_h0, .ref a_draft_h0, .ref a_waiting_h0, .ref a_functions_h0, .ref (a9_29 0), .ref (a9_29 d9_29), .ref a_text_h0, .int f0_7_29, .int levels_h0, .int f0_9_29, .int loops_h0, .int token_h0, .int fault_h0])) :: ((a9_29 d9_29), .inr (0, [(frB a9_29 d9_29), (frA a9_29 n9_29 d9_29), .int f1_2_29, .int f1_3_29, .int f1_4_29, .int f1_5_29, .int f1_6_29, .int f1_7_29, .int f1_8_29, .int f1_9_29, .int f1_10_29, .int f1_11_29, .int f1_12_29, .int f1_13_29, .int f1_14_29])) :: (a_scanner_h0, .inr (4, [.ref a_text_a_scanner_h0, .int next_a_scanner_h0, .int kind_a_scanner_h0, .int start_a_scanner_h0, .int width_a_scanner_h0])) :: (a_waiting_h0, .inr (5, [.ref a_cells_a_waiting_h0, .int count_a_waiting_h0])) :: (a_cells_a_waiting_h0, .inl (cI, n_a_cells_a_waiting_h0, .inl b_a_cells_a_waiting_h0)) :: (a_draft_h0, .inr (1, [.ref a_cells_a_draft_h0, .int count_a_draft_h0])) :: (a_cells_a_draft_h0, .inl (cI, n_a_cells_a_draft_h0, .inl b_a_cells_a_draft_h0)) :: fpo a9_29 n9_29 d9_29 c9_29) cl_29 sl_29 := by
  intro a9_29 n9_29 d9_29 c9_29 f0_7_29 f0_9_29 f1_2_29 f1_3_29 f1_4_29 f1_5_29 f1_6_29 f1_7_29 f1_8_29 f1_9_29 f1_10_29 f1_11_29 f1_12_29 f1_13_29 f1_14_29 cl_29 sl_29 C_29 S_29 h hC hS
  unfold F_Rd_settle_29 at h
  refine j_aload_n d_Rd_settle_29 rfl 0 rfl ?_
  refine j_get ig_Rd rfl 0 rfl 7 (by decide) rfl m_176 rfl d_Rd_settle_30 ?_
  refine j_bipush (v := 30) d_Rd_settle_33 (by decide) ?_
  refine j_icmp_ne (tgt := 45) d_Rd_settle_35 (by decide) (fun c35 => ?_) (fun c35 => ?_)
  · replace h := it_f c35 h
    refine j_aload_n d_Rd_settle_45 rfl 0 rfl ?_
    refine j_get ig_Rd rfl 0 rfl 7 (by decide) rfl m_176 rfl d_Rd_settle_46 ?_
    refine j_bipush (v := 40) d_Rd_settle_49 (by decide) ?_
    refine j_icmp_ne (tgt := 71) d_Rd_settle_51 (by decide) (fun c36 => ?_) (fun c36 => ?_)
    · replace h := it_f c36 h
      refine j_subP (w := [(h0, .inr (2, [.ref a_scanner_h0, .ref a_draft_h0, .ref a_waiting_h0, .ref a_functions_h0, .ref (a9_29 0), .ref (a9_29 d9_29), .ref a_text_h0, .int f0_7_29, .int levels_h0, .int f0_9_29, .int loops_h0, .int token_h0, .int fault_h0])), ((a9_29 d9_29), .inr (0, [(frB a9_29 d9_29), (frA a9_29 n9_29 d9_29), .int f1_2_29, .int f1_3_29, .int f1_4_29, .int f1_5_29, .int f1_6_29, .int f1_7_29, .int f1_8_29, .int f1_9_29, .int f1_10_29, .int f1_11_29, .int f1_12_29, .int f1_13_29, .int f1_14_29])), (a_scanner_h0, .inr (4, [.ref a_text_a_scanner_h0, .int next_a_scanner_h0, .int kind_a_scanner_h0, .int start_a_scanner_h0, .int width_a_scanner_h0])), (a_waiting_h0, .inr (5, [.ref a_cells_a_waiting_h0, .int count_a_waiting_h0])), (a_cells_a_waiting_h0, .inl (cI, n_a_cells_a_waiting_h0, .inl b_a_cells_a_waiting_h0)), (a_draft_h0, .inr (1, [.ref a_cells_a_draft_h0, .int count_a_draft_h0])), (a_cells_a_draft_h0, .inl (cI, n_a_cells_a_draft_h0, .inl b_a_cells_a_draft_h0))]) (pl := fpo a9_29 n9_29 d9_29 c9_29) (lv' := [(0, .ref h0)]) [0, 1, 2, 3, 4, 5, 6] [] 7 rfl rfl (by decide) [0] rfl ?_
      exact L_Rd_settle_71 l D cI cB cJ cS h0 fad a_scanner_h0 a_draft_h0 a_waiting_h0 a_functions_h0 a_text_h0 a_text_a_scanner_h0 a_cells_a_waiting_h0 a_cells_a_draft_h0 fn fd fcf mode_h0 levels_h0 signs_h0 loops_h0 token_h0 fault_h0 kind_t place_t width_t second_t parts_t innerParts_t innerPlace_t innerWidth_t signs_t waitingBelow_t limited_t targets_t lastBlock_t next_a_scanner_h0 kind_a_scanner_h0 start_a_scanner_h0 width_a_scanner_h0 count_a_waiting_h0 n_a_cells_a_waiting_h0 b_a_cells_a_waiting_h0 count_a_draft_h0 n_a_cells_a_draft_h0 b_a_cells_a_draft_h0 on_p od_p ocf_p o_0_7 o_0_8 o_0_9 o_1_2 o_1_3 o_1_4 o_1_5 o_1_6 o_1_7 o_1_8 o_1_9 o_1_10 o_1_11 o_1_12 o_1_13 o_1_14 o_3_1 o_5_1 on_nq_5_0 ob_nq_5_0 mc ms p e s m below meth c hr hnm a9_29 n9_29 d9_29 c9_29 f0_7_29 f0_9_29 f1_2_29 f1_3_29 f1_4_29 f1_5_29 f1_6_29 f1_7_29 f1_8_29 f1_9_29 f1_10_29 f1_11_29 f1_12_29 f1_13_29 f1_14_29 cl_29 sl_29 C_29 S_29 h hC hS
    · replace h := it_t c36 h
      refine j_aload_n d_Rd_settle_54 rfl 0 rfl ?_
      refine j_get ig_Rd rfl 0 rfl 11 (by decide) rfl m_180 rfl d_Rd_settle_55 ?_
      refine j_bipush (v := 40) d_Rd_settle_58 (by decide) ?_
      refine j_icmp_eq (tgt := 71) d_Rd_settle_60 (by decide) (fun c37 => ?_) (fun c37 => ?_)
      · replace h := it_t c37 h
        refine j_subP (w := [(h0, .inr (2, [.ref a_scanner_h0, .ref a_draft_h0, .ref a_waiting_h0, .ref a_functions_h0, .ref (a9_29 0), .ref (a9_29 d9_29), .ref a_text_h0, .int f0_7_29, .int levels_h0, .int f0_9_29, .int loops_h0, .int token_h0, .int fault_h0])), ((a9_29 d9_29), .inr (0, [(frB a9_29 d9_29), (frA a9_29 n9_29 d9_29), .int f1_2_29, .int f1_3_29, .int f1_4_29, .int f1_5_29, .int f1_6_29, .int f1_7_29, .int f1_8_29, .int f1_9_29, .int f1_10_29, .int f1_11_29, .int f1_12_29, .int f1_13_29, .int f1_14_29])), (a_scanner_h0, .inr (4, [.ref a_text_a_scanner_h0, .int next_a_scanner_h0, .int kind_a_scanner_h0, .int start_a_scanner_h0, .int width_a_scanner_h0])), (a_waiting_h0, .inr (5, [.ref a_cells_a_waiting_h0, .int count_a_waiting_h0])), (a_cells_a_waiting_h0, .inl (cI, n_a_cells_a_waiting_h0, .inl b_a_cells_a_waiting_h0)), (a_draft_h0, .inr (1, [.ref a_cells_a_draft_h0, .int count_a_draft_h0])), (a_cells_a_draft_h0, .inl (cI, n_a_cells_a_draft_h0, .inl b_a_cells_a_draft_h0))]) (pl := fpo a9_29 n9_29 d9_29 c9_29) (lv' := [(0, .ref h0)]) [0, 1, 2, 3, 4, 5, 6] [] 7 rfl rfl (by decide) [0] rfl ?_
        exact L_Rd_settle_71 l D cI cB cJ cS h0 fad a_scanner_h0 a_draft_h0 a_waiting_h0 a_functions_h0 a_text_h0 a_text_a_scanner_h0 a_cells_a_waiting_h0 a_cells_a_draft_h0 fn fd fcf mode_h0 levels_h0 signs_h0 loops_h0 token_h0 fault_h0 kind_t place_t width_t second_t parts_t innerParts_t innerPlace_t innerWidth_t signs_t waitingBelow_t limited_t targets_t lastBlock_t next_a_scanner_h0 kind_a_scanner_h0 start_a_scanner_h0 width_a_scanner_h0 count_a_waiting_h0 n_a_cells_a_waiting_h0 b_a_cells_a_waiting_h0 count_a_draft_h0 n_a_cells_a_draft_h0 b_a_cells_a_draft_h0 on_p od_p ocf_p o_0_7 o_0_8 o_0_9 o_1_2 o_1_3 o_1_4 o_1_5 o_1_6 o_1_7 o_1_8 o_1_9 o_1_10 o_1_11 o_1_12 o_1_13 o_1_14 o_3_1 o_5_1 on_nq_5_0 ob_nq_5_0 mc ms p e s m below meth c hr hnm a9_29 n9_29 d9_29 c9_29 f0_7_29 f0_9_29 f1_2_29 f1_3_29 f1_4_29 f1_5_29 f1_6_29 f1_7_29 f1_8_29 f1_9_29 f1_10_29 f1_11_29 f1_12_29 f1_13_29 f1_14_29 cl_29 sl_29 C_29 S_29 h hC hS
      · replace h := it_f c37 h
        refine j_aload_n d_Rd_settle_63 rfl 0 rfl ?_
        refine j_callVg (n := 0) (As := []) (rest := []) (wr := ([((a9_29 d9_29), .inr (0, [(frB a9_29 d9_29), (frA a9_29 n9_29 d9_29), .int f1_2_29, .int f1_3_29, .int f1_4_29, .int f1_5_29, .int f1_6_29, .int f1_7_29, .int f1_8_29, .int f1_9_29, .int f1_10_29, .int f1_11_29, .int f1_12_29, .int f1_13_29, .int f1_14_29])), (a_scanner_h0, .inr (4, [.ref a_text_a_scanner_h0, .int next_a_scanner_h0, .int kind_a_scanner_h0, .int start_a_scanner_h0, .int width_a_scanner_h0])), (a_waiting_h0, .inr (5, [.ref a_cells_a_waiting_h0, .int count_a_waiting_h0])), (a_cells_a_waiting_h0, .inl (cI, n_a_cells_a_waiting_h0, .inl b_a_cells_a_waiting_h0)), (a_draft_h0, .inr (1, [.ref a_cells_a_draft_h0, .int count_a_draft_h0])), (a_cells_a_draft_h0, .inl (cI, n_a_cells_a_draft_h0, .inl b_a_cells_a_draft_h0))] ++ fpo a9_29 n9_29 d9_29 c9_29)) (c_Rd_endItem l D cI cB cJ cS h0 a_scanner_h0 a_draft_h0 a_waiting_h0 a_functions_h0 (a9_29 0) (a9_29 d9_29) a_text_h0 f0_7_29 levels_h0 f0_9_29 loops_h0 token_h0 fault_h0  ) k_Rd_157 (by decide) ⟨Nat.le_of_ble_eq_true rfl, Nat.le_of_ble_eq_true rfl⟩ rfl 0 rfl (pk_mid (wr := [((a9_29 d9_29), .inr (0, [(frB a9_29 d9_29), (frA a9_29 n9_29 d9_29), .int f1_2_29, .int f1_3_29, .int f1_4_29, .int f1_5_29, .int f1_6_29, .int f1_7_29, .int f1_8_29, .int f1_9_29, .int f1_10_29, .int f1_11_29, .int f1_12_29, .int f1_13_29, .int f1_14_29])), (a_scanner_h0, .inr (4, [.ref a_text_a_scanner_h0, .int next_a_scanner_h0, .int kind_a_scanner_h0, .int start_a_scanner_h0, .int width_a_scanner_h0])), (a_waiting_h0, .inr (5, [.ref a_cells_a_waiting_h0, .int count_a_waiting_h0])), (a_cells_a_waiting_h0, .inl (cI, n_a_cells_a_waiting_h0, .inl b_a_cells_a_waiting_h0)), (a_draft_h0, .inr (1, [.ref a_cells_a_draft_h0, .int count_a_draft_h0])), (a_cells_a_draft_h0, .inl (cI, n_a_cells_a_draft_h0, .inl b_a_cells_a_draft_h0))]) (w0 := [(h0, .inr (2, [.ref a_scanner_h0, .ref a_draft_h0, .ref a_waiting_h0, .ref a_functions_h0, .ref (a9_29 0), .ref (a9_29 d9_29), .ref a_text_h0, .int f0_7_29, .int levels_h0, .int f0_9_29, .int loops_h0, .int token_h0, .int fault_h0]))]) (pl := fpo a9_29 n9_29 d9_29 c9_29) [1, 2, 3, 4, 5, 6, 0] 7 rfl rfl (by decide)) rfl rfl (Nat.le_of_ble_eq_true rfl) d_Rd_settle_64 ⟨show cl_29 + 0 ≤ mc by omega, show sl_29 + 0 ≤ ms by omega⟩ (fun v w hq => ?_)
        obtain ⟨rfl, _, rfl⟩ := hq
        refine j_perm (ws' := (((a9_29 d9_29), .inr (0, [(frB a9_29 d9_29), (frA a9_29 n9_29 d9_29), .int f1_2_29, .int f1_3_29, .int f1_4_29, .int f1_5_29, .int f1_6_29, .int f1_7_29, .int f1_8_29, .int f1_9_29, .int f1_10_29, .int f1_11_29, .int f1_12_29, .int f1_13_29, .int f1_14_29])) :: (a_scanner_h0, .inr (4, [.ref a_text_a_scanner_h0, .int next_a_scanner_h0, .int kind_a_scanner_h0, .int start_a_scanner_h0, .int width_a_scanner_h0])) :: (a_waiting_h0, .inr (5, [.ref a_cells_a_waiting_h0, .int count_a_waiting_h0])) :: (a_cells_a_waiting_h0, .inl (cI, n_a_cells_a_waiting_h0, .inl b_a_cells_a_waiting_h0)) :: (a_draft_h0, .inr (1, [.ref a_cells_a_draft_h0, .int count_a_draft_h0])) :: (a_cells_a_draft_h0, .inl (cI, n_a_cells_a_draft_h0, .inl b_a_cells_a_draft_h0)) :: (h0, .inr (2, [.ref a_scanner_h0, .ref a_draft_h0, .ref a_waiting_h0, .ref a_functions_h0, .ref (a9_29 0), .ref (a9_29 d9_29), .ref a_text_h0, .int 34, .int (levels_h0 - f0_9_29), .int 0, .int loops_h0, .int token_h0, .int fault_h0])) :: fpo a9_29 n9_29 d9_29 c9_29)) (pm_eq (a := [((a9_29 d9_29), .inr (0, [(frB a9_29 d9_29), (frA a9_29 n9_29 d9_29), .int f1_2_29, .int f1_3_29, .int f1_4_29, .int f1_5_29, .int f1_6_29, .int f1_7_29, .int f1_8_29, .int f1_9_29, .int f1_10_29, .int f1_11_29, .int f1_12_29, .int f1_13_29, .int f1_14_29])), (a_scanner_h0, .inr (4, [.ref a_text_a_scanner_h0, .int next_a_scanner_h0, .int kind_a_scanner_h0, .int start_a_scanner_h0, .int width_a_scanner_h0])), (a_waiting_h0, .inr (5, [.ref a_cells_a_waiting_h0, .int count_a_waiting_h0])), (a_cells_a_waiting_h0, .inl (cI, n_a_cells_a_waiting_h0, .inl b_a_cells_a_waiting_h0)), (a_draft_h0, .inr (1, [.ref a_cells_a_draft_h0, .int count_a_draft_h0])), (a_cells_a_draft_h0, .inl (cI, n_a_cells_a_draft_h0, .inl b_a_cells_a_draft_h0))]) (b := fpo a9_29 n9_29 d9_29 c9_29) (c := [(h0, .inr (2, [.ref a_scanner_h0, .ref a_draft_h0, .ref a_waiting_h0, .ref a_functions_h0, .ref (a9_29 0), .ref (a9_29 d9_29), .ref a_text_h0, .int 34, .int (levels_h0 - f0_9_29), .int 0, .int loops_h0, .int token_h0, .int fault_h0]))]) rfl) ?_
        refine j_norm (pc' := 67) (st' := [.int 1]) (ws' := (((a9_29 d9_29), .inr (0, [(frB a9_29 d9_29), (frA a9_29 n9_29 d9_29), .int f1_2_29, .int f1_3_29, .int f1_4_29, .int f1_5_29, .int f1_6_29, .int f1_7_29, .int f1_8_29, .int f1_9_29, .int f1_10_29, .int f1_11_29, .int f1_12_29, .int f1_13_29, .int f1_14_29])) :: (a_scanner_h0, .inr (4, [.ref a_text_a_scanner_h0, .int next_a_scanner_h0, .int kind_a_scanner_h0, .int start_a_scanner_h0, .int width_a_scanner_h0])) :: (a_waiting_h0, .inr (5, [.ref a_cells_a_waiting_h0, .int count_a_waiting_h0])) :: (a_cells_a_waiting_h0, .inl (cI, n_a_cells_a_waiting_h0, .inl b_a_cells_a_waiting_h0)) :: (a_draft_h0, .inr (1, [.ref a_cells_a_draft_h0, .int count_a_draft_h0])) :: (a_cells_a_draft_h0, .inl (cI, n_a_cells_a_draft_h0, .inl b_a_cells_a_draft_h0)) :: (h0, .inr (2, [.ref a_scanner_h0, .ref a_draft_h0, .ref a_waiting_h0, .ref a_functions_h0, .ref (a9_29 0), .ref (a9_29 d9_29), .ref a_text_h0, .int 34, .int (levels_h0 - f0_9_29), .int 0, .int loops_h0, .int token_h0, .int fault_h0])) :: fpo a9_29 n9_29 d9_29 c9_29)) (cl' := cl_29) (sl' := sl_29) rfl rfl rfl rfl rfl rfl ?_
        refine j_pop rfl d_Rd_settle_67 ?_
        refine j_goto (tgt := 178) d_Rd_settle_68 (by decide) ?_
        replace h := lf_s h
        obtain ⟨h, e1, e2⟩ := h
        replace h := Prod.mk.inj h
        obtain ⟨h9, h⟩ := h
        subst h9
        replace h := Prod.mk.inj h
        obtain ⟨h9, h⟩ := h
        subst h9
        replace h := Prod.mk.inj h
        obtain ⟨h9, h⟩ := h
        subst h9
        replace h := Prod.mk.inj h
        obtain ⟨h9, h⟩ := h
        subst h9
        replace h := Prod.mk.inj h
        obtain ⟨h9, h⟩ := h
        subst h9
        replace h := Prod.mk.inj h
        obtain ⟨h9, h⟩ := h
        subst h9
        replace h := Prod.mk.inj h
        obtain ⟨h9, h⟩ := h
        subst h9
        replace h := Prod.mk.inj h
        obtain ⟨h9, h⟩ := h
        subst h9
        replace h := Prod.mk.inj h
        obtain ⟨h9, h⟩ := h
        subst h9
        replace h := Prod.mk.inj h
        obtain ⟨h9, h⟩ := h
        subst h9
        replace h := Prod.mk.inj h
        obtain ⟨h9, h⟩ := h
        subst h9
        replace h := Prod.mk.inj h
        obtain ⟨h9, h⟩ := h
        subst h9
        replace h := Prod.mk.inj h
        obtain ⟨h9, h⟩ := h
        subst h9
        replace h := Prod.mk.inj h
        obtain ⟨h9, h⟩ := h
        subst h9
        replace h := Prod.mk.inj h
        obtain ⟨h9, h⟩ := h
        subst h9
        replace h := Prod.mk.inj h
        obtain ⟨h9, h⟩ := h
        subst h9
        replace h := Prod.mk.inj h
        obtain ⟨h9, h⟩ := h
        subst h9
        replace h := Prod.mk.inj h
        obtain ⟨h9, h⟩ := h
        subst h9
        replace h := Prod.mk.inj h
        obtain ⟨h9, h⟩ := h
        subst h9
        replace h := Prod.mk.inj h
        obtain ⟨h9, h⟩ := h
        subst h9
        replace h := Prod.mk.inj h
        obtain ⟨h9, h⟩ := h
        subst h9
        replace h := Prod.mk.inj h
        obtain ⟨h9, h⟩ := h
        subst h9
        subst h
        refine j_widen (cl' := mc) (sl' := ms) (by omega) (by omega) ?_
        refine j_subP (w := [(h0, .inr (2, [.ref a_scanner_h0, .ref a_draft_h0, .ref a_waiting_h0, .ref a_functions_h0, .ref (a9_29 0), .ref (a9_29 d9_29), .ref a_text_h0, .int 34, .int (levels_h0 - f0_9_29), .int 0, .int loops_h0, .int token_h0, .int fault_h0])), ((a9_29 d9_29), .inr (0, [(frB a9_29 d9_29), (frA a9_29 n9_29 d9_29), .int f1_2_29, .int f1_3_29, .int f1_4_29, .int f1_5_29, .int f1_6_29, .int f1_7_29, .int f1_8_29, .int f1_9_29, .int f1_10_29, .int f1_11_29, .int f1_12_29, .int f1_13_29, .int f1_14_29])), (a_scanner_h0, .inr (4, [.ref a_text_a_scanner_h0, .int next_a_scanner_h0, .int kind_a_scanner_h0, .int start_a_scanner_h0, .int width_a_scanner_h0])), (a_waiting_h0, .inr (5, [.ref a_cells_a_waiting_h0, .int count_a_waiting_h0])), (a_cells_a_waiting_h0, .inl (cI, n_a_cells_a_waiting_h0, .inl b_a_cells_a_waiting_h0)), (a_draft_h0, .inr (1, [.ref a_cells_a_draft_h0, .int count_a_draft_h0])), (a_cells_a_draft_h0, .inl (cI, n_a_cells_a_draft_h0, .inl b_a_cells_a_draft_h0))]) (pl := fpo a9_29 n9_29 d9_29 c9_29) (lv' := []) [6, 0, 1, 2, 3, 4, 5] [] 7 rfl rfl (by decide) [] rfl ?_
        exact j_vretE hr d_Rd_settle_178 ⟨a9_29, a_cells_a_draft_h0, rfl, rfl⟩
  · replace h := it_t c35 h
    refine j_aload_n d_Rd_settle_38 rfl 0 rfl ?_
    obtain ⟨⟨r39, r40, r41, r42⟩, k43⟩ : ∃ z, (F_Rd_settleStart f0_7_29 levels_h0 f0_9_29 loops_h0 token_h0 fault_h0 f1_2_29 f1_3_29 f1_4_29 f1_5_29 f1_6_29 f1_7_29 f1_8_29 f1_9_29 f1_10_29 f1_11_29 f1_12_29 f1_13_29 f1_14_29 next_a_scanner_h0 kind_a_scanner_h0 start_a_scanner_h0 width_a_scanner_h0) = z := ⟨_, rfl⟩
    replace h := nm_at k43 h
    refine j_callVg (n := 0) (As := []) (rest := []) (wr := ([(a_waiting_h0, .inr (5, [.ref a_cells_a_waiting_h0, .int count_a_waiting_h0])), (a_cells_a_waiting_h0, .inl (cI, n_a_cells_a_waiting_h0, .inl b_a_cells_a_waiting_h0)), (a_draft_h0, .inr (1, [.ref a_cells_a_draft_h0, .int count_a_draft_h0])), (a_cells_a_draft_h0, .inl (cI, n_a_cells_a_draft_h0, .inl b_a_cells_a_draft_h0))] ++ fpo a9_29 n9_29 d9_29 c9_29)) (c_Rd_settleStart l D cI cB cJ cS h0 a_scanner_h0 a_draft_h0 a_waiting_h0 a_functions_h0 (a9_29 0) (a9_29 d9_29) a_text_h0 (frB a9_29 d9_29) (frA a9_29 n9_29 d9_29) a_text_a_scanner_h0 f0_7_29 levels_h0 f0_9_29 loops_h0 token_h0 fault_h0 f1_2_29 f1_3_29 f1_4_29 f1_5_29 f1_6_29 f1_7_29 f1_8_29 f1_9_29 f1_10_29 f1_11_29 f1_12_29 f1_13_29 f1_14_29 next_a_scanner_h0 kind_a_scanner_h0 start_a_scanner_h0 width_a_scanner_h0  r39 r40 r41 r42 k43) k_Rd_154 (by decide) ⟨Nat.le_of_ble_eq_true rfl, Nat.le_of_ble_eq_true rfl⟩ rfl 0 rfl (pk_mid (wr := [(a_waiting_h0, .inr (5, [.ref a_cells_a_waiting_h0, .int count_a_waiting_h0])), (a_cells_a_waiting_h0, .inl (cI, n_a_cells_a_waiting_h0, .inl b_a_cells_a_waiting_h0)), (a_draft_h0, .inr (1, [.ref a_cells_a_draft_h0, .int count_a_draft_h0])), (a_cells_a_draft_h0, .inl (cI, n_a_cells_a_draft_h0, .inl b_a_cells_a_draft_h0))]) (w0 := [(h0, .inr (2, [.ref a_scanner_h0, .ref a_draft_h0, .ref a_waiting_h0, .ref a_functions_h0, .ref (a9_29 0), .ref (a9_29 d9_29), .ref a_text_h0, .int f0_7_29, .int levels_h0, .int f0_9_29, .int loops_h0, .int token_h0, .int fault_h0])), ((a9_29 d9_29), .inr (0, [(frB a9_29 d9_29), (frA a9_29 n9_29 d9_29), .int f1_2_29, .int f1_3_29, .int f1_4_29, .int f1_5_29, .int f1_6_29, .int f1_7_29, .int f1_8_29, .int f1_9_29, .int f1_10_29, .int f1_11_29, .int f1_12_29, .int f1_13_29, .int f1_14_29])), (a_scanner_h0, .inr (4, [.ref a_text_a_scanner_h0, .int next_a_scanner_h0, .int kind_a_scanner_h0, .int start_a_scanner_h0, .int width_a_scanner_h0]))]) (pl := fpo a9_29 n9_29 d9_29 c9_29) [3, 4, 5, 6, 0, 1, 2] 7 rfl rfl (by decide)) rfl rfl (Nat.le_of_ble_eq_true rfl) d_Rd_settle_39 ⟨show cl_29 + 0 ≤ mc by omega, show sl_29 + 0 ≤ ms by omega⟩ (fun v w hq => ?_)
    obtain ⟨rfl, rfl⟩ := hq
    refine j_perm (ws' := ((a_waiting_h0, .inr (5, [.ref a_cells_a_waiting_h0, .int count_a_waiting_h0])) :: (a_cells_a_waiting_h0, .inl (cI, n_a_cells_a_waiting_h0, .inl b_a_cells_a_waiting_h0)) :: (a_draft_h0, .inr (1, [.ref a_cells_a_draft_h0, .int count_a_draft_h0])) :: (a_cells_a_draft_h0, .inl (cI, n_a_cells_a_draft_h0, .inl b_a_cells_a_draft_h0)) :: (h0, .inr (2, [.ref a_scanner_h0, .ref a_draft_h0, .ref a_waiting_h0, .ref a_functions_h0, .ref (a9_29 0), .ref (a9_29 d9_29), .ref a_text_h0, .int r39, .int levels_h0, .int f0_9_29, .int loops_h0, .int token_h0, .int fault_h0])) :: ((a9_29 d9_29), .inr (0, [(frB a9_29 d9_29), (frA a9_29 n9_29 d9_29), .int f1_2_29, .int f1_3_29, .int f1_4_29, .int f1_5_29, .int f1_6_29, .int f1_7_29, .int r40, .int r41, .int f1_10_29, .int f1_11_29, .int f1_12_29, .int r42, .int f1_14_29])) :: (a_scanner_h0, .inr (4, [.ref a_text_a_scanner_h0, .int next_a_scanner_h0, .int kind_a_scanner_h0, .int start_a_scanner_h0, .int width_a_scanner_h0])) :: fpo a9_29 n9_29 d9_29 c9_29)) (pm_eq (a := [(a_waiting_h0, .inr (5, [.ref a_cells_a_waiting_h0, .int count_a_waiting_h0])), (a_cells_a_waiting_h0, .inl (cI, n_a_cells_a_waiting_h0, .inl b_a_cells_a_waiting_h0)), (a_draft_h0, .inr (1, [.ref a_cells_a_draft_h0, .int count_a_draft_h0])), (a_cells_a_draft_h0, .inl (cI, n_a_cells_a_draft_h0, .inl b_a_cells_a_draft_h0))]) (b := fpo a9_29 n9_29 d9_29 c9_29) (c := [(h0, .inr (2, [.ref a_scanner_h0, .ref a_draft_h0, .ref a_waiting_h0, .ref a_functions_h0, .ref (a9_29 0), .ref (a9_29 d9_29), .ref a_text_h0, .int r39, .int levels_h0, .int f0_9_29, .int loops_h0, .int token_h0, .int fault_h0])), ((a9_29 d9_29), .inr (0, [(frB a9_29 d9_29), (frA a9_29 n9_29 d9_29), .int f1_2_29, .int f1_3_29, .int f1_4_29, .int f1_5_29, .int f1_6_29, .int f1_7_29, .int r40, .int r41, .int f1_10_29, .int f1_11_29, .int f1_12_29, .int r42, .int f1_14_29])), (a_scanner_h0, .inr (4, [.ref a_text_a_scanner_h0, .int next_a_scanner_h0, .int kind_a_scanner_h0, .int start_a_scanner_h0, .int width_a_scanner_h0]))]) rfl) ?_
    refine j_norm (pc' := 42) (st' := []) (ws' := ((a_waiting_h0, .inr (5, [.ref a_cells_a_waiting_h0, .int count_a_waiting_h0])) :: (a_cells_a_waiting_h0, .inl (cI, n_a_cells_a_waiting_h0, .inl b_a_cells_a_waiting_h0)) :: (a_draft_h0, .inr (1, [.ref a_cells_a_draft_h0, .int count_a_draft_h0])) :: (a_cells_a_draft_h0, .inl (cI, n_a_cells_a_draft_h0, .inl b_a_cells_a_draft_h0)) :: (h0, .inr (2, [.ref a_scanner_h0, .ref a_draft_h0, .ref a_waiting_h0, .ref a_functions_h0, .ref (a9_29 0), .ref (a9_29 d9_29), .ref a_text_h0, .int r39, .int levels_h0, .int f0_9_29, .int loops_h0, .int token_h0, .int fault_h0])) :: ((a9_29 d9_29), .inr (0, [(frB a9_29 d9_29), (frA a9_29 n9_29 d9_29), .int f1_2_29, .int f1_3_29, .int f1_4_29, .int f1_5_29, .int f1_6_29, .int f1_7_29, .int r40, .int r41, .int f1_10_29, .int f1_11_29, .int f1_12_29, .int r42, .int f1_14_29])) :: (a_scanner_h0, .inr (4, [.ref a_text_a_scanner_h0, .int next_a_scanner_h0, .int kind_a_scanner_h0, .int start_a_scanner_h0, .int width_a_scanner_h0])) :: fpo a9_29 n9_29 d9_29 c9_29)) (cl' := cl_29) (sl' := sl_29) rfl rfl rfl rfl rfl rfl ?_
    refine j_goto (tgt := 178) d_Rd_settle_42 (by decide) ?_
    replace h := lf_s h
    obtain ⟨h, e1, e2⟩ := h
    replace h := Prod.mk.inj h
    obtain ⟨h9, h⟩ := h
    subst h9
    replace h := Prod.mk.inj h
    obtain ⟨h9, h⟩ := h
    subst h9
    replace h := Prod.mk.inj h
    obtain ⟨h9, h⟩ := h
    subst h9
    replace h := Prod.mk.inj h
    obtain ⟨h9, h⟩ := h
    subst h9
    replace h := Prod.mk.inj h
    obtain ⟨h9, h⟩ := h
    subst h9
    replace h := Prod.mk.inj h
    obtain ⟨h9, h⟩ := h
    subst h9
    replace h := Prod.mk.inj h
    obtain ⟨h9, h⟩ := h
    subst h9
    replace h := Prod.mk.inj h
    obtain ⟨h9, h⟩ := h
    subst h9
    replace h := Prod.mk.inj h
    obtain ⟨h9, h⟩ := h
    subst h9
    replace h := Prod.mk.inj h
    obtain ⟨h9, h⟩ := h
    subst h9
    replace h := Prod.mk.inj h
    obtain ⟨h9, h⟩ := h
    subst h9
    replace h := Prod.mk.inj h
    obtain ⟨h9, h⟩ := h
    subst h9
    replace h := Prod.mk.inj h
    obtain ⟨h9, h⟩ := h
    subst h9
    replace h := Prod.mk.inj h
    obtain ⟨h9, h⟩ := h
    subst h9
    replace h := Prod.mk.inj h
    obtain ⟨h9, h⟩ := h
    subst h9
    replace h := Prod.mk.inj h
    obtain ⟨h9, h⟩ := h
    subst h9
    replace h := Prod.mk.inj h
    obtain ⟨h9, h⟩ := h
    subst h9
    replace h := Prod.mk.inj h
    obtain ⟨h9, h⟩ := h
    subst h9
    replace h := Prod.mk.inj h
    obtain ⟨h9, h⟩ := h
    subst h9
    replace h := Prod.mk.inj h
    obtain ⟨h9, h⟩ := h
    subst h9
    replace h := Prod.mk.inj h
    obtain ⟨h9, h⟩ := h
    subst h9
    replace h := Prod.mk.inj h
    obtain ⟨h9, h⟩ := h
    subst h9
    subst h
    refine j_widen (cl' := mc) (sl' := ms) (by omega) (by omega) ?_
    refine j_subP (w := [(h0, .inr (2, [.ref a_scanner_h0, .ref a_draft_h0, .ref a_waiting_h0, .ref a_functions_h0, .ref (a9_29 0), .ref (a9_29 d9_29), .ref a_text_h0, .int r39, .int levels_h0, .int f0_9_29, .int loops_h0, .int token_h0, .int fault_h0])), ((a9_29 d9_29), .inr (0, [(frB a9_29 d9_29), (frA a9_29 n9_29 d9_29), .int f1_2_29, .int f1_3_29, .int f1_4_29, .int f1_5_29, .int f1_6_29, .int f1_7_29, .int r40, .int r41, .int f1_10_29, .int f1_11_29, .int f1_12_29, .int r42, .int f1_14_29])), (a_scanner_h0, .inr (4, [.ref a_text_a_scanner_h0, .int next_a_scanner_h0, .int kind_a_scanner_h0, .int start_a_scanner_h0, .int width_a_scanner_h0])), (a_waiting_h0, .inr (5, [.ref a_cells_a_waiting_h0, .int count_a_waiting_h0])), (a_cells_a_waiting_h0, .inl (cI, n_a_cells_a_waiting_h0, .inl b_a_cells_a_waiting_h0)), (a_draft_h0, .inr (1, [.ref a_cells_a_draft_h0, .int count_a_draft_h0])), (a_cells_a_draft_h0, .inl (cI, n_a_cells_a_draft_h0, .inl b_a_cells_a_draft_h0))]) (pl := fpo a9_29 n9_29 d9_29 c9_29) (lv' := []) [4, 5, 6, 0, 1, 2, 3] [] 7 rfl rfl (by decide) [] rfl ?_
    exact j_vretE hr d_Rd_settle_178 ⟨a9_29, a_cells_a_draft_h0, rfl, rfl⟩
set_option maxHeartbeats 4000000 in
set_option maxRecDepth 100000 in
theorem c_Rd_settle (l : Launch) (D : va_G) (cI cB cJ cS : ClassId) (h0 : Nat) (fad : Nat → Nat) (a_scanner_h0 : Nat) (a_draft_h0 : Nat) (a_waiting_h0 : Nat) (a_functions_h0 : Nat) (a_text_h0 : Nat) (a_text_a_scanner_h0 : Nat) (a_cells_a_waiting_h0 : Nat) (a_cells_a_draft_h0 : Nat) (fn : Nat) (fd : Nat) (fcf : Nat → FrC) (mode_h0 : Int32) (levels_h0 : Int32) (signs_h0 : Int32) (loops_h0 : Int32) (token_h0 : Int32) (fault_h0 : Int32) (kind_t : Int32) (place_t : Int32) (width_t : Int32) (second_t : Int32) (parts_t : Int32) (innerParts_t : Int32) (innerPlace_t : Int32) (innerWidth_t : Int32) (signs_t : Int32) (waitingBelow_t : Int32) (limited_t : Int32) (targets_t : Int32) (lastBlock_t : Int32) (next_a_scanner_h0 : Int32) (kind_a_scanner_h0 : Int32) (start_a_scanner_h0 : Int32) (width_a_scanner_h0 : Int32) (count_a_waiting_h0 : Int32) (n_a_cells_a_waiting_h0 : Nat) (b_a_cells_a_waiting_h0 : Nat → Int32) (count_a_draft_h0 : Int32) (n_a_cells_a_draft_h0 : Nat) (b_a_cells_a_draft_h0 : Nat → Int32) (on_p : Nat) (od_p : Nat) (ocf_p : Nat → FrC) (o_0_7 : Int32) (o_0_8 : Int32) (o_0_9 : Int32) (o_1_2 : Int32) (o_1_3 : Int32) (o_1_4 : Int32) (o_1_5 : Int32) (o_1_6 : Int32) (o_1_7 : Int32) (o_1_8 : Int32) (o_1_9 : Int32) (o_1_10 : Int32) (o_1_11 : Int32) (o_1_12 : Int32) (o_1_13 : Int32) (o_1_14 : Int32) (o_3_1 : Int32) (o_5_1 : Int32) (on_nq_5_0 : Nat) (ob_nq_5_0 : Nat → Int32) (mc ms : Nat) (h : F_Rd_settle fn fd fcf mode_h0 levels_h0 signs_h0 loops_h0 token_h0 fault_h0 kind_t place_t width_t second_t parts_t innerParts_t innerPlace_t innerWidth_t signs_t waitingBelow_t limited_t targets_t lastBlock_t next_a_scanner_h0 kind_a_scanner_h0 start_a_scanner_h0 width_a_scanner_h0 count_a_waiting_h0 n_a_cells_a_waiting_h0 b_a_cells_a_waiting_h0 count_a_draft_h0 n_a_cells_a_draft_h0 b_a_cells_a_draft_h0 = some ((on_p, od_p, ocf_p, o_0_7, o_0_8, o_0_9, o_1_2, o_1_3, o_1_4, o_1_5, o_1_6, o_1_7, o_1_8, o_1_9, o_1_10, o_1_11, o_1_12, o_1_13, o_1_14, o_3_1, o_5_1, on_nq_5_0, ob_nq_5_0), mc, ms)) : Ct l D (gT cI cB cJ cS) y_Rd_settle prog_6_method_11_code 2 (Option.none : Option Jvm.ClassFile.FieldType) 5 154 mc ms [.ref h0] ((h0, .inr (2, [.ref a_scanner_h0, .ref a_draft_h0, .ref a_waiting_h0, .ref a_functions_h0, .ref (fad 0), .ref (fad fd), .ref a_text_h0, .int mode_h0, .int levels_h0, .int signs_h0, .int loops_h0, .int token_h0, .int fault_h0])) :: ((fad fd), .inr (0, [(frB fad fd), (frA fad fn fd), .int kind_t, .int place_t, .int width_t, .int second_t, .int parts_t, .int innerParts_t, .int innerPlace_t, .int innerWidth_t, .int signs_t, .int waitingBelow_t, .int limited_t, .int targets_t, .int lastBlock_t])) :: (a_scanner_h0, .inr (4, [.ref a_text_a_scanner_h0, .int next_a_scanner_h0, .int kind_a_scanner_h0, .int start_a_scanner_h0, .int width_a_scanner_h0])) :: (a_waiting_h0, .inr (5, [.ref a_cells_a_waiting_h0, .int count_a_waiting_h0])) :: (a_cells_a_waiting_h0, .inl (cI, n_a_cells_a_waiting_h0, .inl b_a_cells_a_waiting_h0)) :: (a_draft_h0, .inr (1, [.ref a_cells_a_draft_h0, .int count_a_draft_h0])) :: (a_cells_a_draft_h0, .inl (cI, n_a_cells_a_draft_h0, .inl b_a_cells_a_draft_h0)) :: fpo fad fn fd fcf) (fun v w => ∃ nad : Nat → Nat, ∃ nq_5_0 : Nat, v = none ∧ w = ((h0, .inr (2, [.ref a_scanner_h0, .ref a_draft_h0, .ref a_waiting_h0, .ref a_functions_h0, .ref (nad 0), .ref (nad od_p), .ref a_text_h0, .int o_0_7, .int o_0_8, .int o_0_9, .int loops_h0, .int token_h0, .int fault_h0])) :: ((nad od_p), .inr (0, [(frB nad od_p), (frA nad on_p od_p), .int o_1_2, .int o_1_3, .int o_1_4, .int o_1_5, .int o_1_6, .int o_1_7, .int o_1_8, .int o_1_9, .int o_1_10, .int o_1_11, .int o_1_12, .int o_1_13, .int o_1_14])) :: (a_scanner_h0, .inr (4, [.ref a_text_a_scanner_h0, .int next_a_scanner_h0, .int kind_a_scanner_h0, .int start_a_scanner_h0, .int width_a_scanner_h0])) :: (a_waiting_h0, .inr (5, [.ref a_cells_a_waiting_h0, .int o_3_1])) :: (a_cells_a_waiting_h0, .inl (cI, n_a_cells_a_waiting_h0, .inl b_a_cells_a_waiting_h0)) :: (a_draft_h0, .inr (1, [.ref nq_5_0, .int o_5_1])) :: (nq_5_0, .inl (cI, on_nq_5_0, .inl ob_nq_5_0)) :: fpo nad on_p od_p ocf_p)) := by
  refine Ct.mk (by decide) (Nat.le_of_ble_eq_true rfl) ?_
  intro p e s m below meth c hr hnm
  refine j_norm (pc' := 0) (lv' := [(0, .ref h0)]) (st' := []) (ws' := ((h0, .inr (2, [.ref a_scanner_h0, .ref a_draft_h0, .ref a_waiting_h0, .ref a_functions_h0, .ref (fad 0), .ref (fad fd), .ref a_text_h0, .int mode_h0, .int levels_h0, .int signs_h0, .int loops_h0, .int token_h0, .int fault_h0])) :: ((fad fd), .inr (0, [(frB fad fd), (frA fad fn fd), .int kind_t, .int place_t, .int width_t, .int second_t, .int parts_t, .int innerParts_t, .int innerPlace_t, .int innerWidth_t, .int signs_t, .int waitingBelow_t, .int limited_t, .int targets_t, .int lastBlock_t])) :: (a_scanner_h0, .inr (4, [.ref a_text_a_scanner_h0, .int next_a_scanner_h0, .int kind_a_scanner_h0, .int start_a_scanner_h0, .int width_a_scanner_h0])) :: (a_waiting_h0, .inr (5, [.ref a_cells_a_waiting_h0, .int count_a_waiting_h0])) :: (a_cells_a_waiting_h0, .inl (cI, n_a_cells_a_waiting_h0, .inl b_a_cells_a_waiting_h0)) :: (a_draft_h0, .inr (1, [.ref a_cells_a_draft_h0, .int count_a_draft_h0])) :: (a_cells_a_draft_h0, .inl (cI, n_a_cells_a_draft_h0, .inl b_a_cells_a_draft_h0)) :: fpo fad fn fd fcf)) (cl' := 0) (sl' := 0) rfl rfl rfl rfl rfl rfl ?_
  unfold F_Rd_settle at h
  have hC : 0 + mc ≤ mc := by omega
  have hS : 0 + ms ≤ ms := by omega
  refine j_aload_n d_Rd_settle_0 rfl 0 rfl ?_
  refine j_get ig_Rd rfl 0 rfl 7 (by decide) rfl m_176 rfl d_Rd_settle_1 ?_
  refine j_if_ne (tgt := 29) d_Rd_settle_4 (by decide) (fun c44 => ?_) (fun c44 => ?_)
  · replace h := it_f c44 h
    refine j_subP (w := [(h0, .inr (2, [.ref a_scanner_h0, .ref a_draft_h0, .ref a_waiting_h0, .ref a_functions_h0, .ref (fad 0), .ref (fad fd), .ref a_text_h0, .int mode_h0, .int levels_h0, .int signs_h0, .int loops_h0, .int token_h0, .int fault_h0])), ((fad fd), .inr (0, [(frB fad fd), (frA fad fn fd), .int kind_t, .int place_t, .int width_t, .int second_t, .int parts_t, .int innerParts_t, .int innerPlace_t, .int innerWidth_t, .int signs_t, .int waitingBelow_t, .int limited_t, .int targets_t, .int lastBlock_t])), (a_scanner_h0, .inr (4, [.ref a_text_a_scanner_h0, .int next_a_scanner_h0, .int kind_a_scanner_h0, .int start_a_scanner_h0, .int width_a_scanner_h0])), (a_waiting_h0, .inr (5, [.ref a_cells_a_waiting_h0, .int count_a_waiting_h0])), (a_cells_a_waiting_h0, .inl (cI, n_a_cells_a_waiting_h0, .inl b_a_cells_a_waiting_h0)), (a_draft_h0, .inr (1, [.ref a_cells_a_draft_h0, .int count_a_draft_h0])), (a_cells_a_draft_h0, .inl (cI, n_a_cells_a_draft_h0, .inl b_a_cells_a_draft_h0))]) (pl := fpo fad fn fd fcf) (lv' := [(0, .ref h0)]) [0, 1, 2, 3, 4, 5, 6] [] 7 rfl rfl (by decide) [0] rfl ?_
    exact L_Rd_settle_29 l D cI cB cJ cS h0 fad a_scanner_h0 a_draft_h0 a_waiting_h0 a_functions_h0 a_text_h0 a_text_a_scanner_h0 a_cells_a_waiting_h0 a_cells_a_draft_h0 fn fd fcf mode_h0 levels_h0 signs_h0 loops_h0 token_h0 fault_h0 kind_t place_t width_t second_t parts_t innerParts_t innerPlace_t innerWidth_t signs_t waitingBelow_t limited_t targets_t lastBlock_t next_a_scanner_h0 kind_a_scanner_h0 start_a_scanner_h0 width_a_scanner_h0 count_a_waiting_h0 n_a_cells_a_waiting_h0 b_a_cells_a_waiting_h0 count_a_draft_h0 n_a_cells_a_draft_h0 b_a_cells_a_draft_h0 on_p od_p ocf_p o_0_7 o_0_8 o_0_9 o_1_2 o_1_3 o_1_4 o_1_5 o_1_6 o_1_7 o_1_8 o_1_9 o_1_10 o_1_11 o_1_12 o_1_13 o_1_14 o_3_1 o_5_1 on_nq_5_0 ob_nq_5_0 mc ms p e s m below meth c hr hnm fad fn fd fcf mode_h0 signs_h0 kind_t place_t width_t second_t parts_t innerParts_t innerPlace_t innerWidth_t signs_t waitingBelow_t limited_t targets_t lastBlock_t 0 0 mc ms h hC hS
  · replace h := it_t c44 h
    refine j_aload_n d_Rd_settle_7 rfl 0 rfl ?_
    refine j_get ig_Rd rfl 0 rfl 11 (by decide) rfl m_180 rfl d_Rd_settle_8 ?_
    obtain ⟨r45, k47⟩ : ∃ z, (F_Sc_isWord token_h0) = z := ⟨_, rfl⟩
    replace h := nm_at k47 h
    refine j_callSg (n := 1) (As := [.int token_h0]) (rest := []) (wr := ([(h0, .inr (2, [.ref a_scanner_h0, .ref a_draft_h0, .ref a_waiting_h0, .ref a_functions_h0, .ref (fad 0), .ref (fad fd), .ref a_text_h0, .int mode_h0, .int levels_h0, .int signs_h0, .int loops_h0, .int token_h0, .int fault_h0])), ((fad fd), .inr (0, [(frB fad fd), (frA fad fn fd), .int kind_t, .int place_t, .int width_t, .int second_t, .int parts_t, .int innerParts_t, .int innerPlace_t, .int innerWidth_t, .int signs_t, .int waitingBelow_t, .int limited_t, .int targets_t, .int lastBlock_t])), (a_scanner_h0, .inr (4, [.ref a_text_a_scanner_h0, .int next_a_scanner_h0, .int kind_a_scanner_h0, .int start_a_scanner_h0, .int width_a_scanner_h0])), (a_waiting_h0, .inr (5, [.ref a_cells_a_waiting_h0, .int count_a_waiting_h0])), (a_cells_a_waiting_h0, .inl (cI, n_a_cells_a_waiting_h0, .inl b_a_cells_a_waiting_h0)), (a_draft_h0, .inr (1, [.ref a_cells_a_draft_h0, .int count_a_draft_h0])), (a_cells_a_draft_h0, .inl (cI, n_a_cells_a_draft_h0, .inl b_a_cells_a_draft_h0))] ++ fpo fad fn fd fcf)) (c_Sc_isWord l D cI cB cJ cS token_h0  r45 k47) k_Rd_147 (by decide) ⟨Nat.le_of_ble_eq_true rfl, Nat.le_of_ble_eq_true rfl⟩ (pk_mid (wr := [(h0, .inr (2, [.ref a_scanner_h0, .ref a_draft_h0, .ref a_waiting_h0, .ref a_functions_h0, .ref (fad 0), .ref (fad fd), .ref a_text_h0, .int mode_h0, .int levels_h0, .int signs_h0, .int loops_h0, .int token_h0, .int fault_h0])), ((fad fd), .inr (0, [(frB fad fd), (frA fad fn fd), .int kind_t, .int place_t, .int width_t, .int second_t, .int parts_t, .int innerParts_t, .int innerPlace_t, .int innerWidth_t, .int signs_t, .int waitingBelow_t, .int limited_t, .int targets_t, .int lastBlock_t])), (a_scanner_h0, .inr (4, [.ref a_text_a_scanner_h0, .int next_a_scanner_h0, .int kind_a_scanner_h0, .int start_a_scanner_h0, .int width_a_scanner_h0])), (a_waiting_h0, .inr (5, [.ref a_cells_a_waiting_h0, .int count_a_waiting_h0])), (a_cells_a_waiting_h0, .inl (cI, n_a_cells_a_waiting_h0, .inl b_a_cells_a_waiting_h0)), (a_draft_h0, .inr (1, [.ref a_cells_a_draft_h0, .int count_a_draft_h0])), (a_cells_a_draft_h0, .inl (cI, n_a_cells_a_draft_h0, .inl b_a_cells_a_draft_h0))]) (w0 := []) (pl := fpo fad fn fd fcf) [0, 1, 2, 3, 4, 5, 6] 7 rfl rfl (by decide)) rfl rfl (Nat.le_of_ble_eq_true rfl) d_Rd_settle_11 ⟨show 0 + 0 ≤ mc by omega, show 0 + 0 ≤ ms by omega⟩ (fun v w hq => ?_)
    obtain ⟨rfl, z46, rfl⟩ := hq
    refine j_perm (ws' := ((h0, .inr (2, [.ref a_scanner_h0, .ref a_draft_h0, .ref a_waiting_h0, .ref a_functions_h0, .ref (fad 0), .ref (fad fd), .ref a_text_h0, .int mode_h0, .int levels_h0, .int signs_h0, .int loops_h0, .int token_h0, .int fault_h0])) :: ((fad fd), .inr (0, [(frB fad fd), (frA fad fn fd), .int kind_t, .int place_t, .int width_t, .int second_t, .int parts_t, .int innerParts_t, .int innerPlace_t, .int innerWidth_t, .int signs_t, .int waitingBelow_t, .int limited_t, .int targets_t, .int lastBlock_t])) :: (a_scanner_h0, .inr (4, [.ref a_text_a_scanner_h0, .int next_a_scanner_h0, .int kind_a_scanner_h0, .int start_a_scanner_h0, .int width_a_scanner_h0])) :: (a_waiting_h0, .inr (5, [.ref a_cells_a_waiting_h0, .int count_a_waiting_h0])) :: (a_cells_a_waiting_h0, .inl (cI, n_a_cells_a_waiting_h0, .inl b_a_cells_a_waiting_h0)) :: (a_draft_h0, .inr (1, [.ref a_cells_a_draft_h0, .int count_a_draft_h0])) :: (a_cells_a_draft_h0, .inl (cI, n_a_cells_a_draft_h0, .inl b_a_cells_a_draft_h0)) :: fpo fad fn fd fcf)) (pm_eq (a := [(h0, .inr (2, [.ref a_scanner_h0, .ref a_draft_h0, .ref a_waiting_h0, .ref a_functions_h0, .ref (fad 0), .ref (fad fd), .ref a_text_h0, .int mode_h0, .int levels_h0, .int signs_h0, .int loops_h0, .int token_h0, .int fault_h0])), ((fad fd), .inr (0, [(frB fad fd), (frA fad fn fd), .int kind_t, .int place_t, .int width_t, .int second_t, .int parts_t, .int innerParts_t, .int innerPlace_t, .int innerWidth_t, .int signs_t, .int waitingBelow_t, .int limited_t, .int targets_t, .int lastBlock_t])), (a_scanner_h0, .inr (4, [.ref a_text_a_scanner_h0, .int next_a_scanner_h0, .int kind_a_scanner_h0, .int start_a_scanner_h0, .int width_a_scanner_h0])), (a_waiting_h0, .inr (5, [.ref a_cells_a_waiting_h0, .int count_a_waiting_h0])), (a_cells_a_waiting_h0, .inl (cI, n_a_cells_a_waiting_h0, .inl b_a_cells_a_waiting_h0)), (a_draft_h0, .inr (1, [.ref a_cells_a_draft_h0, .int count_a_draft_h0])), (a_cells_a_draft_h0, .inl (cI, n_a_cells_a_draft_h0, .inl b_a_cells_a_draft_h0))]) (b := fpo fad fn fd fcf) (c := []) rfl) ?_
    refine j_norm (pc' := 14) (st' := [.int r45]) (ws' := ((h0, .inr (2, [.ref a_scanner_h0, .ref a_draft_h0, .ref a_waiting_h0, .ref a_functions_h0, .ref (fad 0), .ref (fad fd), .ref a_text_h0, .int mode_h0, .int levels_h0, .int signs_h0, .int loops_h0, .int token_h0, .int fault_h0])) :: ((fad fd), .inr (0, [(frB fad fd), (frA fad fn fd), .int kind_t, .int place_t, .int width_t, .int second_t, .int parts_t, .int innerParts_t, .int innerPlace_t, .int innerWidth_t, .int signs_t, .int waitingBelow_t, .int limited_t, .int targets_t, .int lastBlock_t])) :: (a_scanner_h0, .inr (4, [.ref a_text_a_scanner_h0, .int next_a_scanner_h0, .int kind_a_scanner_h0, .int start_a_scanner_h0, .int width_a_scanner_h0])) :: (a_waiting_h0, .inr (5, [.ref a_cells_a_waiting_h0, .int count_a_waiting_h0])) :: (a_cells_a_waiting_h0, .inl (cI, n_a_cells_a_waiting_h0, .inl b_a_cells_a_waiting_h0)) :: (a_draft_h0, .inr (1, [.ref a_cells_a_draft_h0, .int count_a_draft_h0])) :: (a_cells_a_draft_h0, .inl (cI, n_a_cells_a_draft_h0, .inl b_a_cells_a_draft_h0)) :: fpo fad fn fd fcf)) (cl' := 0) (sl' := 0) rfl rfl rfl rfl rfl rfl ?_
    refine j_if_ne (tgt := 29) d_Rd_settle_14 (by decide) (fun c48 => ?_) (fun c48 => ?_)
    · replace h := it_f c48 h
      refine j_subP (w := [(h0, .inr (2, [.ref a_scanner_h0, .ref a_draft_h0, .ref a_waiting_h0, .ref a_functions_h0, .ref (fad 0), .ref (fad fd), .ref a_text_h0, .int mode_h0, .int levels_h0, .int signs_h0, .int loops_h0, .int token_h0, .int fault_h0])), ((fad fd), .inr (0, [(frB fad fd), (frA fad fn fd), .int kind_t, .int place_t, .int width_t, .int second_t, .int parts_t, .int innerParts_t, .int innerPlace_t, .int innerWidth_t, .int signs_t, .int waitingBelow_t, .int limited_t, .int targets_t, .int lastBlock_t])), (a_scanner_h0, .inr (4, [.ref a_text_a_scanner_h0, .int next_a_scanner_h0, .int kind_a_scanner_h0, .int start_a_scanner_h0, .int width_a_scanner_h0])), (a_waiting_h0, .inr (5, [.ref a_cells_a_waiting_h0, .int count_a_waiting_h0])), (a_cells_a_waiting_h0, .inl (cI, n_a_cells_a_waiting_h0, .inl b_a_cells_a_waiting_h0)), (a_draft_h0, .inr (1, [.ref a_cells_a_draft_h0, .int count_a_draft_h0])), (a_cells_a_draft_h0, .inl (cI, n_a_cells_a_draft_h0, .inl b_a_cells_a_draft_h0))]) (pl := fpo fad fn fd fcf) (lv' := [(0, .ref h0)]) [0, 1, 2, 3, 4, 5, 6] [] 7 rfl rfl (by decide) [0] rfl ?_
      exact L_Rd_settle_29 l D cI cB cJ cS h0 fad a_scanner_h0 a_draft_h0 a_waiting_h0 a_functions_h0 a_text_h0 a_text_a_scanner_h0 a_cells_a_waiting_h0 a_cells_a_draft_h0 fn fd fcf mode_h0 levels_h0 signs_h0 loops_h0 token_h0 fault_h0 kind_t place_t width_t second_t parts_t innerParts_t innerPlace_t innerWidth_t signs_t waitingBelow_t limited_t targets_t lastBlock_t next_a_scanner_h0 kind_a_scanner_h0 start_a_scanner_h0 width_a_scanner_h0 count_a_waiting_h0 n_a_cells_a_waiting_h0 b_a_cells_a_waiting_h0 count_a_draft_h0 n_a_cells_a_draft_h0 b_a_cells_a_draft_h0 on_p od_p ocf_p o_0_7 o_0_8 o_0_9 o_1_2 o_1_3 o_1_4 o_1_5 o_1_6 o_1_7 o_1_8 o_1_9 o_1_10 o_1_11 o_1_12 o_1_13 o_1_14 o_3_1 o_5_1 on_nq_5_0 ob_nq_5_0 mc ms p e s m below meth c hr hnm fad fn fd fcf mode_h0 signs_h0 kind_t place_t width_t second_t parts_t innerParts_t innerPlace_t innerWidth_t signs_t waitingBelow_t limited_t targets_t lastBlock_t 0 0 mc ms h hC hS
    · replace h := it_t c48 h
      refine j_aload_n d_Rd_settle_17 rfl 0 rfl ?_
      refine j_bipush (v := 20) d_Rd_settle_18 (by decide) ?_
      replace h := bw_s h
      obtain ⟨⟨r49, r50, r51⟩, C53, S54, C55, S56, k57, h, e1, e2⟩ := h
      replace hC : 0 + C53 + C55 ≤ mc := by omega
      replace hS : 0 + S54 + S56 ≤ ms := by omega
      clear e1 e2
      refine j_callVg (n := 1) (As := [.int 20]) (rest := []) (wr := [(a_cells_a_waiting_h0, .inl (cI, n_a_cells_a_waiting_h0, .inl b_a_cells_a_waiting_h0)), (a_draft_h0, .inr (1, [.ref a_cells_a_draft_h0, .int count_a_draft_h0])), (a_cells_a_draft_h0, .inl (cI, n_a_cells_a_draft_h0, .inl b_a_cells_a_draft_h0))]) (c_Rd_push l D cI cB cJ cS h0 fad a_scanner_h0 a_draft_h0 a_waiting_h0 a_functions_h0 a_text_h0 a_text_a_scanner_h0 a_cells_a_waiting_h0 20 fn fd fcf mode_h0 levels_h0 signs_h0 loops_h0 token_h0 fault_h0 kind_t place_t width_t second_t parts_t innerParts_t innerPlace_t innerWidth_t signs_t waitingBelow_t limited_t targets_t lastBlock_t next_a_scanner_h0 kind_a_scanner_h0 start_a_scanner_h0 width_a_scanner_h0 count_a_waiting_h0  r49 r50 r51 C53 S54 k57) k_Rd_150 (by decide) ⟨Nat.le_of_ble_eq_true rfl, Nat.le_of_ble_eq_true rfl⟩ rfl 0 rfl (pk_app (wr := [(a_cells_a_waiting_h0, .inl (cI, n_a_cells_a_waiting_h0, .inl b_a_cells_a_waiting_h0)), (a_draft_h0, .inr (1, [.ref a_cells_a_draft_h0, .int count_a_draft_h0])), (a_cells_a_draft_h0, .inl (cI, n_a_cells_a_draft_h0, .inl b_a_cells_a_draft_h0))]) (w0 := [(h0, .inr (2, [.ref a_scanner_h0, .ref a_draft_h0, .ref a_waiting_h0, .ref a_functions_h0, .ref (fad 0), .ref (fad fd), .ref a_text_h0, .int mode_h0, .int levels_h0, .int signs_h0, .int loops_h0, .int token_h0, .int fault_h0])), ((fad fd), .inr (0, [(frB fad fd), (frA fad fn fd), .int kind_t, .int place_t, .int width_t, .int second_t, .int parts_t, .int innerParts_t, .int innerPlace_t, .int innerWidth_t, .int signs_t, .int waitingBelow_t, .int limited_t, .int targets_t, .int lastBlock_t])), (a_scanner_h0, .inr (4, [.ref a_text_a_scanner_h0, .int next_a_scanner_h0, .int kind_a_scanner_h0, .int start_a_scanner_h0, .int width_a_scanner_h0])), (a_waiting_h0, .inr (5, [.ref a_cells_a_waiting_h0, .int count_a_waiting_h0]))]) (pl := fpo fad fn fd fcf) [4, 5, 6, 0, 1, 2, 3] 7 rfl rfl rfl (by decide)) rfl rfl (Nat.le_of_ble_eq_true rfl) d_Rd_settle_20 ⟨show 0 + C53 ≤ mc by omega, show 0 + S54 ≤ ms by omega⟩ (fun v w hq => ?_)
      obtain ⟨a52, rfl, rfl⟩ := hq
      refine j_norm (pc' := 23) (st' := []) (ws' := ((a_cells_a_waiting_h0, .inl (cI, n_a_cells_a_waiting_h0, .inl b_a_cells_a_waiting_h0)) :: (a_draft_h0, .inr (1, [.ref a_cells_a_draft_h0, .int count_a_draft_h0])) :: (a_cells_a_draft_h0, .inl (cI, n_a_cells_a_draft_h0, .inl b_a_cells_a_draft_h0)) :: (h0, .inr (2, [.ref a_scanner_h0, .ref a_draft_h0, .ref a_waiting_h0, .ref a_functions_h0, .ref (a52 0), .ref (a52 r50), .ref a_text_h0, .int mode_h0, .int levels_h0, .int 0, .int loops_h0, .int token_h0, .int fault_h0])) :: ((a52 r50), .inr (0, [(frB a52 r50), (frA a52 r49 r50), .int 20, .int start_a_scanner_h0, .int width_a_scanner_h0, .int (-1), .int 0, .int 0, .int start_a_scanner_h0, .int width_a_scanner_h0, .int signs_h0, .int count_a_waiting_h0, .int 0, .int 0, .int 0])) :: (a_scanner_h0, .inr (4, [.ref a_text_a_scanner_h0, .int next_a_scanner_h0, .int kind_a_scanner_h0, .int start_a_scanner_h0, .int width_a_scanner_h0])) :: (a_waiting_h0, .inr (5, [.ref a_cells_a_waiting_h0, .int count_a_waiting_h0])) :: fpo a52 r49 r50 r51)) (cl' := 0 + C53) (sl' := 0 + S54) rfl rfl rfl rfl rfl rfl ?_
      refine j_aload_n d_Rd_settle_23 rfl 0 rfl ?_
      refine j_bipush (v := 30) d_Rd_settle_24 (by decide) ?_
      refine j_put (ws' := ((a_cells_a_waiting_h0, .inl (cI, n_a_cells_a_waiting_h0, .inl b_a_cells_a_waiting_h0)) :: (a_draft_h0, .inr (1, [.ref a_cells_a_draft_h0, .int count_a_draft_h0])) :: (a_cells_a_draft_h0, .inl (cI, n_a_cells_a_draft_h0, .inl b_a_cells_a_draft_h0)) :: (h0, .inr (2, [.ref a_scanner_h0, .ref a_draft_h0, .ref a_waiting_h0, .ref a_functions_h0, .ref (a52 0), .ref (a52 r50), .ref a_text_h0, .int 30, .int levels_h0, .int 0, .int loops_h0, .int token_h0, .int fault_h0])) :: ((a52 r50), .inr (0, [(frB a52 r50), (frA a52 r49 r50), .int 20, .int start_a_scanner_h0, .int width_a_scanner_h0, .int (-1), .int 0, .int 0, .int start_a_scanner_h0, .int width_a_scanner_h0, .int signs_h0, .int count_a_waiting_h0, .int 0, .int 0, .int 0])) :: (a_scanner_h0, .inr (4, [.ref a_text_a_scanner_h0, .int next_a_scanner_h0, .int kind_a_scanner_h0, .int start_a_scanner_h0, .int width_a_scanner_h0])) :: (a_waiting_h0, .inr (5, [.ref a_cells_a_waiting_h0, .int count_a_waiting_h0])) :: fpo a52 r49 r50 r51)) ig_Rd tk_Rd nm_Rd rfl 3 rfl 7 (by decide) rfl m_176 rfl (tk_Rd 7 (by decide)) rfl rfl (Nat.le_of_ble_eq_true rfl) d_Rd_settle_26 rfl ?_
      refine j_subP (w := [(h0, .inr (2, [.ref a_scanner_h0, .ref a_draft_h0, .ref a_waiting_h0, .ref a_functions_h0, .ref (a52 0), .ref (a52 r50), .ref a_text_h0, .int 30, .int levels_h0, .int 0, .int loops_h0, .int token_h0, .int fault_h0])), ((a52 r50), .inr (0, [(frB a52 r50), (frA a52 r49 r50), .int 20, .int start_a_scanner_h0, .int width_a_scanner_h0, .int (-1), .int 0, .int 0, .int start_a_scanner_h0, .int width_a_scanner_h0, .int signs_h0, .int count_a_waiting_h0, .int 0, .int 0, .int 0])), (a_scanner_h0, .inr (4, [.ref a_text_a_scanner_h0, .int next_a_scanner_h0, .int kind_a_scanner_h0, .int start_a_scanner_h0, .int width_a_scanner_h0])), (a_waiting_h0, .inr (5, [.ref a_cells_a_waiting_h0, .int count_a_waiting_h0])), (a_cells_a_waiting_h0, .inl (cI, n_a_cells_a_waiting_h0, .inl b_a_cells_a_waiting_h0)), (a_draft_h0, .inr (1, [.ref a_cells_a_draft_h0, .int count_a_draft_h0])), (a_cells_a_draft_h0, .inl (cI, n_a_cells_a_draft_h0, .inl b_a_cells_a_draft_h0))]) (pl := fpo a52 r49 r50 r51) (lv' := [(0, .ref h0)]) [3, 4, 5, 6, 0, 1, 2] [] 7 rfl rfl (by decide) [0] rfl ?_
      exact L_Rd_settle_29 l D cI cB cJ cS h0 fad a_scanner_h0 a_draft_h0 a_waiting_h0 a_functions_h0 a_text_h0 a_text_a_scanner_h0 a_cells_a_waiting_h0 a_cells_a_draft_h0 fn fd fcf mode_h0 levels_h0 signs_h0 loops_h0 token_h0 fault_h0 kind_t place_t width_t second_t parts_t innerParts_t innerPlace_t innerWidth_t signs_t waitingBelow_t limited_t targets_t lastBlock_t next_a_scanner_h0 kind_a_scanner_h0 start_a_scanner_h0 width_a_scanner_h0 count_a_waiting_h0 n_a_cells_a_waiting_h0 b_a_cells_a_waiting_h0 count_a_draft_h0 n_a_cells_a_draft_h0 b_a_cells_a_draft_h0 on_p od_p ocf_p o_0_7 o_0_8 o_0_9 o_1_2 o_1_3 o_1_4 o_1_5 o_1_6 o_1_7 o_1_8 o_1_9 o_1_10 o_1_11 o_1_12 o_1_13 o_1_14 o_3_1 o_5_1 on_nq_5_0 ob_nq_5_0 mc ms p e s m below meth c hr hnm a52 r49 r50 r51 30 0 20 start_a_scanner_h0 width_a_scanner_h0 (-1) 0 0 start_a_scanner_h0 width_a_scanner_h0 signs_h0 count_a_waiting_h0 0 0 0 (0 + C53) (0 + S54) C55 S56 h hC hS
noncomputable def F_Rd_openBlocks (p1 : Int32) (p2 : Int32) (fn : Nat) (fd : Nat) (fcf : Nat → FrC) (mode_h0 : Int32) (levels_h0 : Int32) (signs_h0 : Int32) (loops_h0 : Int32) (token_h0 : Int32) (fault_h0 : Int32) (kind_t : Int32) (place_t : Int32) (width_t : Int32) (second_t : Int32) (parts_t : Int32) (innerParts_t : Int32) (innerPlace_t : Int32) (innerWidth_t : Int32) (signs_t : Int32) (waitingBelow_t : Int32) (limited_t : Int32) (targets_t : Int32) (lastBlock_t : Int32) (next_a_scanner_h0 : Int32) (kind_a_scanner_h0 : Int32) (start_a_scanner_h0 : Int32) (width_a_scanner_h0 : Int32) (count_a_waiting_h0 : Int32) : Option ((Nat × Nat × (Nat → FrC) × Int32 × Int32 × Int32 × Int32 × Int32 × Int32 × Int32 × Int32 × Int32 × Int32 × Int32 × Int32 × Int32 × Int32 × Int32 × Int32 × Int32 × Int32) × Nat × Nat) :=
  nm (F_Rd_goDeeper mode_h0 levels_h0 signs_h0 loops_h0 token_h0 fault_h0) fun ⟨r1, r2⟩ =>
  if r1 = 0 then (some ((fn, fd, fcf, 0, mode_h0, r2, signs_h0, loops_h0, kind_t, place_t, width_t, second_t, parts_t, innerParts_t, innerPlace_t, innerWidth_t, signs_t, waitingBelow_t, limited_t, targets_t, lastBlock_t), 0, 0))
  else (bw (F_Rd_push p1 fn fd fcf mode_h0 r2 signs_h0 loops_h0 token_h0 fault_h0 kind_t place_t width_t second_t parts_t innerParts_t innerPlace_t innerWidth_t signs_t waitingBelow_t limited_t targets_t lastBlock_t next_a_scanner_h0 kind_a_scanner_h0 start_a_scanner_h0 width_a_scanner_h0 count_a_waiting_h0) fun ⟨r6, r7, r8⟩ =>
    nm (F_Rd_isLoop p1) fun r15 =>
    if r15 = 0 then (some ((r6, r7, r8, 1, p2, r2, 0, (loops_h0 + 0), p1, start_a_scanner_h0, width_a_scanner_h0, (-1), 0, 0, start_a_scanner_h0, width_a_scanner_h0, signs_h0, count_a_waiting_h0, 0, 0, 0), 0, 0))
    else (some ((r6, r7, r8, 1, p2, r2, 0, (loops_h0 + 1), p1, start_a_scanner_h0, width_a_scanner_h0, (-1), 0, 0, start_a_scanner_h0, width_a_scanner_h0, signs_h0, count_a_waiting_h0, 0, 0, 0), 0, 0)))
theorem d_Rd_openBlocks_0 : decode prog_6_method_15_code 0 = .ok (.aload_n 0, 1) := by decide +kernel
theorem d_Rd_openBlocks_1 : decode prog_6_method_15_code 1 = .ok (.invokevirtual 186, 3) := by decide +kernel
theorem d_Rd_openBlocks_4 : decode prog_6_method_15_code 4 = .ok (.ifCond .ne 5, 3) := by decide +kernel
theorem d_Rd_openBlocks_7 : decode prog_6_method_15_code 7 = .ok (.iconst 0, 1) := by decide +kernel
theorem d_Rd_openBlocks_8 : decode prog_6_method_15_code 8 = .ok (.ireturn, 1) := by decide +kernel
theorem d_Rd_openBlocks_9 : decode prog_6_method_15_code 9 = .ok (.aload_n 0, 1) := by decide +kernel
theorem d_Rd_openBlocks_10 : decode prog_6_method_15_code 10 = .ok (.iload_n 1, 1) := by decide +kernel
theorem d_Rd_openBlocks_11 : decode prog_6_method_15_code 11 = .ok (.invokevirtual 150, 3) := by decide +kernel
theorem d_Rd_openBlocks_14 : decode prog_6_method_15_code 14 = .ok (.aload_n 0, 1) := by decide +kernel
theorem d_Rd_openBlocks_15 : decode prog_6_method_15_code 15 = .ok (.dup, 1) := by decide +kernel
theorem d_Rd_openBlocks_16 : decode prog_6_method_15_code 16 = .ok (.getfield 66, 3) := by decide +kernel
theorem d_Rd_openBlocks_19 : decode prog_6_method_15_code 19 = .ok (.iload_n 1, 1) := by decide +kernel
theorem d_Rd_openBlocks_20 : decode prog_6_method_15_code 20 = .ok (.invokestatic 212, 3) := by decide +kernel
theorem d_Rd_openBlocks_23 : decode prog_6_method_15_code 23 = .ok (.ifCond .eq 7, 3) := by decide +kernel
theorem d_Rd_openBlocks_26 : decode prog_6_method_15_code 26 = .ok (.iconst 1, 1) := by decide +kernel
theorem d_Rd_openBlocks_27 : decode prog_6_method_15_code 27 = .ok (.goto 4, 3) := by decide +kernel
theorem d_Rd_openBlocks_30 : decode prog_6_method_15_code 30 = .ok (.iconst 0, 1) := by decide +kernel
theorem d_Rd_openBlocks_31 : decode prog_6_method_15_code 31 = .ok (.iadd, 1) := by decide +kernel
theorem d_Rd_openBlocks_32 : decode prog_6_method_15_code 32 = .ok (.putfield 66, 3) := by decide +kernel
theorem d_Rd_openBlocks_35 : decode prog_6_method_15_code 35 = .ok (.aload_n 0, 1) := by decide +kernel
theorem d_Rd_openBlocks_36 : decode prog_6_method_15_code 36 = .ok (.iload_n 2, 1) := by decide +kernel
theorem d_Rd_openBlocks_37 : decode prog_6_method_15_code 37 = .ok (.invokevirtual 130, 3) := by decide +kernel
theorem d_Rd_openBlocks_40 : decode prog_6_method_15_code 40 = .ok (.ireturn, 1) := by decide +kernel
set_option maxHeartbeats 4000000 in
set_option maxRecDepth 100000 in
theorem c_Rd_openBlocks (l : Launch) (D : va_G) (cI cB cJ cS : ClassId) (h0 : Nat) (fad : Nat → Nat) (a_scanner_h0 : Nat) (a_draft_h0 : Nat) (a_waiting_h0 : Nat) (a_functions_h0 : Nat) (a_text_h0 : Nat) (a_text_a_scanner_h0 : Nat) (a_cells_a_waiting_h0 : Nat) (p1 : Int32) (p2 : Int32) (fn : Nat) (fd : Nat) (fcf : Nat → FrC) (mode_h0 : Int32) (levels_h0 : Int32) (signs_h0 : Int32) (loops_h0 : Int32) (token_h0 : Int32) (fault_h0 : Int32) (kind_t : Int32) (place_t : Int32) (width_t : Int32) (second_t : Int32) (parts_t : Int32) (innerParts_t : Int32) (innerPlace_t : Int32) (innerWidth_t : Int32) (signs_t : Int32) (waitingBelow_t : Int32) (limited_t : Int32) (targets_t : Int32) (lastBlock_t : Int32) (next_a_scanner_h0 : Int32) (kind_a_scanner_h0 : Int32) (start_a_scanner_h0 : Int32) (width_a_scanner_h0 : Int32) (count_a_waiting_h0 : Int32) (on_p : Nat) (od_p : Nat) (ocf_p : Nat → FrC) (ret : Int32) (o_0_7 : Int32) (o_0_8 : Int32) (o_0_9 : Int32) (o_0_10 : Int32) (o_1_2 : Int32) (o_1_3 : Int32) (o_1_4 : Int32) (o_1_5 : Int32) (o_1_6 : Int32) (o_1_7 : Int32) (o_1_8 : Int32) (o_1_9 : Int32) (o_1_10 : Int32) (o_1_11 : Int32) (o_1_12 : Int32) (o_1_13 : Int32) (o_1_14 : Int32) (mc ms : Nat) (h : F_Rd_openBlocks p1 p2 fn fd fcf mode_h0 levels_h0 signs_h0 loops_h0 token_h0 fault_h0 kind_t place_t width_t second_t parts_t innerParts_t innerPlace_t innerWidth_t signs_t waitingBelow_t limited_t targets_t lastBlock_t next_a_scanner_h0 kind_a_scanner_h0 start_a_scanner_h0 width_a_scanner_h0 count_a_waiting_h0 = some ((on_p, od_p, ocf_p, ret, o_0_7, o_0_8, o_0_9, o_0_10, o_1_2, o_1_3, o_1_4, o_1_5, o_1_6, o_1_7, o_1_8, o_1_9, o_1_10, o_1_11, o_1_12, o_1_13, o_1_14), mc, ms)) : Ct l D (gT cI cB cJ cS) y_Rd_openBlocks prog_6_method_15_code 3 (Option.some Jvm.ClassFile.FieldType.boolean) 3 62 mc ms [.ref h0, .int p1, .int p2] ((h0, .inr (2, [.ref a_scanner_h0, .ref a_draft_h0, .ref a_waiting_h0, .ref a_functions_h0, .ref (fad 0), .ref (fad fd), .ref a_text_h0, .int mode_h0, .int levels_h0, .int signs_h0, .int loops_h0, .int token_h0, .int fault_h0])) :: ((fad fd), .inr (0, [(frB fad fd), (frA fad fn fd), .int kind_t, .int place_t, .int width_t, .int second_t, .int parts_t, .int innerParts_t, .int innerPlace_t, .int innerWidth_t, .int signs_t, .int waitingBelow_t, .int limited_t, .int targets_t, .int lastBlock_t])) :: (a_scanner_h0, .inr (4, [.ref a_text_a_scanner_h0, .int next_a_scanner_h0, .int kind_a_scanner_h0, .int start_a_scanner_h0, .int width_a_scanner_h0])) :: (a_waiting_h0, .inr (5, [.ref a_cells_a_waiting_h0, .int count_a_waiting_h0])) :: fpo fad fn fd fcf) (fun v w => ∃ nad : Nat → Nat, v = some (.int ret) ∧ zb ret ∧ w = ((h0, .inr (2, [.ref a_scanner_h0, .ref a_draft_h0, .ref a_waiting_h0, .ref a_functions_h0, .ref (nad 0), .ref (nad od_p), .ref a_text_h0, .int o_0_7, .int o_0_8, .int o_0_9, .int o_0_10, .int token_h0, .int fault_h0])) :: ((nad od_p), .inr (0, [(frB nad od_p), (frA nad on_p od_p), .int o_1_2, .int o_1_3, .int o_1_4, .int o_1_5, .int o_1_6, .int o_1_7, .int o_1_8, .int o_1_9, .int o_1_10, .int o_1_11, .int o_1_12, .int o_1_13, .int o_1_14])) :: (a_scanner_h0, .inr (4, [.ref a_text_a_scanner_h0, .int next_a_scanner_h0, .int kind_a_scanner_h0, .int start_a_scanner_h0, .int width_a_scanner_h0])) :: (a_waiting_h0, .inr (5, [.ref a_cells_a_waiting_h0, .int count_a_waiting_h0])) :: fpo nad on_p od_p ocf_p)) := by
  refine Ct.mk (by decide) (Nat.le_of_ble_eq_true rfl) ?_
  intro p e s m below meth c hr hnm
  refine j_norm (pc' := 0) (lv' := [(0, .ref h0), (1, .int p1), (2, .int p2)]) (st' := []) (ws' := ((h0, .inr (2, [.ref a_scanner_h0, .ref a_draft_h0, .ref a_waiting_h0, .ref a_functions_h0, .ref (fad 0), .ref (fad fd), .ref a_text_h0, .int mode_h0, .int levels_h0, .int signs_h0, .int loops_h0, .int token_h0, .int fault_h0])) :: ((fad fd), .inr (0, [(frB fad fd), (frA fad fn fd), .int kind_t, .int place_t, .int width_t, .int second_t, .int parts_t, .int innerParts_t, .int innerPlace_t, .int innerWidth_t, .int signs_t, .int waitingBelow_t, .int limited_t, .int targets_t, .int lastBlock_t])) :: (a_scanner_h0, .inr (4, [.ref a_text_a_scanner_h0, .int next_a_scanner_h0, .int kind_a_scanner_h0, .int start_a_scanner_h0, .int width_a_scanner_h0])) :: (a_waiting_h0, .inr (5, [.ref a_cells_a_waiting_h0, .int count_a_waiting_h0])) :: fpo fad fn fd fcf)) (cl' := 0) (sl' := 0) rfl rfl rfl rfl rfl rfl ?_
  unfold F_Rd_openBlocks at h
  have hC : 0 + mc ≤ mc := by omega
  have hS : 0 + ms ≤ ms := by omega
  refine j_aload_n d_Rd_openBlocks_0 rfl 0 rfl ?_
  obtain ⟨⟨r1, r2⟩, k4⟩ : ∃ z, (F_Rd_goDeeper mode_h0 levels_h0 signs_h0 loops_h0 token_h0 fault_h0) = z := ⟨_, rfl⟩
  replace h := nm_at k4 h
  refine j_callVg (n := 0) (As := []) (rest := []) (wr := ([((fad fd), .inr (0, [(frB fad fd), (frA fad fn fd), .int kind_t, .int place_t, .int width_t, .int second_t, .int parts_t, .int innerParts_t, .int innerPlace_t, .int innerWidth_t, .int signs_t, .int waitingBelow_t, .int limited_t, .int targets_t, .int lastBlock_t])), (a_scanner_h0, .inr (4, [.ref a_text_a_scanner_h0, .int next_a_scanner_h0, .int kind_a_scanner_h0, .int start_a_scanner_h0, .int width_a_scanner_h0])), (a_waiting_h0, .inr (5, [.ref a_cells_a_waiting_h0, .int count_a_waiting_h0]))] ++ fpo fad fn fd fcf)) (c_Rd_goDeeper l D cI cB cJ cS h0 a_scanner_h0 a_draft_h0 a_waiting_h0 a_functions_h0 (fad 0) (fad fd) a_text_h0 mode_h0 levels_h0 signs_h0 loops_h0 token_h0 fault_h0  r1 r2 k4) k_Rd_186 (by decide) ⟨Nat.le_of_ble_eq_true rfl, Nat.le_of_ble_eq_true rfl⟩ rfl 0 rfl (pk_mid (wr := [((fad fd), .inr (0, [(frB fad fd), (frA fad fn fd), .int kind_t, .int place_t, .int width_t, .int second_t, .int parts_t, .int innerParts_t, .int innerPlace_t, .int innerWidth_t, .int signs_t, .int waitingBelow_t, .int limited_t, .int targets_t, .int lastBlock_t])), (a_scanner_h0, .inr (4, [.ref a_text_a_scanner_h0, .int next_a_scanner_h0, .int kind_a_scanner_h0, .int start_a_scanner_h0, .int width_a_scanner_h0])), (a_waiting_h0, .inr (5, [.ref a_cells_a_waiting_h0, .int count_a_waiting_h0]))]) (w0 := [(h0, .inr (2, [.ref a_scanner_h0, .ref a_draft_h0, .ref a_waiting_h0, .ref a_functions_h0, .ref (fad 0), .ref (fad fd), .ref a_text_h0, .int mode_h0, .int levels_h0, .int signs_h0, .int loops_h0, .int token_h0, .int fault_h0]))]) (pl := fpo fad fn fd fcf) [1, 2, 3, 0] 4 rfl rfl (by decide)) rfl rfl (Nat.le_of_ble_eq_true rfl) d_Rd_openBlocks_1 ⟨show 0 + 0 ≤ mc by omega, show 0 + 0 ≤ ms by omega⟩ (fun v w hq => ?_)
  obtain ⟨rfl, z3, rfl⟩ := hq
  refine j_perm (ws' := (((fad fd), .inr (0, [(frB fad fd), (frA fad fn fd), .int kind_t, .int place_t, .int width_t, .int second_t, .int parts_t, .int innerParts_t, .int innerPlace_t, .int innerWidth_t, .int signs_t, .int waitingBelow_t, .int limited_t, .int targets_t, .int lastBlock_t])) :: (a_scanner_h0, .inr (4, [.ref a_text_a_scanner_h0, .int next_a_scanner_h0, .int kind_a_scanner_h0, .int start_a_scanner_h0, .int width_a_scanner_h0])) :: (a_waiting_h0, .inr (5, [.ref a_cells_a_waiting_h0, .int count_a_waiting_h0])) :: (h0, .inr (2, [.ref a_scanner_h0, .ref a_draft_h0, .ref a_waiting_h0, .ref a_functions_h0, .ref (fad 0), .ref (fad fd), .ref a_text_h0, .int mode_h0, .int r2, .int signs_h0, .int loops_h0, .int token_h0, .int fault_h0])) :: fpo fad fn fd fcf)) (pm_eq (a := [((fad fd), .inr (0, [(frB fad fd), (frA fad fn fd), .int kind_t, .int place_t, .int width_t, .int second_t, .int parts_t, .int innerParts_t, .int innerPlace_t, .int innerWidth_t, .int signs_t, .int waitingBelow_t, .int limited_t, .int targets_t, .int lastBlock_t])), (a_scanner_h0, .inr (4, [.ref a_text_a_scanner_h0, .int next_a_scanner_h0, .int kind_a_scanner_h0, .int start_a_scanner_h0, .int width_a_scanner_h0])), (a_waiting_h0, .inr (5, [.ref a_cells_a_waiting_h0, .int count_a_waiting_h0]))]) (b := fpo fad fn fd fcf) (c := [(h0, .inr (2, [.ref a_scanner_h0, .ref a_draft_h0, .ref a_waiting_h0, .ref a_functions_h0, .ref (fad 0), .ref (fad fd), .ref a_text_h0, .int mode_h0, .int r2, .int signs_h0, .int loops_h0, .int token_h0, .int fault_h0]))]) rfl) ?_
  refine j_norm (pc' := 4) (st' := [.int r1]) (ws' := (((fad fd), .inr (0, [(frB fad fd), (frA fad fn fd), .int kind_t, .int place_t, .int width_t, .int second_t, .int parts_t, .int innerParts_t, .int innerPlace_t, .int innerWidth_t, .int signs_t, .int waitingBelow_t, .int limited_t, .int targets_t, .int lastBlock_t])) :: (a_scanner_h0, .inr (4, [.ref a_text_a_scanner_h0, .int next_a_scanner_h0, .int kind_a_scanner_h0, .int start_a_scanner_h0, .int width_a_scanner_h0])) :: (a_waiting_h0, .inr (5, [.ref a_cells_a_waiting_h0, .int count_a_waiting_h0])) :: (h0, .inr (2, [.ref a_scanner_h0, .ref a_draft_h0, .ref a_waiting_h0, .ref a_functions_h0, .ref (fad 0), .ref (fad fd), .ref a_text_h0, .int mode_h0, .int r2, .int signs_h0, .int loops_h0, .int token_h0, .int fault_h0])) :: fpo fad fn fd fcf)) (cl' := 0) (sl' := 0) rfl rfl rfl rfl rfl rfl ?_
  refine j_if_ne (tgt := 9) d_Rd_openBlocks_4 (by decide) (fun c5 => ?_) (fun c5 => ?_)
  · replace h := it_f c5 h
    refine j_aload_n d_Rd_openBlocks_9 rfl 0 rfl ?_
    refine j_iload_n d_Rd_openBlocks_10 rfl 1 rfl ?_
    replace h := bw_s h
    obtain ⟨⟨r6, r7, r8⟩, C10, S11, C12, S13, k14, h, e1, e2⟩ := h
    replace hC : 0 + C10 + C12 ≤ mc := by omega
    replace hS : 0 + S11 + S13 ≤ ms := by omega
    clear e1 e2
    refine j_callVg (n := 1) (As := [.int p1]) (rest := []) (wr := []) (c_Rd_push l D cI cB cJ cS h0 fad a_scanner_h0 a_draft_h0 a_waiting_h0 a_functions_h0 a_text_h0 a_text_a_scanner_h0 a_cells_a_waiting_h0 p1 fn fd fcf mode_h0 r2 signs_h0 loops_h0 token_h0 fault_h0 kind_t place_t width_t second_t parts_t innerParts_t innerPlace_t innerWidth_t signs_t waitingBelow_t limited_t targets_t lastBlock_t next_a_scanner_h0 kind_a_scanner_h0 start_a_scanner_h0 width_a_scanner_h0 count_a_waiting_h0  r6 r7 r8 C10 S11 k14) k_Rd_150 (by decide) ⟨Nat.le_of_ble_eq_true rfl, Nat.le_of_ble_eq_true rfl⟩ rfl 0 rfl (pk_app (wr := []) (w0 := [(h0, .inr (2, [.ref a_scanner_h0, .ref a_draft_h0, .ref a_waiting_h0, .ref a_functions_h0, .ref (fad 0), .ref (fad fd), .ref a_text_h0, .int mode_h0, .int r2, .int signs_h0, .int loops_h0, .int token_h0, .int fault_h0])), ((fad fd), .inr (0, [(frB fad fd), (frA fad fn fd), .int kind_t, .int place_t, .int width_t, .int second_t, .int parts_t, .int innerParts_t, .int innerPlace_t, .int innerWidth_t, .int signs_t, .int waitingBelow_t, .int limited_t, .int targets_t, .int lastBlock_t])), (a_scanner_h0, .inr (4, [.ref a_text_a_scanner_h0, .int next_a_scanner_h0, .int kind_a_scanner_h0, .int start_a_scanner_h0, .int width_a_scanner_h0])), (a_waiting_h0, .inr (5, [.ref a_cells_a_waiting_h0, .int count_a_waiting_h0]))]) (pl := fpo fad fn fd fcf) [3, 0, 1, 2] 4 rfl rfl rfl (by decide)) rfl rfl (Nat.le_of_ble_eq_true rfl) d_Rd_openBlocks_11 ⟨show 0 + C10 ≤ mc by omega, show 0 + S11 ≤ ms by omega⟩ (fun v w hq => ?_)
    obtain ⟨a9, rfl, rfl⟩ := hq
    refine j_norm (pc' := 14) (st' := []) (ws' := ((h0, .inr (2, [.ref a_scanner_h0, .ref a_draft_h0, .ref a_waiting_h0, .ref a_functions_h0, .ref (a9 0), .ref (a9 r7), .ref a_text_h0, .int mode_h0, .int r2, .int 0, .int loops_h0, .int token_h0, .int fault_h0])) :: ((a9 r7), .inr (0, [(frB a9 r7), (frA a9 r6 r7), .int p1, .int start_a_scanner_h0, .int width_a_scanner_h0, .int (-1), .int 0, .int 0, .int start_a_scanner_h0, .int width_a_scanner_h0, .int signs_h0, .int count_a_waiting_h0, .int 0, .int 0, .int 0])) :: (a_scanner_h0, .inr (4, [.ref a_text_a_scanner_h0, .int next_a_scanner_h0, .int kind_a_scanner_h0, .int start_a_scanner_h0, .int width_a_scanner_h0])) :: (a_waiting_h0, .inr (5, [.ref a_cells_a_waiting_h0, .int count_a_waiting_h0])) :: fpo a9 r6 r7 r8)) (cl' := 0 + C10) (sl' := 0 + S11) rfl rfl rfl rfl rfl rfl ?_
    refine j_aload_n d_Rd_openBlocks_14 rfl 0 rfl ?_
    refine j_dup rfl d_Rd_openBlocks_15 ?_
    refine j_get ig_Rd rfl 0 rfl 10 (by decide) rfl m_179 rfl d_Rd_openBlocks_16 ?_
    refine j_iload_n d_Rd_openBlocks_19 rfl 1 rfl ?_
    obtain ⟨r15, k17⟩ : ∃ z, (F_Rd_isLoop p1) = z := ⟨_, rfl⟩
    replace h := nm_at k17 h
    refine j_callSg (n := 1) (As := [.int p1]) (rest := [.int loops_h0, .ref h0]) (wr := ([(h0, .inr (2, [.ref a_scanner_h0, .ref a_draft_h0, .ref a_waiting_h0, .ref a_functions_h0, .ref (a9 0), .ref (a9 r7), .ref a_text_h0, .int mode_h0, .int r2, .int 0, .int loops_h0, .int token_h0, .int fault_h0])), ((a9 r7), .inr (0, [(frB a9 r7), (frA a9 r6 r7), .int p1, .int start_a_scanner_h0, .int width_a_scanner_h0, .int (-1), .int 0, .int 0, .int start_a_scanner_h0, .int width_a_scanner_h0, .int signs_h0, .int count_a_waiting_h0, .int 0, .int 0, .int 0])), (a_scanner_h0, .inr (4, [.ref a_text_a_scanner_h0, .int next_a_scanner_h0, .int kind_a_scanner_h0, .int start_a_scanner_h0, .int width_a_scanner_h0])), (a_waiting_h0, .inr (5, [.ref a_cells_a_waiting_h0, .int count_a_waiting_h0]))] ++ fpo a9 r6 r7 r8)) (c_Rd_isLoop l D cI cB cJ cS p1  r15 k17) k_Rd_212 (by decide) ⟨Nat.le_of_ble_eq_true rfl, Nat.le_of_ble_eq_true rfl⟩ (pk_mid (wr := [(h0, .inr (2, [.ref a_scanner_h0, .ref a_draft_h0, .ref a_waiting_h0, .ref a_functions_h0, .ref (a9 0), .ref (a9 r7), .ref a_text_h0, .int mode_h0, .int r2, .int 0, .int loops_h0, .int token_h0, .int fault_h0])), ((a9 r7), .inr (0, [(frB a9 r7), (frA a9 r6 r7), .int p1, .int start_a_scanner_h0, .int width_a_scanner_h0, .int (-1), .int 0, .int 0, .int start_a_scanner_h0, .int width_a_scanner_h0, .int signs_h0, .int count_a_waiting_h0, .int 0, .int 0, .int 0])), (a_scanner_h0, .inr (4, [.ref a_text_a_scanner_h0, .int next_a_scanner_h0, .int kind_a_scanner_h0, .int start_a_scanner_h0, .int width_a_scanner_h0])), (a_waiting_h0, .inr (5, [.ref a_cells_a_waiting_h0, .int count_a_waiting_h0]))]) (w0 := []) (pl := fpo a9 r6 r7 r8) [0, 1, 2, 3] 4 rfl rfl (by decide)) rfl rfl (Nat.le_of_ble_eq_true rfl) d_Rd_openBlocks_20 ⟨show 0 + C10 + 0 ≤ mc by omega, show 0 + S11 + 0 ≤ ms by omega⟩ (fun v w hq => ?_)
    obtain ⟨rfl, z16, rfl⟩ := hq
    refine j_perm (ws' := ((h0, .inr (2, [.ref a_scanner_h0, .ref a_draft_h0, .ref a_waiting_h0, .ref a_functions_h0, .ref (a9 0), .ref (a9 r7), .ref a_text_h0, .int mode_h0, .int r2, .int 0, .int loops_h0, .int token_h0, .int fault_h0])) :: ((a9 r7), .inr (0, [(frB a9 r7), (frA a9 r6 r7), .int p1, .int start_a_scanner_h0, .int width_a_scanner_h0, .int (-1), .int 0, .int 0, .int start_a_scanner_h0, .int width_a_scanner_h0, .int signs_h0, .int count_a_waiting_h0, .int 0, .int 0, .int 0])) :: (a_scanner_h0, .inr (4, [.ref a_text_a_scanner_h0, .int next_a_scanner_h0, .int kind_a_scanner_h0, .int start_a_scanner_h0, .int width_a_scanner_h0])) :: (a_waiting_h0, .inr (5, [.ref a_cells_a_waiting_h0, .int count_a_waiting_h0])) :: fpo a9 r6 r7 r8)) (pm_eq (a := [(h0, .inr (2, [.ref a_scanner_h0, .ref a_draft_h0, .ref a_waiting_h0, .ref a_functions_h0, .ref (a9 0), .ref (a9 r7), .ref a_text_h0, .int mode_h0, .int r2, .int 0, .int loops_h0, .int token_h0, .int fault_h0])), ((a9 r7), .inr (0, [(frB a9 r7), (frA a9 r6 r7), .int p1, .int start_a_scanner_h0, .int width_a_scanner_h0, .int (-1), .int 0, .int 0, .int start_a_scanner_h0, .int width_a_scanner_h0, .int signs_h0, .int count_a_waiting_h0, .int 0, .int 0, .int 0])), (a_scanner_h0, .inr (4, [.ref a_text_a_scanner_h0, .int next_a_scanner_h0, .int kind_a_scanner_h0, .int start_a_scanner_h0, .int width_a_scanner_h0])), (a_waiting_h0, .inr (5, [.ref a_cells_a_waiting_h0, .int count_a_waiting_h0]))]) (b := fpo a9 r6 r7 r8) (c := []) rfl) ?_
    refine j_norm (pc' := 23) (st' := [.int r15, .int loops_h0, .ref h0]) (ws' := ((h0, .inr (2, [.ref a_scanner_h0, .ref a_draft_h0, .ref a_waiting_h0, .ref a_functions_h0, .ref (a9 0), .ref (a9 r7), .ref a_text_h0, .int mode_h0, .int r2, .int 0, .int loops_h0, .int token_h0, .int fault_h0])) :: ((a9 r7), .inr (0, [(frB a9 r7), (frA a9 r6 r7), .int p1, .int start_a_scanner_h0, .int width_a_scanner_h0, .int (-1), .int 0, .int 0, .int start_a_scanner_h0, .int width_a_scanner_h0, .int signs_h0, .int count_a_waiting_h0, .int 0, .int 0, .int 0])) :: (a_scanner_h0, .inr (4, [.ref a_text_a_scanner_h0, .int next_a_scanner_h0, .int kind_a_scanner_h0, .int start_a_scanner_h0, .int width_a_scanner_h0])) :: (a_waiting_h0, .inr (5, [.ref a_cells_a_waiting_h0, .int count_a_waiting_h0])) :: fpo a9 r6 r7 r8)) (cl' := 0 + C10) (sl' := 0 + S11) rfl rfl rfl rfl rfl rfl ?_
    refine j_if_eq (tgt := 30) d_Rd_openBlocks_23 (by decide) (fun c18 => ?_) (fun c18 => ?_)
    · replace h := it_t c18 h
      refine j_iconst (v := 0) d_Rd_openBlocks_30 (by decide) ?_
      refine j_iadd d_Rd_openBlocks_31 ?_
      refine j_put (ws' := ((h0, .inr (2, [.ref a_scanner_h0, .ref a_draft_h0, .ref a_waiting_h0, .ref a_functions_h0, .ref (a9 0), .ref (a9 r7), .ref a_text_h0, .int mode_h0, .int r2, .int 0, .int (loops_h0 + 0), .int token_h0, .int fault_h0])) :: ((a9 r7), .inr (0, [(frB a9 r7), (frA a9 r6 r7), .int p1, .int start_a_scanner_h0, .int width_a_scanner_h0, .int (-1), .int 0, .int 0, .int start_a_scanner_h0, .int width_a_scanner_h0, .int signs_h0, .int count_a_waiting_h0, .int 0, .int 0, .int 0])) :: (a_scanner_h0, .inr (4, [.ref a_text_a_scanner_h0, .int next_a_scanner_h0, .int kind_a_scanner_h0, .int start_a_scanner_h0, .int width_a_scanner_h0])) :: (a_waiting_h0, .inr (5, [.ref a_cells_a_waiting_h0, .int count_a_waiting_h0])) :: fpo a9 r6 r7 r8)) ig_Rd tk_Rd nm_Rd rfl 0 rfl 10 (by decide) rfl m_179 rfl (tk_Rd 10 (by decide)) rfl rfl (Nat.le_of_ble_eq_true rfl) d_Rd_openBlocks_32 rfl ?_
      refine j_aload_n d_Rd_openBlocks_35 rfl 0 rfl ?_
      refine j_iload_n d_Rd_openBlocks_36 rfl 2 rfl ?_
      refine j_callVg (n := 1) (As := [.int p2]) (rest := []) (wr := ([((a9 r7), .inr (0, [(frB a9 r7), (frA a9 r6 r7), .int p1, .int start_a_scanner_h0, .int width_a_scanner_h0, .int (-1), .int 0, .int 0, .int start_a_scanner_h0, .int width_a_scanner_h0, .int signs_h0, .int count_a_waiting_h0, .int 0, .int 0, .int 0])), (a_scanner_h0, .inr (4, [.ref a_text_a_scanner_h0, .int next_a_scanner_h0, .int kind_a_scanner_h0, .int start_a_scanner_h0, .int width_a_scanner_h0])), (a_waiting_h0, .inr (5, [.ref a_cells_a_waiting_h0, .int count_a_waiting_h0]))] ++ fpo a9 r6 r7 r8)) (c_Rd_goOn l D cI cB cJ cS h0 a_scanner_h0 a_draft_h0 a_waiting_h0 a_functions_h0 (a9 0) (a9 r7) a_text_h0 p2 mode_h0 r2 0 (loops_h0 + 0) token_h0 fault_h0  ) k_Rd_130 (by decide) ⟨Nat.le_of_ble_eq_true rfl, Nat.le_of_ble_eq_true rfl⟩ rfl 0 rfl (pk_mid (wr := [((a9 r7), .inr (0, [(frB a9 r7), (frA a9 r6 r7), .int p1, .int start_a_scanner_h0, .int width_a_scanner_h0, .int (-1), .int 0, .int 0, .int start_a_scanner_h0, .int width_a_scanner_h0, .int signs_h0, .int count_a_waiting_h0, .int 0, .int 0, .int 0])), (a_scanner_h0, .inr (4, [.ref a_text_a_scanner_h0, .int next_a_scanner_h0, .int kind_a_scanner_h0, .int start_a_scanner_h0, .int width_a_scanner_h0])), (a_waiting_h0, .inr (5, [.ref a_cells_a_waiting_h0, .int count_a_waiting_h0]))]) (w0 := [(h0, .inr (2, [.ref a_scanner_h0, .ref a_draft_h0, .ref a_waiting_h0, .ref a_functions_h0, .ref (a9 0), .ref (a9 r7), .ref a_text_h0, .int mode_h0, .int r2, .int 0, .int (loops_h0 + 0), .int token_h0, .int fault_h0]))]) (pl := fpo a9 r6 r7 r8) [1, 2, 3, 0] 4 rfl rfl (by decide)) rfl rfl (Nat.le_of_ble_eq_true rfl) d_Rd_openBlocks_37 ⟨show 0 + C10 + 0 ≤ mc by omega, show 0 + S11 + 0 ≤ ms by omega⟩ (fun v w hq => ?_)
      obtain ⟨rfl, _, rfl⟩ := hq
      refine j_perm (ws' := (((a9 r7), .inr (0, [(frB a9 r7), (frA a9 r6 r7), .int p1, .int start_a_scanner_h0, .int width_a_scanner_h0, .int (-1), .int 0, .int 0, .int start_a_scanner_h0, .int width_a_scanner_h0, .int signs_h0, .int count_a_waiting_h0, .int 0, .int 0, .int 0])) :: (a_scanner_h0, .inr (4, [.ref a_text_a_scanner_h0, .int next_a_scanner_h0, .int kind_a_scanner_h0, .int start_a_scanner_h0, .int width_a_scanner_h0])) :: (a_waiting_h0, .inr (5, [.ref a_cells_a_waiting_h0, .int count_a_waiting_h0])) :: (h0, .inr (2, [.ref a_scanner_h0, .ref a_draft_h0, .ref a_waiting_h0, .ref a_functions_h0, .ref (a9 0), .ref (a9 r7), .ref a_text_h0, .int p2, .int r2, .int 0, .int (loops_h0 + 0), .int token_h0, .int fault_h0])) :: fpo a9 r6 r7 r8)) (pm_eq (a := [((a9 r7), .inr (0, [(frB a9 r7), (frA a9 r6 r7), .int p1, .int start_a_scanner_h0, .int width_a_scanner_h0, .int (-1), .int 0, .int 0, .int start_a_scanner_h0, .int width_a_scanner_h0, .int signs_h0, .int count_a_waiting_h0, .int 0, .int 0, .int 0])), (a_scanner_h0, .inr (4, [.ref a_text_a_scanner_h0, .int next_a_scanner_h0, .int kind_a_scanner_h0, .int start_a_scanner_h0, .int width_a_scanner_h0])), (a_waiting_h0, .inr (5, [.ref a_cells_a_waiting_h0, .int count_a_waiting_h0]))]) (b := fpo a9 r6 r7 r8) (c := [(h0, .inr (2, [.ref a_scanner_h0, .ref a_draft_h0, .ref a_waiting_h0, .ref a_functions_h0, .ref (a9 0), .ref (a9 r7), .ref a_text_h0, .int p2, .int r2, .int 0, .int (loops_h0 + 0), .int token_h0, .int fault_h0]))]) rfl) ?_
      refine j_norm (pc' := 40) (st' := [.int 1]) (ws' := (((a9 r7), .inr (0, [(frB a9 r7), (frA a9 r6 r7), .int p1, .int start_a_scanner_h0, .int width_a_scanner_h0, .int (-1), .int 0, .int 0, .int start_a_scanner_h0, .int width_a_scanner_h0, .int signs_h0, .int count_a_waiting_h0, .int 0, .int 0, .int 0])) :: (a_scanner_h0, .inr (4, [.ref a_text_a_scanner_h0, .int next_a_scanner_h0, .int kind_a_scanner_h0, .int start_a_scanner_h0, .int width_a_scanner_h0])) :: (a_waiting_h0, .inr (5, [.ref a_cells_a_waiting_h0, .int count_a_waiting_h0])) :: (h0, .inr (2, [.ref a_scanner_h0, .ref a_draft_h0, .ref a_waiting_h0, .ref a_functions_h0, .ref (a9 0), .ref (a9 r7), .ref a_text_h0, .int p2, .int r2, .int 0, .int (loops_h0 + 0), .int token_h0, .int fault_h0])) :: fpo a9 r6 r7 r8)) (cl' := 0 + C10) (sl' := 0 + S11) rfl rfl rfl rfl rfl rfl ?_
      replace h := lf_s h
      obtain ⟨h, e1, e2⟩ := h
      replace h := Prod.mk.inj h
      obtain ⟨h9, h⟩ := h
      subst h9
      replace h := Prod.mk.inj h
      obtain ⟨h9, h⟩ := h
      subst h9
      replace h := Prod.mk.inj h
      obtain ⟨h9, h⟩ := h
      subst h9
      replace h := Prod.mk.inj h
      obtain ⟨h9, h⟩ := h
      subst h9
      replace h := Prod.mk.inj h
      obtain ⟨h9, h⟩ := h
      subst h9
      replace h := Prod.mk.inj h
      obtain ⟨h9, h⟩ := h
      subst h9
      replace h := Prod.mk.inj h
      obtain ⟨h9, h⟩ := h
      subst h9
      replace h := Prod.mk.inj h
      obtain ⟨h9, h⟩ := h
      subst h9
      replace h := Prod.mk.inj h
      obtain ⟨h9, h⟩ := h
      subst h9
      replace h := Prod.mk.inj h
      obtain ⟨h9, h⟩ := h
      subst h9
      replace h := Prod.mk.inj h
      obtain ⟨h9, h⟩ := h
      subst h9
      replace h := Prod.mk.inj h
      obtain ⟨h9, h⟩ := h
      subst h9
      replace h := Prod.mk.inj h
      obtain ⟨h9, h⟩ := h
      subst h9
      replace h := Prod.mk.inj h
      obtain ⟨h9, h⟩ := h
      subst h9
      replace h := Prod.mk.inj h
      obtain ⟨h9, h⟩ := h
      subst h9
      replace h := Prod.mk.inj h
      obtain ⟨h9, h⟩ := h
      subst h9
      replace h := Prod.mk.inj h
      obtain ⟨h9, h⟩ := h
      subst h9
      replace h := Prod.mk.inj h
      obtain ⟨h9, h⟩ := h
      subst h9
      replace h := Prod.mk.inj h
      obtain ⟨h9, h⟩ := h
      subst h9
      replace h := Prod.mk.inj h
      obtain ⟨h9, h⟩ := h
      subst h9
      subst h
      refine j_widen (cl' := mc) (sl' := ms) (by omega) (by omega) ?_
      refine j_subP (w := [(h0, .inr (2, [.ref a_scanner_h0, .ref a_draft_h0, .ref a_waiting_h0, .ref a_functions_h0, .ref (a9 0), .ref (a9 r7), .ref a_text_h0, .int p2, .int r2, .int 0, .int (loops_h0 + 0), .int token_h0, .int fault_h0])), ((a9 r7), .inr (0, [(frB a9 r7), (frA a9 r6 r7), .int p1, .int start_a_scanner_h0, .int width_a_scanner_h0, .int (-1), .int 0, .int 0, .int start_a_scanner_h0, .int width_a_scanner_h0, .int signs_h0, .int count_a_waiting_h0, .int 0, .int 0, .int 0])), (a_scanner_h0, .inr (4, [.ref a_text_a_scanner_h0, .int next_a_scanner_h0, .int kind_a_scanner_h0, .int start_a_scanner_h0, .int width_a_scanner_h0])), (a_waiting_h0, .inr (5, [.ref a_cells_a_waiting_h0, .int count_a_waiting_h0]))]) (pl := fpo a9 r6 r7 r8) (lv' := []) [3, 0, 1, 2] [] 4 rfl rfl (by decide) [] rfl ?_
      exact j_zretE hr (zb_n zb1) d_Rd_openBlocks_40 ⟨a9, rfl, zb1, rfl⟩
    · replace h := it_f c18 h
      refine j_iconst (v := 1) d_Rd_openBlocks_26 (by decide) ?_
      refine j_goto (tgt := 31) d_Rd_openBlocks_27 (by decide) ?_
      refine j_iadd d_Rd_openBlocks_31 ?_
      refine j_put (ws' := ((h0, .inr (2, [.ref a_scanner_h0, .ref a_draft_h0, .ref a_waiting_h0, .ref a_functions_h0, .ref (a9 0), .ref (a9 r7), .ref a_text_h0, .int mode_h0, .int r2, .int 0, .int (loops_h0 + 1), .int token_h0, .int fault_h0])) :: ((a9 r7), .inr (0, [(frB a9 r7), (frA a9 r6 r7), .int p1, .int start_a_scanner_h0, .int width_a_scanner_h0, .int (-1), .int 0, .int 0, .int start_a_scanner_h0, .int width_a_scanner_h0, .int signs_h0, .int count_a_waiting_h0, .int 0, .int 0, .int 0])) :: (a_scanner_h0, .inr (4, [.ref a_text_a_scanner_h0, .int next_a_scanner_h0, .int kind_a_scanner_h0, .int start_a_scanner_h0, .int width_a_scanner_h0])) :: (a_waiting_h0, .inr (5, [.ref a_cells_a_waiting_h0, .int count_a_waiting_h0])) :: fpo a9 r6 r7 r8)) ig_Rd tk_Rd nm_Rd rfl 0 rfl 10 (by decide) rfl m_179 rfl (tk_Rd 10 (by decide)) rfl rfl (Nat.le_of_ble_eq_true rfl) d_Rd_openBlocks_32 rfl ?_
      refine j_aload_n d_Rd_openBlocks_35 rfl 0 rfl ?_
      refine j_iload_n d_Rd_openBlocks_36 rfl 2 rfl ?_
      refine j_callVg (n := 1) (As := [.int p2]) (rest := []) (wr := ([((a9 r7), .inr (0, [(frB a9 r7), (frA a9 r6 r7), .int p1, .int start_a_scanner_h0, .int width_a_scanner_h0, .int (-1), .int 0, .int 0, .int start_a_scanner_h0, .int width_a_scanner_h0, .int signs_h0, .int count_a_waiting_h0, .int 0, .int 0, .int 0])), (a_scanner_h0, .inr (4, [.ref a_text_a_scanner_h0, .int next_a_scanner_h0, .int kind_a_scanner_h0, .int start_a_scanner_h0, .int width_a_scanner_h0])), (a_waiting_h0, .inr (5, [.ref a_cells_a_waiting_h0, .int count_a_waiting_h0]))] ++ fpo a9 r6 r7 r8)) (c_Rd_goOn l D cI cB cJ cS h0 a_scanner_h0 a_draft_h0 a_waiting_h0 a_functions_h0 (a9 0) (a9 r7) a_text_h0 p2 mode_h0 r2 0 (loops_h0 + 1) token_h0 fault_h0  ) k_Rd_130 (by decide) ⟨Nat.le_of_ble_eq_true rfl, Nat.le_of_ble_eq_true rfl⟩ rfl 0 rfl (pk_mid (wr := [((a9 r7), .inr (0, [(frB a9 r7), (frA a9 r6 r7), .int p1, .int start_a_scanner_h0, .int width_a_scanner_h0, .int (-1), .int 0, .int 0, .int start_a_scanner_h0, .int width_a_scanner_h0, .int signs_h0, .int count_a_waiting_h0, .int 0, .int 0, .int 0])), (a_scanner_h0, .inr (4, [.ref a_text_a_scanner_h0, .int next_a_scanner_h0, .int kind_a_scanner_h0, .int start_a_scanner_h0, .int width_a_scanner_h0])), (a_waiting_h0, .inr (5, [.ref a_cells_a_waiting_h0, .int count_a_waiting_h0]))]) (w0 := [(h0, .inr (2, [.ref a_scanner_h0, .ref a_draft_h0, .ref a_waiting_h0, .ref a_functions_h0, .ref (a9 0), .ref (a9 r7), .ref a_text_h0, .int mode_h0, .int r2, .int 0, .int (loops_h0 + 1), .int token_h0, .int fault_h0]))]) (pl := fpo a9 r6 r7 r8) [1, 2, 3, 0] 4 rfl rfl (by decide)) rfl rfl (Nat.le_of_ble_eq_true rfl) d_Rd_openBlocks_37 ⟨show 0 + C10 + 0 ≤ mc by omega, show 0 + S11 + 0 ≤ ms by omega⟩ (fun v w hq => ?_)
      obtain ⟨rfl, _, rfl⟩ := hq
      refine j_perm (ws' := (((a9 r7), .inr (0, [(frB a9 r7), (frA a9 r6 r7), .int p1, .int start_a_scanner_h0, .int width_a_scanner_h0, .int (-1), .int 0, .int 0, .int start_a_scanner_h0, .int width_a_scanner_h0, .int signs_h0, .int count_a_waiting_h0, .int 0, .int 0, .int 0])) :: (a_scanner_h0, .inr (4, [.ref a_text_a_scanner_h0, .int next_a_scanner_h0, .int kind_a_scanner_h0, .int start_a_scanner_h0, .int width_a_scanner_h0])) :: (a_waiting_h0, .inr (5, [.ref a_cells_a_waiting_h0, .int count_a_waiting_h0])) :: (h0, .inr (2, [.ref a_scanner_h0, .ref a_draft_h0, .ref a_waiting_h0, .ref a_functions_h0, .ref (a9 0), .ref (a9 r7), .ref a_text_h0, .int p2, .int r2, .int 0, .int (loops_h0 + 1), .int token_h0, .int fault_h0])) :: fpo a9 r6 r7 r8)) (pm_eq (a := [((a9 r7), .inr (0, [(frB a9 r7), (frA a9 r6 r7), .int p1, .int start_a_scanner_h0, .int width_a_scanner_h0, .int (-1), .int 0, .int 0, .int start_a_scanner_h0, .int width_a_scanner_h0, .int signs_h0, .int count_a_waiting_h0, .int 0, .int 0, .int 0])), (a_scanner_h0, .inr (4, [.ref a_text_a_scanner_h0, .int next_a_scanner_h0, .int kind_a_scanner_h0, .int start_a_scanner_h0, .int width_a_scanner_h0])), (a_waiting_h0, .inr (5, [.ref a_cells_a_waiting_h0, .int count_a_waiting_h0]))]) (b := fpo a9 r6 r7 r8) (c := [(h0, .inr (2, [.ref a_scanner_h0, .ref a_draft_h0, .ref a_waiting_h0, .ref a_functions_h0, .ref (a9 0), .ref (a9 r7), .ref a_text_h0, .int p2, .int r2, .int 0, .int (loops_h0 + 1), .int token_h0, .int fault_h0]))]) rfl) ?_
      refine j_norm (pc' := 40) (st' := [.int 1]) (ws' := (((a9 r7), .inr (0, [(frB a9 r7), (frA a9 r6 r7), .int p1, .int start_a_scanner_h0, .int width_a_scanner_h0, .int (-1), .int 0, .int 0, .int start_a_scanner_h0, .int width_a_scanner_h0, .int signs_h0, .int count_a_waiting_h0, .int 0, .int 0, .int 0])) :: (a_scanner_h0, .inr (4, [.ref a_text_a_scanner_h0, .int next_a_scanner_h0, .int kind_a_scanner_h0, .int start_a_scanner_h0, .int width_a_scanner_h0])) :: (a_waiting_h0, .inr (5, [.ref a_cells_a_waiting_h0, .int count_a_waiting_h0])) :: (h0, .inr (2, [.ref a_scanner_h0, .ref a_draft_h0, .ref a_waiting_h0, .ref a_functions_h0, .ref (a9 0), .ref (a9 r7), .ref a_text_h0, .int p2, .int r2, .int 0, .int (loops_h0 + 1), .int token_h0, .int fault_h0])) :: fpo a9 r6 r7 r8)) (cl' := 0 + C10) (sl' := 0 + S11) rfl rfl rfl rfl rfl rfl ?_
      replace h := lf_s h
      obtain ⟨h, e1, e2⟩ := h
      replace h := Prod.mk.inj h
      obtain ⟨h9, h⟩ := h
      subst h9
      replace h := Prod.mk.inj h
      obtain ⟨h9, h⟩ := h
      subst h9
      replace h := Prod.mk.inj h
      obtain ⟨h9, h⟩ := h
      subst h9
      replace h := Prod.mk.inj h
      obtain ⟨h9, h⟩ := h
      subst h9
      replace h := Prod.mk.inj h
      obtain ⟨h9, h⟩ := h
      subst h9
      replace h := Prod.mk.inj h
      obtain ⟨h9, h⟩ := h
      subst h9
      replace h := Prod.mk.inj h
      obtain ⟨h9, h⟩ := h
      subst h9
      replace h := Prod.mk.inj h
      obtain ⟨h9, h⟩ := h
      subst h9
      replace h := Prod.mk.inj h
      obtain ⟨h9, h⟩ := h
      subst h9
      replace h := Prod.mk.inj h
      obtain ⟨h9, h⟩ := h
      subst h9
      replace h := Prod.mk.inj h
      obtain ⟨h9, h⟩ := h
      subst h9
      replace h := Prod.mk.inj h
      obtain ⟨h9, h⟩ := h
      subst h9
      replace h := Prod.mk.inj h
      obtain ⟨h9, h⟩ := h
      subst h9
      replace h := Prod.mk.inj h
      obtain ⟨h9, h⟩ := h
      subst h9
      replace h := Prod.mk.inj h
      obtain ⟨h9, h⟩ := h
      subst h9
      replace h := Prod.mk.inj h
      obtain ⟨h9, h⟩ := h
      subst h9
      replace h := Prod.mk.inj h
      obtain ⟨h9, h⟩ := h
      subst h9
      replace h := Prod.mk.inj h
      obtain ⟨h9, h⟩ := h
      subst h9
      replace h := Prod.mk.inj h
      obtain ⟨h9, h⟩ := h
      subst h9
      replace h := Prod.mk.inj h
      obtain ⟨h9, h⟩ := h
      subst h9
      subst h
      refine j_widen (cl' := mc) (sl' := ms) (by omega) (by omega) ?_
      refine j_subP (w := [(h0, .inr (2, [.ref a_scanner_h0, .ref a_draft_h0, .ref a_waiting_h0, .ref a_functions_h0, .ref (a9 0), .ref (a9 r7), .ref a_text_h0, .int p2, .int r2, .int 0, .int (loops_h0 + 1), .int token_h0, .int fault_h0])), ((a9 r7), .inr (0, [(frB a9 r7), (frA a9 r6 r7), .int p1, .int start_a_scanner_h0, .int width_a_scanner_h0, .int (-1), .int 0, .int 0, .int start_a_scanner_h0, .int width_a_scanner_h0, .int signs_h0, .int count_a_waiting_h0, .int 0, .int 0, .int 0])), (a_scanner_h0, .inr (4, [.ref a_text_a_scanner_h0, .int next_a_scanner_h0, .int kind_a_scanner_h0, .int start_a_scanner_h0, .int width_a_scanner_h0])), (a_waiting_h0, .inr (5, [.ref a_cells_a_waiting_h0, .int count_a_waiting_h0]))]) (pl := fpo a9 r6 r7 r8) (lv' := []) [3, 0, 1, 2] [] 4 rfl rfl (by decide) [] rfl ?_
      exact j_zretE hr (zb_n zb1) d_Rd_openBlocks_40 ⟨a9, rfl, zb1, rfl⟩
  · replace h := it_t c5 h
    refine j_iconst (v := 0) d_Rd_openBlocks_7 (by decide) ?_
    replace h := lf_s h
    obtain ⟨h, e1, e2⟩ := h
    replace h := Prod.mk.inj h
    obtain ⟨h9, h⟩ := h
    subst h9
    replace h := Prod.mk.inj h
    obtain ⟨h9, h⟩ := h
    subst h9
    replace h := Prod.mk.inj h
    obtain ⟨h9, h⟩ := h
    subst h9
    replace h := Prod.mk.inj h
    obtain ⟨h9, h⟩ := h
    subst h9
    replace h := Prod.mk.inj h
    obtain ⟨h9, h⟩ := h
    subst h9
    replace h := Prod.mk.inj h
    obtain ⟨h9, h⟩ := h
    subst h9
    replace h := Prod.mk.inj h
    obtain ⟨h9, h⟩ := h
    subst h9
    replace h := Prod.mk.inj h
    obtain ⟨h9, h⟩ := h
    subst h9
    replace h := Prod.mk.inj h
    obtain ⟨h9, h⟩ := h
    subst h9
    replace h := Prod.mk.inj h
    obtain ⟨h9, h⟩ := h
    subst h9
    replace h := Prod.mk.inj h
    obtain ⟨h9, h⟩ := h
    subst h9
    replace h := Prod.mk.inj h
    obtain ⟨h9, h⟩ := h
    subst h9
    replace h := Prod.mk.inj h
    obtain ⟨h9, h⟩ := h
    subst h9
    replace h := Prod.mk.inj h
    obtain ⟨h9, h⟩ := h
    subst h9
    replace h := Prod.mk.inj h
    obtain ⟨h9, h⟩ := h
    subst h9
    replace h := Prod.mk.inj h
    obtain ⟨h9, h⟩ := h
    subst h9
    replace h := Prod.mk.inj h
    obtain ⟨h9, h⟩ := h
    subst h9
    replace h := Prod.mk.inj h
    obtain ⟨h9, h⟩ := h
    subst h9
    replace h := Prod.mk.inj h
    obtain ⟨h9, h⟩ := h
    subst h9
    replace h := Prod.mk.inj h
    obtain ⟨h9, h⟩ := h
    subst h9
    subst h
    refine j_widen (cl' := mc) (sl' := ms) (by omega) (by omega) ?_
    refine j_subP (w := [(h0, .inr (2, [.ref a_scanner_h0, .ref a_draft_h0, .ref a_waiting_h0, .ref a_functions_h0, .ref (fad 0), .ref (fad fd), .ref a_text_h0, .int mode_h0, .int r2, .int signs_h0, .int loops_h0, .int token_h0, .int fault_h0])), ((fad fd), .inr (0, [(frB fad fd), (frA fad fn fd), .int kind_t, .int place_t, .int width_t, .int second_t, .int parts_t, .int innerParts_t, .int innerPlace_t, .int innerWidth_t, .int signs_t, .int waitingBelow_t, .int limited_t, .int targets_t, .int lastBlock_t])), (a_scanner_h0, .inr (4, [.ref a_text_a_scanner_h0, .int next_a_scanner_h0, .int kind_a_scanner_h0, .int start_a_scanner_h0, .int width_a_scanner_h0])), (a_waiting_h0, .inr (5, [.ref a_cells_a_waiting_h0, .int count_a_waiting_h0]))]) (pl := fpo fad fn fd fcf) (lv' := []) [3, 0, 1, 2] [] 4 rfl rfl (by decide) [] rfl ?_
    exact j_zretE hr (zb_n zb0) d_Rd_openBlocks_8 ⟨fad, rfl, zb0, rfl⟩
