noncomputable def F_Rd_addItem (p1 : Int32) (mode_h0 : Int32) (levels_h0 : Int32) (signs_h0 : Int32) (loops_h0 : Int32) (token_h0 : Int32) (fault_h0 : Int32) (next_a_scanner_h0 : Int32) (kind_a_scanner_h0 : Int32) (start_a_scanner_h0 : Int32) (width_a_scanner_h0 : Int32) (count_a_draft_h0 : Int32) (n_a_cells_a_draft_h0 : Nat) (b_a_cells_a_draft_h0 : Nat → Int32) : Option ((Int32 × Nat × (Nat → Int32)) × Nat × Nat) :=
  bw (F_Nd_addLeaf p1 start_a_scanner_h0 width_a_scanner_h0 count_a_draft_h0 n_a_cells_a_draft_h0 b_a_cells_a_draft_h0) fun ⟨r3, r4, r5⟩ =>
  (some ((r3, r4, r5), 0, 0))
theorem d_Rd_addItem_0 : decode prog_6_method_53_code 0 = .ok (.aload_n 0, 1) := by decide +kernel
theorem d_Rd_addItem_1 : decode prog_6_method_53_code 1 = .ok (.getfield 23, 3) := by decide +kernel
theorem d_Rd_addItem_4 : decode prog_6_method_53_code 4 = .ok (.iload_n 1, 1) := by decide +kernel
theorem d_Rd_addItem_5 : decode prog_6_method_53_code 5 = .ok (.aload_n 0, 1) := by decide +kernel
theorem d_Rd_addItem_6 : decode prog_6_method_53_code 6 = .ok (.getfield 14, 3) := by decide +kernel
theorem d_Rd_addItem_9 : decode prog_6_method_53_code 9 = .ok (.invokevirtual 113, 3) := by decide +kernel
theorem d_Rd_addItem_12 : decode prog_6_method_53_code 12 = .ok (.aload_n 0, 1) := by decide +kernel
theorem d_Rd_addItem_13 : decode prog_6_method_53_code 13 = .ok (.getfield 14, 3) := by decide +kernel
theorem d_Rd_addItem_16 : decode prog_6_method_53_code 16 = .ok (.invokevirtual 124, 3) := by decide +kernel
theorem d_Rd_addItem_19 : decode prog_6_method_53_code 19 = .ok (.invokevirtual 127, 3) := by decide +kernel
theorem d_Rd_addItem_22 : decode prog_6_method_53_code 22 = .ok (.aload_n 0, 1) := by decide +kernel
theorem d_Rd_addItem_23 : decode prog_6_method_53_code 23 = .ok (.invokevirtual 157, 3) := by decide +kernel
theorem d_Rd_addItem_26 : decode prog_6_method_53_code 26 = .ok (.ireturn, 1) := by decide +kernel
set_option maxHeartbeats 4000000 in
set_option maxRecDepth 100000 in
theorem c_Rd_addItem (l : Launch) (D : va_G) (cI cB cJ cS : ClassId) (h0 : Nat) (a_scanner_h0 : Nat) (a_draft_h0 : Nat) (a_waiting_h0 : Nat) (a_functions_h0 : Nat) (a_bottom_h0 : Nat) (a_top_h0 : Nat) (a_text_h0 : Nat) (a_text_a_scanner_h0 : Nat) (a_cells_a_draft_h0 : Nat) (p1 : Int32) (mode_h0 : Int32) (levels_h0 : Int32) (signs_h0 : Int32) (loops_h0 : Int32) (token_h0 : Int32) (fault_h0 : Int32) (next_a_scanner_h0 : Int32) (kind_a_scanner_h0 : Int32) (start_a_scanner_h0 : Int32) (width_a_scanner_h0 : Int32) (count_a_draft_h0 : Int32) (n_a_cells_a_draft_h0 : Nat) (b_a_cells_a_draft_h0 : Nat → Int32) (o_2_1 : Int32) (on_nq_2_0 : Nat) (ob_nq_2_0 : Nat → Int32) (mc ms : Nat) (h : F_Rd_addItem p1 mode_h0 levels_h0 signs_h0 loops_h0 token_h0 fault_h0 next_a_scanner_h0 kind_a_scanner_h0 start_a_scanner_h0 width_a_scanner_h0 count_a_draft_h0 n_a_cells_a_draft_h0 b_a_cells_a_draft_h0 = some ((o_2_1, on_nq_2_0, ob_nq_2_0), mc, ms)) : Ct l D (gT cI cB cJ cS) y_Rd_addItem prog_6_method_53_code 2 (Option.some Jvm.ClassFile.FieldType.boolean) 4 133 mc ms [.ref h0, .int p1] [(h0, .inr (2, [.ref a_scanner_h0, .ref a_draft_h0, .ref a_waiting_h0, .ref a_functions_h0, .ref a_bottom_h0, .ref a_top_h0, .ref a_text_h0, .int mode_h0, .int levels_h0, .int signs_h0, .int loops_h0, .int token_h0, .int fault_h0])), (a_scanner_h0, .inr (4, [.ref a_text_a_scanner_h0, .int next_a_scanner_h0, .int kind_a_scanner_h0, .int start_a_scanner_h0, .int width_a_scanner_h0])), (a_draft_h0, .inr (1, [.ref a_cells_a_draft_h0, .int count_a_draft_h0])), (a_cells_a_draft_h0, .inl (cI, n_a_cells_a_draft_h0, .inl b_a_cells_a_draft_h0))] (fun v w => ∃ nq_2_0 : Nat, v = some (.int 1) ∧ zb 1 ∧ w = [(h0, .inr (2, [.ref a_scanner_h0, .ref a_draft_h0, .ref a_waiting_h0, .ref a_functions_h0, .ref a_bottom_h0, .ref a_top_h0, .ref a_text_h0, .int 34, .int (levels_h0 - signs_h0), .int 0, .int loops_h0, .int token_h0, .int fault_h0])), (a_scanner_h0, .inr (4, [.ref a_text_a_scanner_h0, .int next_a_scanner_h0, .int kind_a_scanner_h0, .int start_a_scanner_h0, .int width_a_scanner_h0])), (a_draft_h0, .inr (1, [.ref nq_2_0, .int o_2_1])), (nq_2_0, .inl (cI, on_nq_2_0, .inl ob_nq_2_0))]) := by
  refine Ct.mk (by decide) (Nat.le_of_ble_eq_true rfl) ?_
  intro p e s m below meth c hr hnm
  refine j_norm (pc' := 0) (lv' := [(0, .ref h0), (1, .int p1)]) (st' := []) (ws' := [(h0, .inr (2, [.ref a_scanner_h0, .ref a_draft_h0, .ref a_waiting_h0, .ref a_functions_h0, .ref a_bottom_h0, .ref a_top_h0, .ref a_text_h0, .int mode_h0, .int levels_h0, .int signs_h0, .int loops_h0, .int token_h0, .int fault_h0])), (a_scanner_h0, .inr (4, [.ref a_text_a_scanner_h0, .int next_a_scanner_h0, .int kind_a_scanner_h0, .int start_a_scanner_h0, .int width_a_scanner_h0])), (a_draft_h0, .inr (1, [.ref a_cells_a_draft_h0, .int count_a_draft_h0])), (a_cells_a_draft_h0, .inl (cI, n_a_cells_a_draft_h0, .inl b_a_cells_a_draft_h0))]) (cl' := 0) (sl' := 0) rfl rfl rfl rfl rfl rfl ?_
  unfold F_Rd_addItem at h
  have hC : 0 + mc ≤ mc := by omega
  have hS : 0 + ms ≤ ms := by omega
  refine j_aload_n d_Rd_addItem_0 rfl 0 rfl ?_
  refine j_get ig_Rd rfl 0 rfl 1 (by decide) rfl m_170 rfl d_Rd_addItem_1 ?_
  refine j_iload_n d_Rd_addItem_4 rfl 1 rfl ?_
  refine j_aload_n d_Rd_addItem_5 rfl 0 rfl ?_
  refine j_get ig_Rd rfl 0 rfl 0 (by decide) rfl m_169 rfl d_Rd_addItem_6 ?_
  refine j_callV (n := 0) (As := []) (rest := [.int p1, .ref a_draft_h0]) (wr := [(h0, .inr (2, [.ref a_scanner_h0, .ref a_draft_h0, .ref a_waiting_h0, .ref a_functions_h0, .ref a_bottom_h0, .ref a_top_h0, .ref a_text_h0, .int mode_h0, .int levels_h0, .int signs_h0, .int loops_h0, .int token_h0, .int fault_h0])), (a_draft_h0, .inr (1, [.ref a_cells_a_draft_h0, .int count_a_draft_h0])), (a_cells_a_draft_h0, .inl (cI, n_a_cells_a_draft_h0, .inl b_a_cells_a_draft_h0))]) (c_Sc_start l D cI cB cJ cS a_scanner_h0 a_text_a_scanner_h0 next_a_scanner_h0 kind_a_scanner_h0 start_a_scanner_h0 width_a_scanner_h0  ) k_Rd_113 (by decide) ⟨Nat.le_of_ble_eq_true rfl, Nat.le_of_ble_eq_true rfl⟩ rfl 0 rfl [1] [0, 2, 3] rfl (by decide) rfl (by decide) (by decide) rfl rfl (Nat.le_of_ble_eq_true rfl) d_Rd_addItem_9 ⟨show 0 + 0 ≤ mc by omega, show 0 + 0 ≤ ms by omega⟩ (fun v w hq => ?_)
  obtain ⟨rfl, rfl⟩ := hq
  refine j_norm (pc' := 12) (st' := [.int start_a_scanner_h0, .int p1, .ref a_draft_h0]) (ws' := [(h0, .inr (2, [.ref a_scanner_h0, .ref a_draft_h0, .ref a_waiting_h0, .ref a_functions_h0, .ref a_bottom_h0, .ref a_top_h0, .ref a_text_h0, .int mode_h0, .int levels_h0, .int signs_h0, .int loops_h0, .int token_h0, .int fault_h0])), (a_draft_h0, .inr (1, [.ref a_cells_a_draft_h0, .int count_a_draft_h0])), (a_cells_a_draft_h0, .inl (cI, n_a_cells_a_draft_h0, .inl b_a_cells_a_draft_h0)), (a_scanner_h0, .inr (4, [.ref a_text_a_scanner_h0, .int next_a_scanner_h0, .int kind_a_scanner_h0, .int start_a_scanner_h0, .int width_a_scanner_h0]))]) (cl' := 0) (sl' := 0) rfl rfl rfl rfl rfl rfl ?_
  refine j_aload_n d_Rd_addItem_12 rfl 0 rfl ?_
  refine j_get ig_Rd rfl 0 rfl 0 (by decide) rfl m_169 rfl d_Rd_addItem_13 ?_
  refine j_callV (n := 0) (As := []) (rest := [.int start_a_scanner_h0, .int p1, .ref a_draft_h0]) (wr := [(h0, .inr (2, [.ref a_scanner_h0, .ref a_draft_h0, .ref a_waiting_h0, .ref a_functions_h0, .ref a_bottom_h0, .ref a_top_h0, .ref a_text_h0, .int mode_h0, .int levels_h0, .int signs_h0, .int loops_h0, .int token_h0, .int fault_h0])), (a_draft_h0, .inr (1, [.ref a_cells_a_draft_h0, .int count_a_draft_h0])), (a_cells_a_draft_h0, .inl (cI, n_a_cells_a_draft_h0, .inl b_a_cells_a_draft_h0))]) (c_Sc_width l D cI cB cJ cS a_scanner_h0 a_text_a_scanner_h0 next_a_scanner_h0 kind_a_scanner_h0 start_a_scanner_h0 width_a_scanner_h0  ) k_Rd_124 (by decide) ⟨Nat.le_of_ble_eq_true rfl, Nat.le_of_ble_eq_true rfl⟩ rfl 0 rfl [3] [0, 1, 2] rfl (by decide) rfl (by decide) (by decide) rfl rfl (Nat.le_of_ble_eq_true rfl) d_Rd_addItem_16 ⟨show 0 + 0 ≤ mc by omega, show 0 + 0 ≤ ms by omega⟩ (fun v w hq => ?_)
  obtain ⟨rfl, rfl⟩ := hq
  refine j_norm (pc' := 19) (st' := [.int width_a_scanner_h0, .int start_a_scanner_h0, .int p1, .ref a_draft_h0]) (ws' := [(h0, .inr (2, [.ref a_scanner_h0, .ref a_draft_h0, .ref a_waiting_h0, .ref a_functions_h0, .ref a_bottom_h0, .ref a_top_h0, .ref a_text_h0, .int mode_h0, .int levels_h0, .int signs_h0, .int loops_h0, .int token_h0, .int fault_h0])), (a_draft_h0, .inr (1, [.ref a_cells_a_draft_h0, .int count_a_draft_h0])), (a_cells_a_draft_h0, .inl (cI, n_a_cells_a_draft_h0, .inl b_a_cells_a_draft_h0)), (a_scanner_h0, .inr (4, [.ref a_text_a_scanner_h0, .int next_a_scanner_h0, .int kind_a_scanner_h0, .int start_a_scanner_h0, .int width_a_scanner_h0]))]) (cl' := 0) (sl' := 0) rfl rfl rfl rfl rfl rfl ?_
  replace h := bw_s h
  obtain ⟨⟨r3, r4, r5⟩, C7, S8, C9, S10, k11, h, e1, e2⟩ := h
  replace hC : 0 + C7 + C9 ≤ mc := by omega
  replace hS : 0 + S8 + S10 ≤ ms := by omega
  clear e1 e2
  refine j_callV (n := 3) (As := [.int p1, .int start_a_scanner_h0, .int width_a_scanner_h0]) (rest := []) (wr := [(h0, .inr (2, [.ref a_scanner_h0, .ref a_draft_h0, .ref a_waiting_h0, .ref a_functions_h0, .ref a_bottom_h0, .ref a_top_h0, .ref a_text_h0, .int mode_h0, .int levels_h0, .int signs_h0, .int loops_h0, .int token_h0, .int fault_h0])), (a_scanner_h0, .inr (4, [.ref a_text_a_scanner_h0, .int next_a_scanner_h0, .int kind_a_scanner_h0, .int start_a_scanner_h0, .int width_a_scanner_h0]))]) (c_Nd_addLeaf l D cI cB cJ cS a_draft_h0 a_cells_a_draft_h0 p1 start_a_scanner_h0 width_a_scanner_h0 count_a_draft_h0 n_a_cells_a_draft_h0 b_a_cells_a_draft_h0  r3 r4 r5 C7 S8 k11) k_Rd_127 (by decide) ⟨Nat.le_of_ble_eq_true rfl, Nat.le_of_ble_eq_true rfl⟩ rfl 0 rfl [1, 2] [0, 3] rfl (by decide) rfl (by decide) (by decide) rfl rfl (Nat.le_of_ble_eq_true rfl) d_Rd_addItem_19 ⟨show 0 + C7 ≤ mc by omega, show 0 + S8 ≤ ms by omega⟩ (fun v w hq => ?_)
  obtain ⟨q6, rfl, rfl⟩ := hq
  refine j_norm (pc' := 22) (st' := []) (ws' := [(h0, .inr (2, [.ref a_scanner_h0, .ref a_draft_h0, .ref a_waiting_h0, .ref a_functions_h0, .ref a_bottom_h0, .ref a_top_h0, .ref a_text_h0, .int mode_h0, .int levels_h0, .int signs_h0, .int loops_h0, .int token_h0, .int fault_h0])), (a_scanner_h0, .inr (4, [.ref a_text_a_scanner_h0, .int next_a_scanner_h0, .int kind_a_scanner_h0, .int start_a_scanner_h0, .int width_a_scanner_h0])), (a_draft_h0, .inr (1, [.ref q6, .int r3])), (q6, .inl (cI, r4, .inl r5))]) (cl' := 0 + C7) (sl' := 0 + S8) rfl rfl rfl rfl rfl rfl ?_
  refine j_aload_n d_Rd_addItem_22 rfl 0 rfl ?_
  refine j_callV (n := 0) (As := []) (rest := []) (wr := [(a_scanner_h0, .inr (4, [.ref a_text_a_scanner_h0, .int next_a_scanner_h0, .int kind_a_scanner_h0, .int start_a_scanner_h0, .int width_a_scanner_h0])), (a_draft_h0, .inr (1, [.ref q6, .int r3])), (q6, .inl (cI, r4, .inl r5))]) (c_Rd_endItem l D cI cB cJ cS h0 a_scanner_h0 a_draft_h0 a_waiting_h0 a_functions_h0 a_bottom_h0 a_top_h0 a_text_h0 mode_h0 levels_h0 signs_h0 loops_h0 token_h0 fault_h0  ) k_Rd_157 (by decide) ⟨Nat.le_of_ble_eq_true rfl, Nat.le_of_ble_eq_true rfl⟩ rfl 0 rfl [0] [1, 2, 3] rfl (by decide) rfl (by decide) (by decide) rfl rfl (Nat.le_of_ble_eq_true rfl) d_Rd_addItem_23 ⟨show 0 + C7 + 0 ≤ mc by omega, show 0 + S8 + 0 ≤ ms by omega⟩ (fun v w hq => ?_)
  obtain ⟨rfl, _, rfl⟩ := hq
  refine j_norm (pc' := 26) (st' := [.int 1]) (ws' := [(a_scanner_h0, .inr (4, [.ref a_text_a_scanner_h0, .int next_a_scanner_h0, .int kind_a_scanner_h0, .int start_a_scanner_h0, .int width_a_scanner_h0])), (a_draft_h0, .inr (1, [.ref q6, .int r3])), (q6, .inl (cI, r4, .inl r5)), (h0, .inr (2, [.ref a_scanner_h0, .ref a_draft_h0, .ref a_waiting_h0, .ref a_functions_h0, .ref a_bottom_h0, .ref a_top_h0, .ref a_text_h0, .int 34, .int (levels_h0 - signs_h0), .int 0, .int loops_h0, .int token_h0, .int fault_h0]))]) (cl' := 0 + C7) (sl' := 0 + S8) rfl rfl rfl rfl rfl rfl ?_
  replace h := lf_s h
  obtain ⟨h, e1, e2⟩ := h
  replace h := Prod.mk.inj h
  obtain ⟨h9, h⟩ := h
  subst h9
  replace h := Prod.mk.inj h
  obtain ⟨h9, h⟩ := h
  subst h9
  subst h
  refine j_widen (cl' := mc) (sl' := ms) (by omega) (by omega) ?_
  exact j_zret (w := [(h0, .inr (2, [.ref a_scanner_h0, .ref a_draft_h0, .ref a_waiting_h0, .ref a_functions_h0, .ref a_bottom_h0, .ref a_top_h0, .ref a_text_h0, .int 34, .int (levels_h0 - signs_h0), .int 0, .int loops_h0, .int token_h0, .int fault_h0])), (a_scanner_h0, .inr (4, [.ref a_text_a_scanner_h0, .int next_a_scanner_h0, .int kind_a_scanner_h0, .int start_a_scanner_h0, .int width_a_scanner_h0])), (a_draft_h0, .inr (1, [.ref q6, .int r3])), (q6, .inl (cI, r4, .inl r5))]) hr (zb_n zb1) d_Rd_addItem_26 [3, 0, 1, 2] rfl (by decide) ⟨q6, rfl, zb1, rfl⟩
noncomputable def F_Rd_takeSemicolon (fn : Nat) (fd : Nat) (fcf : Nat → FrC) (mode_h0 : Int32) (levels_h0 : Int32) (signs_h0 : Int32) (loops_h0 : Int32) (token_h0 : Int32) (fault_h0 : Int32) (kind_t : Int32) (place_t : Int32) (width_t : Int32) (second_t : Int32) (parts_t : Int32) (innerParts_t : Int32) (innerPlace_t : Int32) (innerWidth_t : Int32) (signs_t : Int32) (waitingBelow_t : Int32) (limited_t : Int32) (targets_t : Int32) (lastBlock_t : Int32) (count_a_draft_h0 : Int32) (n_a_cells_a_draft_h0 : Nat) (b_a_cells_a_draft_h0 : Nat → Int32) : Option ((Nat × Nat × (Nat → FrC) × Int32 × Int32 × Int32 × Int32 × Int32 × Int32 × Int32 × Int32 × Int32 × Int32 × Int32 × Int32 × Int32 × Int32 × Int32 × Int32 × Int32 × Nat × (Nat → Int32)) × Nat × Nat) :=
  if kind_t = 18 then (bw (F_Rd_endPlain (parts_t + 1) fn fd fcf mode_h0 levels_h0 signs_h0 loops_h0 token_h0 fault_h0 kind_t place_t width_t second_t parts_t innerParts_t innerPlace_t innerWidth_t signs_t waitingBelow_t limited_t targets_t lastBlock_t count_a_draft_h0 n_a_cells_a_draft_h0 b_a_cells_a_draft_h0) fun ⟨r2, r3, r4, r5, r6, r7, r8, r9, r10, r11, r12, r13, r14, r15, r16, r17, r18, r19, r20⟩ =>
    (some ((r2, r3, r4, 1, 0, signs_t, r5, r6, r7, r8, r9, r10, r11, r12, r13, r14, r15, r16, r17, r18, r19, r20), 0, 0)))
  else if kind_t = 19 then (bw (F_Rd_endPlain (parts_t + 1) fn fd fcf mode_h0 levels_h0 signs_h0 loops_h0 token_h0 fault_h0 kind_t place_t width_t second_t parts_t innerParts_t innerPlace_t innerWidth_t signs_t waitingBelow_t limited_t targets_t lastBlock_t count_a_draft_h0 n_a_cells_a_draft_h0 b_a_cells_a_draft_h0) fun ⟨r29, r30, r31, r32, r33, r34, r35, r36, r37, r38, r39, r40, r41, r42, r43, r44, r45, r46, r47⟩ =>
    (some ((r29, r30, r31, 1, 0, signs_t, r32, r33, r34, r35, r36, r37, r38, r39, r40, r41, r42, r43, r44, r45, r46, r47), 0, 0)))
  else if kind_t = 20 then (bw (F_Rd_endPlain 1 fn fd fcf mode_h0 levels_h0 signs_h0 loops_h0 token_h0 fault_h0 kind_t place_t width_t second_t parts_t innerParts_t innerPlace_t innerWidth_t signs_t waitingBelow_t limited_t targets_t lastBlock_t count_a_draft_h0 n_a_cells_a_draft_h0 b_a_cells_a_draft_h0) fun ⟨r56, r57, r58, r59, r60, r61, r62, r63, r64, r65, r66, r67, r68, r69, r70, r71, r72, r73, r74⟩ =>
    (some ((r56, r57, r58, 1, 0, signs_t, r59, r60, r61, r62, r63, r64, r65, r66, r67, r68, r69, r70, r71, r72, r73, r74), 0, 0)))
  else if kind_t = 21 then (bw (F_Rd_endPlain 2 fn fd fcf mode_h0 levels_h0 signs_h0 loops_h0 token_h0 fault_h0 kind_t place_t width_t second_t parts_t innerParts_t innerPlace_t innerWidth_t signs_t waitingBelow_t limited_t targets_t lastBlock_t count_a_draft_h0 n_a_cells_a_draft_h0 b_a_cells_a_draft_h0) fun ⟨r83, r84, r85, r86, r87, r88, r89, r90, r91, r92, r93, r94, r95, r96, r97, r98, r99, r100, r101⟩ =>
    (some ((r83, r84, r85, 1, 0, signs_t, r86, r87, r88, r89, r90, r91, r92, r93, r94, r95, r96, r97, r98, r99, r100, r101), 0, 0)))
  else if kind_t = 36 then (bw (F_Rd_endRow mode_h0 levels_h0 signs_h0 loops_h0 token_h0 fault_h0 kind_t place_t width_t second_t parts_t innerParts_t innerPlace_t innerWidth_t signs_t waitingBelow_t limited_t targets_t lastBlock_t count_a_draft_h0 n_a_cells_a_draft_h0 b_a_cells_a_draft_h0) fun ⟨r110, r111, r112⟩ =>
    (some ((fn, fd, fcf, 1, 30, signs_h0, kind_t, place_t, width_t, second_t, parts_t + 1, 0, innerPlace_t, innerWidth_t, signs_t, waitingBelow_t, limited_t, targets_t, lastBlock_t, r110, r111, r112), 0, 0)))
  else (some ((fn, fd, fcf, 0, mode_h0, signs_h0, kind_t, place_t, width_t, second_t, parts_t, innerParts_t, innerPlace_t, innerWidth_t, signs_t, waitingBelow_t, limited_t, targets_t, lastBlock_t, count_a_draft_h0, n_a_cells_a_draft_h0, b_a_cells_a_draft_h0), 0, 0))
theorem d_Rd_takeSemicolon_0 : decode prog_6_method_63_code 0 = .ok (.aload_n 0, 1) := by decide +kernel
theorem d_Rd_takeSemicolon_1 : decode prog_6_method_63_code 1 = .ok (.getfield 46, 3) := by decide +kernel
theorem d_Rd_takeSemicolon_4 : decode prog_6_method_63_code 4 = .ok (.getfield 86, 3) := by decide +kernel
theorem d_Rd_takeSemicolon_7 : decode prog_6_method_63_code 7 = .ok (.lookupswitch 97 #[(18, 83), (19, 83), (20, 71), (21, 77), (36, 49)], 49) := by decide +kernel
theorem d_Rd_takeSemicolon_56 : decode prog_6_method_63_code 56 = .ok (.aload_n 0, 1) := by decide +kernel
theorem d_Rd_takeSemicolon_57 : decode prog_6_method_63_code 57 = .ok (.invokevirtual 360, 3) := by decide +kernel
theorem d_Rd_takeSemicolon_60 : decode prog_6_method_63_code 60 = .ok (.ifCond .eq 16, 3) := by decide +kernel
theorem d_Rd_takeSemicolon_63 : decode prog_6_method_63_code 63 = .ok (.aload_n 0, 1) := by decide +kernel
theorem d_Rd_takeSemicolon_64 : decode prog_6_method_63_code 64 = .ok (.bipush 30, 2) := by decide +kernel
theorem d_Rd_takeSemicolon_66 : decode prog_6_method_63_code 66 = .ok (.invokevirtual 130, 3) := by decide +kernel
theorem d_Rd_takeSemicolon_69 : decode prog_6_method_63_code 69 = .ok (.ifCond .eq 7, 3) := by decide +kernel
theorem d_Rd_takeSemicolon_72 : decode prog_6_method_63_code 72 = .ok (.iconst 1, 1) := by decide +kernel
theorem d_Rd_takeSemicolon_73 : decode prog_6_method_63_code 73 = .ok (.goto 4, 3) := by decide +kernel
theorem d_Rd_takeSemicolon_77 : decode prog_6_method_63_code 77 = .ok (.ireturn, 1) := by decide +kernel
theorem d_Rd_takeSemicolon_78 : decode prog_6_method_63_code 78 = .ok (.aload_n 0, 1) := by decide +kernel
theorem d_Rd_takeSemicolon_79 : decode prog_6_method_63_code 79 = .ok (.iconst 1, 1) := by decide +kernel
theorem d_Rd_takeSemicolon_80 : decode prog_6_method_63_code 80 = .ok (.invokevirtual 375, 3) := by decide +kernel
theorem d_Rd_takeSemicolon_83 : decode prog_6_method_63_code 83 = .ok (.ireturn, 1) := by decide +kernel
theorem d_Rd_takeSemicolon_84 : decode prog_6_method_63_code 84 = .ok (.aload_n 0, 1) := by decide +kernel
theorem d_Rd_takeSemicolon_85 : decode prog_6_method_63_code 85 = .ok (.iconst 2, 1) := by decide +kernel
theorem d_Rd_takeSemicolon_86 : decode prog_6_method_63_code 86 = .ok (.invokevirtual 375, 3) := by decide +kernel
theorem d_Rd_takeSemicolon_89 : decode prog_6_method_63_code 89 = .ok (.ireturn, 1) := by decide +kernel
theorem d_Rd_takeSemicolon_90 : decode prog_6_method_63_code 90 = .ok (.aload_n 0, 1) := by decide +kernel
theorem d_Rd_takeSemicolon_91 : decode prog_6_method_63_code 91 = .ok (.aload_n 0, 1) := by decide +kernel
theorem d_Rd_takeSemicolon_92 : decode prog_6_method_63_code 92 = .ok (.getfield 46, 3) := by decide +kernel
theorem d_Rd_takeSemicolon_95 : decode prog_6_method_63_code 95 = .ok (.getfield 224, 3) := by decide +kernel
theorem d_Rd_takeSemicolon_98 : decode prog_6_method_63_code 98 = .ok (.iconst 1, 1) := by decide +kernel
theorem d_Rd_takeSemicolon_99 : decode prog_6_method_63_code 99 = .ok (.iadd, 1) := by decide +kernel
theorem d_Rd_takeSemicolon_100 : decode prog_6_method_63_code 100 = .ok (.invokevirtual 375, 3) := by decide +kernel
theorem d_Rd_takeSemicolon_103 : decode prog_6_method_63_code 103 = .ok (.ireturn, 1) := by decide +kernel
theorem d_Rd_takeSemicolon_104 : decode prog_6_method_63_code 104 = .ok (.iconst 0, 1) := by decide +kernel
theorem d_Rd_takeSemicolon_105 : decode prog_6_method_63_code 105 = .ok (.ireturn, 1) := by decide +kernel
set_option maxHeartbeats 4000000 in
set_option maxRecDepth 100000 in
theorem c_Rd_takeSemicolon (l : Launch) (D : va_G) (cI cB cJ cS : ClassId) (h0 : Nat) (fad : Nat → Nat) (a_scanner_h0 : Nat) (a_draft_h0 : Nat) (a_waiting_h0 : Nat) (a_functions_h0 : Nat) (a_text_h0 : Nat) (a_cells_a_draft_h0 : Nat) (fn : Nat) (fd : Nat) (fcf : Nat → FrC) (mode_h0 : Int32) (levels_h0 : Int32) (signs_h0 : Int32) (loops_h0 : Int32) (token_h0 : Int32) (fault_h0 : Int32) (kind_t : Int32) (place_t : Int32) (width_t : Int32) (second_t : Int32) (parts_t : Int32) (innerParts_t : Int32) (innerPlace_t : Int32) (innerWidth_t : Int32) (signs_t : Int32) (waitingBelow_t : Int32) (limited_t : Int32) (targets_t : Int32) (lastBlock_t : Int32) (count_a_draft_h0 : Int32) (n_a_cells_a_draft_h0 : Nat) (b_a_cells_a_draft_h0 : Nat → Int32) (on_p : Nat) (od_p : Nat) (ocf_p : Nat → FrC) (ret : Int32) (o_0_7 : Int32) (o_0_9 : Int32) (o_1_2 : Int32) (o_1_3 : Int32) (o_1_4 : Int32) (o_1_5 : Int32) (o_1_6 : Int32) (o_1_7 : Int32) (o_1_8 : Int32) (o_1_9 : Int32) (o_1_10 : Int32) (o_1_11 : Int32) (o_1_12 : Int32) (o_1_13 : Int32) (o_1_14 : Int32) (o_2_1 : Int32) (on_nq_2_0 : Nat) (ob_nq_2_0 : Nat → Int32) (mc ms : Nat) (h : F_Rd_takeSemicolon fn fd fcf mode_h0 levels_h0 signs_h0 loops_h0 token_h0 fault_h0 kind_t place_t width_t second_t parts_t innerParts_t innerPlace_t innerWidth_t signs_t waitingBelow_t limited_t targets_t lastBlock_t count_a_draft_h0 n_a_cells_a_draft_h0 b_a_cells_a_draft_h0 = some ((on_p, od_p, ocf_p, ret, o_0_7, o_0_9, o_1_2, o_1_3, o_1_4, o_1_5, o_1_6, o_1_7, o_1_8, o_1_9, o_1_10, o_1_11, o_1_12, o_1_13, o_1_14, o_2_1, on_nq_2_0, ob_nq_2_0), mc, ms)) : Ct l D (gT cI cB cJ cS) y_Rd_takeSemicolon prog_6_method_63_code 1 (Option.some Jvm.ClassFile.FieldType.boolean) 4 131 mc ms [.ref h0] ((h0, .inr (2, [.ref a_scanner_h0, .ref a_draft_h0, .ref a_waiting_h0, .ref a_functions_h0, .ref (fad 0), .ref (fad fd), .ref a_text_h0, .int mode_h0, .int levels_h0, .int signs_h0, .int loops_h0, .int token_h0, .int fault_h0])) :: ((fad fd), .inr (0, [(frB fad fd), (frA fad fn fd), .int kind_t, .int place_t, .int width_t, .int second_t, .int parts_t, .int innerParts_t, .int innerPlace_t, .int innerWidth_t, .int signs_t, .int waitingBelow_t, .int limited_t, .int targets_t, .int lastBlock_t])) :: (a_draft_h0, .inr (1, [.ref a_cells_a_draft_h0, .int count_a_draft_h0])) :: (a_cells_a_draft_h0, .inl (cI, n_a_cells_a_draft_h0, .inl b_a_cells_a_draft_h0)) :: fpo fad fn fd fcf) (fun v w => ∃ nad : Nat → Nat, ∃ nq_2_0 : Nat, v = some (.int ret) ∧ zb ret ∧ w = ((h0, .inr (2, [.ref a_scanner_h0, .ref a_draft_h0, .ref a_waiting_h0, .ref a_functions_h0, .ref (nad 0), .ref (nad od_p), .ref a_text_h0, .int o_0_7, .int levels_h0, .int o_0_9, .int loops_h0, .int token_h0, .int fault_h0])) :: ((nad od_p), .inr (0, [(frB nad od_p), (frA nad on_p od_p), .int o_1_2, .int o_1_3, .int o_1_4, .int o_1_5, .int o_1_6, .int o_1_7, .int o_1_8, .int o_1_9, .int o_1_10, .int o_1_11, .int o_1_12, .int o_1_13, .int o_1_14])) :: (a_draft_h0, .inr (1, [.ref nq_2_0, .int o_2_1])) :: (nq_2_0, .inl (cI, on_nq_2_0, .inl ob_nq_2_0)) :: fpo nad on_p od_p ocf_p)) := by
  refine Ct.mk (by decide) (Nat.le_of_ble_eq_true rfl) ?_
  intro p e s m below meth c hr hnm
  refine j_norm (pc' := 0) (lv' := [(0, .ref h0)]) (st' := []) (ws' := ((h0, .inr (2, [.ref a_scanner_h0, .ref a_draft_h0, .ref a_waiting_h0, .ref a_functions_h0, .ref (fad 0), .ref (fad fd), .ref a_text_h0, .int mode_h0, .int levels_h0, .int signs_h0, .int loops_h0, .int token_h0, .int fault_h0])) :: ((fad fd), .inr (0, [(frB fad fd), (frA fad fn fd), .int kind_t, .int place_t, .int width_t, .int second_t, .int parts_t, .int innerParts_t, .int innerPlace_t, .int innerWidth_t, .int signs_t, .int waitingBelow_t, .int limited_t, .int targets_t, .int lastBlock_t])) :: (a_draft_h0, .inr (1, [.ref a_cells_a_draft_h0, .int count_a_draft_h0])) :: (a_cells_a_draft_h0, .inl (cI, n_a_cells_a_draft_h0, .inl b_a_cells_a_draft_h0)) :: fpo fad fn fd fcf)) (cl' := 0) (sl' := 0) rfl rfl rfl rfl rfl rfl ?_
  unfold F_Rd_takeSemicolon at h
  have hC : 0 + mc ≤ mc := by omega
  have hS : 0 + ms ≤ ms := by omega
  refine j_aload_n d_Rd_takeSemicolon_0 rfl 0 rfl ?_
  refine j_get ig_Rd rfl 0 rfl 5 (by decide) rfl m_174 rfl d_Rd_takeSemicolon_1 ?_
  refine j_get ig_Fr rfl 1 rfl 2 (by decide) rfl m_111 rfl d_Rd_takeSemicolon_4 ?_
  by_cases c1 : kind_t = 18
  · replace h := it_t c1 h
    refine j_look (tgt := 90) (off := 83) d_Rd_takeSemicolon_7 (by decide) (by rw [c1]; decide) (by decide) ?_
    refine j_aload_n d_Rd_takeSemicolon_90 rfl 0 rfl ?_
    refine j_aload_n d_Rd_takeSemicolon_91 rfl 0 rfl ?_
    refine j_get ig_Rd rfl 0 rfl 5 (by decide) rfl m_174 rfl d_Rd_takeSemicolon_92 ?_
    refine j_get ig_Fr rfl 1 rfl 6 (by decide) rfl m_119 rfl d_Rd_takeSemicolon_95 ?_
    refine j_iconst (v := 1) d_Rd_takeSemicolon_98 (by decide) ?_
    refine j_iadd d_Rd_takeSemicolon_99 ?_
    replace h := bw_s h
    obtain ⟨⟨r2, r3, r4, r5, r6, r7, r8, r9, r10, r11, r12, r13, r14, r15, r16, r17, r18, r19, r20⟩, C23, S24, C25, S26, k27, h, e1, e2⟩ := h
    replace hC : 0 + C23 + C25 ≤ mc := by omega
    replace hS : 0 + S24 + S26 ≤ ms := by omega
    clear e1 e2
    refine j_callVg (n := 1) (As := [.int (parts_t + 1)]) (rest := []) (wr := []) (c_Rd_endPlain l D cI cB cJ cS h0 fad a_scanner_h0 a_draft_h0 a_waiting_h0 a_functions_h0 a_text_h0 a_cells_a_draft_h0 (parts_t + 1) fn fd fcf mode_h0 levels_h0 signs_h0 loops_h0 token_h0 fault_h0 kind_t place_t width_t second_t parts_t innerParts_t innerPlace_t innerWidth_t signs_t waitingBelow_t limited_t targets_t lastBlock_t count_a_draft_h0 n_a_cells_a_draft_h0 b_a_cells_a_draft_h0  r2 r3 r4 r5 r6 r7 r8 r9 r10 r11 r12 r13 r14 r15 r16 r17 r18 r19 r20 C23 S24 k27) k_Rd_375 (by decide) ⟨Nat.le_of_ble_eq_true rfl, Nat.le_of_ble_eq_true rfl⟩ rfl 0 rfl (pk_app (wr := []) (w0 := [(h0, .inr (2, [.ref a_scanner_h0, .ref a_draft_h0, .ref a_waiting_h0, .ref a_functions_h0, .ref (fad 0), .ref (fad fd), .ref a_text_h0, .int mode_h0, .int levels_h0, .int signs_h0, .int loops_h0, .int token_h0, .int fault_h0])), ((fad fd), .inr (0, [(frB fad fd), (frA fad fn fd), .int kind_t, .int place_t, .int width_t, .int second_t, .int parts_t, .int innerParts_t, .int innerPlace_t, .int innerWidth_t, .int signs_t, .int waitingBelow_t, .int limited_t, .int targets_t, .int lastBlock_t])), (a_draft_h0, .inr (1, [.ref a_cells_a_draft_h0, .int count_a_draft_h0])), (a_cells_a_draft_h0, .inl (cI, n_a_cells_a_draft_h0, .inl b_a_cells_a_draft_h0))]) (pl := fpo fad fn fd fcf) [0, 1, 2, 3] 4 rfl rfl rfl (by decide)) rfl rfl (Nat.le_of_ble_eq_true rfl) d_Rd_takeSemicolon_100 ⟨show 0 + C23 ≤ mc by omega, show 0 + S24 ≤ ms by omega⟩ (fun v w hq => ?_)
    obtain ⟨a21, q22, rfl, _, rfl⟩ := hq
    refine j_norm (pc' := 103) (st' := [.int 1]) (ws' := ((h0, .inr (2, [.ref a_scanner_h0, .ref a_draft_h0, .ref a_waiting_h0, .ref a_functions_h0, .ref (a21 0), .ref (a21 r3), .ref a_text_h0, .int 0, .int levels_h0, .int signs_t, .int loops_h0, .int token_h0, .int fault_h0])) :: ((a21 r3), .inr (0, [(frB a21 r3), (frA a21 r2 r3), .int r5, .int r6, .int r7, .int r8, .int r9, .int r10, .int r11, .int r12, .int r13, .int r14, .int r15, .int r16, .int r17])) :: (a_draft_h0, .inr (1, [.ref q22, .int r18])) :: (q22, .inl (cI, r19, .inl r20)) :: fpo a21 r2 r3 r4)) (cl' := 0 + C23) (sl' := 0 + S24) rfl rfl rfl rfl rfl rfl ?_
    replace h := lf_s h
    obtain ⟨h, e1, e2⟩ := h
    replace h := Prod.mk.inj h
    obtain ⟨h9, h⟩ := h
    subst h9
    replace h := Prod.mk.inj h
    obtain ⟨h9, h⟩ := h
    subst h9
    replace h := Prod.mk.inj h
    obtain ⟨h9, h⟩ := h
    subst h9
    replace h := Prod.mk.inj h
    obtain ⟨h9, h⟩ := h
    subst h9
    replace h := Prod.mk.inj h
    obtain ⟨h9, h⟩ := h
    subst h9
    replace h := Prod.mk.inj h
    obtain ⟨h9, h⟩ := h
    subst h9
    replace h := Prod.mk.inj h
    obtain ⟨h9, h⟩ := h
    subst h9
    replace h := Prod.mk.inj h
    obtain ⟨h9, h⟩ := h
    subst h9
    replace h := Prod.mk.inj h
    obtain ⟨h9, h⟩ := h
    subst h9
    replace h := Prod.mk.inj h
    obtain ⟨h9, h⟩ := h
    subst h9
    replace h := Prod.mk.inj h
    obtain ⟨h9, h⟩ := h
    subst h9
    replace h := Prod.mk.inj h
    obtain ⟨h9, h⟩ := h
    subst h9
    replace h := Prod.mk.inj h
    obtain ⟨h9, h⟩ := h
    subst h9
    replace h := Prod.mk.inj h
    obtain ⟨h9, h⟩ := h
    subst h9
    replace h := Prod.mk.inj h
    obtain ⟨h9, h⟩ := h
    subst h9
    replace h := Prod.mk.inj h
    obtain ⟨h9, h⟩ := h
    subst h9
    replace h := Prod.mk.inj h
    obtain ⟨h9, h⟩ := h
    subst h9
    replace h := Prod.mk.inj h
    obtain ⟨h9, h⟩ := h
    subst h9
    replace h := Prod.mk.inj h
    obtain ⟨h9, h⟩ := h
    subst h9
    replace h := Prod.mk.inj h
    obtain ⟨h9, h⟩ := h
    subst h9
    replace h := Prod.mk.inj h
    obtain ⟨h9, h⟩ := h
    subst h9
    subst h
    refine j_widen (cl' := mc) (sl' := ms) (by omega) (by omega) ?_
    refine j_subP (w := [(h0, .inr (2, [.ref a_scanner_h0, .ref a_draft_h0, .ref a_waiting_h0, .ref a_functions_h0, .ref (a21 0), .ref (a21 r3), .ref a_text_h0, .int 0, .int levels_h0, .int signs_t, .int loops_h0, .int token_h0, .int fault_h0])), ((a21 r3), .inr (0, [(frB a21 r3), (frA a21 r2 r3), .int r5, .int r6, .int r7, .int r8, .int r9, .int r10, .int r11, .int r12, .int r13, .int r14, .int r15, .int r16, .int r17])), (a_draft_h0, .inr (1, [.ref q22, .int r18])), (q22, .inl (cI, r19, .inl r20))]) (pl := fpo a21 r2 r3 r4) (lv' := []) [0, 1, 2, 3] [] 4 rfl rfl (by decide) [] rfl ?_
    exact j_zretE hr (zb_n zb1) d_Rd_takeSemicolon_103 ⟨a21, q22, rfl, zb1, rfl⟩
  · replace h := it_f c1 h
    by_cases c28 : kind_t = 19
    · replace h := it_t c28 h
      refine j_look (tgt := 90) (off := 83) d_Rd_takeSemicolon_7 (by decide) (by rw [c28]; decide) (by decide) ?_
      refine j_aload_n d_Rd_takeSemicolon_90 rfl 0 rfl ?_
      refine j_aload_n d_Rd_takeSemicolon_91 rfl 0 rfl ?_
      refine j_get ig_Rd rfl 0 rfl 5 (by decide) rfl m_174 rfl d_Rd_takeSemicolon_92 ?_
      refine j_get ig_Fr rfl 1 rfl 6 (by decide) rfl m_119 rfl d_Rd_takeSemicolon_95 ?_
      refine j_iconst (v := 1) d_Rd_takeSemicolon_98 (by decide) ?_
      refine j_iadd d_Rd_takeSemicolon_99 ?_
      replace h := bw_s h
      obtain ⟨⟨r29, r30, r31, r32, r33, r34, r35, r36, r37, r38, r39, r40, r41, r42, r43, r44, r45, r46, r47⟩, C50, S51, C52, S53, k54, h, e1, e2⟩ := h
      replace hC : 0 + C50 + C52 ≤ mc := by omega
      replace hS : 0 + S51 + S53 ≤ ms := by omega
      clear e1 e2
      refine j_callVg (n := 1) (As := [.int (parts_t + 1)]) (rest := []) (wr := []) (c_Rd_endPlain l D cI cB cJ cS h0 fad a_scanner_h0 a_draft_h0 a_waiting_h0 a_functions_h0 a_text_h0 a_cells_a_draft_h0 (parts_t + 1) fn fd fcf mode_h0 levels_h0 signs_h0 loops_h0 token_h0 fault_h0 kind_t place_t width_t second_t parts_t innerParts_t innerPlace_t innerWidth_t signs_t waitingBelow_t limited_t targets_t lastBlock_t count_a_draft_h0 n_a_cells_a_draft_h0 b_a_cells_a_draft_h0  r29 r30 r31 r32 r33 r34 r35 r36 r37 r38 r39 r40 r41 r42 r43 r44 r45 r46 r47 C50 S51 k54) k_Rd_375 (by decide) ⟨Nat.le_of_ble_eq_true rfl, Nat.le_of_ble_eq_true rfl⟩ rfl 0 rfl (pk_app (wr := []) (w0 := [(h0, .inr (2, [.ref a_scanner_h0, .ref a_draft_h0, .ref a_waiting_h0, .ref a_functions_h0, .ref (fad 0), .ref (fad fd), .ref a_text_h0, .int mode_h0, .int levels_h0, .int signs_h0, .int loops_h0, .int token_h0, .int fault_h0])), ((fad fd), .inr (0, [(frB fad fd), (frA fad fn fd), .int kind_t, .int place_t, .int width_t, .int second_t, .int parts_t, .int innerParts_t, .int innerPlace_t, .int innerWidth_t, .int signs_t, .int waitingBelow_t, .int limited_t, .int targets_t, .int lastBlock_t])), (a_draft_h0, .inr (1, [.ref a_cells_a_draft_h0, .int count_a_draft_h0])), (a_cells_a_draft_h0, .inl (cI, n_a_cells_a_draft_h0, .inl b_a_cells_a_draft_h0))]) (pl := fpo fad fn fd fcf) [0, 1, 2, 3] 4 rfl rfl rfl (by decide)) rfl rfl (Nat.le_of_ble_eq_true rfl) d_Rd_takeSemicolon_100 ⟨show 0 + C50 ≤ mc by omega, show 0 + S51 ≤ ms by omega⟩ (fun v w hq => ?_)
      obtain ⟨a48, q49, rfl, _, rfl⟩ := hq
      refine j_norm (pc' := 103) (st' := [.int 1]) (ws' := ((h0, .inr (2, [.ref a_scanner_h0, .ref a_draft_h0, .ref a_waiting_h0, .ref a_functions_h0, .ref (a48 0), .ref (a48 r30), .ref a_text_h0, .int 0, .int levels_h0, .int signs_t, .int loops_h0, .int token_h0, .int fault_h0])) :: ((a48 r30), .inr (0, [(frB a48 r30), (frA a48 r29 r30), .int r32, .int r33, .int r34, .int r35, .int r36, .int r37, .int r38, .int r39, .int r40, .int r41, .int r42, .int r43, .int r44])) :: (a_draft_h0, .inr (1, [.ref q49, .int r45])) :: (q49, .inl (cI, r46, .inl r47)) :: fpo a48 r29 r30 r31)) (cl' := 0 + C50) (sl' := 0 + S51) rfl rfl rfl rfl rfl rfl ?_
      replace h := lf_s h
      obtain ⟨h, e1, e2⟩ := h
      replace h := Prod.mk.inj h
      obtain ⟨h9, h⟩ := h
      subst h9
      replace h := Prod.mk.inj h
      obtain ⟨h9, h⟩ := h
      subst h9
      replace h := Prod.mk.inj h
      obtain ⟨h9, h⟩ := h
      subst h9
      replace h := Prod.mk.inj h
      obtain ⟨h9, h⟩ := h
      subst h9
      replace h := Prod.mk.inj h
      obtain ⟨h9, h⟩ := h
      subst h9
      replace h := Prod.mk.inj h
      obtain ⟨h9, h⟩ := h
      subst h9
      replace h := Prod.mk.inj h
      obtain ⟨h9, h⟩ := h
      subst h9
      replace h := Prod.mk.inj h
      obtain ⟨h9, h⟩ := h
      subst h9
      replace h := Prod.mk.inj h
      obtain ⟨h9, h⟩ := h
      subst h9
      replace h := Prod.mk.inj h
      obtain ⟨h9, h⟩ := h
      subst h9
      replace h := Prod.mk.inj h
      obtain ⟨h9, h⟩ := h
      subst h9
      replace h := Prod.mk.inj h
      obtain ⟨h9, h⟩ := h
      subst h9
      replace h := Prod.mk.inj h
      obtain ⟨h9, h⟩ := h
      subst h9
      replace h := Prod.mk.inj h
      obtain ⟨h9, h⟩ := h
      subst h9
      replace h := Prod.mk.inj h
      obtain ⟨h9, h⟩ := h
      subst h9
      replace h := Prod.mk.inj h
      obtain ⟨h9, h⟩ := h
      subst h9
      replace h := Prod.mk.inj h
      obtain ⟨h9, h⟩ := h
      subst h9
      replace h := Prod.mk.inj h
      obtain ⟨h9, h⟩ := h
      subst h9
      replace h := Prod.mk.inj h
      obtain ⟨h9, h⟩ := h
      subst h9
      replace h := Prod.mk.inj h
      obtain ⟨h9, h⟩ := h
      subst h9
      replace h := Prod.mk.inj h
      obtain ⟨h9, h⟩ := h
      subst h9
      subst h
      refine j_widen (cl' := mc) (sl' := ms) (by omega) (by omega) ?_
      refine j_subP (w := [(h0, .inr (2, [.ref a_scanner_h0, .ref a_draft_h0, .ref a_waiting_h0, .ref a_functions_h0, .ref (a48 0), .ref (a48 r30), .ref a_text_h0, .int 0, .int levels_h0, .int signs_t, .int loops_h0, .int token_h0, .int fault_h0])), ((a48 r30), .inr (0, [(frB a48 r30), (frA a48 r29 r30), .int r32, .int r33, .int r34, .int r35, .int r36, .int r37, .int r38, .int r39, .int r40, .int r41, .int r42, .int r43, .int r44])), (a_draft_h0, .inr (1, [.ref q49, .int r45])), (q49, .inl (cI, r46, .inl r47))]) (pl := fpo a48 r29 r30 r31) (lv' := []) [0, 1, 2, 3] [] 4 rfl rfl (by decide) [] rfl ?_
      exact j_zretE hr (zb_n zb1) d_Rd_takeSemicolon_103 ⟨a48, q49, rfl, zb1, rfl⟩
    · replace h := it_f c28 h
      by_cases c55 : kind_t = 20
      · replace h := it_t c55 h
        refine j_look (tgt := 78) (off := 71) d_Rd_takeSemicolon_7 (by decide) (by rw [c55]; decide) (by decide) ?_
        refine j_aload_n d_Rd_takeSemicolon_78 rfl 0 rfl ?_
        refine j_iconst (v := 1) d_Rd_takeSemicolon_79 (by decide) ?_
        replace h := bw_s h
        obtain ⟨⟨r56, r57, r58, r59, r60, r61, r62, r63, r64, r65, r66, r67, r68, r69, r70, r71, r72, r73, r74⟩, C77, S78, C79, S80, k81, h, e1, e2⟩ := h
        replace hC : 0 + C77 + C79 ≤ mc := by omega
        replace hS : 0 + S78 + S80 ≤ ms := by omega
        clear e1 e2
        refine j_callVg (n := 1) (As := [.int 1]) (rest := []) (wr := []) (c_Rd_endPlain l D cI cB cJ cS h0 fad a_scanner_h0 a_draft_h0 a_waiting_h0 a_functions_h0 a_text_h0 a_cells_a_draft_h0 1 fn fd fcf mode_h0 levels_h0 signs_h0 loops_h0 token_h0 fault_h0 kind_t place_t width_t second_t parts_t innerParts_t innerPlace_t innerWidth_t signs_t waitingBelow_t limited_t targets_t lastBlock_t count_a_draft_h0 n_a_cells_a_draft_h0 b_a_cells_a_draft_h0  r56 r57 r58 r59 r60 r61 r62 r63 r64 r65 r66 r67 r68 r69 r70 r71 r72 r73 r74 C77 S78 k81) k_Rd_375 (by decide) ⟨Nat.le_of_ble_eq_true rfl, Nat.le_of_ble_eq_true rfl⟩ rfl 0 rfl (pk_app (wr := []) (w0 := [(h0, .inr (2, [.ref a_scanner_h0, .ref a_draft_h0, .ref a_waiting_h0, .ref a_functions_h0, .ref (fad 0), .ref (fad fd), .ref a_text_h0, .int mode_h0, .int levels_h0, .int signs_h0, .int loops_h0, .int token_h0, .int fault_h0])), ((fad fd), .inr (0, [(frB fad fd), (frA fad fn fd), .int kind_t, .int place_t, .int width_t, .int second_t, .int parts_t, .int innerParts_t, .int innerPlace_t, .int innerWidth_t, .int signs_t, .int waitingBelow_t, .int limited_t, .int targets_t, .int lastBlock_t])), (a_draft_h0, .inr (1, [.ref a_cells_a_draft_h0, .int count_a_draft_h0])), (a_cells_a_draft_h0, .inl (cI, n_a_cells_a_draft_h0, .inl b_a_cells_a_draft_h0))]) (pl := fpo fad fn fd fcf) [0, 1, 2, 3] 4 rfl rfl rfl (by decide)) rfl rfl (Nat.le_of_ble_eq_true rfl) d_Rd_takeSemicolon_80 ⟨show 0 + C77 ≤ mc by omega, show 0 + S78 ≤ ms by omega⟩ (fun v w hq => ?_)
        obtain ⟨a75, q76, rfl, _, rfl⟩ := hq
        refine j_norm (pc' := 83) (st' := [.int 1]) (ws' := ((h0, .inr (2, [.ref a_scanner_h0, .ref a_draft_h0, .ref a_waiting_h0, .ref a_functions_h0, .ref (a75 0), .ref (a75 r57), .ref a_text_h0, .int 0, .int levels_h0, .int signs_t, .int loops_h0, .int token_h0, .int fault_h0])) :: ((a75 r57), .inr (0, [(frB a75 r57), (frA a75 r56 r57), .int r59, .int r60, .int r61, .int r62, .int r63, .int r64, .int r65, .int r66, .int r67, .int r68, .int r69, .int r70, .int r71])) :: (a_draft_h0, .inr (1, [.ref q76, .int r72])) :: (q76, .inl (cI, r73, .inl r74)) :: fpo a75 r56 r57 r58)) (cl' := 0 + C77) (sl' := 0 + S78) rfl rfl rfl rfl rfl rfl ?_
        replace h := lf_s h
        obtain ⟨h, e1, e2⟩ := h
        replace h := Prod.mk.inj h
        obtain ⟨h9, h⟩ := h
        subst h9
        replace h := Prod.mk.inj h
        obtain ⟨h9, h⟩ := h
        subst h9
        replace h := Prod.mk.inj h
        obtain ⟨h9, h⟩ := h
        subst h9
        replace h := Prod.mk.inj h
        obtain ⟨h9, h⟩ := h
        subst h9
        replace h := Prod.mk.inj h
        obtain ⟨h9, h⟩ := h
        subst h9
        replace h := Prod.mk.inj h
        obtain ⟨h9, h⟩ := h
        subst h9
        replace h := Prod.mk.inj h
        obtain ⟨h9, h⟩ := h
        subst h9
        replace h := Prod.mk.inj h
        obtain ⟨h9, h⟩ := h
        subst h9
        replace h := Prod.mk.inj h
        obtain ⟨h9, h⟩ := h
        subst h9
        replace h := Prod.mk.inj h
        obtain ⟨h9, h⟩ := h
        subst h9
        replace h := Prod.mk.inj h
        obtain ⟨h9, h⟩ := h
        subst h9
        replace h := Prod.mk.inj h
        obtain ⟨h9, h⟩ := h
        subst h9
        replace h := Prod.mk.inj h
        obtain ⟨h9, h⟩ := h
        subst h9
        replace h := Prod.mk.inj h
        obtain ⟨h9, h⟩ := h
        subst h9
        replace h := Prod.mk.inj h
        obtain ⟨h9, h⟩ := h
        subst h9
        replace h := Prod.mk.inj h
        obtain ⟨h9, h⟩ := h
        subst h9
        replace h := Prod.mk.inj h
        obtain ⟨h9, h⟩ := h
        subst h9
        replace h := Prod.mk.inj h
        obtain ⟨h9, h⟩ := h
        subst h9
        replace h := Prod.mk.inj h
        obtain ⟨h9, h⟩ := h
        subst h9
        replace h := Prod.mk.inj h
        obtain ⟨h9, h⟩ := h
        subst h9
        replace h := Prod.mk.inj h
        obtain ⟨h9, h⟩ := h
        subst h9
        subst h
        refine j_widen (cl' := mc) (sl' := ms) (by omega) (by omega) ?_
        refine j_subP (w := [(h0, .inr (2, [.ref a_scanner_h0, .ref a_draft_h0, .ref a_waiting_h0, .ref a_functions_h0, .ref (a75 0), .ref (a75 r57), .ref a_text_h0, .int 0, .int levels_h0, .int signs_t, .int loops_h0, .int token_h0, .int fault_h0])), ((a75 r57), .inr (0, [(frB a75 r57), (frA a75 r56 r57), .int r59, .int r60, .int r61, .int r62, .int r63, .int r64, .int r65, .int r66, .int r67, .int r68, .int r69, .int r70, .int r71])), (a_draft_h0, .inr (1, [.ref q76, .int r72])), (q76, .inl (cI, r73, .inl r74))]) (pl := fpo a75 r56 r57 r58) (lv' := []) [0, 1, 2, 3] [] 4 rfl rfl (by decide) [] rfl ?_
        exact j_zretE hr (zb_n zb1) d_Rd_takeSemicolon_83 ⟨a75, q76, rfl, zb1, rfl⟩
      · replace h := it_f c55 h
        by_cases c82 : kind_t = 21
        · replace h := it_t c82 h
          refine j_look (tgt := 84) (off := 77) d_Rd_takeSemicolon_7 (by decide) (by rw [c82]; decide) (by decide) ?_
          refine j_aload_n d_Rd_takeSemicolon_84 rfl 0 rfl ?_
          refine j_iconst (v := 2) d_Rd_takeSemicolon_85 (by decide) ?_
          replace h := bw_s h
          obtain ⟨⟨r83, r84, r85, r86, r87, r88, r89, r90, r91, r92, r93, r94, r95, r96, r97, r98, r99, r100, r101⟩, C104, S105, C106, S107, k108, h, e1, e2⟩ := h
          replace hC : 0 + C104 + C106 ≤ mc := by omega
          replace hS : 0 + S105 + S107 ≤ ms := by omega
          clear e1 e2
          refine j_callVg (n := 1) (As := [.int 2]) (rest := []) (wr := []) (c_Rd_endPlain l D cI cB cJ cS h0 fad a_scanner_h0 a_draft_h0 a_waiting_h0 a_functions_h0 a_text_h0 a_cells_a_draft_h0 2 fn fd fcf mode_h0 levels_h0 signs_h0 loops_h0 token_h0 fault_h0 kind_t place_t width_t second_t parts_t innerParts_t innerPlace_t innerWidth_t signs_t waitingBelow_t limited_t targets_t lastBlock_t count_a_draft_h0 n_a_cells_a_draft_h0 b_a_cells_a_draft_h0  r83 r84 r85 r86 r87 r88 r89 r90 r91 r92 r93 r94 r95 r96 r97 r98 r99 r100 r101 C104 S105 k108) k_Rd_375 (by decide) ⟨Nat.le_of_ble_eq_true rfl, Nat.le_of_ble_eq_true rfl⟩ rfl 0 rfl (pk_app (wr := []) (w0 := [(h0, .inr (2, [.ref a_scanner_h0, .ref a_draft_h0, .ref a_waiting_h0, .ref a_functions_h0, .ref (fad 0), .ref (fad fd), .ref a_text_h0, .int mode_h0, .int levels_h0, .int signs_h0, .int loops_h0, .int token_h0, .int fault_h0])), ((fad fd), .inr (0, [(frB fad fd), (frA fad fn fd), .int kind_t, .int place_t, .int width_t, .int second_t, .int parts_t, .int innerParts_t, .int innerPlace_t, .int innerWidth_t, .int signs_t, .int waitingBelow_t, .int limited_t, .int targets_t, .int lastBlock_t])), (a_draft_h0, .inr (1, [.ref a_cells_a_draft_h0, .int count_a_draft_h0])), (a_cells_a_draft_h0, .inl (cI, n_a_cells_a_draft_h0, .inl b_a_cells_a_draft_h0))]) (pl := fpo fad fn fd fcf) [0, 1, 2, 3] 4 rfl rfl rfl (by decide)) rfl rfl (Nat.le_of_ble_eq_true rfl) d_Rd_takeSemicolon_86 ⟨show 0 + C104 ≤ mc by omega, show 0 + S105 ≤ ms by omega⟩ (fun v w hq => ?_)
          obtain ⟨a102, q103, rfl, _, rfl⟩ := hq
          refine j_norm (pc' := 89) (st' := [.int 1]) (ws' := ((h0, .inr (2, [.ref a_scanner_h0, .ref a_draft_h0, .ref a_waiting_h0, .ref a_functions_h0, .ref (a102 0), .ref (a102 r84), .ref a_text_h0, .int 0, .int levels_h0, .int signs_t, .int loops_h0, .int token_h0, .int fault_h0])) :: ((a102 r84), .inr (0, [(frB a102 r84), (frA a102 r83 r84), .int r86, .int r87, .int r88, .int r89, .int r90, .int r91, .int r92, .int r93, .int r94, .int r95, .int r96, .int r97, .int r98])) :: (a_draft_h0, .inr (1, [.ref q103, .int r99])) :: (q103, .inl (cI, r100, .inl r101)) :: fpo a102 r83 r84 r85)) (cl' := 0 + C104) (sl' := 0 + S105) rfl rfl rfl rfl rfl rfl ?_
          replace h := lf_s h
          obtain ⟨h, e1, e2⟩ := h
          replace h := Prod.mk.inj h
          obtain ⟨h9, h⟩ := h
          subst h9
          replace h := Prod.mk.inj h
          obtain ⟨h9, h⟩ := h
          subst h9
          replace h := Prod.mk.inj h
          obtain ⟨h9, h⟩ := h
          subst h9
          replace h := Prod.mk.inj h
          obtain ⟨h9, h⟩ := h
          subst h9
          replace h := Prod.mk.inj h
          obtain ⟨h9, h⟩ := h
          subst h9
          replace h := Prod.mk.inj h
          obtain ⟨h9, h⟩ := h
          subst h9
          replace h := Prod.mk.inj h
          obtain ⟨h9, h⟩ := h
          subst h9
          replace h := Prod.mk.inj h
          obtain ⟨h9, h⟩ := h
          subst h9
          replace h := Prod.mk.inj h
          obtain ⟨h9, h⟩ := h
          subst h9
          replace h := Prod.mk.inj h
          obtain ⟨h9, h⟩ := h
          subst h9
          replace h := Prod.mk.inj h
          obtain ⟨h9, h⟩ := h
          subst h9
          replace h := Prod.mk.inj h
          obtain ⟨h9, h⟩ := h
          subst h9
          replace h := Prod.mk.inj h
          obtain ⟨h9, h⟩ := h
          subst h9
          replace h := Prod.mk.inj h
          obtain ⟨h9, h⟩ := h
          subst h9
          replace h := Prod.mk.inj h
          obtain ⟨h9, h⟩ := h
          subst h9
          replace h := Prod.mk.inj h
          obtain ⟨h9, h⟩ := h
          subst h9
          replace h := Prod.mk.inj h
          obtain ⟨h9, h⟩ := h
          subst h9
          replace h := Prod.mk.inj h
          obtain ⟨h9, h⟩ := h
          subst h9
          replace h := Prod.mk.inj h
          obtain ⟨h9, h⟩ := h
          subst h9
          replace h := Prod.mk.inj h
          obtain ⟨h9, h⟩ := h
          subst h9
          replace h := Prod.mk.inj h
          obtain ⟨h9, h⟩ := h
          subst h9
          subst h
          refine j_widen (cl' := mc) (sl' := ms) (by omega) (by omega) ?_
          refine j_subP (w := [(h0, .inr (2, [.ref a_scanner_h0, .ref a_draft_h0, .ref a_waiting_h0, .ref a_functions_h0, .ref (a102 0), .ref (a102 r84), .ref a_text_h0, .int 0, .int levels_h0, .int signs_t, .int loops_h0, .int token_h0, .int fault_h0])), ((a102 r84), .inr (0, [(frB a102 r84), (frA a102 r83 r84), .int r86, .int r87, .int r88, .int r89, .int r90, .int r91, .int r92, .int r93, .int r94, .int r95, .int r96, .int r97, .int r98])), (a_draft_h0, .inr (1, [.ref q103, .int r99])), (q103, .inl (cI, r100, .inl r101))]) (pl := fpo a102 r83 r84 r85) (lv' := []) [0, 1, 2, 3] [] 4 rfl rfl (by decide) [] rfl ?_
          exact j_zretE hr (zb_n zb1) d_Rd_takeSemicolon_89 ⟨a102, q103, rfl, zb1, rfl⟩
        · replace h := it_f c82 h
          by_cases c109 : kind_t = 36
          · replace h := it_t c109 h
            refine j_look (tgt := 56) (off := 49) d_Rd_takeSemicolon_7 (by decide) (by rw [c109]; decide) (by decide) ?_
            refine j_aload_n d_Rd_takeSemicolon_56 rfl 0 rfl ?_
            replace h := bw_s h
            obtain ⟨⟨r110, r111, r112⟩, C114, S115, C116, S117, k118, h, e1, e2⟩ := h
            replace hC : 0 + C114 + C116 ≤ mc := by omega
            replace hS : 0 + S115 + S117 ≤ ms := by omega
            clear e1 e2
            refine j_callVg (n := 0) (As := []) (rest := []) (wr := ([] ++ fpo fad fn fd fcf)) (c_Rd_endRow l D cI cB cJ cS h0 a_scanner_h0 a_draft_h0 a_waiting_h0 a_functions_h0 (fad 0) (fad fd) a_text_h0 (frB fad fd) (frA fad fn fd) a_cells_a_draft_h0 mode_h0 levels_h0 signs_h0 loops_h0 token_h0 fault_h0 kind_t place_t width_t second_t parts_t innerParts_t innerPlace_t innerWidth_t signs_t waitingBelow_t limited_t targets_t lastBlock_t count_a_draft_h0 n_a_cells_a_draft_h0 b_a_cells_a_draft_h0  r110 r111 r112 C114 S115 k118) k_Rd_360 (by decide) ⟨Nat.le_of_ble_eq_true rfl, Nat.le_of_ble_eq_true rfl⟩ rfl 0 rfl (pk_mid (wr := []) (w0 := [(h0, .inr (2, [.ref a_scanner_h0, .ref a_draft_h0, .ref a_waiting_h0, .ref a_functions_h0, .ref (fad 0), .ref (fad fd), .ref a_text_h0, .int mode_h0, .int levels_h0, .int signs_h0, .int loops_h0, .int token_h0, .int fault_h0])), ((fad fd), .inr (0, [(frB fad fd), (frA fad fn fd), .int kind_t, .int place_t, .int width_t, .int second_t, .int parts_t, .int innerParts_t, .int innerPlace_t, .int innerWidth_t, .int signs_t, .int waitingBelow_t, .int limited_t, .int targets_t, .int lastBlock_t])), (a_draft_h0, .inr (1, [.ref a_cells_a_draft_h0, .int count_a_draft_h0])), (a_cells_a_draft_h0, .inl (cI, n_a_cells_a_draft_h0, .inl b_a_cells_a_draft_h0))]) (pl := fpo fad fn fd fcf) [0, 1, 2, 3] 4 rfl rfl (by decide)) rfl rfl (Nat.le_of_ble_eq_true rfl) d_Rd_takeSemicolon_57 ⟨show 0 + C114 ≤ mc by omega, show 0 + S115 ≤ ms by omega⟩ (fun v w hq => ?_)
            obtain ⟨q113, rfl, _, rfl⟩ := hq
            refine j_perm (ws' := ((h0, .inr (2, [.ref a_scanner_h0, .ref a_draft_h0, .ref a_waiting_h0, .ref a_functions_h0, .ref (fad 0), .ref (fad fd), .ref a_text_h0, .int mode_h0, .int levels_h0, .int signs_h0, .int loops_h0, .int token_h0, .int fault_h0])) :: ((fad fd), .inr (0, [(frB fad fd), (frA fad fn fd), .int kind_t, .int place_t, .int width_t, .int second_t, .int (parts_t + 1), .int 0, .int innerPlace_t, .int innerWidth_t, .int signs_t, .int waitingBelow_t, .int limited_t, .int targets_t, .int lastBlock_t])) :: (a_draft_h0, .inr (1, [.ref q113, .int r110])) :: (q113, .inl (cI, r111, .inl r112)) :: fpo fad fn fd fcf)) (pm_eq (a := []) (b := fpo fad fn fd fcf) (c := [(h0, .inr (2, [.ref a_scanner_h0, .ref a_draft_h0, .ref a_waiting_h0, .ref a_functions_h0, .ref (fad 0), .ref (fad fd), .ref a_text_h0, .int mode_h0, .int levels_h0, .int signs_h0, .int loops_h0, .int token_h0, .int fault_h0])), ((fad fd), .inr (0, [(frB fad fd), (frA fad fn fd), .int kind_t, .int place_t, .int width_t, .int second_t, .int (parts_t + 1), .int 0, .int innerPlace_t, .int innerWidth_t, .int signs_t, .int waitingBelow_t, .int limited_t, .int targets_t, .int lastBlock_t])), (a_draft_h0, .inr (1, [.ref q113, .int r110])), (q113, .inl (cI, r111, .inl r112))]) rfl) ?_
            refine j_norm (pc' := 60) (st' := [.int 1]) (ws' := ((h0, .inr (2, [.ref a_scanner_h0, .ref a_draft_h0, .ref a_waiting_h0, .ref a_functions_h0, .ref (fad 0), .ref (fad fd), .ref a_text_h0, .int mode_h0, .int levels_h0, .int signs_h0, .int loops_h0, .int token_h0, .int fault_h0])) :: ((fad fd), .inr (0, [(frB fad fd), (frA fad fn fd), .int kind_t, .int place_t, .int width_t, .int second_t, .int (parts_t + 1), .int 0, .int innerPlace_t, .int innerWidth_t, .int signs_t, .int waitingBelow_t, .int limited_t, .int targets_t, .int lastBlock_t])) :: (a_draft_h0, .inr (1, [.ref q113, .int r110])) :: (q113, .inl (cI, r111, .inl r112)) :: fpo fad fn fd fcf)) (cl' := 0 + C114) (sl' := 0 + S115) rfl rfl rfl rfl rfl rfl ?_
            refine j_if_eq (tgt := 76) d_Rd_takeSemicolon_60 (by decide) (fun c119 => absurd c119 (by decide)) (fun c119 => ?_)
            refine j_aload_n d_Rd_takeSemicolon_63 rfl 0 rfl ?_
            refine j_bipush (v := 30) d_Rd_takeSemicolon_64 (by decide) ?_
            refine j_callVg (n := 1) (As := [.int 30]) (rest := []) (wr := ([((fad fd), .inr (0, [(frB fad fd), (frA fad fn fd), .int kind_t, .int place_t, .int width_t, .int second_t, .int (parts_t + 1), .int 0, .int innerPlace_t, .int innerWidth_t, .int signs_t, .int waitingBelow_t, .int limited_t, .int targets_t, .int lastBlock_t])), (a_draft_h0, .inr (1, [.ref q113, .int r110])), (q113, .inl (cI, r111, .inl r112))] ++ fpo fad fn fd fcf)) (c_Rd_goOn l D cI cB cJ cS h0 a_scanner_h0 a_draft_h0 a_waiting_h0 a_functions_h0 (fad 0) (fad fd) a_text_h0 30 mode_h0 levels_h0 signs_h0 loops_h0 token_h0 fault_h0  ) k_Rd_130 (by decide) ⟨Nat.le_of_ble_eq_true rfl, Nat.le_of_ble_eq_true rfl⟩ rfl 0 rfl (pk_mid (wr := [((fad fd), .inr (0, [(frB fad fd), (frA fad fn fd), .int kind_t, .int place_t, .int width_t, .int second_t, .int (parts_t + 1), .int 0, .int innerPlace_t, .int innerWidth_t, .int signs_t, .int waitingBelow_t, .int limited_t, .int targets_t, .int lastBlock_t])), (a_draft_h0, .inr (1, [.ref q113, .int r110])), (q113, .inl (cI, r111, .inl r112))]) (w0 := [(h0, .inr (2, [.ref a_scanner_h0, .ref a_draft_h0, .ref a_waiting_h0, .ref a_functions_h0, .ref (fad 0), .ref (fad fd), .ref a_text_h0, .int mode_h0, .int levels_h0, .int signs_h0, .int loops_h0, .int token_h0, .int fault_h0]))]) (pl := fpo fad fn fd fcf) [1, 2, 3, 0] 4 rfl rfl (by decide)) rfl rfl (Nat.le_of_ble_eq_true rfl) d_Rd_takeSemicolon_66 ⟨show 0 + C114 + 0 ≤ mc by omega, show 0 + S115 + 0 ≤ ms by omega⟩ (fun v w hq => ?_)
            obtain ⟨rfl, _, rfl⟩ := hq
            refine j_perm (ws' := (((fad fd), .inr (0, [(frB fad fd), (frA fad fn fd), .int kind_t, .int place_t, .int width_t, .int second_t, .int (parts_t + 1), .int 0, .int innerPlace_t, .int innerWidth_t, .int signs_t, .int waitingBelow_t, .int limited_t, .int targets_t, .int lastBlock_t])) :: (a_draft_h0, .inr (1, [.ref q113, .int r110])) :: (q113, .inl (cI, r111, .inl r112)) :: (h0, .inr (2, [.ref a_scanner_h0, .ref a_draft_h0, .ref a_waiting_h0, .ref a_functions_h0, .ref (fad 0), .ref (fad fd), .ref a_text_h0, .int 30, .int levels_h0, .int signs_h0, .int loops_h0, .int token_h0, .int fault_h0])) :: fpo fad fn fd fcf)) (pm_eq (a := [((fad fd), .inr (0, [(frB fad fd), (frA fad fn fd), .int kind_t, .int place_t, .int width_t, .int second_t, .int (parts_t + 1), .int 0, .int innerPlace_t, .int innerWidth_t, .int signs_t, .int waitingBelow_t, .int limited_t, .int targets_t, .int lastBlock_t])), (a_draft_h0, .inr (1, [.ref q113, .int r110])), (q113, .inl (cI, r111, .inl r112))]) (b := fpo fad fn fd fcf) (c := [(h0, .inr (2, [.ref a_scanner_h0, .ref a_draft_h0, .ref a_waiting_h0, .ref a_functions_h0, .ref (fad 0), .ref (fad fd), .ref a_text_h0, .int 30, .int levels_h0, .int signs_h0, .int loops_h0, .int token_h0, .int fault_h0]))]) rfl) ?_
            refine j_norm (pc' := 69) (st' := [.int 1]) (ws' := (((fad fd), .inr (0, [(frB fad fd), (frA fad fn fd), .int kind_t, .int place_t, .int width_t, .int second_t, .int (parts_t + 1), .int 0, .int innerPlace_t, .int innerWidth_t, .int signs_t, .int waitingBelow_t, .int limited_t, .int targets_t, .int lastBlock_t])) :: (a_draft_h0, .inr (1, [.ref q113, .int r110])) :: (q113, .inl (cI, r111, .inl r112)) :: (h0, .inr (2, [.ref a_scanner_h0, .ref a_draft_h0, .ref a_waiting_h0, .ref a_functions_h0, .ref (fad 0), .ref (fad fd), .ref a_text_h0, .int 30, .int levels_h0, .int signs_h0, .int loops_h0, .int token_h0, .int fault_h0])) :: fpo fad fn fd fcf)) (cl' := 0 + C114) (sl' := 0 + S115) rfl rfl rfl rfl rfl rfl ?_
            refine j_if_eq (tgt := 76) d_Rd_takeSemicolon_69 (by decide) (fun c121 => absurd c121 (by decide)) (fun c121 => ?_)
            refine j_iconst (v := 1) d_Rd_takeSemicolon_72 (by decide) ?_
            refine j_goto (tgt := 77) d_Rd_takeSemicolon_73 (by decide) ?_
            replace h := lf_s h
            obtain ⟨h, e1, e2⟩ := h
            replace h := Prod.mk.inj h
            obtain ⟨h9, h⟩ := h
            subst h9
            replace h := Prod.mk.inj h
            obtain ⟨h9, h⟩ := h
            subst h9
            replace h := Prod.mk.inj h
            obtain ⟨h9, h⟩ := h
            subst h9
            replace h := Prod.mk.inj h
            obtain ⟨h9, h⟩ := h
            subst h9
            replace h := Prod.mk.inj h
            obtain ⟨h9, h⟩ := h
            subst h9
            replace h := Prod.mk.inj h
            obtain ⟨h9, h⟩ := h
            subst h9
            replace h := Prod.mk.inj h
            obtain ⟨h9, h⟩ := h
            subst h9
            replace h := Prod.mk.inj h
            obtain ⟨h9, h⟩ := h
            subst h9
            replace h := Prod.mk.inj h
            obtain ⟨h9, h⟩ := h
            subst h9
            replace h := Prod.mk.inj h
            obtain ⟨h9, h⟩ := h
            subst h9
            replace h := Prod.mk.inj h
            obtain ⟨h9, h⟩ := h
            subst h9
            replace h := Prod.mk.inj h
            obtain ⟨h9, h⟩ := h
            subst h9
            replace h := Prod.mk.inj h
            obtain ⟨h9, h⟩ := h
            subst h9
            replace h := Prod.mk.inj h
            obtain ⟨h9, h⟩ := h
            subst h9
            replace h := Prod.mk.inj h
            obtain ⟨h9, h⟩ := h
            subst h9
            replace h := Prod.mk.inj h
            obtain ⟨h9, h⟩ := h
            subst h9
            replace h := Prod.mk.inj h
            obtain ⟨h9, h⟩ := h
            subst h9
            replace h := Prod.mk.inj h
            obtain ⟨h9, h⟩ := h
            subst h9
            replace h := Prod.mk.inj h
            obtain ⟨h9, h⟩ := h
            subst h9
            replace h := Prod.mk.inj h
            obtain ⟨h9, h⟩ := h
            subst h9
            replace h := Prod.mk.inj h
            obtain ⟨h9, h⟩ := h
            subst h9
            subst h
            refine j_widen (cl' := mc) (sl' := ms) (by omega) (by omega) ?_
            refine j_subP (w := [(h0, .inr (2, [.ref a_scanner_h0, .ref a_draft_h0, .ref a_waiting_h0, .ref a_functions_h0, .ref (fad 0), .ref (fad fd), .ref a_text_h0, .int 30, .int levels_h0, .int signs_h0, .int loops_h0, .int token_h0, .int fault_h0])), ((fad fd), .inr (0, [(frB fad fd), (frA fad fn fd), .int kind_t, .int place_t, .int width_t, .int second_t, .int (parts_t + 1), .int 0, .int innerPlace_t, .int innerWidth_t, .int signs_t, .int waitingBelow_t, .int limited_t, .int targets_t, .int lastBlock_t])), (a_draft_h0, .inr (1, [.ref q113, .int r110])), (q113, .inl (cI, r111, .inl r112))]) (pl := fpo fad fn fd fcf) (lv' := []) [3, 0, 1, 2] [] 4 rfl rfl (by decide) [] rfl ?_
            exact j_zretE hr (zb_n zb1) d_Rd_takeSemicolon_77 ⟨fad, q113, rfl, zb1, rfl⟩
          · replace h := it_f c109 h
            refine j_look (tgt := 104) (off := 97) d_Rd_takeSemicolon_7 (by decide) (by show Op.lookupswitch.offset [(18, _), (19, _), (20, _), (21, _), (36, _)] _ _ = _; rw [lv_osw c1 (by decide), lv_osw c28 (by decide), lv_osw c55 (by decide), lv_osw c82 (by decide), lv_osw c109 (by decide)]; rfl) (by decide) ?_
            refine j_iconst (v := 0) d_Rd_takeSemicolon_104 (by decide) ?_
            replace h := lf_s h
            obtain ⟨h, e1, e2⟩ := h
            replace h := Prod.mk.inj h
            obtain ⟨h9, h⟩ := h
            subst h9
            replace h := Prod.mk.inj h
            obtain ⟨h9, h⟩ := h
            subst h9
            replace h := Prod.mk.inj h
            obtain ⟨h9, h⟩ := h
            subst h9
            replace h := Prod.mk.inj h
            obtain ⟨h9, h⟩ := h
            subst h9
            replace h := Prod.mk.inj h
            obtain ⟨h9, h⟩ := h
            subst h9
            replace h := Prod.mk.inj h
            obtain ⟨h9, h⟩ := h
            subst h9
            replace h := Prod.mk.inj h
            obtain ⟨h9, h⟩ := h
            subst h9
            replace h := Prod.mk.inj h
            obtain ⟨h9, h⟩ := h
            subst h9
            replace h := Prod.mk.inj h
            obtain ⟨h9, h⟩ := h
            subst h9
            replace h := Prod.mk.inj h
            obtain ⟨h9, h⟩ := h
            subst h9
            replace h := Prod.mk.inj h
            obtain ⟨h9, h⟩ := h
            subst h9
            replace h := Prod.mk.inj h
            obtain ⟨h9, h⟩ := h
            subst h9
            replace h := Prod.mk.inj h
            obtain ⟨h9, h⟩ := h
            subst h9
            replace h := Prod.mk.inj h
            obtain ⟨h9, h⟩ := h
            subst h9
            replace h := Prod.mk.inj h
            obtain ⟨h9, h⟩ := h
            subst h9
            replace h := Prod.mk.inj h
            obtain ⟨h9, h⟩ := h
            subst h9
            replace h := Prod.mk.inj h
            obtain ⟨h9, h⟩ := h
            subst h9
            replace h := Prod.mk.inj h
            obtain ⟨h9, h⟩ := h
            subst h9
            replace h := Prod.mk.inj h
            obtain ⟨h9, h⟩ := h
            subst h9
            replace h := Prod.mk.inj h
            obtain ⟨h9, h⟩ := h
            subst h9
            replace h := Prod.mk.inj h
            obtain ⟨h9, h⟩ := h
            subst h9
            subst h
            refine j_widen (cl' := mc) (sl' := ms) (by omega) (by omega) ?_
            refine j_subP (w := [(h0, .inr (2, [.ref a_scanner_h0, .ref a_draft_h0, .ref a_waiting_h0, .ref a_functions_h0, .ref (fad 0), .ref (fad fd), .ref a_text_h0, .int mode_h0, .int levels_h0, .int signs_h0, .int loops_h0, .int token_h0, .int fault_h0])), ((fad fd), .inr (0, [(frB fad fd), (frA fad fn fd), .int kind_t, .int place_t, .int width_t, .int second_t, .int parts_t, .int innerParts_t, .int innerPlace_t, .int innerWidth_t, .int signs_t, .int waitingBelow_t, .int limited_t, .int targets_t, .int lastBlock_t])), (a_draft_h0, .inr (1, [.ref a_cells_a_draft_h0, .int count_a_draft_h0])), (a_cells_a_draft_h0, .inl (cI, n_a_cells_a_draft_h0, .inl b_a_cells_a_draft_h0))]) (pl := fpo fad fn fd fcf) (lv' := []) [0, 1, 2, 3] [] 4 rfl rfl (by decide) [] rfl ?_
            exact j_zretE hr (zb_n zb0) d_Rd_takeSemicolon_105 ⟨fad, a_cells_a_draft_h0, rfl, zb0, rfl⟩
noncomputable def F_Rd_closeBracket (fn : Nat) (fd : Nat) (fcf : Nat → FrC) (mode_h0 : Int32) (levels_h0 : Int32) (signs_h0 : Int32) (loops_h0 : Int32) (token_h0 : Int32) (fault_h0 : Int32) (kind_t : Int32) (place_t : Int32) (width_t : Int32) (second_t : Int32) (parts_t : Int32) (innerParts_t : Int32) (innerPlace_t : Int32) (innerWidth_t : Int32) (signs_t : Int32) (waitingBelow_t : Int32) (limited_t : Int32) (targets_t : Int32) (lastBlock_t : Int32) (count_a_draft_h0 : Int32) (n_a_cells_a_draft_h0 : Nat) (b_a_cells_a_draft_h0 : Nat → Int32) (next_a_scanner_h0 : Int32) (kind_a_scanner_h0 : Int32) (start_a_scanner_h0 : Int32) (width_a_scanner_h0 : Int32) : Option ((Nat × Nat × (Nat → FrC) × Int32 × Int32 × Int32 × Int32 × Int32 × Int32 × Int32 × Int32 × Int32 × Int32 × Int32 × Int32 × Int32 × Int32 × Int32 × Int32 × Int32 × Int32 × Nat × (Nat → Int32)) × Nat × Nat) :=
  if kind_t = 33 then (bw (F_Rd_closeCall fn fd fcf mode_h0 levels_h0 signs_h0 loops_h0 token_h0 fault_h0 kind_t place_t width_t second_t (parts_t + 1) innerParts_t innerPlace_t innerWidth_t signs_t waitingBelow_t limited_t targets_t lastBlock_t count_a_draft_h0 n_a_cells_a_draft_h0 b_a_cells_a_draft_h0) fun ⟨r2, r3, r4, r5, r6, r7, r8, r9, r10, r11, r12, r13, r14, r15, r16, r17, r18, r19, r20, r21⟩ =>
    (some ((r2, r3, r4, 1, r5, ((levels_h0 - 1) - signs_t), 0, r6, r7, r8, r9, r10, r11, r12, r13, r14, r15, r16, r17, r18, r19, r20, r21), 0, 0)))
  else if kind_t = 50 then (Option.bind (F_Rd_closeItem fn fd fcf mode_h0 levels_h0 signs_h0 loops_h0 token_h0 fault_h0 kind_t place_t width_t second_t parts_t innerParts_t innerPlace_t innerWidth_t signs_t waitingBelow_t limited_t targets_t lastBlock_t) fun ⟨r30, r31, r32, r33, r34, r35, r36, r37, r38, r39, r40, r41, r42, r43, r44, r45⟩ =>
    (some ((r30, r31, r32, 1, 34, (levels_h0 - 1) - signs_t, 0, r33, r34, r35, r36, r37, r38, r39, r40, r41, r42, r43, r44, r45, count_a_draft_h0, n_a_cells_a_draft_h0, b_a_cells_a_draft_h0), 0, 0)))
  else if kind_t = 51 then (Option.bind (F_Rd_endHead fn fd fcf mode_h0 levels_h0 signs_h0 loops_h0 token_h0 fault_h0 kind_t place_t width_t second_t parts_t innerParts_t innerPlace_t innerWidth_t signs_t waitingBelow_t limited_t targets_t lastBlock_t next_a_scanner_h0 kind_a_scanner_h0 start_a_scanner_h0 width_a_scanner_h0) fun ⟨r49, r50, r51, r52, r53, r54, r55, r56, r57, r58, r59, r60, r61, r62⟩ =>
    (some ((r49, r50, r51, 1, 0, (levels_h0 - 1), signs_t, r52, r53, r54, r55, r56, 0, start_a_scanner_h0, r57, r58, r59, r60, r61, r62, count_a_draft_h0, n_a_cells_a_draft_h0, b_a_cells_a_draft_h0), 0, 0)))
  else if kind_t = 52 then (bw (F_Rd_closeCall fn fd fcf mode_h0 levels_h0 signs_h0 loops_h0 token_h0 fault_h0 kind_t place_t width_t second_t (parts_t + 1) innerParts_t innerPlace_t innerWidth_t signs_t waitingBelow_t limited_t targets_t lastBlock_t count_a_draft_h0 n_a_cells_a_draft_h0 b_a_cells_a_draft_h0) fun ⟨r66, r67, r68, r69, r70, r71, r72, r73, r74, r75, r76, r77, r78, r79, r80, r81, r82, r83, r84, r85⟩ =>
    (some ((r66, r67, r68, 1, r69, ((levels_h0 - 1) - signs_t), 0, r70, r71, r72, r73, r74, r75, r76, r77, r78, r79, r80, r81, r82, r83, r84, r85), 0, 0)))
  else (some ((fn, fd, fcf, 0, mode_h0, levels_h0, signs_h0, kind_t, place_t, width_t, second_t, parts_t, innerParts_t, innerPlace_t, innerWidth_t, signs_t, waitingBelow_t, limited_t, targets_t, lastBlock_t, count_a_draft_h0, n_a_cells_a_draft_h0, b_a_cells_a_draft_h0), 0, 0))
theorem d_Rd_closeBracket_0 : decode prog_6_method_66_code 0 = .ok (.aload_n 0, 1) := by decide +kernel
theorem d_Rd_closeBracket_1 : decode prog_6_method_66_code 1 = .ok (.getfield 46, 3) := by decide +kernel
theorem d_Rd_closeBracket_4 : decode prog_6_method_66_code 4 = .ok (.getfield 86, 3) := by decide +kernel
theorem d_Rd_closeBracket_7 : decode prog_6_method_66_code 7 = .ok (.lookupswitch 69 #[(33, 46), (50, 41), (51, 64), (52, 46)], 41) := by decide +kernel
theorem d_Rd_closeBracket_48 : decode prog_6_method_66_code 48 = .ok (.aload_n 0, 1) := by decide +kernel
theorem d_Rd_closeBracket_49 : decode prog_6_method_66_code 49 = .ok (.invokevirtual 378, 3) := by decide +kernel
theorem d_Rd_closeBracket_52 : decode prog_6_method_66_code 52 = .ok (.ireturn, 1) := by decide +kernel
theorem d_Rd_closeBracket_53 : decode prog_6_method_66_code 53 = .ok (.aload_n 0, 1) := by decide +kernel
theorem d_Rd_closeBracket_54 : decode prog_6_method_66_code 54 = .ok (.getfield 46, 3) := by decide +kernel
theorem d_Rd_closeBracket_57 : decode prog_6_method_66_code 57 = .ok (.dup, 1) := by decide +kernel
theorem d_Rd_closeBracket_58 : decode prog_6_method_66_code 58 = .ok (.getfield 224, 3) := by decide +kernel
theorem d_Rd_closeBracket_61 : decode prog_6_method_66_code 61 = .ok (.iconst 1, 1) := by decide +kernel
theorem d_Rd_closeBracket_62 : decode prog_6_method_66_code 62 = .ok (.iadd, 1) := by decide +kernel
theorem d_Rd_closeBracket_63 : decode prog_6_method_66_code 63 = .ok (.putfield 224, 3) := by decide +kernel
theorem d_Rd_closeBracket_66 : decode prog_6_method_66_code 66 = .ok (.aload_n 0, 1) := by decide +kernel
theorem d_Rd_closeBracket_67 : decode prog_6_method_66_code 67 = .ok (.invokevirtual 318, 3) := by decide +kernel
theorem d_Rd_closeBracket_70 : decode prog_6_method_66_code 70 = .ok (.ireturn, 1) := by decide +kernel
theorem d_Rd_closeBracket_71 : decode prog_6_method_66_code 71 = .ok (.aload_n 0, 1) := by decide +kernel
theorem d_Rd_closeBracket_72 : decode prog_6_method_66_code 72 = .ok (.invokevirtual 381, 3) := by decide +kernel
theorem d_Rd_closeBracket_75 : decode prog_6_method_66_code 75 = .ok (.ireturn, 1) := by decide +kernel
theorem d_Rd_closeBracket_76 : decode prog_6_method_66_code 76 = .ok (.iconst 0, 1) := by decide +kernel
theorem d_Rd_closeBracket_77 : decode prog_6_method_66_code 77 = .ok (.ireturn, 1) := by decide +kernel
set_option maxHeartbeats 4000000 in
set_option maxRecDepth 100000 in
theorem c_Rd_closeBracket (l : Launch) (D : va_G) (cI cB cJ cS : ClassId) (h0 : Nat) (fad : Nat → Nat) (a_scanner_h0 : Nat) (a_draft_h0 : Nat) (a_waiting_h0 : Nat) (a_functions_h0 : Nat) (a_text_h0 : Nat) (a_cells_a_draft_h0 : Nat) (a_text_a_scanner_h0 : Nat) (fn : Nat) (fd : Nat) (fcf : Nat → FrC) (mode_h0 : Int32) (levels_h0 : Int32) (signs_h0 : Int32) (loops_h0 : Int32) (token_h0 : Int32) (fault_h0 : Int32) (kind_t : Int32) (place_t : Int32) (width_t : Int32) (second_t : Int32) (parts_t : Int32) (innerParts_t : Int32) (innerPlace_t : Int32) (innerWidth_t : Int32) (signs_t : Int32) (waitingBelow_t : Int32) (limited_t : Int32) (targets_t : Int32) (lastBlock_t : Int32) (count_a_draft_h0 : Int32) (n_a_cells_a_draft_h0 : Nat) (b_a_cells_a_draft_h0 : Nat → Int32) (next_a_scanner_h0 : Int32) (kind_a_scanner_h0 : Int32) (start_a_scanner_h0 : Int32) (width_a_scanner_h0 : Int32) (on_p : Nat) (od_p : Nat) (ocf_p : Nat → FrC) (ret : Int32) (o_0_7 : Int32) (o_0_8 : Int32) (o_0_9 : Int32) (o_1_2 : Int32) (o_1_3 : Int32) (o_1_4 : Int32) (o_1_5 : Int32) (o_1_6 : Int32) (o_1_7 : Int32) (o_1_8 : Int32) (o_1_9 : Int32) (o_1_10 : Int32) (o_1_11 : Int32) (o_1_12 : Int32) (o_1_13 : Int32) (o_1_14 : Int32) (o_2_1 : Int32) (on_nq_2_0 : Nat) (ob_nq_2_0 : Nat → Int32) (mc ms : Nat) (h : F_Rd_closeBracket fn fd fcf mode_h0 levels_h0 signs_h0 loops_h0 token_h0 fault_h0 kind_t place_t width_t second_t parts_t innerParts_t innerPlace_t innerWidth_t signs_t waitingBelow_t limited_t targets_t lastBlock_t count_a_draft_h0 n_a_cells_a_draft_h0 b_a_cells_a_draft_h0 next_a_scanner_h0 kind_a_scanner_h0 start_a_scanner_h0 width_a_scanner_h0 = some ((on_p, od_p, ocf_p, ret, o_0_7, o_0_8, o_0_9, o_1_2, o_1_3, o_1_4, o_1_5, o_1_6, o_1_7, o_1_8, o_1_9, o_1_10, o_1_11, o_1_12, o_1_13, o_1_14, o_2_1, on_nq_2_0, ob_nq_2_0), mc, ms)) : Ct l D (gT cI cB cJ cS) y_Rd_closeBracket prog_6_method_66_code 1 (Option.some Jvm.ClassFile.FieldType.boolean) 4 131 mc ms [.ref h0] ((h0, .inr (2, [.ref a_scanner_h0, .ref a_draft_h0, .ref a_waiting_h0, .ref a_functions_h0, .ref (fad 0), .ref (fad fd), .ref a_text_h0, .int mode_h0, .int levels_h0, .int signs_h0, .int loops_h0, .int token_h0, .int fault_h0])) :: ((fad fd), .inr (0, [(frB fad fd), (frA fad fn fd), .int kind_t, .int place_t, .int width_t, .int second_t, .int parts_t, .int innerParts_t, .int innerPlace_t, .int innerWidth_t, .int signs_t, .int waitingBelow_t, .int limited_t, .int targets_t, .int lastBlock_t])) :: (a_draft_h0, .inr (1, [.ref a_cells_a_draft_h0, .int count_a_draft_h0])) :: (a_cells_a_draft_h0, .inl (cI, n_a_cells_a_draft_h0, .inl b_a_cells_a_draft_h0)) :: (a_scanner_h0, .inr (4, [.ref a_text_a_scanner_h0, .int next_a_scanner_h0, .int kind_a_scanner_h0, .int start_a_scanner_h0, .int width_a_scanner_h0])) :: fpo fad fn fd fcf) (fun v w => ∃ nad : Nat → Nat, ∃ nq_2_0 : Nat, v = some (.int ret) ∧ zb ret ∧ w = ((h0, .inr (2, [.ref a_scanner_h0, .ref a_draft_h0, .ref a_waiting_h0, .ref a_functions_h0, .ref (nad 0), .ref (nad od_p), .ref a_text_h0, .int o_0_7, .int o_0_8, .int o_0_9, .int loops_h0, .int token_h0, .int fault_h0])) :: ((nad od_p), .inr (0, [(frB nad od_p), (frA nad on_p od_p), .int o_1_2, .int o_1_3, .int o_1_4, .int o_1_5, .int o_1_6, .int o_1_7, .int o_1_8, .int o_1_9, .int o_1_10, .int o_1_11, .int o_1_12, .int o_1_13, .int o_1_14])) :: (a_draft_h0, .inr (1, [.ref nq_2_0, .int o_2_1])) :: (a_scanner_h0, .inr (4, [.ref a_text_a_scanner_h0, .int next_a_scanner_h0, .int kind_a_scanner_h0, .int start_a_scanner_h0, .int width_a_scanner_h0])) :: (nq_2_0, .inl (cI, on_nq_2_0, .inl ob_nq_2_0)) :: fpo nad on_p od_p ocf_p)) := by
  refine Ct.mk (by decide) (Nat.le_of_ble_eq_true rfl) ?_
  intro p e s m below meth c hr hnm
  refine j_norm (pc' := 0) (lv' := [(0, .ref h0)]) (st' := []) (ws' := ((h0, .inr (2, [.ref a_scanner_h0, .ref a_draft_h0, .ref a_waiting_h0, .ref a_functions_h0, .ref (fad 0), .ref (fad fd), .ref a_text_h0, .int mode_h0, .int levels_h0, .int signs_h0, .int loops_h0, .int token_h0, .int fault_h0])) :: ((fad fd), .inr (0, [(frB fad fd), (frA fad fn fd), .int kind_t, .int place_t, .int width_t, .int second_t, .int parts_t, .int innerParts_t, .int innerPlace_t, .int innerWidth_t, .int signs_t, .int waitingBelow_t, .int limited_t, .int targets_t, .int lastBlock_t])) :: (a_draft_h0, .inr (1, [.ref a_cells_a_draft_h0, .int count_a_draft_h0])) :: (a_cells_a_draft_h0, .inl (cI, n_a_cells_a_draft_h0, .inl b_a_cells_a_draft_h0)) :: (a_scanner_h0, .inr (4, [.ref a_text_a_scanner_h0, .int next_a_scanner_h0, .int kind_a_scanner_h0, .int start_a_scanner_h0, .int width_a_scanner_h0])) :: fpo fad fn fd fcf)) (cl' := 0) (sl' := 0) rfl rfl rfl rfl rfl rfl ?_
  unfold F_Rd_closeBracket at h
  have hC : 0 + mc ≤ mc := by omega
  have hS : 0 + ms ≤ ms := by omega
  refine j_aload_n d_Rd_closeBracket_0 rfl 0 rfl ?_
  refine j_get ig_Rd rfl 0 rfl 5 (by decide) rfl m_174 rfl d_Rd_closeBracket_1 ?_
  refine j_get ig_Fr rfl 1 rfl 2 (by decide) rfl m_111 rfl d_Rd_closeBracket_4 ?_
  by_cases c1 : kind_t = 33
  · replace h := it_t c1 h
    refine j_look (tgt := 53) (off := 46) d_Rd_closeBracket_7 (by decide) (by rw [c1]; decide) (by decide) ?_
    refine j_aload_n d_Rd_closeBracket_53 rfl 0 rfl ?_
    refine j_get ig_Rd rfl 0 rfl 5 (by decide) rfl m_174 rfl d_Rd_closeBracket_54 ?_
    refine j_dup rfl d_Rd_closeBracket_57 ?_
    refine j_get ig_Fr rfl 1 rfl 6 (by decide) rfl m_119 rfl d_Rd_closeBracket_58 ?_
    refine j_iconst (v := 1) d_Rd_closeBracket_61 (by decide) ?_
    refine j_iadd d_Rd_closeBracket_62 ?_
    refine j_put (ws' := ((h0, .inr (2, [.ref a_scanner_h0, .ref a_draft_h0, .ref a_waiting_h0, .ref a_functions_h0, .ref (fad 0), .ref (fad fd), .ref a_text_h0, .int mode_h0, .int levels_h0, .int signs_h0, .int loops_h0, .int token_h0, .int fault_h0])) :: ((fad fd), .inr (0, [(frB fad fd), (frA fad fn fd), .int kind_t, .int place_t, .int width_t, .int second_t, .int (parts_t + 1), .int innerParts_t, .int innerPlace_t, .int innerWidth_t, .int signs_t, .int waitingBelow_t, .int limited_t, .int targets_t, .int lastBlock_t])) :: (a_draft_h0, .inr (1, [.ref a_cells_a_draft_h0, .int count_a_draft_h0])) :: (a_cells_a_draft_h0, .inl (cI, n_a_cells_a_draft_h0, .inl b_a_cells_a_draft_h0)) :: (a_scanner_h0, .inr (4, [.ref a_text_a_scanner_h0, .int next_a_scanner_h0, .int kind_a_scanner_h0, .int start_a_scanner_h0, .int width_a_scanner_h0])) :: fpo fad fn fd fcf)) ig_Fr tk_Fr nm_Fr rfl 1 rfl 6 (by decide) rfl m_119 rfl (tk_Fr 6 (by decide)) rfl rfl (Nat.le_of_ble_eq_true rfl) d_Rd_closeBracket_63 rfl ?_
    refine j_aload_n d_Rd_closeBracket_66 rfl 0 rfl ?_
    replace h := bw_s h
    obtain ⟨⟨r2, r3, r4, r5, r6, r7, r8, r9, r10, r11, r12, r13, r14, r15, r16, r17, r18, r19, r20, r21⟩, C24, S25, C26, S27, k28, h, e1, e2⟩ := h
    replace hC : 0 + C24 + C26 ≤ mc := by omega
    replace hS : 0 + S25 + S27 ≤ ms := by omega
    clear e1 e2
    refine j_callVg (n := 0) (As := []) (rest := []) (wr := [(a_scanner_h0, .inr (4, [.ref a_text_a_scanner_h0, .int next_a_scanner_h0, .int kind_a_scanner_h0, .int start_a_scanner_h0, .int width_a_scanner_h0]))]) (c_Rd_closeCall l D cI cB cJ cS h0 fad a_scanner_h0 a_draft_h0 a_waiting_h0 a_functions_h0 a_text_h0 a_cells_a_draft_h0 fn fd fcf mode_h0 levels_h0 signs_h0 loops_h0 token_h0 fault_h0 kind_t place_t width_t second_t (parts_t + 1) innerParts_t innerPlace_t innerWidth_t signs_t waitingBelow_t limited_t targets_t lastBlock_t count_a_draft_h0 n_a_cells_a_draft_h0 b_a_cells_a_draft_h0  r2 r3 r4 r5 r6 r7 r8 r9 r10 r11 r12 r13 r14 r15 r16 r17 r18 r19 r20 r21 C24 S25 k28) k_Rd_318 (by decide) ⟨Nat.le_of_ble_eq_true rfl, Nat.le_of_ble_eq_true rfl⟩ rfl 0 rfl (pk_app (wr := [(a_scanner_h0, .inr (4, [.ref a_text_a_scanner_h0, .int next_a_scanner_h0, .int kind_a_scanner_h0, .int start_a_scanner_h0, .int width_a_scanner_h0]))]) (w0 := [(h0, .inr (2, [.ref a_scanner_h0, .ref a_draft_h0, .ref a_waiting_h0, .ref a_functions_h0, .ref (fad 0), .ref (fad fd), .ref a_text_h0, .int mode_h0, .int levels_h0, .int signs_h0, .int loops_h0, .int token_h0, .int fault_h0])), ((fad fd), .inr (0, [(frB fad fd), (frA fad fn fd), .int kind_t, .int place_t, .int width_t, .int second_t, .int (parts_t + 1), .int innerParts_t, .int innerPlace_t, .int innerWidth_t, .int signs_t, .int waitingBelow_t, .int limited_t, .int targets_t, .int lastBlock_t])), (a_draft_h0, .inr (1, [.ref a_cells_a_draft_h0, .int count_a_draft_h0])), (a_cells_a_draft_h0, .inl (cI, n_a_cells_a_draft_h0, .inl b_a_cells_a_draft_h0))]) (pl := fpo fad fn fd fcf) [4, 0, 1, 2, 3] 5 rfl rfl rfl (by decide)) rfl rfl (Nat.le_of_ble_eq_true rfl) d_Rd_closeBracket_67 ⟨show 0 + C24 ≤ mc by omega, show 0 + S25 ≤ ms by omega⟩ (fun v w hq => ?_)
    obtain ⟨a22, q23, rfl, _, rfl⟩ := hq
    refine j_norm (pc' := 70) (st' := [.int 1]) (ws' := ((a_scanner_h0, .inr (4, [.ref a_text_a_scanner_h0, .int next_a_scanner_h0, .int kind_a_scanner_h0, .int start_a_scanner_h0, .int width_a_scanner_h0])) :: (h0, .inr (2, [.ref a_scanner_h0, .ref a_draft_h0, .ref a_waiting_h0, .ref a_functions_h0, .ref (a22 0), .ref (a22 r3), .ref a_text_h0, .int r5, .int ((levels_h0 - 1) - signs_t), .int 0, .int loops_h0, .int token_h0, .int fault_h0])) :: ((a22 r3), .inr (0, [(frB a22 r3), (frA a22 r2 r3), .int r6, .int r7, .int r8, .int r9, .int r10, .int r11, .int r12, .int r13, .int r14, .int r15, .int r16, .int r17, .int r18])) :: (a_draft_h0, .inr (1, [.ref q23, .int r19])) :: (q23, .inl (cI, r20, .inl r21)) :: fpo a22 r2 r3 r4)) (cl' := 0 + C24) (sl' := 0 + S25) rfl rfl rfl rfl rfl rfl ?_
    replace h := lf_s h
    obtain ⟨h, e1, e2⟩ := h
    replace h := Prod.mk.inj h
    obtain ⟨h9, h⟩ := h
    subst h9
    replace h := Prod.mk.inj h
    obtain ⟨h9, h⟩ := h
    subst h9
    replace h := Prod.mk.inj h
    obtain ⟨h9, h⟩ := h
    subst h9
    replace h := Prod.mk.inj h
    obtain ⟨h9, h⟩ := h
    subst h9
    replace h := Prod.mk.inj h
    obtain ⟨h9, h⟩ := h
    subst h9
    replace h := Prod.mk.inj h
    obtain ⟨h9, h⟩ := h
    subst h9
    replace h := Prod.mk.inj h
    obtain ⟨h9, h⟩ := h
    subst h9
    replace h := Prod.mk.inj h
    obtain ⟨h9, h⟩ := h
    subst h9
    replace h := Prod.mk.inj h
    obtain ⟨h9, h⟩ := h
    subst h9
    replace h := Prod.mk.inj h
    obtain ⟨h9, h⟩ := h
    subst h9
    replace h := Prod.mk.inj h
    obtain ⟨h9, h⟩ := h
    subst h9
    replace h := Prod.mk.inj h
    obtain ⟨h9, h⟩ := h
    subst h9
    replace h := Prod.mk.inj h
    obtain ⟨h9, h⟩ := h
    subst h9
    replace h := Prod.mk.inj h
    obtain ⟨h9, h⟩ := h
    subst h9
    replace h := Prod.mk.inj h
    obtain ⟨h9, h⟩ := h
    subst h9
    replace h := Prod.mk.inj h
    obtain ⟨h9, h⟩ := h
    subst h9
    replace h := Prod.mk.inj h
    obtain ⟨h9, h⟩ := h
    subst h9
    replace h := Prod.mk.inj h
    obtain ⟨h9, h⟩ := h
    subst h9
    replace h := Prod.mk.inj h
    obtain ⟨h9, h⟩ := h
    subst h9
    replace h := Prod.mk.inj h
    obtain ⟨h9, h⟩ := h
    subst h9
    replace h := Prod.mk.inj h
    obtain ⟨h9, h⟩ := h
    subst h9
    replace h := Prod.mk.inj h
    obtain ⟨h9, h⟩ := h
    subst h9
    subst h
    refine j_widen (cl' := mc) (sl' := ms) (by omega) (by omega) ?_
    refine j_subP (w := [(h0, .inr (2, [.ref a_scanner_h0, .ref a_draft_h0, .ref a_waiting_h0, .ref a_functions_h0, .ref (a22 0), .ref (a22 r3), .ref a_text_h0, .int r5, .int ((levels_h0 - 1) - signs_t), .int 0, .int loops_h0, .int token_h0, .int fault_h0])), ((a22 r3), .inr (0, [(frB a22 r3), (frA a22 r2 r3), .int r6, .int r7, .int r8, .int r9, .int r10, .int r11, .int r12, .int r13, .int r14, .int r15, .int r16, .int r17, .int r18])), (a_draft_h0, .inr (1, [.ref q23, .int r19])), (a_scanner_h0, .inr (4, [.ref a_text_a_scanner_h0, .int next_a_scanner_h0, .int kind_a_scanner_h0, .int start_a_scanner_h0, .int width_a_scanner_h0])), (q23, .inl (cI, r20, .inl r21))]) (pl := fpo a22 r2 r3 r4) (lv' := []) [1, 2, 3, 0, 4] [] 5 rfl rfl (by decide) [] rfl ?_
    exact j_zretE hr (zb_n zb1) d_Rd_closeBracket_70 ⟨a22, q23, rfl, zb1, rfl⟩
  · replace h := it_f c1 h
    by_cases c29 : kind_t = 50
    · replace h := it_t c29 h
      refine j_look (tgt := 48) (off := 41) d_Rd_closeBracket_7 (by decide) (by rw [c29]; decide) (by decide) ?_
      refine j_aload_n d_Rd_closeBracket_48 rfl 0 rfl ?_
      replace h := bd_s h
      obtain ⟨⟨r30, r31, r32, r33, r34, r35, r36, r37, r38, r39, r40, r41, r42, r43, r44, r45⟩, k47, h⟩ := h
      refine j_callVg (n := 0) (As := []) (rest := []) (wr := [(a_draft_h0, .inr (1, [.ref a_cells_a_draft_h0, .int count_a_draft_h0])), (a_cells_a_draft_h0, .inl (cI, n_a_cells_a_draft_h0, .inl b_a_cells_a_draft_h0)), (a_scanner_h0, .inr (4, [.ref a_text_a_scanner_h0, .int next_a_scanner_h0, .int kind_a_scanner_h0, .int start_a_scanner_h0, .int width_a_scanner_h0]))]) (c_Rd_closeItem l D cI cB cJ cS h0 fad a_scanner_h0 a_draft_h0 a_waiting_h0 a_functions_h0 a_text_h0 fn fd fcf mode_h0 levels_h0 signs_h0 loops_h0 token_h0 fault_h0 kind_t place_t width_t second_t parts_t innerParts_t innerPlace_t innerWidth_t signs_t waitingBelow_t limited_t targets_t lastBlock_t  r30 r31 r32 r33 r34 r35 r36 r37 r38 r39 r40 r41 r42 r43 r44 r45 k47) k_Rd_378 (by decide) ⟨Nat.le_of_ble_eq_true rfl, Nat.le_of_ble_eq_true rfl⟩ rfl 0 rfl (pk_app (wr := [(a_draft_h0, .inr (1, [.ref a_cells_a_draft_h0, .int count_a_draft_h0])), (a_cells_a_draft_h0, .inl (cI, n_a_cells_a_draft_h0, .inl b_a_cells_a_draft_h0)), (a_scanner_h0, .inr (4, [.ref a_text_a_scanner_h0, .int next_a_scanner_h0, .int kind_a_scanner_h0, .int start_a_scanner_h0, .int width_a_scanner_h0]))]) (w0 := [(h0, .inr (2, [.ref a_scanner_h0, .ref a_draft_h0, .ref a_waiting_h0, .ref a_functions_h0, .ref (fad 0), .ref (fad fd), .ref a_text_h0, .int mode_h0, .int levels_h0, .int signs_h0, .int loops_h0, .int token_h0, .int fault_h0])), ((fad fd), .inr (0, [(frB fad fd), (frA fad fn fd), .int kind_t, .int place_t, .int width_t, .int second_t, .int parts_t, .int innerParts_t, .int innerPlace_t, .int innerWidth_t, .int signs_t, .int waitingBelow_t, .int limited_t, .int targets_t, .int lastBlock_t]))]) (pl := fpo fad fn fd fcf) [2, 3, 4, 0, 1] 5 rfl rfl rfl (by decide)) rfl rfl (Nat.le_of_ble_eq_true rfl) d_Rd_closeBracket_49 ⟨show 0 + 0 ≤ mc by omega, show 0 + 0 ≤ ms by omega⟩ (fun v w hq => ?_)
      obtain ⟨a46, rfl, _, rfl⟩ := hq
      refine j_norm (pc' := 52) (st' := [.int 1]) (ws' := ((a_draft_h0, .inr (1, [.ref a_cells_a_draft_h0, .int count_a_draft_h0])) :: (a_cells_a_draft_h0, .inl (cI, n_a_cells_a_draft_h0, .inl b_a_cells_a_draft_h0)) :: (a_scanner_h0, .inr (4, [.ref a_text_a_scanner_h0, .int next_a_scanner_h0, .int kind_a_scanner_h0, .int start_a_scanner_h0, .int width_a_scanner_h0])) :: (h0, .inr (2, [.ref a_scanner_h0, .ref a_draft_h0, .ref a_waiting_h0, .ref a_functions_h0, .ref (a46 0), .ref (a46 r31), .ref a_text_h0, .int 34, .int ((levels_h0 - 1) - signs_t), .int 0, .int loops_h0, .int token_h0, .int fault_h0])) :: ((a46 r31), .inr (0, [(frB a46 r31), (frA a46 r30 r31), .int r33, .int r34, .int r35, .int r36, .int r37, .int r38, .int r39, .int r40, .int r41, .int r42, .int r43, .int r44, .int r45])) :: fpo a46 r30 r31 r32)) (cl' := 0) (sl' := 0) rfl rfl rfl rfl rfl rfl ?_
      replace h := lf_s h
      obtain ⟨h, e1, e2⟩ := h
      replace h := Prod.mk.inj h
      obtain ⟨h9, h⟩ := h
      subst h9
      replace h := Prod.mk.inj h
      obtain ⟨h9, h⟩ := h
      subst h9
      replace h := Prod.mk.inj h
      obtain ⟨h9, h⟩ := h
      subst h9
      replace h := Prod.mk.inj h
      obtain ⟨h9, h⟩ := h
      subst h9
      replace h := Prod.mk.inj h
      obtain ⟨h9, h⟩ := h
      subst h9
      replace h := Prod.mk.inj h
      obtain ⟨h9, h⟩ := h
      subst h9
      replace h := Prod.mk.inj h
      obtain ⟨h9, h⟩ := h
      subst h9
      replace h := Prod.mk.inj h
      obtain ⟨h9, h⟩ := h
      subst h9
      replace h := Prod.mk.inj h
      obtain ⟨h9, h⟩ := h
      subst h9
      replace h := Prod.mk.inj h
      obtain ⟨h9, h⟩ := h
      subst h9
      replace h := Prod.mk.inj h
      obtain ⟨h9, h⟩ := h
      subst h9
      replace h := Prod.mk.inj h
      obtain ⟨h9, h⟩ := h
      subst h9
      replace h := Prod.mk.inj h
      obtain ⟨h9, h⟩ := h
      subst h9
      replace h := Prod.mk.inj h
      obtain ⟨h9, h⟩ := h
      subst h9
      replace h := Prod.mk.inj h
      obtain ⟨h9, h⟩ := h
      subst h9
      replace h := Prod.mk.inj h
      obtain ⟨h9, h⟩ := h
      subst h9
      replace h := Prod.mk.inj h
      obtain ⟨h9, h⟩ := h
      subst h9
      replace h := Prod.mk.inj h
      obtain ⟨h9, h⟩ := h
      subst h9
      replace h := Prod.mk.inj h
      obtain ⟨h9, h⟩ := h
      subst h9
      replace h := Prod.mk.inj h
      obtain ⟨h9, h⟩ := h
      subst h9
      replace h := Prod.mk.inj h
      obtain ⟨h9, h⟩ := h
      subst h9
      replace h := Prod.mk.inj h
      obtain ⟨h9, h⟩ := h
      subst h9
      subst h
      refine j_widen (cl' := mc) (sl' := ms) (by omega) (by omega) ?_
      refine j_subP (w := [(h0, .inr (2, [.ref a_scanner_h0, .ref a_draft_h0, .ref a_waiting_h0, .ref a_functions_h0, .ref (a46 0), .ref (a46 r31), .ref a_text_h0, .int 34, .int ((levels_h0 - 1) - signs_t), .int 0, .int loops_h0, .int token_h0, .int fault_h0])), ((a46 r31), .inr (0, [(frB a46 r31), (frA a46 r30 r31), .int r33, .int r34, .int r35, .int r36, .int r37, .int r38, .int r39, .int r40, .int r41, .int r42, .int r43, .int r44, .int r45])), (a_draft_h0, .inr (1, [.ref a_cells_a_draft_h0, .int count_a_draft_h0])), (a_scanner_h0, .inr (4, [.ref a_text_a_scanner_h0, .int next_a_scanner_h0, .int kind_a_scanner_h0, .int start_a_scanner_h0, .int width_a_scanner_h0])), (a_cells_a_draft_h0, .inl (cI, n_a_cells_a_draft_h0, .inl b_a_cells_a_draft_h0))]) (pl := fpo a46 r30 r31 r32) (lv' := []) [3, 4, 0, 2, 1] [] 5 rfl rfl (by decide) [] rfl ?_
      exact j_zretE hr (zb_n zb1) d_Rd_closeBracket_52 ⟨a46, a_cells_a_draft_h0, rfl, zb1, rfl⟩
    · replace h := it_f c29 h
      by_cases c48 : kind_t = 51
      · replace h := it_t c48 h
        refine j_look (tgt := 71) (off := 64) d_Rd_closeBracket_7 (by decide) (by rw [c48]; decide) (by decide) ?_
        refine j_aload_n d_Rd_closeBracket_71 rfl 0 rfl ?_
        replace h := bd_s h
        obtain ⟨⟨r49, r50, r51, r52, r53, r54, r55, r56, r57, r58, r59, r60, r61, r62⟩, k64, h⟩ := h
        refine j_callVg (n := 0) (As := []) (rest := []) (wr := [(a_draft_h0, .inr (1, [.ref a_cells_a_draft_h0, .int count_a_draft_h0])), (a_cells_a_draft_h0, .inl (cI, n_a_cells_a_draft_h0, .inl b_a_cells_a_draft_h0))]) (c_Rd_endHead l D cI cB cJ cS h0 fad a_scanner_h0 a_draft_h0 a_waiting_h0 a_functions_h0 a_text_h0 a_text_a_scanner_h0 fn fd fcf mode_h0 levels_h0 signs_h0 loops_h0 token_h0 fault_h0 kind_t place_t width_t second_t parts_t innerParts_t innerPlace_t innerWidth_t signs_t waitingBelow_t limited_t targets_t lastBlock_t next_a_scanner_h0 kind_a_scanner_h0 start_a_scanner_h0 width_a_scanner_h0  r49 r50 r51 r52 r53 r54 r55 r56 r57 r58 r59 r60 r61 r62 k64) k_Rd_381 (by decide) ⟨Nat.le_of_ble_eq_true rfl, Nat.le_of_ble_eq_true rfl⟩ rfl 0 rfl (pk_app (wr := [(a_draft_h0, .inr (1, [.ref a_cells_a_draft_h0, .int count_a_draft_h0])), (a_cells_a_draft_h0, .inl (cI, n_a_cells_a_draft_h0, .inl b_a_cells_a_draft_h0))]) (w0 := [(h0, .inr (2, [.ref a_scanner_h0, .ref a_draft_h0, .ref a_waiting_h0, .ref a_functions_h0, .ref (fad 0), .ref (fad fd), .ref a_text_h0, .int mode_h0, .int levels_h0, .int signs_h0, .int loops_h0, .int token_h0, .int fault_h0])), ((fad fd), .inr (0, [(frB fad fd), (frA fad fn fd), .int kind_t, .int place_t, .int width_t, .int second_t, .int parts_t, .int innerParts_t, .int innerPlace_t, .int innerWidth_t, .int signs_t, .int waitingBelow_t, .int limited_t, .int targets_t, .int lastBlock_t])), (a_scanner_h0, .inr (4, [.ref a_text_a_scanner_h0, .int next_a_scanner_h0, .int kind_a_scanner_h0, .int start_a_scanner_h0, .int width_a_scanner_h0]))]) (pl := fpo fad fn fd fcf) [2, 3, 0, 1, 4] 5 rfl rfl rfl (by decide)) rfl rfl (Nat.le_of_ble_eq_true rfl) d_Rd_closeBracket_72 ⟨show 0 + 0 ≤ mc by omega, show 0 + 0 ≤ ms by omega⟩ (fun v w hq => ?_)
        obtain ⟨a63, rfl, _, rfl⟩ := hq
        refine j_norm (pc' := 75) (st' := [.int 1]) (ws' := ((a_draft_h0, .inr (1, [.ref a_cells_a_draft_h0, .int count_a_draft_h0])) :: (a_cells_a_draft_h0, .inl (cI, n_a_cells_a_draft_h0, .inl b_a_cells_a_draft_h0)) :: (h0, .inr (2, [.ref a_scanner_h0, .ref a_draft_h0, .ref a_waiting_h0, .ref a_functions_h0, .ref (a63 0), .ref (a63 r50), .ref a_text_h0, .int 0, .int (levels_h0 - 1), .int signs_t, .int loops_h0, .int token_h0, .int fault_h0])) :: ((a63 r50), .inr (0, [(frB a63 r50), (frA a63 r49 r50), .int r52, .int r53, .int r54, .int r55, .int r56, .int 0, .int start_a_scanner_h0, .int r57, .int r58, .int r59, .int r60, .int r61, .int r62])) :: (a_scanner_h0, .inr (4, [.ref a_text_a_scanner_h0, .int next_a_scanner_h0, .int kind_a_scanner_h0, .int start_a_scanner_h0, .int width_a_scanner_h0])) :: fpo a63 r49 r50 r51)) (cl' := 0) (sl' := 0) rfl rfl rfl rfl rfl rfl ?_
        replace h := lf_s h
        obtain ⟨h, e1, e2⟩ := h
        replace h := Prod.mk.inj h
        obtain ⟨h9, h⟩ := h
        subst h9
        replace h := Prod.mk.inj h
        obtain ⟨h9, h⟩ := h
        subst h9
        replace h := Prod.mk.inj h
        obtain ⟨h9, h⟩ := h
        subst h9
        replace h := Prod.mk.inj h
        obtain ⟨h9, h⟩ := h
        subst h9
        replace h := Prod.mk.inj h
        obtain ⟨h9, h⟩ := h
        subst h9
        replace h := Prod.mk.inj h
        obtain ⟨h9, h⟩ := h
        subst h9
        replace h := Prod.mk.inj h
        obtain ⟨h9, h⟩ := h
        subst h9
        replace h := Prod.mk.inj h
        obtain ⟨h9, h⟩ := h
        subst h9
        replace h := Prod.mk.inj h
        obtain ⟨h9, h⟩ := h
        subst h9
        replace h := Prod.mk.inj h
        obtain ⟨h9, h⟩ := h
        subst h9
        replace h := Prod.mk.inj h
        obtain ⟨h9, h⟩ := h
        subst h9
        replace h := Prod.mk.inj h
        obtain ⟨h9, h⟩ := h
        subst h9
        replace h := Prod.mk.inj h
        obtain ⟨h9, h⟩ := h
        subst h9
        replace h := Prod.mk.inj h
        obtain ⟨h9, h⟩ := h
        subst h9
        replace h := Prod.mk.inj h
        obtain ⟨h9, h⟩ := h
        subst h9
        replace h := Prod.mk.inj h
        obtain ⟨h9, h⟩ := h
        subst h9
        replace h := Prod.mk.inj h
        obtain ⟨h9, h⟩ := h
        subst h9
        replace h := Prod.mk.inj h
        obtain ⟨h9, h⟩ := h
        subst h9
        replace h := Prod.mk.inj h
        obtain ⟨h9, h⟩ := h
        subst h9
        replace h := Prod.mk.inj h
        obtain ⟨h9, h⟩ := h
        subst h9
        replace h := Prod.mk.inj h
        obtain ⟨h9, h⟩ := h
        subst h9
        replace h := Prod.mk.inj h
        obtain ⟨h9, h⟩ := h
        subst h9
        subst h
        refine j_widen (cl' := mc) (sl' := ms) (by omega) (by omega) ?_
        refine j_subP (w := [(h0, .inr (2, [.ref a_scanner_h0, .ref a_draft_h0, .ref a_waiting_h0, .ref a_functions_h0, .ref (a63 0), .ref (a63 r50), .ref a_text_h0, .int 0, .int (levels_h0 - 1), .int signs_t, .int loops_h0, .int token_h0, .int fault_h0])), ((a63 r50), .inr (0, [(frB a63 r50), (frA a63 r49 r50), .int r52, .int r53, .int r54, .int r55, .int r56, .int 0, .int start_a_scanner_h0, .int r57, .int r58, .int r59, .int r60, .int r61, .int r62])), (a_draft_h0, .inr (1, [.ref a_cells_a_draft_h0, .int count_a_draft_h0])), (a_scanner_h0, .inr (4, [.ref a_text_a_scanner_h0, .int next_a_scanner_h0, .int kind_a_scanner_h0, .int start_a_scanner_h0, .int width_a_scanner_h0])), (a_cells_a_draft_h0, .inl (cI, n_a_cells_a_draft_h0, .inl b_a_cells_a_draft_h0))]) (pl := fpo a63 r49 r50 r51) (lv' := []) [2, 3, 0, 4, 1] [] 5 rfl rfl (by decide) [] rfl ?_
        exact j_zretE hr (zb_n zb1) d_Rd_closeBracket_75 ⟨a63, a_cells_a_draft_h0, rfl, zb1, rfl⟩
      · replace h := it_f c48 h
        by_cases c65 : kind_t = 52
        · replace h := it_t c65 h
          refine j_look (tgt := 53) (off := 46) d_Rd_closeBracket_7 (by decide) (by rw [c65]; decide) (by decide) ?_
          refine j_aload_n d_Rd_closeBracket_53 rfl 0 rfl ?_
          refine j_get ig_Rd rfl 0 rfl 5 (by decide) rfl m_174 rfl d_Rd_closeBracket_54 ?_
          refine j_dup rfl d_Rd_closeBracket_57 ?_
          refine j_get ig_Fr rfl 1 rfl 6 (by decide) rfl m_119 rfl d_Rd_closeBracket_58 ?_
          refine j_iconst (v := 1) d_Rd_closeBracket_61 (by decide) ?_
          refine j_iadd d_Rd_closeBracket_62 ?_
          refine j_put (ws' := ((h0, .inr (2, [.ref a_scanner_h0, .ref a_draft_h0, .ref a_waiting_h0, .ref a_functions_h0, .ref (fad 0), .ref (fad fd), .ref a_text_h0, .int mode_h0, .int levels_h0, .int signs_h0, .int loops_h0, .int token_h0, .int fault_h0])) :: ((fad fd), .inr (0, [(frB fad fd), (frA fad fn fd), .int kind_t, .int place_t, .int width_t, .int second_t, .int (parts_t + 1), .int innerParts_t, .int innerPlace_t, .int innerWidth_t, .int signs_t, .int waitingBelow_t, .int limited_t, .int targets_t, .int lastBlock_t])) :: (a_draft_h0, .inr (1, [.ref a_cells_a_draft_h0, .int count_a_draft_h0])) :: (a_cells_a_draft_h0, .inl (cI, n_a_cells_a_draft_h0, .inl b_a_cells_a_draft_h0)) :: (a_scanner_h0, .inr (4, [.ref a_text_a_scanner_h0, .int next_a_scanner_h0, .int kind_a_scanner_h0, .int start_a_scanner_h0, .int width_a_scanner_h0])) :: fpo fad fn fd fcf)) ig_Fr tk_Fr nm_Fr rfl 1 rfl 6 (by decide) rfl m_119 rfl (tk_Fr 6 (by decide)) rfl rfl (Nat.le_of_ble_eq_true rfl) d_Rd_closeBracket_63 rfl ?_
          refine j_aload_n d_Rd_closeBracket_66 rfl 0 rfl ?_
          replace h := bw_s h
          obtain ⟨⟨r66, r67, r68, r69, r70, r71, r72, r73, r74, r75, r76, r77, r78, r79, r80, r81, r82, r83, r84, r85⟩, C88, S89, C90, S91, k92, h, e1, e2⟩ := h
          replace hC : 0 + C88 + C90 ≤ mc := by omega
          replace hS : 0 + S89 + S91 ≤ ms := by omega
          clear e1 e2
          refine j_callVg (n := 0) (As := []) (rest := []) (wr := [(a_scanner_h0, .inr (4, [.ref a_text_a_scanner_h0, .int next_a_scanner_h0, .int kind_a_scanner_h0, .int start_a_scanner_h0, .int width_a_scanner_h0]))]) (c_Rd_closeCall l D cI cB cJ cS h0 fad a_scanner_h0 a_draft_h0 a_waiting_h0 a_functions_h0 a_text_h0 a_cells_a_draft_h0 fn fd fcf mode_h0 levels_h0 signs_h0 loops_h0 token_h0 fault_h0 kind_t place_t width_t second_t (parts_t + 1) innerParts_t innerPlace_t innerWidth_t signs_t waitingBelow_t limited_t targets_t lastBlock_t count_a_draft_h0 n_a_cells_a_draft_h0 b_a_cells_a_draft_h0  r66 r67 r68 r69 r70 r71 r72 r73 r74 r75 r76 r77 r78 r79 r80 r81 r82 r83 r84 r85 C88 S89 k92) k_Rd_318 (by decide) ⟨Nat.le_of_ble_eq_true rfl, Nat.le_of_ble_eq_true rfl⟩ rfl 0 rfl (pk_app (wr := [(a_scanner_h0, .inr (4, [.ref a_text_a_scanner_h0, .int next_a_scanner_h0, .int kind_a_scanner_h0, .int start_a_scanner_h0, .int width_a_scanner_h0]))]) (w0 := [(h0, .inr (2, [.ref a_scanner_h0, .ref a_draft_h0, .ref a_waiting_h0, .ref a_functions_h0, .ref (fad 0), .ref (fad fd), .ref a_text_h0, .int mode_h0, .int levels_h0, .int signs_h0, .int loops_h0, .int token_h0, .int fault_h0])), ((fad fd), .inr (0, [(frB fad fd), (frA fad fn fd), .int kind_t, .int place_t, .int width_t, .int second_t, .int (parts_t + 1), .int innerParts_t, .int innerPlace_t, .int innerWidth_t, .int signs_t, .int waitingBelow_t, .int limited_t, .int targets_t, .int lastBlock_t])), (a_draft_h0, .inr (1, [.ref a_cells_a_draft_h0, .int count_a_draft_h0])), (a_cells_a_draft_h0, .inl (cI, n_a_cells_a_draft_h0, .inl b_a_cells_a_draft_h0))]) (pl := fpo fad fn fd fcf) [4, 0, 1, 2, 3] 5 rfl rfl rfl (by decide)) rfl rfl (Nat.le_of_ble_eq_true rfl) d_Rd_closeBracket_67 ⟨show 0 + C88 ≤ mc by omega, show 0 + S89 ≤ ms by omega⟩ (fun v w hq => ?_)
          obtain ⟨a86, q87, rfl, _, rfl⟩ := hq
          refine j_norm (pc' := 70) (st' := [.int 1]) (ws' := ((a_scanner_h0, .inr (4, [.ref a_text_a_scanner_h0, .int next_a_scanner_h0, .int kind_a_scanner_h0, .int start_a_scanner_h0, .int width_a_scanner_h0])) :: (h0, .inr (2, [.ref a_scanner_h0, .ref a_draft_h0, .ref a_waiting_h0, .ref a_functions_h0, .ref (a86 0), .ref (a86 r67), .ref a_text_h0, .int r69, .int ((levels_h0 - 1) - signs_t), .int 0, .int loops_h0, .int token_h0, .int fault_h0])) :: ((a86 r67), .inr (0, [(frB a86 r67), (frA a86 r66 r67), .int r70, .int r71, .int r72, .int r73, .int r74, .int r75, .int r76, .int r77, .int r78, .int r79, .int r80, .int r81, .int r82])) :: (a_draft_h0, .inr (1, [.ref q87, .int r83])) :: (q87, .inl (cI, r84, .inl r85)) :: fpo a86 r66 r67 r68)) (cl' := 0 + C88) (sl' := 0 + S89) rfl rfl rfl rfl rfl rfl ?_
          replace h := lf_s h
          obtain ⟨h, e1, e2⟩ := h
          replace h := Prod.mk.inj h
          obtain ⟨h9, h⟩ := h
          subst h9
          replace h := Prod.mk.inj h
          obtain ⟨h9, h⟩ := h
          subst h9
          replace h := Prod.mk.inj h
          obtain ⟨h9, h⟩ := h
          subst h9
          replace h := Prod.mk.inj h
          obtain ⟨h9, h⟩ := h
          subst h9
          replace h := Prod.mk.inj h
          obtain ⟨h9, h⟩ := h
          subst h9
          replace h := Prod.mk.inj h
          obtain ⟨h9, h⟩ := h
          subst h9
          replace h := Prod.mk.inj h
          obtain ⟨h9, h⟩ := h
          subst h9
          replace h := Prod.mk.inj h
          obtain ⟨h9, h⟩ := h
          subst h9
          replace h := Prod.mk.inj h
          obtain ⟨h9, h⟩ := h
          subst h9
          replace h := Prod.mk.inj h
          obtain ⟨h9, h⟩ := h
          subst h9
          replace h := Prod.mk.inj h
          obtain ⟨h9, h⟩ := h
          subst h9
          replace h := Prod.mk.inj h
          obtain ⟨h9, h⟩ := h
          subst h9
          replace h := Prod.mk.inj h
          obtain ⟨h9, h⟩ := h
          subst h9
          replace h := Prod.mk.inj h
          obtain ⟨h9, h⟩ := h
          subst h9
          replace h := Prod.mk.inj h
          obtain ⟨h9, h⟩ := h
          subst h9
          replace h := Prod.mk.inj h
          obtain ⟨h9, h⟩ := h
          subst h9
          replace h := Prod.mk.inj h
          obtain ⟨h9, h⟩ := h
          subst h9
          replace h := Prod.mk.inj h
          obtain ⟨h9, h⟩ := h
          subst h9
          replace h := Prod.mk.inj h
          obtain ⟨h9, h⟩ := h
          subst h9
          replace h := Prod.mk.inj h
          obtain ⟨h9, h⟩ := h
          subst h9
          replace h := Prod.mk.inj h
          obtain ⟨h9, h⟩ := h
          subst h9
          replace h := Prod.mk.inj h
          obtain ⟨h9, h⟩ := h
          subst h9
          subst h
          refine j_widen (cl' := mc) (sl' := ms) (by omega) (by omega) ?_
          refine j_subP (w := [(h0, .inr (2, [.ref a_scanner_h0, .ref a_draft_h0, .ref a_waiting_h0, .ref a_functions_h0, .ref (a86 0), .ref (a86 r67), .ref a_text_h0, .int r69, .int ((levels_h0 - 1) - signs_t), .int 0, .int loops_h0, .int token_h0, .int fault_h0])), ((a86 r67), .inr (0, [(frB a86 r67), (frA a86 r66 r67), .int r70, .int r71, .int r72, .int r73, .int r74, .int r75, .int r76, .int r77, .int r78, .int r79, .int r80, .int r81, .int r82])), (a_draft_h0, .inr (1, [.ref q87, .int r83])), (a_scanner_h0, .inr (4, [.ref a_text_a_scanner_h0, .int next_a_scanner_h0, .int kind_a_scanner_h0, .int start_a_scanner_h0, .int width_a_scanner_h0])), (q87, .inl (cI, r84, .inl r85))]) (pl := fpo a86 r66 r67 r68) (lv' := []) [1, 2, 3, 0, 4] [] 5 rfl rfl (by decide) [] rfl ?_
          exact j_zretE hr (zb_n zb1) d_Rd_closeBracket_70 ⟨a86, q87, rfl, zb1, rfl⟩
        · replace h := it_f c65 h
          refine j_look (tgt := 76) (off := 69) d_Rd_closeBracket_7 (by decide) (by show Op.lookupswitch.offset [(33, _), (50, _), (51, _), (52, _)] _ _ = _; rw [lv_osw c1 (by decide), lv_osw c29 (by decide), lv_osw c48 (by decide), lv_osw c65 (by decide)]; rfl) (by decide) ?_
          refine j_iconst (v := 0) d_Rd_closeBracket_76 (by decide) ?_
          replace h := lf_s h
          obtain ⟨h, e1, e2⟩ := h
          replace h := Prod.mk.inj h
          obtain ⟨h9, h⟩ := h
          subst h9
          replace h := Prod.mk.inj h
          obtain ⟨h9, h⟩ := h
          subst h9
          replace h := Prod.mk.inj h
          obtain ⟨h9, h⟩ := h
          subst h9
          replace h := Prod.mk.inj h
          obtain ⟨h9, h⟩ := h
          subst h9
          replace h := Prod.mk.inj h
          obtain ⟨h9, h⟩ := h
          subst h9
          replace h := Prod.mk.inj h
          obtain ⟨h9, h⟩ := h
          subst h9
          replace h := Prod.mk.inj h
          obtain ⟨h9, h⟩ := h
          subst h9
          replace h := Prod.mk.inj h
          obtain ⟨h9, h⟩ := h
          subst h9
          replace h := Prod.mk.inj h
          obtain ⟨h9, h⟩ := h
          subst h9
          replace h := Prod.mk.inj h
          obtain ⟨h9, h⟩ := h
          subst h9
          replace h := Prod.mk.inj h
          obtain ⟨h9, h⟩ := h
          subst h9
          replace h := Prod.mk.inj h
          obtain ⟨h9, h⟩ := h
          subst h9
          replace h := Prod.mk.inj h
          obtain ⟨h9, h⟩ := h
          subst h9
          replace h := Prod.mk.inj h
          obtain ⟨h9, h⟩ := h
          subst h9
          replace h := Prod.mk.inj h
          obtain ⟨h9, h⟩ := h
          subst h9
          replace h := Prod.mk.inj h
          obtain ⟨h9, h⟩ := h
          subst h9
          replace h := Prod.mk.inj h
          obtain ⟨h9, h⟩ := h
          subst h9
          replace h := Prod.mk.inj h
          obtain ⟨h9, h⟩ := h
          subst h9
          replace h := Prod.mk.inj h
          obtain ⟨h9, h⟩ := h
          subst h9
          replace h := Prod.mk.inj h
          obtain ⟨h9, h⟩ := h
          subst h9
          replace h := Prod.mk.inj h
          obtain ⟨h9, h⟩ := h
          subst h9
          replace h := Prod.mk.inj h
          obtain ⟨h9, h⟩ := h
          subst h9
          subst h
          refine j_widen (cl' := mc) (sl' := ms) (by omega) (by omega) ?_
          refine j_subP (w := [(h0, .inr (2, [.ref a_scanner_h0, .ref a_draft_h0, .ref a_waiting_h0, .ref a_functions_h0, .ref (fad 0), .ref (fad fd), .ref a_text_h0, .int mode_h0, .int levels_h0, .int signs_h0, .int loops_h0, .int token_h0, .int fault_h0])), ((fad fd), .inr (0, [(frB fad fd), (frA fad fn fd), .int kind_t, .int place_t, .int width_t, .int second_t, .int parts_t, .int innerParts_t, .int innerPlace_t, .int innerWidth_t, .int signs_t, .int waitingBelow_t, .int limited_t, .int targets_t, .int lastBlock_t])), (a_draft_h0, .inr (1, [.ref a_cells_a_draft_h0, .int count_a_draft_h0])), (a_scanner_h0, .inr (4, [.ref a_text_a_scanner_h0, .int next_a_scanner_h0, .int kind_a_scanner_h0, .int start_a_scanner_h0, .int width_a_scanner_h0])), (a_cells_a_draft_h0, .inl (cI, n_a_cells_a_draft_h0, .inl b_a_cells_a_draft_h0))]) (pl := fpo fad fn fd fcf) (lv' := []) [0, 1, 2, 4, 3] [] 5 rfl rfl (by decide) [] rfl ?_
          exact j_zretE hr (zb_n zb0) d_Rd_closeBracket_77 ⟨fad, a_cells_a_draft_h0, rfl, zb0, rfl⟩
