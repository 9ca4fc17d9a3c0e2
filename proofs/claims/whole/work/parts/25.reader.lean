noncomputable def F_Rd_nextBlock (p1 : Int32) (p2 : Int32) (p3 : Int32) (mode_h0 : Int32) (levels_h0 : Int32) (signs_h0 : Int32) (loops_h0 : Int32) (token_h0 : Int32) (fault_h0 : Int32) (kind_a_top_h0 : Int32) (place_a_top_h0 : Int32) (width_a_top_h0 : Int32) (second_a_top_h0 : Int32) (parts_a_top_h0 : Int32) (innerParts_a_top_h0 : Int32) (innerPlace_a_top_h0 : Int32) (innerWidth_a_top_h0 : Int32) (signs_a_top_h0 : Int32) (waitingBelow_a_top_h0 : Int32) (limited_a_top_h0 : Int32) (targets_a_top_h0 : Int32) (lastBlock_a_top_h0 : Int32) (count_a_draft_h0 : Int32) (n_a_cells_a_draft_h0 : Nat) (b_a_cells_a_draft_h0 : Nat → Int32) (next_a_scanner_h0 : Int32) (kind_a_scanner_h0 : Int32) (start_a_scanner_h0 : Int32) (width_a_scanner_h0 : Int32) : Option ((Int32 × Int32 × Int32 × Int32 × Int32 × Int32 × Int32 × Nat × (Nat → Int32)) × Nat × Nat) :=
  if kind_a_top_h0 = p1 then (if lastBlock_a_top_h0 = 0 then (bw (F_Rd_endBlock mode_h0 levels_h0 signs_h0 loops_h0 token_h0 fault_h0 kind_a_top_h0 place_a_top_h0 width_a_top_h0 second_a_top_h0 parts_a_top_h0 innerParts_a_top_h0 innerPlace_a_top_h0 innerWidth_a_top_h0 signs_a_top_h0 waitingBelow_a_top_h0 limited_a_top_h0 targets_a_top_h0 lastBlock_a_top_h0 count_a_draft_h0 n_a_cells_a_draft_h0 b_a_cells_a_draft_h0) fun ⟨r3, r4, r5⟩ =>
      (some ((1, p3, (parts_a_top_h0 + 1), 0, start_a_scanner_h0, p2, r3, r4, r5), 0, 0)))
    else (some ((0, mode_h0, parts_a_top_h0, innerParts_a_top_h0, innerPlace_a_top_h0, lastBlock_a_top_h0, count_a_draft_h0, n_a_cells_a_draft_h0, b_a_cells_a_draft_h0), 0, 0)))
  else (some ((0, mode_h0, parts_a_top_h0, innerParts_a_top_h0, innerPlace_a_top_h0, lastBlock_a_top_h0, count_a_draft_h0, n_a_cells_a_draft_h0, b_a_cells_a_draft_h0), 0, 0))
theorem d_Rd_nextBlock_0 : decode prog_6_method_17_code 0 = .ok (.aload_n 0, 1) := by decide +kernel
theorem d_Rd_nextBlock_1 : decode prog_6_method_17_code 1 = .ok (.getfield 46, 3) := by decide +kernel
theorem d_Rd_nextBlock_4 : decode prog_6_method_17_code 4 = .ok (.getfield 86, 3) := by decide +kernel
theorem d_Rd_nextBlock_7 : decode prog_6_method_17_code 7 = .ok (.iload_n 1, 1) := by decide +kernel
theorem d_Rd_nextBlock_8 : decode prog_6_method_17_code 8 = .ok (.if_icmp .ne 13, 3) := by decide +kernel
theorem d_Rd_nextBlock_11 : decode prog_6_method_17_code 11 = .ok (.aload_n 0, 1) := by decide +kernel
theorem d_Rd_nextBlock_12 : decode prog_6_method_17_code 12 = .ok (.getfield 46, 3) := by decide +kernel
theorem d_Rd_nextBlock_15 : decode prog_6_method_17_code 15 = .ok (.getfield 215, 3) := by decide +kernel
theorem d_Rd_nextBlock_18 : decode prog_6_method_17_code 18 = .ok (.ifCond .eq 5, 3) := by decide +kernel
theorem d_Rd_nextBlock_21 : decode prog_6_method_17_code 21 = .ok (.iconst 0, 1) := by decide +kernel
theorem d_Rd_nextBlock_22 : decode prog_6_method_17_code 22 = .ok (.ireturn, 1) := by decide +kernel
theorem d_Rd_nextBlock_23 : decode prog_6_method_17_code 23 = .ok (.aload_n 0, 1) := by decide +kernel
theorem d_Rd_nextBlock_24 : decode prog_6_method_17_code 24 = .ok (.invokevirtual 218, 3) := by decide +kernel
theorem d_Rd_nextBlock_27 : decode prog_6_method_17_code 27 = .ok (.aload_n 0, 1) := by decide +kernel
theorem d_Rd_nextBlock_28 : decode prog_6_method_17_code 28 = .ok (.getfield 46, 3) := by decide +kernel
theorem d_Rd_nextBlock_31 : decode prog_6_method_17_code 31 = .ok (.iload_n 2, 1) := by decide +kernel
theorem d_Rd_nextBlock_32 : decode prog_6_method_17_code 32 = .ok (.putfield 215, 3) := by decide +kernel
theorem d_Rd_nextBlock_35 : decode prog_6_method_17_code 35 = .ok (.aload_n 0, 1) := by decide +kernel
theorem d_Rd_nextBlock_36 : decode prog_6_method_17_code 36 = .ok (.invokevirtual 221, 3) := by decide +kernel
theorem d_Rd_nextBlock_39 : decode prog_6_method_17_code 39 = .ok (.aload_n 0, 1) := by decide +kernel
theorem d_Rd_nextBlock_40 : decode prog_6_method_17_code 40 = .ok (.iload_n 3, 1) := by decide +kernel
theorem d_Rd_nextBlock_41 : decode prog_6_method_17_code 41 = .ok (.invokevirtual 130, 3) := by decide +kernel
theorem d_Rd_nextBlock_44 : decode prog_6_method_17_code 44 = .ok (.ireturn, 1) := by decide +kernel
set_option maxHeartbeats 4000000 in
set_option maxRecDepth 100000 in
theorem c_Rd_nextBlock (l : Launch) (D : va_G) (cI cB cJ cS : ClassId) (h0 : Nat) (a_scanner_h0 : Nat) (a_draft_h0 : Nat) (a_waiting_h0 : Nat) (a_functions_h0 : Nat) (a_bottom_h0 : Nat) (a_top_h0 : Nat) (a_text_h0 : Nat) (V_below_a_top_h0 : Value) (V_above_a_top_h0 : Value) (a_cells_a_draft_h0 : Nat) (a_text_a_scanner_h0 : Nat) (p1 : Int32) (p2 : Int32) (p3 : Int32) (mode_h0 : Int32) (levels_h0 : Int32) (signs_h0 : Int32) (loops_h0 : Int32) (token_h0 : Int32) (fault_h0 : Int32) (kind_a_top_h0 : Int32) (place_a_top_h0 : Int32) (width_a_top_h0 : Int32) (second_a_top_h0 : Int32) (parts_a_top_h0 : Int32) (innerParts_a_top_h0 : Int32) (innerPlace_a_top_h0 : Int32) (innerWidth_a_top_h0 : Int32) (signs_a_top_h0 : Int32) (waitingBelow_a_top_h0 : Int32) (limited_a_top_h0 : Int32) (targets_a_top_h0 : Int32) (lastBlock_a_top_h0 : Int32) (count_a_draft_h0 : Int32) (n_a_cells_a_draft_h0 : Nat) (b_a_cells_a_draft_h0 : Nat → Int32) (next_a_scanner_h0 : Int32) (kind_a_scanner_h0 : Int32) (start_a_scanner_h0 : Int32) (width_a_scanner_h0 : Int32) (hz_p2 : zb p2) (ret : Int32) (o_0_7 : Int32) (o_1_6 : Int32) (o_1_7 : Int32) (o_1_8 : Int32) (o_1_14 : Int32) (o_2_1 : Int32) (on_nq_2_0 : Nat) (ob_nq_2_0 : Nat → Int32) (mc ms : Nat) (h : F_Rd_nextBlock p1 p2 p3 mode_h0 levels_h0 signs_h0 loops_h0 token_h0 fault_h0 kind_a_top_h0 place_a_top_h0 width_a_top_h0 second_a_top_h0 parts_a_top_h0 innerParts_a_top_h0 innerPlace_a_top_h0 innerWidth_a_top_h0 signs_a_top_h0 waitingBelow_a_top_h0 limited_a_top_h0 targets_a_top_h0 lastBlock_a_top_h0 count_a_draft_h0 n_a_cells_a_draft_h0 b_a_cells_a_draft_h0 next_a_scanner_h0 kind_a_scanner_h0 start_a_scanner_h0 width_a_scanner_h0 = some ((ret, o_0_7, o_1_6, o_1_7, o_1_8, o_1_14, o_2_1, on_nq_2_0, ob_nq_2_0), mc, ms)) : Ct l D (gT cI cB cJ cS) y_Rd_nextBlock prog_6_method_17_code 4 (Option.some Jvm.ClassFile.FieldType.boolean) 4 130 mc ms [.ref h0, .int p1, .int p2, .int p3] [(h0, .inr (2, [.ref a_scanner_h0, .ref a_draft_h0, .ref a_waiting_h0, .ref a_functions_h0, .ref a_bottom_h0, .ref a_top_h0, .ref a_text_h0, .int mode_h0, .int levels_h0, .int signs_h0, .int loops_h0, .int token_h0, .int fault_h0])), (a_top_h0, .inr (0, [V_below_a_top_h0, V_above_a_top_h0, .int kind_a_top_h0, .int place_a_top_h0, .int width_a_top_h0, .int second_a_top_h0, .int parts_a_top_h0, .int innerParts_a_top_h0, .int innerPlace_a_top_h0, .int innerWidth_a_top_h0, .int signs_a_top_h0, .int waitingBelow_a_top_h0, .int limited_a_top_h0, .int targets_a_top_h0, .int lastBlock_a_top_h0])), (a_draft_h0, .inr (1, [.ref a_cells_a_draft_h0, .int count_a_draft_h0])), (a_cells_a_draft_h0, .inl (cI, n_a_cells_a_draft_h0, .inl b_a_cells_a_draft_h0)), (a_scanner_h0, .inr (4, [.ref a_text_a_scanner_h0, .int next_a_scanner_h0, .int kind_a_scanner_h0, .int start_a_scanner_h0, .int width_a_scanner_h0]))] (fun v w => ∃ nq_2_0 : Nat, v = some (.int ret) ∧ zb ret ∧ w = [(h0, .inr (2, [.ref a_scanner_h0, .ref a_draft_h0, .ref a_waiting_h0, .ref a_functions_h0, .ref a_bottom_h0, .ref a_top_h0, .ref a_text_h0, .int o_0_7, .int levels_h0, .int signs_h0, .int loops_h0, .int token_h0, .int fault_h0])), (a_top_h0, .inr (0, [V_below_a_top_h0, V_above_a_top_h0, .int kind_a_top_h0, .int place_a_top_h0, .int width_a_top_h0, .int second_a_top_h0, .int o_1_6, .int o_1_7, .int o_1_8, .int innerWidth_a_top_h0, .int signs_a_top_h0, .int waitingBelow_a_top_h0, .int limited_a_top_h0, .int targets_a_top_h0, .int o_1_14])), (a_draft_h0, .inr (1, [.ref nq_2_0, .int o_2_1])), (a_scanner_h0, .inr (4, [.ref a_text_a_scanner_h0, .int next_a_scanner_h0, .int kind_a_scanner_h0, .int start_a_scanner_h0, .int width_a_scanner_h0])), (nq_2_0, .inl (cI, on_nq_2_0, .inl ob_nq_2_0))]) := by
  refine Ct.mk (by decide) (Nat.le_of_ble_eq_true rfl) ?_
  intro p e s m below meth c hr hnm
  refine j_norm (pc' := 0) (lv' := [(0, .ref h0), (1, .int p1), (2, .int p2), (3, .int p3)]) (st' := []) (ws' := [(h0, .inr (2, [.ref a_scanner_h0, .ref a_draft_h0, .ref a_waiting_h0, .ref a_functions_h0, .ref a_bottom_h0, .ref a_top_h0, .ref a_text_h0, .int mode_h0, .int levels_h0, .int signs_h0, .int loops_h0, .int token_h0, .int fault_h0])), (a_top_h0, .inr (0, [V_below_a_top_h0, V_above_a_top_h0, .int kind_a_top_h0, .int place_a_top_h0, .int width_a_top_h0, .int second_a_top_h0, .int parts_a_top_h0, .int innerParts_a_top_h0, .int innerPlace_a_top_h0, .int innerWidth_a_top_h0, .int signs_a_top_h0, .int waitingBelow_a_top_h0, .int limited_a_top_h0, .int targets_a_top_h0, .int lastBlock_a_top_h0])), (a_draft_h0, .inr (1, [.ref a_cells_a_draft_h0, .int count_a_draft_h0])), (a_cells_a_draft_h0, .inl (cI, n_a_cells_a_draft_h0, .inl b_a_cells_a_draft_h0)), (a_scanner_h0, .inr (4, [.ref a_text_a_scanner_h0, .int next_a_scanner_h0, .int kind_a_scanner_h0, .int start_a_scanner_h0, .int width_a_scanner_h0]))]) (cl' := 0) (sl' := 0) rfl rfl rfl rfl rfl rfl ?_
  unfold F_Rd_nextBlock at h
  have hC : 0 + mc ≤ mc := by omega
  have hS : 0 + ms ≤ ms := by omega
  refine j_aload_n d_Rd_nextBlock_0 rfl 0 rfl ?_
  refine j_get ig_Rd rfl 0 rfl 5 (by decide) rfl m_174 rfl d_Rd_nextBlock_1 ?_
  refine j_get ig_Fr rfl 1 rfl 2 (by decide) rfl m_111 rfl d_Rd_nextBlock_4 ?_
  refine j_iload_n d_Rd_nextBlock_7 rfl 1 rfl ?_
  refine j_icmp_ne (tgt := 21) d_Rd_nextBlock_8 (by decide) (fun c1 => ?_) (fun c1 => ?_)
  · replace h := it_f c1 h
    refine j_iconst (v := 0) d_Rd_nextBlock_21 (by decide) ?_
    replace h := lf_s h
    obtain ⟨h, e1, e2⟩ := h
    replace h := Prod.mk.inj h
    obtain ⟨h9, h⟩ := h
    subst h9
    replace h := Prod.mk.inj h
    obtain ⟨h9, h⟩ := h
    subst h9
    replace h := Prod.mk.inj h
    obtain ⟨h9, h⟩ := h
    subst h9
    replace h := Prod.mk.inj h
    obtain ⟨h9, h⟩ := h
    subst h9
    replace h := Prod.mk.inj h
    obtain ⟨h9, h⟩ := h
    subst h9
    replace h := Prod.mk.inj h
    obtain ⟨h9, h⟩ := h
    subst h9
    replace h := Prod.mk.inj h
    obtain ⟨h9, h⟩ := h
    subst h9
    replace h := Prod.mk.inj h
    obtain ⟨h9, h⟩ := h
    subst h9
    subst h
    refine j_widen (cl' := mc) (sl' := ms) (by omega) (by omega) ?_
    exact j_zret (w := [(h0, .inr (2, [.ref a_scanner_h0, .ref a_draft_h0, .ref a_waiting_h0, .ref a_functions_h0, .ref a_bottom_h0, .ref a_top_h0, .ref a_text_h0, .int mode_h0, .int levels_h0, .int signs_h0, .int loops_h0, .int token_h0, .int fault_h0])), (a_top_h0, .inr (0, [V_below_a_top_h0, V_above_a_top_h0, .int kind_a_top_h0, .int place_a_top_h0, .int width_a_top_h0, .int second_a_top_h0, .int parts_a_top_h0, .int innerParts_a_top_h0, .int innerPlace_a_top_h0, .int innerWidth_a_top_h0, .int signs_a_top_h0, .int waitingBelow_a_top_h0, .int limited_a_top_h0, .int targets_a_top_h0, .int lastBlock_a_top_h0])), (a_draft_h0, .inr (1, [.ref a_cells_a_draft_h0, .int count_a_draft_h0])), (a_scanner_h0, .inr (4, [.ref a_text_a_scanner_h0, .int next_a_scanner_h0, .int kind_a_scanner_h0, .int start_a_scanner_h0, .int width_a_scanner_h0])), (a_cells_a_draft_h0, .inl (cI, n_a_cells_a_draft_h0, .inl b_a_cells_a_draft_h0))]) hr (zb_n zb0) d_Rd_nextBlock_22 [0, 1, 2, 4, 3] rfl (by decide) ⟨a_cells_a_draft_h0, rfl, zb0, rfl⟩
  · replace h := it_t c1 h
    refine j_aload_n d_Rd_nextBlock_11 rfl 0 rfl ?_
    refine j_get ig_Rd rfl 0 rfl 5 (by decide) rfl m_174 rfl d_Rd_nextBlock_12 ?_
    refine j_get ig_Fr rfl 1 rfl 14 (by decide) rfl m_135 rfl d_Rd_nextBlock_15 ?_
    refine j_if_eq (tgt := 23) d_Rd_nextBlock_18 (by decide) (fun c2 => ?_) (fun c2 => ?_)
    · replace h := it_t c2 h
      refine j_aload_n d_Rd_nextBlock_23 rfl 0 rfl ?_
      replace h := bw_s h
      obtain ⟨⟨r3, r4, r5⟩, C7, S8, C9, S10, k11, h, e1, e2⟩ := h
      replace hC : 0 + C7 + C9 ≤ mc := by omega
      replace hS : 0 + S8 + S10 ≤ ms := by omega
      clear e1 e2
      refine j_callV (n := 0) (As := []) (rest := []) (wr := [(a_scanner_h0, .inr (4, [.ref a_text_a_scanner_h0, .int next_a_scanner_h0, .int kind_a_scanner_h0, .int start_a_scanner_h0, .int width_a_scanner_h0]))]) (c_Rd_endBlock l D cI cB cJ cS h0 a_scanner_h0 a_draft_h0 a_waiting_h0 a_functions_h0 a_bottom_h0 a_top_h0 a_text_h0 V_below_a_top_h0 V_above_a_top_h0 a_cells_a_draft_h0 mode_h0 levels_h0 signs_h0 loops_h0 token_h0 fault_h0 kind_a_top_h0 place_a_top_h0 width_a_top_h0 second_a_top_h0 parts_a_top_h0 innerParts_a_top_h0 innerPlace_a_top_h0 innerWidth_a_top_h0 signs_a_top_h0 waitingBelow_a_top_h0 limited_a_top_h0 targets_a_top_h0 lastBlock_a_top_h0 count_a_draft_h0 n_a_cells_a_draft_h0 b_a_cells_a_draft_h0  r3 r4 r5 C7 S8 k11) k_Rd_218 (by decide) ⟨Nat.le_of_ble_eq_true rfl, Nat.le_of_ble_eq_true rfl⟩ rfl 0 rfl [0, 1, 2, 3] [4] rfl (by decide) rfl (by decide) (by decide) rfl rfl (Nat.le_of_ble_eq_true rfl) d_Rd_nextBlock_24 ⟨show 0 + C7 ≤ mc by omega, show 0 + S8 ≤ ms by omega⟩ (fun v w hq => ?_)
      obtain ⟨q6, rfl, rfl⟩ := hq
      refine j_norm (pc' := 27) (st' := []) (ws' := [(a_scanner_h0, .inr (4, [.ref a_text_a_scanner_h0, .int next_a_scanner_h0, .int kind_a_scanner_h0, .int start_a_scanner_h0, .int width_a_scanner_h0])), (h0, .inr (2, [.ref a_scanner_h0, .ref a_draft_h0, .ref a_waiting_h0, .ref a_functions_h0, .ref a_bottom_h0, .ref a_top_h0, .ref a_text_h0, .int mode_h0, .int levels_h0, .int signs_h0, .int loops_h0, .int token_h0, .int fault_h0])), (a_top_h0, .inr (0, [V_below_a_top_h0, V_above_a_top_h0, .int kind_a_top_h0, .int place_a_top_h0, .int width_a_top_h0, .int second_a_top_h0, .int (parts_a_top_h0 + 1), .int innerParts_a_top_h0, .int innerPlace_a_top_h0, .int innerWidth_a_top_h0, .int signs_a_top_h0, .int waitingBelow_a_top_h0, .int limited_a_top_h0, .int targets_a_top_h0, .int lastBlock_a_top_h0])), (a_draft_h0, .inr (1, [.ref q6, .int r3])), (q6, .inl (cI, r4, .inl r5))]) (cl' := 0 + C7) (sl' := 0 + S8) rfl rfl rfl rfl rfl rfl ?_
      refine j_aload_n d_Rd_nextBlock_27 rfl 0 rfl ?_
      refine j_get ig_Rd rfl 1 rfl 5 (by decide) rfl m_174 rfl d_Rd_nextBlock_28 ?_
      refine j_iload_n d_Rd_nextBlock_31 rfl 2 rfl ?_
      refine j_put (ws' := [(a_scanner_h0, .inr (4, [.ref a_text_a_scanner_h0, .int next_a_scanner_h0, .int kind_a_scanner_h0, .int start_a_scanner_h0, .int width_a_scanner_h0])), (h0, .inr (2, [.ref a_scanner_h0, .ref a_draft_h0, .ref a_waiting_h0, .ref a_functions_h0, .ref a_bottom_h0, .ref a_top_h0, .ref a_text_h0, .int mode_h0, .int levels_h0, .int signs_h0, .int loops_h0, .int token_h0, .int fault_h0])), (a_top_h0, .inr (0, [V_below_a_top_h0, V_above_a_top_h0, .int kind_a_top_h0, .int place_a_top_h0, .int width_a_top_h0, .int second_a_top_h0, .int (parts_a_top_h0 + 1), .int innerParts_a_top_h0, .int innerPlace_a_top_h0, .int innerWidth_a_top_h0, .int signs_a_top_h0, .int waitingBelow_a_top_h0, .int limited_a_top_h0, .int targets_a_top_h0, .int p2])), (a_draft_h0, .inr (1, [.ref q6, .int r3])), (q6, .inl (cI, r4, .inl r5))]) ig_Fr tk_Fr nm_Fr rfl 2 rfl 14 (by decide) rfl m_135 rfl (tk_Fr 14 (by decide)) (zb_n hz_p2) (zb_fit hz_p2) (Nat.le_of_ble_eq_true rfl) d_Rd_nextBlock_32 rfl ?_
      refine j_aload_n d_Rd_nextBlock_35 rfl 0 rfl ?_
      refine j_callV (n := 0) (As := []) (rest := []) (wr := [(a_draft_h0, .inr (1, [.ref q6, .int r3])), (q6, .inl (cI, r4, .inl r5))]) (c_Rd_beginBlock l D cI cB cJ cS h0 a_scanner_h0 a_draft_h0 a_waiting_h0 a_functions_h0 a_bottom_h0 a_top_h0 a_text_h0 V_below_a_top_h0 V_above_a_top_h0 a_text_a_scanner_h0 mode_h0 levels_h0 signs_h0 loops_h0 token_h0 fault_h0 kind_a_top_h0 place_a_top_h0 width_a_top_h0 second_a_top_h0 (parts_a_top_h0 + 1) innerParts_a_top_h0 innerPlace_a_top_h0 innerWidth_a_top_h0 signs_a_top_h0 waitingBelow_a_top_h0 limited_a_top_h0 targets_a_top_h0 p2 next_a_scanner_h0 kind_a_scanner_h0 start_a_scanner_h0 width_a_scanner_h0  ) k_Rd_221 (by decide) ⟨Nat.le_of_ble_eq_true rfl, Nat.le_of_ble_eq_true rfl⟩ rfl 0 rfl [1, 2, 0] [3, 4] rfl (by decide) rfl (by decide) (by decide) rfl rfl (Nat.le_of_ble_eq_true rfl) d_Rd_nextBlock_36 ⟨show 0 + C7 + 0 ≤ mc by omega, show 0 + S8 + 0 ≤ ms by omega⟩ (fun v w hq => ?_)
      obtain ⟨rfl, rfl⟩ := hq
      refine j_norm (pc' := 39) (st' := []) (ws' := [(a_draft_h0, .inr (1, [.ref q6, .int r3])), (q6, .inl (cI, r4, .inl r5)), (h0, .inr (2, [.ref a_scanner_h0, .ref a_draft_h0, .ref a_waiting_h0, .ref a_functions_h0, .ref a_bottom_h0, .ref a_top_h0, .ref a_text_h0, .int mode_h0, .int levels_h0, .int signs_h0, .int loops_h0, .int token_h0, .int fault_h0])), (a_top_h0, .inr (0, [V_below_a_top_h0, V_above_a_top_h0, .int kind_a_top_h0, .int place_a_top_h0, .int width_a_top_h0, .int second_a_top_h0, .int (parts_a_top_h0 + 1), .int 0, .int start_a_scanner_h0, .int innerWidth_a_top_h0, .int signs_a_top_h0, .int waitingBelow_a_top_h0, .int limited_a_top_h0, .int targets_a_top_h0, .int p2])), (a_scanner_h0, .inr (4, [.ref a_text_a_scanner_h0, .int next_a_scanner_h0, .int kind_a_scanner_h0, .int start_a_scanner_h0, .int width_a_scanner_h0]))]) (cl' := 0 + C7) (sl' := 0 + S8) rfl rfl rfl rfl rfl rfl ?_
      refine j_aload_n d_Rd_nextBlock_39 rfl 0 rfl ?_
      refine j_iload_n d_Rd_nextBlock_40 rfl 3 rfl ?_
      refine j_callV (n := 1) (As := [.int p3]) (rest := []) (wr := [(a_draft_h0, .inr (1, [.ref q6, .int r3])), (q6, .inl (cI, r4, .inl r5)), (a_top_h0, .inr (0, [V_below_a_top_h0, V_above_a_top_h0, .int kind_a_top_h0, .int place_a_top_h0, .int width_a_top_h0, .int second_a_top_h0, .int (parts_a_top_h0 + 1), .int 0, .int start_a_scanner_h0, .int innerWidth_a_top_h0, .int signs_a_top_h0, .int waitingBelow_a_top_h0, .int limited_a_top_h0, .int targets_a_top_h0, .int p2])), (a_scanner_h0, .inr (4, [.ref a_text_a_scanner_h0, .int next_a_scanner_h0, .int kind_a_scanner_h0, .int start_a_scanner_h0, .int width_a_scanner_h0]))]) (c_Rd_goOn l D cI cB cJ cS h0 a_scanner_h0 a_draft_h0 a_waiting_h0 a_functions_h0 a_bottom_h0 a_top_h0 a_text_h0 p3 mode_h0 levels_h0 signs_h0 loops_h0 token_h0 fault_h0  ) k_Rd_130 (by decide) ⟨Nat.le_of_ble_eq_true rfl, Nat.le_of_ble_eq_true rfl⟩ rfl 0 rfl [2] [0, 1, 3, 4] rfl (by decide) rfl (by decide) (by decide) rfl rfl (Nat.le_of_ble_eq_true rfl) d_Rd_nextBlock_41 ⟨show 0 + C7 + 0 ≤ mc by omega, show 0 + S8 + 0 ≤ ms by omega⟩ (fun v w hq => ?_)
      obtain ⟨rfl, _, rfl⟩ := hq
      refine j_norm (pc' := 44) (st' := [.int 1]) (ws' := [(a_draft_h0, .inr (1, [.ref q6, .int r3])), (q6, .inl (cI, r4, .inl r5)), (a_top_h0, .inr (0, [V_below_a_top_h0, V_above_a_top_h0, .int kind_a_top_h0, .int place_a_top_h0, .int width_a_top_h0, .int second_a_top_h0, .int (parts_a_top_h0 + 1), .int 0, .int start_a_scanner_h0, .int innerWidth_a_top_h0, .int signs_a_top_h0, .int waitingBelow_a_top_h0, .int limited_a_top_h0, .int targets_a_top_h0, .int p2])), (a_scanner_h0, .inr (4, [.ref a_text_a_scanner_h0, .int next_a_scanner_h0, .int kind_a_scanner_h0, .int start_a_scanner_h0, .int width_a_scanner_h0])), (h0, .inr (2, [.ref a_scanner_h0, .ref a_draft_h0, .ref a_waiting_h0, .ref a_functions_h0, .ref a_bottom_h0, .ref a_top_h0, .ref a_text_h0, .int p3, .int levels_h0, .int signs_h0, .int loops_h0, .int token_h0, .int fault_h0]))]) (cl' := 0 + C7) (sl' := 0 + S8) rfl rfl rfl rfl rfl rfl ?_
      replace h := lf_s h
      obtain ⟨h, e1, e2⟩ := h
      replace h := Prod.mk.inj h
      obtain ⟨h9, h⟩ := h
      subst h9
      replace h := Prod.mk.inj h
      obtain ⟨h9, h⟩ := h
      subst h9
      replace h := Prod.mk.inj h
      obtain ⟨h9, h⟩ := h
      subst h9
      replace h := Prod.mk.inj h
      obtain ⟨h9, h⟩ := h
      subst h9
      replace h := Prod.mk.inj h
      obtain ⟨h9, h⟩ := h
      subst h9
      replace h := Prod.mk.inj h
      obtain ⟨h9, h⟩ := h
      subst h9
      replace h := Prod.mk.inj h
      obtain ⟨h9, h⟩ := h
      subst h9
      replace h := Prod.mk.inj h
      obtain ⟨h9, h⟩ := h
      subst h9
      subst h
      refine j_widen (cl' := mc) (sl' := ms) (by omega) (by omega) ?_
      exact j_zret (w := [(h0, .inr (2, [.ref a_scanner_h0, .ref a_draft_h0, .ref a_waiting_h0, .ref a_functions_h0, .ref a_bottom_h0, .ref a_top_h0, .ref a_text_h0, .int p3, .int levels_h0, .int signs_h0, .int loops_h0, .int token_h0, .int fault_h0])), (a_top_h0, .inr (0, [V_below_a_top_h0, V_above_a_top_h0, .int kind_a_top_h0, .int place_a_top_h0, .int width_a_top_h0, .int second_a_top_h0, .int (parts_a_top_h0 + 1), .int 0, .int start_a_scanner_h0, .int innerWidth_a_top_h0, .int signs_a_top_h0, .int waitingBelow_a_top_h0, .int limited_a_top_h0, .int targets_a_top_h0, .int p2])), (a_draft_h0, .inr (1, [.ref q6, .int r3])), (a_scanner_h0, .inr (4, [.ref a_text_a_scanner_h0, .int next_a_scanner_h0, .int kind_a_scanner_h0, .int start_a_scanner_h0, .int width_a_scanner_h0])), (q6, .inl (cI, r4, .inl r5))]) hr (zb_n zb1) d_Rd_nextBlock_44 [4, 2, 0, 3, 1] rfl (by decide) ⟨q6, rfl, zb1, rfl⟩
    · replace h := it_f c2 h
      refine j_iconst (v := 0) d_Rd_nextBlock_21 (by decide) ?_
      replace h := lf_s h
      obtain ⟨h, e1, e2⟩ := h
      replace h := Prod.mk.inj h
      obtain ⟨h9, h⟩ := h
      subst h9
      replace h := Prod.mk.inj h
      obtain ⟨h9, h⟩ := h
      subst h9
      replace h := Prod.mk.inj h
      obtain ⟨h9, h⟩ := h
      subst h9
      replace h := Prod.mk.inj h
      obtain ⟨h9, h⟩ := h
      subst h9
      replace h := Prod.mk.inj h
      obtain ⟨h9, h⟩ := h
      subst h9
      replace h := Prod.mk.inj h
      obtain ⟨h9, h⟩ := h
      subst h9
      replace h := Prod.mk.inj h
      obtain ⟨h9, h⟩ := h
      subst h9
      replace h := Prod.mk.inj h
      obtain ⟨h9, h⟩ := h
      subst h9
      subst h
      refine j_widen (cl' := mc) (sl' := ms) (by omega) (by omega) ?_
      exact j_zret (w := [(h0, .inr (2, [.ref a_scanner_h0, .ref a_draft_h0, .ref a_waiting_h0, .ref a_functions_h0, .ref a_bottom_h0, .ref a_top_h0, .ref a_text_h0, .int mode_h0, .int levels_h0, .int signs_h0, .int loops_h0, .int token_h0, .int fault_h0])), (a_top_h0, .inr (0, [V_below_a_top_h0, V_above_a_top_h0, .int kind_a_top_h0, .int place_a_top_h0, .int width_a_top_h0, .int second_a_top_h0, .int parts_a_top_h0, .int innerParts_a_top_h0, .int innerPlace_a_top_h0, .int innerWidth_a_top_h0, .int signs_a_top_h0, .int waitingBelow_a_top_h0, .int limited_a_top_h0, .int targets_a_top_h0, .int lastBlock_a_top_h0])), (a_draft_h0, .inr (1, [.ref a_cells_a_draft_h0, .int count_a_draft_h0])), (a_scanner_h0, .inr (4, [.ref a_text_a_scanner_h0, .int next_a_scanner_h0, .int kind_a_scanner_h0, .int start_a_scanner_h0, .int width_a_scanner_h0])), (a_cells_a_draft_h0, .inl (cI, n_a_cells_a_draft_h0, .inl b_a_cells_a_draft_h0))]) hr (zb_n zb0) d_Rd_nextBlock_22 [0, 1, 2, 4, 3] rfl (by decide) ⟨a_cells_a_draft_h0, rfl, zb0, rfl⟩
noncomputable def F_Rd_endBlocks_97 (mode_h0 : Int32) (levels_h0 : Int32) (signs_h0 : Int32) (loops_h0 : Int32) (token_h0 : Int32) (fault_h0 : Int32) (kind_t : Int32) (place_t : Int32) (width_t : Int32) (second_t : Int32) (parts_t : Int32) (innerParts_t : Int32) (innerPlace_t : Int32) (innerWidth_t : Int32) (signs_t : Int32) (waitingBelow_t : Int32) (limited_t : Int32) (targets_t : Int32) (lastBlock_t : Int32) (t0_97 : Int32) (n9_97 : Nat) (d9_97 : Nat) (c9_97 : Nat → FrC) (f2_1_97 : Int32) (n3_97 : Nat) (b3_97 : Nat → Int32) : Option ((Nat × Nat × (Nat → FrC) × Int32 × Int32 × Int32 × Int32 × Int32 × Int32 × Int32 × Int32 × Int32 × Int32 × Int32 × Int32 × Int32 × Int32 × Int32 × Int32 × Int32 × Int32 × Int32 × Nat × (Nat → Int32)) × Nat × Nat) :=
    Option.bind (F_Rd_pop n9_97 d9_97 c9_97 mode_h0 (levels_h0 - 1) signs_h0 (loops_h0 - t0_97) token_h0 fault_h0 kind_t place_t width_t second_t (parts_t + 1) innerParts_t innerPlace_t innerWidth_t signs_t waitingBelow_t limited_t targets_t lastBlock_t) fun ⟨r1, r2, r3, r4, r5, r6, r7, r8, r9, r10, r11, r12, r13, r14, r15, r16⟩ =>
    (some ((r1, r2, r3, 1, 0, (levels_h0 - 1), signs_t, (loops_h0 - t0_97), r4, r5, r6, r7, r8, r9 + 1, r10, r11, r12, r13, r14, r15, r16, f2_1_97, n3_97, b3_97), 0, 0))
noncomputable def F_Rd_endBlocks_34 (mode_h0 : Int32) (levels_h0 : Int32) (signs_h0 : Int32) (loops_h0 : Int32) (token_h0 : Int32) (fault_h0 : Int32) (kind_t : Int32) (place_t : Int32) (width_t : Int32) (second_t : Int32) (parts_t : Int32) (innerParts_t : Int32) (innerPlace_t : Int32) (innerWidth_t : Int32) (signs_t : Int32) (waitingBelow_t : Int32) (limited_t : Int32) (targets_t : Int32) (lastBlock_t : Int32) (count_a_draft_h0 : Int32) (n_a_cells_a_draft_h0 : Nat) (b_a_cells_a_draft_h0 : Nat → Int32) (n9_34 : Nat) (d9_34 : Nat) (c9_34 : Nat → FrC) : Option ((Nat × Nat × (Nat → FrC) × Int32 × Int32 × Int32 × Int32 × Int32 × Int32 × Int32 × Int32 × Int32 × Int32 × Int32 × Int32 × Int32 × Int32 × Int32 × Int32 × Int32 × Int32 × Int32 × Nat × (Nat → Int32)) × Nat × Nat) :=
    bw (F_Rd_endBlock mode_h0 levels_h0 signs_h0 loops_h0 token_h0 fault_h0 kind_t place_t width_t second_t parts_t innerParts_t innerPlace_t innerWidth_t signs_t waitingBelow_t limited_t targets_t lastBlock_t count_a_draft_h0 n_a_cells_a_draft_h0 b_a_cells_a_draft_h0) fun ⟨r20, r21, r22⟩ =>
    bw (F_Nd_add kind_t place_t (-1) (parts_t + 1) width_t r20 r21 r22) fun ⟨r29, r30, r31⟩ =>
    nm (F_Rd_isLoop kind_t) fun r38 =>
    if r38 = 0 then (F_Rd_endBlocks_97 mode_h0 levels_h0 signs_h0 loops_h0 token_h0 fault_h0 kind_t place_t width_t second_t parts_t innerParts_t innerPlace_t innerWidth_t signs_t waitingBelow_t limited_t targets_t lastBlock_t   0 n9_34 d9_34 c9_34 r29 r30 r31)
    else (F_Rd_endBlocks_97 mode_h0 levels_h0 signs_h0 loops_h0 token_h0 fault_h0 kind_t place_t width_t second_t parts_t innerParts_t innerPlace_t innerWidth_t signs_t waitingBelow_t limited_t targets_t lastBlock_t   1 n9_34 d9_34 c9_34 r29 r30 r31)
noncomputable def F_Rd_endBlocks (fn : Nat) (fd : Nat) (fcf : Nat → FrC) (mode_h0 : Int32) (levels_h0 : Int32) (signs_h0 : Int32) (loops_h0 : Int32) (token_h0 : Int32) (fault_h0 : Int32) (kind_t : Int32) (place_t : Int32) (width_t : Int32) (second_t : Int32) (parts_t : Int32) (innerParts_t : Int32) (innerPlace_t : Int32) (innerWidth_t : Int32) (signs_t : Int32) (waitingBelow_t : Int32) (limited_t : Int32) (targets_t : Int32) (lastBlock_t : Int32) (count_a_draft_h0 : Int32) (n_a_cells_a_draft_h0 : Nat) (b_a_cells_a_draft_h0 : Nat → Int32) : Option ((Nat × Nat × (Nat → FrC) × Int32 × Int32 × Int32 × Int32 × Int32 × Int32 × Int32 × Int32 × Int32 × Int32 × Int32 × Int32 × Int32 × Int32 × Int32 × Int32 × Int32 × Int32 × Int32 × Nat × (Nat → Int32)) × Nat × Nat) :=
  if kind_t = 0 then (some ((fn, fd, fcf, 0, mode_h0, levels_h0, signs_h0, loops_h0, kind_t, place_t, width_t, second_t, parts_t, innerParts_t, innerPlace_t, innerWidth_t, signs_t, waitingBelow_t, limited_t, targets_t, lastBlock_t, count_a_draft_h0, n_a_cells_a_draft_h0, b_a_cells_a_draft_h0), 0, 0))
  else if kind_t = 14 then (if lastBlock_t = 0 then (some ((fn, fd, fcf, 0, mode_h0, levels_h0, signs_h0, loops_h0, kind_t, place_t, width_t, second_t, parts_t, innerParts_t, innerPlace_t, innerWidth_t, signs_t, waitingBelow_t, limited_t, targets_t, lastBlock_t, count_a_draft_h0, n_a_cells_a_draft_h0, b_a_cells_a_draft_h0), 0, 0))
    else (F_Rd_endBlocks_34 mode_h0 levels_h0 signs_h0 loops_h0 token_h0 fault_h0 kind_t place_t width_t second_t parts_t innerParts_t innerPlace_t innerWidth_t signs_t waitingBelow_t limited_t targets_t lastBlock_t count_a_draft_h0 n_a_cells_a_draft_h0 b_a_cells_a_draft_h0   fn fd fcf))
  else (F_Rd_endBlocks_34 mode_h0 levels_h0 signs_h0 loops_h0 token_h0 fault_h0 kind_t place_t width_t second_t parts_t innerParts_t innerPlace_t innerWidth_t signs_t waitingBelow_t limited_t targets_t lastBlock_t count_a_draft_h0 n_a_cells_a_draft_h0 b_a_cells_a_draft_h0   fn fd fcf)
theorem d_Rd_endBlocks_0 : decode prog_6_method_20_code 0 = .ok (.aload_n 0, 1) := by decide +kernel
theorem d_Rd_endBlocks_1 : decode prog_6_method_20_code 1 = .ok (.getfield 46, 3) := by decide +kernel
theorem d_Rd_endBlocks_4 : decode prog_6_method_20_code 4 = .ok (.getfield 86, 3) := by decide +kernel
theorem d_Rd_endBlocks_7 : decode prog_6_method_20_code 7 = .ok (.ifCond .eq 25, 3) := by decide +kernel
theorem d_Rd_endBlocks_10 : decode prog_6_method_20_code 10 = .ok (.aload_n 0, 1) := by decide +kernel
theorem d_Rd_endBlocks_11 : decode prog_6_method_20_code 11 = .ok (.getfield 46, 3) := by decide +kernel
theorem d_Rd_endBlocks_14 : decode prog_6_method_20_code 14 = .ok (.getfield 86, 3) := by decide +kernel
theorem d_Rd_endBlocks_17 : decode prog_6_method_20_code 17 = .ok (.bipush 14, 2) := by decide +kernel
theorem d_Rd_endBlocks_19 : decode prog_6_method_20_code 19 = .ok (.if_icmp .ne 15, 3) := by decide +kernel
theorem d_Rd_endBlocks_22 : decode prog_6_method_20_code 22 = .ok (.aload_n 0, 1) := by decide +kernel
theorem d_Rd_endBlocks_23 : decode prog_6_method_20_code 23 = .ok (.getfield 46, 3) := by decide +kernel
theorem d_Rd_endBlocks_26 : decode prog_6_method_20_code 26 = .ok (.getfield 215, 3) := by decide +kernel
theorem d_Rd_endBlocks_29 : decode prog_6_method_20_code 29 = .ok (.ifCond .ne 5, 3) := by decide +kernel
theorem d_Rd_endBlocks_32 : decode prog_6_method_20_code 32 = .ok (.iconst 0, 1) := by decide +kernel
theorem d_Rd_endBlocks_33 : decode prog_6_method_20_code 33 = .ok (.ireturn, 1) := by decide +kernel
theorem d_Rd_endBlocks_34 : decode prog_6_method_20_code 34 = .ok (.aload_n 0, 1) := by decide +kernel
theorem d_Rd_endBlocks_35 : decode prog_6_method_20_code 35 = .ok (.invokevirtual 218, 3) := by decide +kernel
theorem d_Rd_endBlocks_38 : decode prog_6_method_20_code 38 = .ok (.aload_n 0, 1) := by decide +kernel
theorem d_Rd_endBlocks_39 : decode prog_6_method_20_code 39 = .ok (.getfield 23, 3) := by decide +kernel
theorem d_Rd_endBlocks_42 : decode prog_6_method_20_code 42 = .ok (.aload_n 0, 1) := by decide +kernel
theorem d_Rd_endBlocks_43 : decode prog_6_method_20_code 43 = .ok (.getfield 46, 3) := by decide +kernel
theorem d_Rd_endBlocks_46 : decode prog_6_method_20_code 46 = .ok (.getfield 86, 3) := by decide +kernel
theorem d_Rd_endBlocks_49 : decode prog_6_method_20_code 49 = .ok (.aload_n 0, 1) := by decide +kernel
theorem d_Rd_endBlocks_50 : decode prog_6_method_20_code 50 = .ok (.getfield 46, 3) := by decide +kernel
theorem d_Rd_endBlocks_53 : decode prog_6_method_20_code 53 = .ok (.getfield 227, 3) := by decide +kernel
theorem d_Rd_endBlocks_56 : decode prog_6_method_20_code 56 = .ok (.iconst (-1), 1) := by decide +kernel
theorem d_Rd_endBlocks_57 : decode prog_6_method_20_code 57 = .ok (.aload_n 0, 1) := by decide +kernel
theorem d_Rd_endBlocks_58 : decode prog_6_method_20_code 58 = .ok (.getfield 46, 3) := by decide +kernel
theorem d_Rd_endBlocks_61 : decode prog_6_method_20_code 61 = .ok (.getfield 224, 3) := by decide +kernel
theorem d_Rd_endBlocks_64 : decode prog_6_method_20_code 64 = .ok (.aload_n 0, 1) := by decide +kernel
theorem d_Rd_endBlocks_65 : decode prog_6_method_20_code 65 = .ok (.getfield 46, 3) := by decide +kernel
theorem d_Rd_endBlocks_68 : decode prog_6_method_20_code 68 = .ok (.getfield 230, 3) := by decide +kernel
theorem d_Rd_endBlocks_71 : decode prog_6_method_20_code 71 = .ok (.invokevirtual 93, 3) := by decide +kernel
theorem d_Rd_endBlocks_74 : decode prog_6_method_20_code 74 = .ok (.aload_n 0, 1) := by decide +kernel
theorem d_Rd_endBlocks_75 : decode prog_6_method_20_code 75 = .ok (.dup, 1) := by decide +kernel
theorem d_Rd_endBlocks_76 : decode prog_6_method_20_code 76 = .ok (.getfield 66, 3) := by decide +kernel
theorem d_Rd_endBlocks_79 : decode prog_6_method_20_code 79 = .ok (.aload_n 0, 1) := by decide +kernel
theorem d_Rd_endBlocks_80 : decode prog_6_method_20_code 80 = .ok (.getfield 46, 3) := by decide +kernel
theorem d_Rd_endBlocks_83 : decode prog_6_method_20_code 83 = .ok (.getfield 86, 3) := by decide +kernel
theorem d_Rd_endBlocks_86 : decode prog_6_method_20_code 86 = .ok (.invokestatic 212, 3) := by decide +kernel
theorem d_Rd_endBlocks_89 : decode prog_6_method_20_code 89 = .ok (.ifCond .eq 7, 3) := by decide +kernel
theorem d_Rd_endBlocks_92 : decode prog_6_method_20_code 92 = .ok (.iconst 1, 1) := by decide +kernel
theorem d_Rd_endBlocks_93 : decode prog_6_method_20_code 93 = .ok (.goto 4, 3) := by decide +kernel
theorem d_Rd_endBlocks_96 : decode prog_6_method_20_code 96 = .ok (.iconst 0, 1) := by decide +kernel
theorem d_Rd_endBlocks_97 : decode prog_6_method_20_code 97 = .ok (.isub, 1) := by decide +kernel
theorem d_Rd_endBlocks_98 : decode prog_6_method_20_code 98 = .ok (.putfield 66, 3) := by decide +kernel
theorem d_Rd_endBlocks_101 : decode prog_6_method_20_code 101 = .ok (.aload_n 0, 1) := by decide +kernel
theorem d_Rd_endBlocks_102 : decode prog_6_method_20_code 102 = .ok (.dup, 1) := by decide +kernel
theorem d_Rd_endBlocks_103 : decode prog_6_method_20_code 103 = .ok (.getfield 60, 3) := by decide +kernel
theorem d_Rd_endBlocks_106 : decode prog_6_method_20_code 106 = .ok (.iconst 1, 1) := by decide +kernel
theorem d_Rd_endBlocks_107 : decode prog_6_method_20_code 107 = .ok (.isub, 1) := by decide +kernel
theorem d_Rd_endBlocks_108 : decode prog_6_method_20_code 108 = .ok (.putfield 60, 3) := by decide +kernel
theorem d_Rd_endBlocks_111 : decode prog_6_method_20_code 111 = .ok (.aload_n 0, 1) := by decide +kernel
theorem d_Rd_endBlocks_112 : decode prog_6_method_20_code 112 = .ok (.invokevirtual 232, 3) := by decide +kernel
theorem d_Rd_endBlocks_115 : decode prog_6_method_20_code 115 = .ok (.aload_n 0, 1) := by decide +kernel
theorem d_Rd_endBlocks_116 : decode prog_6_method_20_code 116 = .ok (.invokevirtual 183, 3) := by decide +kernel
theorem d_Rd_endBlocks_119 : decode prog_6_method_20_code 119 = .ok (.ireturn, 1) := by decide +kernel
set_option maxHeartbeats 4000000 in
set_option maxRecDepth 100000 in
theorem L_Rd_endBlocks_97 (l : Launch) (D : va_G) (cI cB cJ cS : ClassId) (h0 : Nat) (fad : Nat → Nat) (a_scanner_h0 : Nat) (a_draft_h0 : Nat) (a_waiting_h0 : Nat) (a_functions_h0 : Nat) (a_text_h0 : Nat) (a_cells_a_draft_h0 : Nat) (fn : Nat) (fd : Nat) (fcf : Nat → FrC) (mode_h0 : Int32) (levels_h0 : Int32) (signs_h0 : Int32) (loops_h0 : Int32) (token_h0 : Int32) (fault_h0 : Int32) (kind_t : Int32) (place_t : Int32) (width_t : Int32) (second_t : Int32) (parts_t : Int32) (innerParts_t : Int32) (innerPlace_t : Int32) (innerWidth_t : Int32) (signs_t : Int32) (waitingBelow_t : Int32) (limited_t : Int32) (targets_t : Int32) (lastBlock_t : Int32) (count_a_draft_h0 : Int32) (n_a_cells_a_draft_h0 : Nat) (b_a_cells_a_draft_h0 : Nat → Int32) (on_p : Nat) (od_p : Nat) (ocf_p : Nat → FrC) (ret : Int32) (o_0_7 : Int32) (o_0_8 : Int32) (o_0_9 : Int32) (o_0_10 : Int32) (o_1_2 : Int32) (o_1_3 : Int32) (o_1_4 : Int32) (o_1_5 : Int32) (o_1_6 : Int32) (o_1_7 : Int32) (o_1_8 : Int32) (o_1_9 : Int32) (o_1_10 : Int32) (o_1_11 : Int32) (o_1_12 : Int32) (o_1_13 : Int32) (o_1_14 : Int32) (o_2_1 : Int32) (on_nq_2_0 : Nat) (ob_nq_2_0 : Nat → Int32) (mc ms : Nat) (p : Program) (e : Env) (s : State) (m : MethodId) (below : List Frame) (meth : Method) (c : Code) (hr : meth.sig.returnType = (Option.some Jvm.ClassFile.FieldType.boolean)) (hnm : meth.name = y_Rd_endBlocks.name) : ∀ (a9_97 : Nat → Nat) (q2_0_97 : Nat) (t0_97 : Int32) (n9_97 : Nat) (d9_97 : Nat) (c9_97 : Nat → FrC) (f2_1_97 : Int32) (n3_97 : Nat) (b3_97 : Nat → Int32) (hz_t0_97 : zb t0_97) (cl_97 sl_97 C_97 S_97 : Nat), F_Rd_endBlocks_97 mode_h0 levels_h0 signs_h0 loops_h0 token_h0 fault_h0 kind_t place_t width_t second_t parts_t innerParts_t innerPlace_t innerWidth_t signs_t waitingBelow_t limited_t targets_t lastBlock_t   t0_97 n9_97 d9_97 c9_97 f2_1_97 n3_97 b3_97 = some ((on_p, od_p, ocf_p, ret, o_0_7, o_0_8, o_0_9, o_0_10, o_1_2, o_1_3, o_1_4, o_1_5, o_1_6, o_1_7, o_1_8, o_1_9, o_1_10, o_1_11, o_1_12, o_1_13, o_1_14, o_2_1, on_nq_2_0, ob_nq_2_0), C_97, S_97) → cl_97 + C_97 ≤ mc → sl_97 + S_97 ≤ ms → J (KxOf p l e { frames := 4, cells := mc, slots := ms, locals := 130 } s m [.ref h0].toArray below meth c D (gT cI cB cJ cS) ((h0, .inr (2, [.ref a_scanner_h0, .ref a_draft_h0, .ref a_waiting_h0, .ref a_functions_h0, .ref (fad 0), .ref (fad fd), .ref a_text_h0, .int mode_h0, .int levels_h0, .int signs_h0, .int loops_h0, .int token_h0, .int fault_h0])) :: ((fad fd), .inr (0, [(frB fad fd), (frA fad fn fd), .int kind_t, .int place_t, .int width_t, .int second_t, .int parts_t, .int innerParts_t, .int innerPlace_t, .int innerWidth_t, .int signs_t, .int waitingBelow_t, .int limited_t, .int targets_t, .int lastBlock_t])) :: (a_draft_h0, .inr (1, [.ref a_cells_a_draft_h0, .int count_a_draft_h0])) :: (a_cells_a_draft_h0, .inl (cI, n_a_cells_a_draft_h0, .inl b_a_cells_a_draft_h0)) :: fpo fad fn fd fcf) (fun v w => ∃ nad : Nat → Nat, ∃ nq_2_0 : Nat, v = some (.int ret) ∧ zb ret ∧ w = ((h0, .inr (2, [.ref a_scanner_h0, .ref a_draft_h0, .ref a_waiting_h0, .ref a_functions_h0, .ref (nad 0), .ref (nad od_p), .ref a_text_h0, .int o_0_7, .int o_0_8, .int o_0_9, .int o_0_10, .int token_h0, .int fault_h0])) :: ((nad od_p), .inr (0, [(frB nad od_p), (frA nad on_p od_p), .int o_1_2, .int o_1_3, .int o_1_4, .int o_1_5, .int o_1_6, .int o_1_7, .int o_1_8, .int o_1_9, .int o_1_10, .int o_1_11, .int o_1_12, .int o_1_13, .int o_1_14])) :: (a_draft_h0, .inr (1, [.ref nq_2_0, .int o_2_1])) :: (nq_2_0, .inl (cI, on_nq_2_0, .inl ob_nq_2_0)) :: fpo nad on_p od_p ocf_p)) mc ms) prog_6_method_20_code 1 R_Rd 97 [(0, .ref h0)] [.int t0_97, .int loops_h0, .ref h0] ((h0, .inr (2, [.ref a_scanner_h0, .ref a_draft_h0, .ref a_waiting_h0, .ref a_functions_h0, .ref (a9_97 0), .ref (a9_97 d9_97), .ref a_text_h0, .int mode_h0, .int levels_h0, .int signs_h0, .int loops_h0, .int token_h0, .int fault_h0])) :: ((a9_97 d9_97), .inr (0, [(frB a9_97 d9_97), (frA a9_97 n9_97 d9_97), .int kind_t, .int place_t, .int width_t, .int second_t, .int (parts_t + 1), .int innerParts_t, .int innerPlace_t, .int innerWidth_t, .int signs_t, .int waitingBelow_t, .int limited_t, .int targets_t, .int lastBlock_t])) :: (a_draft_h0, .inr (1, [.ref q2_0_97, .int f2_1_97])) :: (q2_0_97, .inl (cI, n3_97, .inl b3_97)) :: fpo a9_97 n9_97 d9_97 c9_97) cl_97 sl_97 := by
  intro a9_97 q2_0_97 t0_97 n9_97 d9_97 c9_97 f2_1_97 n3_97 b3_97 hz_t0_97 cl_97 sl_97 C_97 S_97 h hC hS
  unfold F_Rd_endBlocks_97 at h
  refine j_isub d_Rd_endBlocks_97 ?_
  refine j_put (ws' := ((h0, .inr (2, [.ref a_scanner_h0, .ref a_draft_h0, .ref a_waiting_h0, .ref a_functions_h0, .ref (a9_97 0), .ref (a9_97 d9_97), .ref a_text_h0, .int mode_h0, .int levels_h0, .int signs_h0, .int (loops_h0 - t0_97), .int token_h0, .int fault_h0])) :: ((a9_97 d9_97), .inr (0, [(frB a9_97 d9_97), (frA a9_97 n9_97 d9_97), .int kind_t, .int place_t, .int width_t, .int second_t, .int (parts_t + 1), .int innerParts_t, .int innerPlace_t, .int innerWidth_t, .int signs_t, .int waitingBelow_t, .int limited_t, .int targets_t, .int lastBlock_t])) :: (a_draft_h0, .inr (1, [.ref q2_0_97, .int f2_1_97])) :: (q2_0_97, .inl (cI, n3_97, .inl b3_97)) :: fpo a9_97 n9_97 d9_97 c9_97)) ig_Rd tk_Rd nm_Rd rfl 0 rfl 10 (by decide) rfl m_179 rfl (tk_Rd 10 (by decide)) rfl rfl (Nat.le_of_ble_eq_true rfl) d_Rd_endBlocks_98 rfl ?_
  refine j_aload_n d_Rd_endBlocks_101 rfl 0 rfl ?_
  refine j_dup rfl d_Rd_endBlocks_102 ?_
  refine j_get ig_Rd rfl 0 rfl 8 (by decide) rfl m_177 rfl d_Rd_endBlocks_103 ?_
  refine j_iconst (v := 1) d_Rd_endBlocks_106 (by decide) ?_
  refine j_isub d_Rd_endBlocks_107 ?_
  refine j_put (ws' := ((h0, .inr (2, [.ref a_scanner_h0, .ref a_draft_h0, .ref a_waiting_h0, .ref a_functions_h0, .ref (a9_97 0), .ref (a9_97 d9_97), .ref a_text_h0, .int mode_h0, .int (levels_h0 - 1), .int signs_h0, .int (loops_h0 - t0_97), .int token_h0, .int fault_h0])) :: ((a9_97 d9_97), .inr (0, [(frB a9_97 d9_97), (frA a9_97 n9_97 d9_97), .int kind_t, .int place_t, .int width_t, .int second_t, .int (parts_t + 1), .int innerParts_t, .int innerPlace_t, .int innerWidth_t, .int signs_t, .int waitingBelow_t, .int limited_t, .int targets_t, .int lastBlock_t])) :: (a_draft_h0, .inr (1, [.ref q2_0_97, .int f2_1_97])) :: (q2_0_97, .inl (cI, n3_97, .inl b3_97)) :: fpo a9_97 n9_97 d9_97 c9_97)) ig_Rd tk_Rd nm_Rd rfl 0 rfl 8 (by decide) rfl m_177 rfl (tk_Rd 8 (by decide)) rfl rfl (Nat.le_of_ble_eq_true rfl) d_Rd_endBlocks_108 rfl ?_
  refine j_aload_n d_Rd_endBlocks_111 rfl 0 rfl ?_
  replace h := bd_s h
  obtain ⟨⟨r1, r2, r3, r4, r5, r6, r7, r8, r9, r10, r11, r12, r13, r14, r15, r16⟩, k18, h⟩ := h
  refine j_callVg (n := 0) (As := []) (rest := []) (wr := [(a_draft_h0, .inr (1, [.ref q2_0_97, .int f2_1_97])), (q2_0_97, .inl (cI, n3_97, .inl b3_97))]) (c_Rd_pop l D cI cB cJ cS h0 a9_97 a_scanner_h0 a_draft_h0 a_waiting_h0 a_functions_h0 a_text_h0 n9_97 d9_97 c9_97 mode_h0 (levels_h0 - 1) signs_h0 (loops_h0 - t0_97) token_h0 fault_h0 kind_t place_t width_t second_t (parts_t + 1) innerParts_t innerPlace_t innerWidth_t signs_t waitingBelow_t limited_t targets_t lastBlock_t  r1 r2 r3 r4 r5 r6 r7 r8 r9 r10 r11 r12 r13 r14 r15 r16 k18) k_Rd_232 (by decide) ⟨Nat.le_of_ble_eq_true rfl, Nat.le_of_ble_eq_true rfl⟩ rfl 0 rfl (pk_app (wr := [(a_draft_h0, .inr (1, [.ref q2_0_97, .int f2_1_97])), (q2_0_97, .inl (cI, n3_97, .inl b3_97))]) (w0 := [(h0, .inr (2, [.ref a_scanner_h0, .ref a_draft_h0, .ref a_waiting_h0, .ref a_functions_h0, .ref (a9_97 0), .ref (a9_97 d9_97), .ref a_text_h0, .int mode_h0, .int (levels_h0 - 1), .int signs_h0, .int (loops_h0 - t0_97), .int token_h0, .int fault_h0])), ((a9_97 d9_97), .inr (0, [(frB a9_97 d9_97), (frA a9_97 n9_97 d9_97), .int kind_t, .int place_t, .int width_t, .int second_t, .int (parts_t + 1), .int innerParts_t, .int innerPlace_t, .int innerWidth_t, .int signs_t, .int waitingBelow_t, .int limited_t, .int targets_t, .int lastBlock_t]))]) (pl := fpo a9_97 n9_97 d9_97 c9_97) [2, 3, 0, 1] 4 rfl rfl rfl (by decide)) rfl rfl (Nat.le_of_ble_eq_true rfl) d_Rd_endBlocks_112 ⟨show cl_97 + 0 ≤ mc by omega, show sl_97 + 0 ≤ ms by omega⟩ (fun v w hq => ?_)
  obtain ⟨a17, rfl, rfl⟩ := hq
  refine j_norm (pc' := 115) (st' := []) (ws' := ((a_draft_h0, .inr (1, [.ref q2_0_97, .int f2_1_97])) :: (q2_0_97, .inl (cI, n3_97, .inl b3_97)) :: (h0, .inr (2, [.ref a_scanner_h0, .ref a_draft_h0, .ref a_waiting_h0, .ref a_functions_h0, .ref (a17 0), .ref (a17 r2), .ref a_text_h0, .int mode_h0, .int (levels_h0 - 1), .int signs_t, .int (loops_h0 - t0_97), .int token_h0, .int fault_h0])) :: ((a17 r2), .inr (0, [(frB a17 r2), (frA a17 r1 r2), .int r4, .int r5, .int r6, .int r7, .int r8, .int r9, .int r10, .int r11, .int r12, .int r13, .int r14, .int r15, .int r16])) :: fpo a17 r1 r2 r3)) (cl' := cl_97) (sl' := sl_97) rfl rfl rfl rfl rfl rfl ?_
  refine j_aload_n d_Rd_endBlocks_115 rfl 0 rfl ?_
  refine j_callVg (n := 0) (As := []) (rest := []) (wr := ([(a_draft_h0, .inr (1, [.ref q2_0_97, .int f2_1_97])), (q2_0_97, .inl (cI, n3_97, .inl b3_97))] ++ fpo a17 r1 r2 r3)) (c_Rd_endStatement l D cI cB cJ cS h0 a_scanner_h0 a_draft_h0 a_waiting_h0 a_functions_h0 (a17 0) (a17 r2) a_text_h0 (frB a17 r2) (frA a17 r1 r2) mode_h0 (levels_h0 - 1) signs_t (loops_h0 - t0_97) token_h0 fault_h0 r4 r5 r6 r7 r8 r9 r10 r11 r12 r13 r14 r15 r16  ) k_Rd_183 (by decide) ⟨Nat.le_of_ble_eq_true rfl, Nat.le_of_ble_eq_true rfl⟩ rfl 0 rfl (pk_mid (wr := [(a_draft_h0, .inr (1, [.ref q2_0_97, .int f2_1_97])), (q2_0_97, .inl (cI, n3_97, .inl b3_97))]) (w0 := [(h0, .inr (2, [.ref a_scanner_h0, .ref a_draft_h0, .ref a_waiting_h0, .ref a_functions_h0, .ref (a17 0), .ref (a17 r2), .ref a_text_h0, .int mode_h0, .int (levels_h0 - 1), .int signs_t, .int (loops_h0 - t0_97), .int token_h0, .int fault_h0])), ((a17 r2), .inr (0, [(frB a17 r2), (frA a17 r1 r2), .int r4, .int r5, .int r6, .int r7, .int r8, .int r9, .int r10, .int r11, .int r12, .int r13, .int r14, .int r15, .int r16]))]) (pl := fpo a17 r1 r2 r3) [0, 1, 2, 3] 4 rfl rfl (by decide)) rfl rfl (Nat.le_of_ble_eq_true rfl) d_Rd_endBlocks_116 ⟨show cl_97 + 0 ≤ mc by omega, show sl_97 + 0 ≤ ms by omega⟩ (fun v w hq => ?_)
  obtain ⟨rfl, _, rfl⟩ := hq
  refine j_perm (ws' := ((a_draft_h0, .inr (1, [.ref q2_0_97, .int f2_1_97])) :: (q2_0_97, .inl (cI, n3_97, .inl b3_97)) :: (h0, .inr (2, [.ref a_scanner_h0, .ref a_draft_h0, .ref a_waiting_h0, .ref a_functions_h0, .ref (a17 0), .ref (a17 r2), .ref a_text_h0, .int 0, .int (levels_h0 - 1), .int signs_t, .int (loops_h0 - t0_97), .int token_h0, .int fault_h0])) :: ((a17 r2), .inr (0, [(frB a17 r2), (frA a17 r1 r2), .int r4, .int r5, .int r6, .int r7, .int r8, .int (r9 + 1), .int r10, .int r11, .int r12, .int r13, .int r14, .int r15, .int r16])) :: fpo a17 r1 r2 r3)) (pm_eq (a := [(a_draft_h0, .inr (1, [.ref q2_0_97, .int f2_1_97])), (q2_0_97, .inl (cI, n3_97, .inl b3_97))]) (b := fpo a17 r1 r2 r3) (c := [(h0, .inr (2, [.ref a_scanner_h0, .ref a_draft_h0, .ref a_waiting_h0, .ref a_functions_h0, .ref (a17 0), .ref (a17 r2), .ref a_text_h0, .int 0, .int (levels_h0 - 1), .int signs_t, .int (loops_h0 - t0_97), .int token_h0, .int fault_h0])), ((a17 r2), .inr (0, [(frB a17 r2), (frA a17 r1 r2), .int r4, .int r5, .int r6, .int r7, .int r8, .int (r9 + 1), .int r10, .int r11, .int r12, .int r13, .int r14, .int r15, .int r16]))]) rfl) ?_
  refine j_norm (pc' := 119) (st' := [.int 1]) (ws' := ((a_draft_h0, .inr (1, [.ref q2_0_97, .int f2_1_97])) :: (q2_0_97, .inl (cI, n3_97, .inl b3_97)) :: (h0, .inr (2, [.ref a_scanner_h0, .ref a_draft_h0, .ref a_waiting_h0, .ref a_functions_h0, .ref (a17 0), .ref (a17 r2), .ref a_text_h0, .int 0, .int (levels_h0 - 1), .int signs_t, .int (loops_h0 - t0_97), .int token_h0, .int fault_h0])) :: ((a17 r2), .inr (0, [(frB a17 r2), (frA a17 r1 r2), .int r4, .int r5, .int r6, .int r7, .int r8, .int (r9 + 1), .int r10, .int r11, .int r12, .int r13, .int r14, .int r15, .int r16])) :: fpo a17 r1 r2 r3)) (cl' := cl_97) (sl' := sl_97) rfl rfl rfl rfl rfl rfl ?_
  replace h := lf_s h
  obtain ⟨h, e1, e2⟩ := h
  replace h := Prod.mk.inj h
  obtain ⟨h9, h⟩ := h
  subst h9
  replace h := Prod.mk.inj h
  obtain ⟨h9, h⟩ := h
  subst h9
  replace h := Prod.mk.inj h
  obtain ⟨h9, h⟩ := h
  subst h9
  replace h := Prod.mk.inj h
  obtain ⟨h9, h⟩ := h
  subst h9
  replace h := Prod.mk.inj h
  obtain ⟨h9, h⟩ := h
  subst h9
  replace h := Prod.mk.inj h
  obtain ⟨h9, h⟩ := h
  subst h9
  replace h := Prod.mk.inj h
  obtain ⟨h9, h⟩ := h
  subst h9
  replace h := Prod.mk.inj h
  obtain ⟨h9, h⟩ := h
  subst h9
  replace h := Prod.mk.inj h
  obtain ⟨h9, h⟩ := h
  subst h9
  replace h := Prod.mk.inj h
  obtain ⟨h9, h⟩ := h
  subst h9
  replace h := Prod.mk.inj h
  obtain ⟨h9, h⟩ := h
  subst h9
  replace h := Prod.mk.inj h
  obtain ⟨h9, h⟩ := h
  subst h9
  replace h := Prod.mk.inj h
  obtain ⟨h9, h⟩ := h
  subst h9
  replace h := Prod.mk.inj h
  obtain ⟨h9, h⟩ := h
  subst h9
  replace h := Prod.mk.inj h
  obtain ⟨h9, h⟩ := h
  subst h9
  replace h := Prod.mk.inj h
  obtain ⟨h9, h⟩ := h
  subst h9
  replace h := Prod.mk.inj h
  obtain ⟨h9, h⟩ := h
  subst h9
  replace h := Prod.mk.inj h
  obtain ⟨h9, h⟩ := h
  subst h9
  replace h := Prod.mk.inj h
  obtain ⟨h9, h⟩ := h
  subst h9
  replace h := Prod.mk.inj h
  obtain ⟨h9, h⟩ := h
  subst h9
  replace h := Prod.mk.inj h
  obtain ⟨h9, h⟩ := h
  subst h9
  replace h := Prod.mk.inj h
  obtain ⟨h9, h⟩ := h
  subst h9
  replace h := Prod.mk.inj h
  obtain ⟨h9, h⟩ := h
  subst h9
  subst h
  refine j_widen (cl' := mc) (sl' := ms) (by omega) (by omega) ?_
  refine j_subP (w := [(h0, .inr (2, [.ref a_scanner_h0, .ref a_draft_h0, .ref a_waiting_h0, .ref a_functions_h0, .ref (a17 0), .ref (a17 r2), .ref a_text_h0, .int 0, .int (levels_h0 - 1), .int signs_t, .int (loops_h0 - t0_97), .int token_h0, .int fault_h0])), ((a17 r2), .inr (0, [(frB a17 r2), (frA a17 r1 r2), .int r4, .int r5, .int r6, .int r7, .int r8, .int (r9 + 1), .int r10, .int r11, .int r12, .int r13, .int r14, .int r15, .int r16])), (a_draft_h0, .inr (1, [.ref q2_0_97, .int f2_1_97])), (q2_0_97, .inl (cI, n3_97, .inl b3_97))]) (pl := fpo a17 r1 r2 r3) (lv' := []) [2, 3, 0, 1] [] 4 rfl rfl (by decide) [] rfl ?_
  exact j_zretE hr (zb_n zb1) d_Rd_endBlocks_119 ⟨a17, q2_0_97, rfl, zb1, rfl⟩
set_option maxHeartbeats 4000000 in
set_option maxRecDepth 100000 in
theorem L_Rd_endBlocks_34 (l : Launch) (D : va_G) (cI cB cJ cS : ClassId) (h0 : Nat) (fad : Nat → Nat) (a_scanner_h0 : Nat) (a_draft_h0 : Nat) (a_waiting_h0 : Nat) (a_functions_h0 : Nat) (a_text_h0 : Nat) (a_cells_a_draft_h0 : Nat) (fn : Nat) (fd : Nat) (fcf : Nat → FrC) (mode_h0 : Int32) (levels_h0 : Int32) (signs_h0 : Int32) (loops_h0 : Int32) (token_h0 : Int32) (fault_h0 : Int32) (kind_t : Int32) (place_t : Int32) (width_t : Int32) (second_t : Int32) (parts_t : Int32) (innerParts_t : Int32) (innerPlace_t : Int32) (innerWidth_t : Int32) (signs_t : Int32) (waitingBelow_t : Int32) (limited_t : Int32) (targets_t : Int32) (lastBlock_t : Int32) (count_a_draft_h0 : Int32) (n_a_cells_a_draft_h0 : Nat) (b_a_cells_a_draft_h0 : Nat → Int32) (on_p : Nat) (od_p : Nat) (ocf_p : Nat → FrC) (ret : Int32) (o_0_7 : Int32) (o_0_8 : Int32) (o_0_9 : Int32) (o_0_10 : Int32) (o_1_2 : Int32) (o_1_3 : Int32) (o_1_4 : Int32) (o_1_5 : Int32) (o_1_6 : Int32) (o_1_7 : Int32) (o_1_8 : Int32) (o_1_9 : Int32) (o_1_10 : Int32) (o_1_11 : Int32) (o_1_12 : Int32) (o_1_13 : Int32) (o_1_14 : Int32) (o_2_1 : Int32) (on_nq_2_0 : Nat) (ob_nq_2_0 : Nat → Int32) (mc ms : Nat) (p : Program) (e : Env) (s : State) (m : MethodId) (below : List Frame) (meth : Method) (c : Code) (hr : meth.sig.returnType = (Option.some Jvm.ClassFile.FieldType.boolean)) (hnm : meth.name = y_Rd_endBlocks.name) : ∀ (a9_34 : Nat → Nat) (n9_34 : Nat) (d9_34 : Nat) (c9_34 : Nat → FrC) (cl_34 sl_34 C_34 S_34 : Nat), F_Rd_endBlocks_34 mode_h0 levels_h0 signs_h0 loops_h0 token_h0 fault_h0 kind_t place_t width_t second_t parts_t innerParts_t innerPlace_t innerWidth_t signs_t waitingBelow_t limited_t targets_t lastBlock_t count_a_draft_h0 n_a_cells_a_draft_h0 b_a_cells_a_draft_h0   n9_34 d9_34 c9_34 = some ((on_p, od_p, ocf_p, ret, o_0_7, o_0_8, o_0_9, o_0_10, o_1_2, o_1_3, o_1_4, o_1_5, o_1_6, o_1_7, o_1_8, o_1_9, o_1_10, o_1_11, o_1_12, o_1_13, o_1_14, o_2_1, on_nq_2_0, ob_nq_2_0), C_34, S_34) → cl_34 + C_34 ≤ mc → sl_34 + S_34 ≤ ms → J (KxOf p l e { frames := 4, cells := mc, slots := ms, locals := 130 } s m [.ref h0].toArray below meth c D (gT cI cB cJ cS) ((h0, .inr (2, [.ref a_scanner_h0, .ref a_draft_h0, .ref a_waiting_h0, .ref a_functions_h0, .ref (fad 0), .ref (fad fd), .ref a_text_h0, .int mode_h0, .int levels_h0, .int signs_h0, .int loops_h0, .int token_h0, .int fault_h0])) :: ((fad fd), .inr (0, [(frB fad fd), (frA fad fn fd), .int kind_t, .int place_t, .int width_t, .int second_t, .int parts_t, .int innerParts_t, .int innerPlace_t, .int innerWidth_t, .int signs_t, .int waitingBelow_t, .int limited_t, .int targets_t, .int lastBlock_t])) :: (a_draft_h0, .inr (1, [.ref a_cells_a_draft_h0, .int count_a_draft_h0])) :: (a_cells_a_draft_h0, .inl (cI, n_a_cells_a_draft_h0, .inl b_a_cells_a_draft_h0)) :: fpo fad fn fd fcf) (fun v w => ∃ nad : Nat → Nat, ∃ nq_2_0 : Nat, v = some (.int ret) ∧ zb ret ∧ w = ((h0, .inr (2, [.ref a_scanner_h0, .ref a_draft_h0, .ref a_waiting_h0, .ref a_functions_h0, .ref (nad 0), .ref (nad od_p), .ref a_text_h0, .int o_0_7, .int o_0_8, .int o_0_9, .int o_0_10, .int token_h0, .int fault_h0])) :: ((nad od_p), .inr (0, [(frB nad od_p), (frA nad on_p od_p), .int o_1_2, .int o_1_3, .int o_1_4, .int o_1_5, .int o_1_6, .int o_1_7, .int o_1_8, .int o_1_9, .int o_1_10, .int o_1_11, .int o_1_12, .int o_1_13, .int o_1_14])) :: (a_draft_h0, .inr (1, [.ref nq_2_0, .int o_2_1])) :: (nq_2_0, .inl (cI, on_nq_2_0, .inl ob_nq_2_0)) :: fpo nad on_p od_p ocf_p)) mc ms) prog_6_method_20_code 1 R_Rd 34 [(0, .ref h0)] [] ((h0, .inr (2, [.ref a_scanner_h0, .ref a_draft_h0, .ref a_waiting_h0, .ref a_functions_h0, .ref (a9_34 0), .ref (a9_34 d9_34), .ref a_text_h0, .int mode_h0, .int levels_h0, .int signs_h0, .int loops_h0, .int token_h0, .int fault_h0])) :: ((a9_34 d9_34), .inr (0, [(frB a9_34 d9_34), (frA a9_34 n9_34 d9_34), .int kind_t, .int place_t, .int width_t, .int second_t, .int parts_t, .int innerParts_t, .int innerPlace_t, .int innerWidth_t, .int signs_t, .int waitingBelow_t, .int limited_t, .int targets_t, .int lastBlock_t])) :: (a_draft_h0, .inr (1, [.ref a_cells_a_draft_h0, .int count_a_draft_h0])) :: (a_cells_a_draft_h0, .inl (cI, n_a_cells_a_draft_h0, .inl b_a_cells_a_draft_h0)) :: fpo a9_34 n9_34 d9_34 c9_34) cl_34 sl_34 := by
  intro a9_34 n9_34 d9_34 c9_34 cl_34 sl_34 C_34 S_34 h hC hS
  unfold F_Rd_endBlocks_34 at h
  refine j_aload_n d_Rd_endBlocks_34 rfl 0 rfl ?_
  replace h := bw_s h
  obtain ⟨⟨r20, r21, r22⟩, C24, S25, C26, S27, k28, h, e1, e2⟩ := h
  replace hC : cl_34 + C24 + C26 ≤ mc := by omega
  replace hS : sl_34 + S25 + S27 ≤ ms := by omega
  clear e1 e2
  refine j_callVg (n := 0) (As := []) (rest := []) (wr := ([] ++ fpo a9_34 n9_34 d9_34 c9_34)) (c_Rd_endBlock l D cI cB cJ cS h0 a_scanner_h0 a_draft_h0 a_waiting_h0 a_functions_h0 (a9_34 0) (a9_34 d9_34) a_text_h0 (frB a9_34 d9_34) (frA a9_34 n9_34 d9_34) a_cells_a_draft_h0 mode_h0 levels_h0 signs_h0 loops_h0 token_h0 fault_h0 kind_t place_t width_t second_t parts_t innerParts_t innerPlace_t innerWidth_t signs_t waitingBelow_t limited_t targets_t lastBlock_t count_a_draft_h0 n_a_cells_a_draft_h0 b_a_cells_a_draft_h0  r20 r21 r22 C24 S25 k28) k_Rd_218 (by decide) ⟨Nat.le_of_ble_eq_true rfl, Nat.le_of_ble_eq_true rfl⟩ rfl 0 rfl (pk_mid (wr := []) (w0 := [(h0, .inr (2, [.ref a_scanner_h0, .ref a_draft_h0, .ref a_waiting_h0, .ref a_functions_h0, .ref (a9_34 0), .ref (a9_34 d9_34), .ref a_text_h0, .int mode_h0, .int levels_h0, .int signs_h0, .int loops_h0, .int token_h0, .int fault_h0])), ((a9_34 d9_34), .inr (0, [(frB a9_34 d9_34), (frA a9_34 n9_34 d9_34), .int kind_t, .int place_t, .int width_t, .int second_t, .int parts_t, .int innerParts_t, .int innerPlace_t, .int innerWidth_t, .int signs_t, .int waitingBelow_t, .int limited_t, .int targets_t, .int lastBlock_t])), (a_draft_h0, .inr (1, [.ref a_cells_a_draft_h0, .int count_a_draft_h0])), (a_cells_a_draft_h0, .inl (cI, n_a_cells_a_draft_h0, .inl b_a_cells_a_draft_h0))]) (pl := fpo a9_34 n9_34 d9_34 c9_34) [0, 1, 2, 3] 4 rfl rfl (by decide)) rfl rfl (Nat.le_of_ble_eq_true rfl) d_Rd_endBlocks_35 ⟨show cl_34 + C24 ≤ mc by omega, show sl_34 + S25 ≤ ms by omega⟩ (fun v w hq => ?_)
  obtain ⟨q23, rfl, rfl⟩ := hq
  refine j_perm (ws' := ((h0, .inr (2, [.ref a_scanner_h0, .ref a_draft_h0, .ref a_waiting_h0, .ref a_functions_h0, .ref (a9_34 0), .ref (a9_34 d9_34), .ref a_text_h0, .int mode_h0, .int levels_h0, .int signs_h0, .int loops_h0, .int token_h0, .int fault_h0])) :: ((a9_34 d9_34), .inr (0, [(frB a9_34 d9_34), (frA a9_34 n9_34 d9_34), .int kind_t, .int place_t, .int width_t, .int second_t, .int (parts_t + 1), .int innerParts_t, .int innerPlace_t, .int innerWidth_t, .int signs_t, .int waitingBelow_t, .int limited_t, .int targets_t, .int lastBlock_t])) :: (a_draft_h0, .inr (1, [.ref q23, .int r20])) :: (q23, .inl (cI, r21, .inl r22)) :: fpo a9_34 n9_34 d9_34 c9_34)) (pm_eq (a := []) (b := fpo a9_34 n9_34 d9_34 c9_34) (c := [(h0, .inr (2, [.ref a_scanner_h0, .ref a_draft_h0, .ref a_waiting_h0, .ref a_functions_h0, .ref (a9_34 0), .ref (a9_34 d9_34), .ref a_text_h0, .int mode_h0, .int levels_h0, .int signs_h0, .int loops_h0, .int token_h0, .int fault_h0])), ((a9_34 d9_34), .inr (0, [(frB a9_34 d9_34), (frA a9_34 n9_34 d9_34), .int kind_t, .int place_t, .int width_t, .int second_t, .int (parts_t + 1), .int innerParts_t, .int innerPlace_t, .int innerWidth_t, .int signs_t, .int waitingBelow_t, .int limited_t, .int targets_t, .int lastBlock_t])), (a_draft_h0, .inr (1, [.ref q23, .int r20])), (q23, .inl (cI, r21, .inl r22))]) rfl) ?_
  refine j_norm (pc' := 38) (st' := []) (ws' := ((h0, .inr (2, [.ref a_scanner_h0, .ref a_draft_h0, .ref a_waiting_h0, .ref a_functions_h0, .ref (a9_34 0), .ref (a9_34 d9_34), .ref a_text_h0, .int mode_h0, .int levels_h0, .int signs_h0, .int loops_h0, .int token_h0, .int fault_h0])) :: ((a9_34 d9_34), .inr (0, [(frB a9_34 d9_34), (frA a9_34 n9_34 d9_34), .int kind_t, .int place_t, .int width_t, .int second_t, .int (parts_t + 1), .int innerParts_t, .int innerPlace_t, .int innerWidth_t, .int signs_t, .int waitingBelow_t, .int limited_t, .int targets_t, .int lastBlock_t])) :: (a_draft_h0, .inr (1, [.ref q23, .int r20])) :: (q23, .inl (cI, r21, .inl r22)) :: fpo a9_34 n9_34 d9_34 c9_34)) (cl' := cl_34 + C24) (sl' := sl_34 + S25) rfl rfl rfl rfl rfl rfl ?_
  refine j_aload_n d_Rd_endBlocks_38 rfl 0 rfl ?_
  refine j_get ig_Rd rfl 0 rfl 1 (by decide) rfl m_170 rfl d_Rd_endBlocks_39 ?_
  refine j_aload_n d_Rd_endBlocks_42 rfl 0 rfl ?_
  refine j_get ig_Rd rfl 0 rfl 5 (by decide) rfl m_174 rfl d_Rd_endBlocks_43 ?_
  refine j_get ig_Fr rfl 1 rfl 2 (by decide) rfl m_111 rfl d_Rd_endBlocks_46 ?_
  refine j_aload_n d_Rd_endBlocks_49 rfl 0 rfl ?_
  refine j_get ig_Rd rfl 0 rfl 5 (by decide) rfl m_174 rfl d_Rd_endBlocks_50 ?_
  refine j_get ig_Fr rfl 1 rfl 3 (by decide) rfl m_113 rfl d_Rd_endBlocks_53 ?_
  refine j_iconst (v := (-1)) d_Rd_endBlocks_56 (by decide) ?_
  refine j_aload_n d_Rd_endBlocks_57 rfl 0 rfl ?_
  refine j_get ig_Rd rfl 0 rfl 5 (by decide) rfl m_174 rfl d_Rd_endBlocks_58 ?_
  refine j_get ig_Fr rfl 1 rfl 6 (by decide) rfl m_119 rfl d_Rd_endBlocks_61 ?_
  refine j_aload_n d_Rd_endBlocks_64 rfl 0 rfl ?_
  refine j_get ig_Rd rfl 0 rfl 5 (by decide) rfl m_174 rfl d_Rd_endBlocks_65 ?_
  refine j_get ig_Fr rfl 1 rfl 4 (by decide) rfl m_115 rfl d_Rd_endBlocks_68 ?_
  replace h := bw_s h
  obtain ⟨⟨r29, r30, r31⟩, C33, S34, C35, S36, k37, h, e1, e2⟩ := h
  replace hC : cl_34 + C24 + C33 + C35 ≤ mc := by omega
  replace hS : sl_34 + S25 + S34 + S36 ≤ ms := by omega
  clear e1 e2
  refine j_callVg (n := 5) (As := [.int kind_t, .int place_t, .int (-1), .int (parts_t + 1), .int width_t]) (rest := []) (wr := ([(h0, .inr (2, [.ref a_scanner_h0, .ref a_draft_h0, .ref a_waiting_h0, .ref a_functions_h0, .ref (a9_34 0), .ref (a9_34 d9_34), .ref a_text_h0, .int mode_h0, .int levels_h0, .int signs_h0, .int loops_h0, .int token_h0, .int fault_h0])), ((a9_34 d9_34), .inr (0, [(frB a9_34 d9_34), (frA a9_34 n9_34 d9_34), .int kind_t, .int place_t, .int width_t, .int second_t, .int (parts_t + 1), .int innerParts_t, .int innerPlace_t, .int innerWidth_t, .int signs_t, .int waitingBelow_t, .int limited_t, .int targets_t, .int lastBlock_t]))] ++ fpo a9_34 n9_34 d9_34 c9_34)) (c_Nd_add l D cI cB cJ cS a_draft_h0 q23 kind_t place_t (-1) (parts_t + 1) width_t r20 r21 r22  r29 r30 r31 C33 S34 k37) k_Rd_93 (by decide) ⟨Nat.le_of_ble_eq_true rfl, Nat.le_of_ble_eq_true rfl⟩ rfl 0 rfl (pk_mid (wr := [(h0, .inr (2, [.ref a_scanner_h0, .ref a_draft_h0, .ref a_waiting_h0, .ref a_functions_h0, .ref (a9_34 0), .ref (a9_34 d9_34), .ref a_text_h0, .int mode_h0, .int levels_h0, .int signs_h0, .int loops_h0, .int token_h0, .int fault_h0])), ((a9_34 d9_34), .inr (0, [(frB a9_34 d9_34), (frA a9_34 n9_34 d9_34), .int kind_t, .int place_t, .int width_t, .int second_t, .int (parts_t + 1), .int innerParts_t, .int innerPlace_t, .int innerWidth_t, .int signs_t, .int waitingBelow_t, .int limited_t, .int targets_t, .int lastBlock_t]))]) (w0 := [(a_draft_h0, .inr (1, [.ref q23, .int r20])), (q23, .inl (cI, r21, .inl r22))]) (pl := fpo a9_34 n9_34 d9_34 c9_34) [0, 1, 2, 3] 4 rfl rfl (by decide)) rfl rfl (Nat.le_of_ble_eq_true rfl) d_Rd_endBlocks_71 ⟨show cl_34 + C24 + C33 ≤ mc by omega, show sl_34 + S25 + S34 ≤ ms by omega⟩ (fun v w hq => ?_)
  obtain ⟨q32, rfl, rfl⟩ := hq
  refine j_perm (ws' := ((h0, .inr (2, [.ref a_scanner_h0, .ref a_draft_h0, .ref a_waiting_h0, .ref a_functions_h0, .ref (a9_34 0), .ref (a9_34 d9_34), .ref a_text_h0, .int mode_h0, .int levels_h0, .int signs_h0, .int loops_h0, .int token_h0, .int fault_h0])) :: ((a9_34 d9_34), .inr (0, [(frB a9_34 d9_34), (frA a9_34 n9_34 d9_34), .int kind_t, .int place_t, .int width_t, .int second_t, .int (parts_t + 1), .int innerParts_t, .int innerPlace_t, .int innerWidth_t, .int signs_t, .int waitingBelow_t, .int limited_t, .int targets_t, .int lastBlock_t])) :: (a_draft_h0, .inr (1, [.ref q32, .int r29])) :: (q32, .inl (cI, r30, .inl r31)) :: fpo a9_34 n9_34 d9_34 c9_34)) (pm_eq (a := [(h0, .inr (2, [.ref a_scanner_h0, .ref a_draft_h0, .ref a_waiting_h0, .ref a_functions_h0, .ref (a9_34 0), .ref (a9_34 d9_34), .ref a_text_h0, .int mode_h0, .int levels_h0, .int signs_h0, .int loops_h0, .int token_h0, .int fault_h0])), ((a9_34 d9_34), .inr (0, [(frB a9_34 d9_34), (frA a9_34 n9_34 d9_34), .int kind_t, .int place_t, .int width_t, .int second_t, .int (parts_t + 1), .int innerParts_t, .int innerPlace_t, .int innerWidth_t, .int signs_t, .int waitingBelow_t, .int limited_t, .int targets_t, .int lastBlock_t]))]) (b := fpo a9_34 n9_34 d9_34 c9_34) (c := [(a_draft_h0, .inr (1, [.ref q32, .int r29])), (q32, .inl (cI, r30, .inl r31))]) rfl) ?_
  refine j_norm (pc' := 74) (st' := []) (ws' := ((h0, .inr (2, [.ref a_scanner_h0, .ref a_draft_h0, .ref a_waiting_h0, .ref a_functions_h0, .ref (a9_34 0), .ref (a9_34 d9_34), .ref a_text_h0, .int mode_h0, .int levels_h0, .int signs_h0, .int loops_h0, .int token_h0, .int fault_h0])) :: ((a9_34 d9_34), .inr (0, [(frB a9_34 d9_34), (frA a9_34 n9_34 d9_34), .int kind_t, .int place_t, .int width_t, .int second_t, .int (parts_t + 1), .int innerParts_t, .int innerPlace_t, .int innerWidth_t, .int signs_t, .int waitingBelow_t, .int limited_t, .int targets_t, .int lastBlock_t])) :: (a_draft_h0, .inr (1, [.ref q32, .int r29])) :: (q32, .inl (cI, r30, .inl r31)) :: fpo a9_34 n9_34 d9_34 c9_34)) (cl' := cl_34 + C24 + C33) (sl' := sl_34 + S25 + S34) rfl rfl rfl rfl rfl rfl ?_
  refine j_aload_n d_Rd_endBlocks_74 rfl 0 rfl ?_
  refine j_dup rfl d_Rd_endBlocks_75 ?_
  refine j_get ig_Rd rfl 0 rfl 10 (by decide) rfl m_179 rfl d_Rd_endBlocks_76 ?_
  refine j_aload_n d_Rd_endBlocks_79 rfl 0 rfl ?_
  refine j_get ig_Rd rfl 0 rfl 5 (by decide) rfl m_174 rfl d_Rd_endBlocks_80 ?_
  refine j_get ig_Fr rfl 1 rfl 2 (by decide) rfl m_111 rfl d_Rd_endBlocks_83 ?_
  obtain ⟨r38, k40⟩ : ∃ z, (F_Rd_isLoop kind_t) = z := ⟨_, rfl⟩
  replace h := nm_at k40 h
  refine j_callSg (n := 1) (As := [.int kind_t]) (rest := [.int loops_h0, .ref h0]) (wr := ([(h0, .inr (2, [.ref a_scanner_h0, .ref a_draft_h0, .ref a_waiting_h0, .ref a_functions_h0, .ref (a9_34 0), .ref (a9_34 d9_34), .ref a_text_h0, .int mode_h0, .int levels_h0, .int signs_h0, .int loops_h0, .int token_h0, .int fault_h0])), ((a9_34 d9_34), .inr (0, [(frB a9_34 d9_34), (frA a9_34 n9_34 d9_34), .int kind_t, .int place_t, .int width_t, .int second_t, .int (parts_t + 1), .int innerParts_t, .int innerPlace_t, .int innerWidth_t, .int signs_t, .int waitingBelow_t, .int limited_t, .int targets_t, .int lastBlock_t])), (a_draft_h0, .inr (1, [.ref q32, .int r29])), (q32, .inl (cI, r30, .inl r31))] ++ fpo a9_34 n9_34 d9_34 c9_34)) (c_Rd_isLoop l D cI cB cJ cS kind_t  r38 k40) k_Rd_212 (by decide) ⟨Nat.le_of_ble_eq_true rfl, Nat.le_of_ble_eq_true rfl⟩ (pk_mid (wr := [(h0, .inr (2, [.ref a_scanner_h0, .ref a_draft_h0, .ref a_waiting_h0, .ref a_functions_h0, .ref (a9_34 0), .ref (a9_34 d9_34), .ref a_text_h0, .int mode_h0, .int levels_h0, .int signs_h0, .int loops_h0, .int token_h0, .int fault_h0])), ((a9_34 d9_34), .inr (0, [(frB a9_34 d9_34), (frA a9_34 n9_34 d9_34), .int kind_t, .int place_t, .int width_t, .int second_t, .int (parts_t + 1), .int innerParts_t, .int innerPlace_t, .int innerWidth_t, .int signs_t, .int waitingBelow_t, .int limited_t, .int targets_t, .int lastBlock_t])), (a_draft_h0, .inr (1, [.ref q32, .int r29])), (q32, .inl (cI, r30, .inl r31))]) (w0 := []) (pl := fpo a9_34 n9_34 d9_34 c9_34) [0, 1, 2, 3] 4 rfl rfl (by decide)) rfl rfl (Nat.le_of_ble_eq_true rfl) d_Rd_endBlocks_86 ⟨show cl_34 + C24 + C33 + 0 ≤ mc by omega, show sl_34 + S25 + S34 + 0 ≤ ms by omega⟩ (fun v w hq => ?_)
  obtain ⟨rfl, z39, rfl⟩ := hq
  refine j_perm (ws' := ((h0, .inr (2, [.ref a_scanner_h0, .ref a_draft_h0, .ref a_waiting_h0, .ref a_functions_h0, .ref (a9_34 0), .ref (a9_34 d9_34), .ref a_text_h0, .int mode_h0, .int levels_h0, .int signs_h0, .int loops_h0, .int token_h0, .int fault_h0])) :: ((a9_34 d9_34), .inr (0, [(frB a9_34 d9_34), (frA a9_34 n9_34 d9_34), .int kind_t, .int place_t, .int width_t, .int second_t, .int (parts_t + 1), .int innerParts_t, .int innerPlace_t, .int innerWidth_t, .int signs_t, .int waitingBelow_t, .int limited_t, .int targets_t, .int lastBlock_t])) :: (a_draft_h0, .inr (1, [.ref q32, .int r29])) :: (q32, .inl (cI, r30, .inl r31)) :: fpo a9_34 n9_34 d9_34 c9_34)) (pm_eq (a := [(h0, .inr (2, [.ref a_scanner_h0, .ref a_draft_h0, .ref a_waiting_h0, .ref a_functions_h0, .ref (a9_34 0), .ref (a9_34 d9_34), .ref a_text_h0, .int mode_h0, .int levels_h0, .int signs_h0, .int loops_h0, .int token_h0, .int fault_h0])), ((a9_34 d9_34), .inr (0, [(frB a9_34 d9_34), (frA a9_34 n9_34 d9_34), .int kind_t, .int place_t, .int width_t, .int second_t, .int (parts_t + 1), .int innerParts_t, .int innerPlace_t, .int innerWidth_t, .int signs_t, .int waitingBelow_t, .int limited_t, .int targets_t, .int lastBlock_t])), (a_draft_h0, .inr (1, [.ref q32, .int r29])), (q32, .inl (cI, r30, .inl r31))]) (b := fpo a9_34 n9_34 d9_34 c9_34) (c := []) rfl) ?_
  refine j_norm (pc' := 89) (st' := [.int r38, .int loops_h0, .ref h0]) (ws' := ((h0, .inr (2, [.ref a_scanner_h0, .ref a_draft_h0, .ref a_waiting_h0, .ref a_functions_h0, .ref (a9_34 0), .ref (a9_34 d9_34), .ref a_text_h0, .int mode_h0, .int levels_h0, .int signs_h0, .int loops_h0, .int token_h0, .int fault_h0])) :: ((a9_34 d9_34), .inr (0, [(frB a9_34 d9_34), (frA a9_34 n9_34 d9_34), .int kind_t, .int place_t, .int width_t, .int second_t, .int (parts_t + 1), .int innerParts_t, .int innerPlace_t, .int innerWidth_t, .int signs_t, .int waitingBelow_t, .int limited_t, .int targets_t, .int lastBlock_t])) :: (a_draft_h0, .inr (1, [.ref q32, .int r29])) :: (q32, .inl (cI, r30, .inl r31)) :: fpo a9_34 n9_34 d9_34 c9_34)) (cl' := cl_34 + C24 + C33) (sl' := sl_34 + S25 + S34) rfl rfl rfl rfl rfl rfl ?_
  refine j_if_eq (tgt := 96) d_Rd_endBlocks_89 (by decide) (fun c41 => ?_) (fun c41 => ?_)
  · replace h := it_t c41 h
    refine j_iconst (v := 0) d_Rd_endBlocks_96 (by decide) ?_
    refine j_subP (w := [(h0, .inr (2, [.ref a_scanner_h0, .ref a_draft_h0, .ref a_waiting_h0, .ref a_functions_h0, .ref (a9_34 0), .ref (a9_34 d9_34), .ref a_text_h0, .int mode_h0, .int levels_h0, .int signs_h0, .int loops_h0, .int token_h0, .int fault_h0])), ((a9_34 d9_34), .inr (0, [(frB a9_34 d9_34), (frA a9_34 n9_34 d9_34), .int kind_t, .int place_t, .int width_t, .int second_t, .int (parts_t + 1), .int innerParts_t, .int innerPlace_t, .int innerWidth_t, .int signs_t, .int waitingBelow_t, .int limited_t, .int targets_t, .int lastBlock_t])), (a_draft_h0, .inr (1, [.ref q32, .int r29])), (q32, .inl (cI, r30, .inl r31))]) (pl := fpo a9_34 n9_34 d9_34 c9_34) (lv' := [(0, .ref h0)]) [0, 1, 2, 3] [] 4 rfl rfl (by decide) [0] rfl ?_
    exact L_Rd_endBlocks_97 l D cI cB cJ cS h0 fad a_scanner_h0 a_draft_h0 a_waiting_h0 a_functions_h0 a_text_h0 a_cells_a_draft_h0 fn fd fcf mode_h0 levels_h0 signs_h0 loops_h0 token_h0 fault_h0 kind_t place_t width_t second_t parts_t innerParts_t innerPlace_t innerWidth_t signs_t waitingBelow_t limited_t targets_t lastBlock_t count_a_draft_h0 n_a_cells_a_draft_h0 b_a_cells_a_draft_h0 on_p od_p ocf_p ret o_0_7 o_0_8 o_0_9 o_0_10 o_1_2 o_1_3 o_1_4 o_1_5 o_1_6 o_1_7 o_1_8 o_1_9 o_1_10 o_1_11 o_1_12 o_1_13 o_1_14 o_2_1 on_nq_2_0 ob_nq_2_0 mc ms p e s m below meth c hr hnm a9_34 q32 0 n9_34 d9_34 c9_34 r29 r30 r31 zb0 (cl_34 + C24 + C33) (sl_34 + S25 + S34) C35 S36 h hC hS
  · replace h := it_f c41 h
    refine j_iconst (v := 1) d_Rd_endBlocks_92 (by decide) ?_
    refine j_goto (tgt := 97) d_Rd_endBlocks_93 (by decide) ?_
    refine j_subP (w := [(h0, .inr (2, [.ref a_scanner_h0, .ref a_draft_h0, .ref a_waiting_h0, .ref a_functions_h0, .ref (a9_34 0), .ref (a9_34 d9_34), .ref a_text_h0, .int mode_h0, .int levels_h0, .int signs_h0, .int loops_h0, .int token_h0, .int fault_h0])), ((a9_34 d9_34), .inr (0, [(frB a9_34 d9_34), (frA a9_34 n9_34 d9_34), .int kind_t, .int place_t, .int width_t, .int second_t, .int (parts_t + 1), .int innerParts_t, .int innerPlace_t, .int innerWidth_t, .int signs_t, .int waitingBelow_t, .int limited_t, .int targets_t, .int lastBlock_t])), (a_draft_h0, .inr (1, [.ref q32, .int r29])), (q32, .inl (cI, r30, .inl r31))]) (pl := fpo a9_34 n9_34 d9_34 c9_34) (lv' := [(0, .ref h0)]) [0, 1, 2, 3] [] 4 rfl rfl (by decide) [0] rfl ?_
    exact L_Rd_endBlocks_97 l D cI cB cJ cS h0 fad a_scanner_h0 a_draft_h0 a_waiting_h0 a_functions_h0 a_text_h0 a_cells_a_draft_h0 fn fd fcf mode_h0 levels_h0 signs_h0 loops_h0 token_h0 fault_h0 kind_t place_t width_t second_t parts_t innerParts_t innerPlace_t innerWidth_t signs_t waitingBelow_t limited_t targets_t lastBlock_t count_a_draft_h0 n_a_cells_a_draft_h0 b_a_cells_a_draft_h0 on_p od_p ocf_p ret o_0_7 o_0_8 o_0_9 o_0_10 o_1_2 o_1_3 o_1_4 o_1_5 o_1_6 o_1_7 o_1_8 o_1_9 o_1_10 o_1_11 o_1_12 o_1_13 o_1_14 o_2_1 on_nq_2_0 ob_nq_2_0 mc ms p e s m below meth c hr hnm a9_34 q32 1 n9_34 d9_34 c9_34 r29 r30 r31 zb1 (cl_34 + C24 + C33) (sl_34 + S25 + S34) C35 S36 h hC hS
set_option maxHeartbeats 4000000 in
set_option maxRecDepth 100000 in
theorem c_Rd_endBlocks (l : Launch) (D : va_G) (cI cB cJ cS : ClassId) (h0 : Nat) (fad : Nat → Nat) (a_scanner_h0 : Nat) (a_draft_h0 : Nat) (a_waiting_h0 : Nat) (a_functions_h0 : Nat) (a_text_h0 : Nat) (a_cells_a_draft_h0 : Nat) (fn : Nat) (fd : Nat) (fcf : Nat → FrC) (mode_h0 : Int32) (levels_h0 : Int32) (signs_h0 : Int32) (loops_h0 : Int32) (token_h0 : Int32) (fault_h0 : Int32) (kind_t : Int32) (place_t : Int32) (width_t : Int32) (second_t : Int32) (parts_t : Int32) (innerParts_t : Int32) (innerPlace_t : Int32) (innerWidth_t : Int32) (signs_t : Int32) (waitingBelow_t : Int32) (limited_t : Int32) (targets_t : Int32) (lastBlock_t : Int32) (count_a_draft_h0 : Int32) (n_a_cells_a_draft_h0 : Nat) (b_a_cells_a_draft_h0 : Nat → Int32) (on_p : Nat) (od_p : Nat) (ocf_p : Nat → FrC) (ret : Int32) (o_0_7 : Int32) (o_0_8 : Int32) (o_0_9 : Int32) (o_0_10 : Int32) (o_1_2 : Int32) (o_1_3 : Int32) (o_1_4 : Int32) (o_1_5 : Int32) (o_1_6 : Int32) (o_1_7 : Int32) (o_1_8 : Int32) (o_1_9 : Int32) (o_1_10 : Int32) (o_1_11 : Int32) (o_1_12 : Int32) (o_1_13 : Int32) (o_1_14 : Int32) (o_2_1 : Int32) (on_nq_2_0 : Nat) (ob_nq_2_0 : Nat → Int32) (mc ms : Nat) (h : F_Rd_endBlocks fn fd fcf mode_h0 levels_h0 signs_h0 loops_h0 token_h0 fault_h0 kind_t place_t width_t second_t parts_t innerParts_t innerPlace_t innerWidth_t signs_t waitingBelow_t limited_t targets_t lastBlock_t count_a_draft_h0 n_a_cells_a_draft_h0 b_a_cells_a_draft_h0 = some ((on_p, od_p, ocf_p, ret, o_0_7, o_0_8, o_0_9, o_0_10, o_1_2, o_1_3, o_1_4, o_1_5, o_1_6, o_1_7, o_1_8, o_1_9, o_1_10, o_1_11, o_1_12, o_1_13, o_1_14, o_2_1, on_nq_2_0, ob_nq_2_0), mc, ms)) : Ct l D (gT cI cB cJ cS) y_Rd_endBlocks prog_6_method_20_code 1 (Option.some Jvm.ClassFile.FieldType.boolean) 4 130 mc ms [.ref h0] ((h0, .inr (2, [.ref a_scanner_h0, .ref a_draft_h0, .ref a_waiting_h0, .ref a_functions_h0, .ref (fad 0), .ref (fad fd), .ref a_text_h0, .int mode_h0, .int levels_h0, .int signs_h0, .int loops_h0, .int token_h0, .int fault_h0])) :: ((fad fd), .inr (0, [(frB fad fd), (frA fad fn fd), .int kind_t, .int place_t, .int width_t, .int second_t, .int parts_t, .int innerParts_t, .int innerPlace_t, .int innerWidth_t, .int signs_t, .int waitingBelow_t, .int limited_t, .int targets_t, .int lastBlock_t])) :: (a_draft_h0, .inr (1, [.ref a_cells_a_draft_h0, .int count_a_draft_h0])) :: (a_cells_a_draft_h0, .inl (cI, n_a_cells_a_draft_h0, .inl b_a_cells_a_draft_h0)) :: fpo fad fn fd fcf) (fun v w => ∃ nad : Nat → Nat, ∃ nq_2_0 : Nat, v = some (.int ret) ∧ zb ret ∧ w = ((h0, .inr (2, [.ref a_scanner_h0, .ref a_draft_h0, .ref a_waiting_h0, .ref a_functions_h0, .ref (nad 0), .ref (nad od_p), .ref a_text_h0, .int o_0_7, .int o_0_8, .int o_0_9, .int o_0_10, .int token_h0, .int fault_h0])) :: ((nad od_p), .inr (0, [(frB nad od_p), (frA nad on_p od_p), .int o_1_2, .int o_1_3, .int o_1_4, .int o_1_5, .int o_1_6, .int o_1_7, .int o_1_8, .int o_1_9, .int o_1_10, .int o_1_11, .int o_1_12, .int o_1_13, .int o_1_14])) :: (a_draft_h0, .inr (1, [.ref nq_2_0, .int o_2_1])) :: (nq_2_0, .inl (cI, on_nq_2_0, .inl ob_nq_2_0)) :: fpo nad on_p od_p ocf_p)) := by
  refine Ct.mk (by decide) (Nat.le_of_ble_eq_true rfl) ?_
  intro p e s m below meth c hr hnm
  refine j_norm (pc' := 0) (lv' := [(0, .ref h0)]) (st' := []) (ws' := ((h0, .inr (2, [.ref a_scanner_h0, .ref a_draft_h0, .ref a_waiting_h0, .ref a_functions_h0, .ref (fad 0), .ref (fad fd), .ref a_text_h0, .int mode_h0, .int levels_h0, .int signs_h0, .int loops_h0, .int token_h0, .int fault_h0])) :: ((fad fd), .inr (0, [(frB fad fd), (frA fad fn fd), .int kind_t, .int place_t, .int width_t, .int second_t, .int parts_t, .int innerParts_t, .int innerPlace_t, .int innerWidth_t, .int signs_t, .int waitingBelow_t, .int limited_t, .int targets_t, .int lastBlock_t])) :: (a_draft_h0, .inr (1, [.ref a_cells_a_draft_h0, .int count_a_draft_h0])) :: (a_cells_a_draft_h0, .inl (cI, n_a_cells_a_draft_h0, .inl b_a_cells_a_draft_h0)) :: fpo fad fn fd fcf)) (cl' := 0) (sl' := 0) rfl rfl rfl rfl rfl rfl ?_
  unfold F_Rd_endBlocks at h
  have hC : 0 + mc ≤ mc := by omega
  have hS : 0 + ms ≤ ms := by omega
  refine j_aload_n d_Rd_endBlocks_0 rfl 0 rfl ?_
  refine j_get ig_Rd rfl 0 rfl 5 (by decide) rfl m_174 rfl d_Rd_endBlocks_1 ?_
  refine j_get ig_Fr rfl 1 rfl 2 (by decide) rfl m_111 rfl d_Rd_endBlocks_4 ?_
  refine j_if_eq (tgt := 32) d_Rd_endBlocks_7 (by decide) (fun c42 => ?_) (fun c42 => ?_)
  · replace h := it_t c42 h
    refine j_iconst (v := 0) d_Rd_endBlocks_32 (by decide) ?_
    replace h := lf_s h
    obtain ⟨h, e1, e2⟩ := h
    replace h := Prod.mk.inj h
    obtain ⟨h9, h⟩ := h
    subst h9
    replace h := Prod.mk.inj h
    obtain ⟨h9, h⟩ := h
    subst h9
    replace h := Prod.mk.inj h
    obtain ⟨h9, h⟩ := h
    subst h9
    replace h := Prod.mk.inj h
    obtain ⟨h9, h⟩ := h
    subst h9
    replace h := Prod.mk.inj h
    obtain ⟨h9, h⟩ := h
    subst h9
    replace h := Prod.mk.inj h
    obtain ⟨h9, h⟩ := h
    subst h9
    replace h := Prod.mk.inj h
    obtain ⟨h9, h⟩ := h
    subst h9
    replace h := Prod.mk.inj h
    obtain ⟨h9, h⟩ := h
    subst h9
    replace h := Prod.mk.inj h
    obtain ⟨h9, h⟩ := h
    subst h9
    replace h := Prod.mk.inj h
    obtain ⟨h9, h⟩ := h
    subst h9
    replace h := Prod.mk.inj h
    obtain ⟨h9, h⟩ := h
    subst h9
    replace h := Prod.mk.inj h
    obtain ⟨h9, h⟩ := h
    subst h9
    replace h := Prod.mk.inj h
    obtain ⟨h9, h⟩ := h
    subst h9
    replace h := Prod.mk.inj h
    obtain ⟨h9, h⟩ := h
    subst h9
    replace h := Prod.mk.inj h
    obtain ⟨h9, h⟩ := h
    subst h9
    replace h := Prod.mk.inj h
    obtain ⟨h9, h⟩ := h
    subst h9
    replace h := Prod.mk.inj h
    obtain ⟨h9, h⟩ := h
    subst h9
    replace h := Prod.mk.inj h
    obtain ⟨h9, h⟩ := h
    subst h9
    replace h := Prod.mk.inj h
    obtain ⟨h9, h⟩ := h
    subst h9
    replace h := Prod.mk.inj h
    obtain ⟨h9, h⟩ := h
    subst h9
    replace h := Prod.mk.inj h
    obtain ⟨h9, h⟩ := h
    subst h9
    replace h := Prod.mk.inj h
    obtain ⟨h9, h⟩ := h
    subst h9
    replace h := Prod.mk.inj h
    obtain ⟨h9, h⟩ := h
    subst h9
    subst h
    refine j_widen (cl' := mc) (sl' := ms) (by omega) (by omega) ?_
    refine j_subP (w := [(h0, .inr (2, [.ref a_scanner_h0, .ref a_draft_h0, .ref a_waiting_h0, .ref a_functions_h0, .ref (fad 0), .ref (fad fd), .ref a_text_h0, .int mode_h0, .int levels_h0, .int signs_h0, .int loops_h0, .int token_h0, .int fault_h0])), ((fad fd), .inr (0, [(frB fad fd), (frA fad fn fd), .int kind_t, .int place_t, .int width_t, .int second_t, .int parts_t, .int innerParts_t, .int innerPlace_t, .int innerWidth_t, .int signs_t, .int waitingBelow_t, .int limited_t, .int targets_t, .int lastBlock_t])), (a_draft_h0, .inr (1, [.ref a_cells_a_draft_h0, .int count_a_draft_h0])), (a_cells_a_draft_h0, .inl (cI, n_a_cells_a_draft_h0, .inl b_a_cells_a_draft_h0))]) (pl := fpo fad fn fd fcf) (lv' := []) [0, 1, 2, 3] [] 4 rfl rfl (by decide) [] rfl ?_
    exact j_zretE hr (zb_n zb0) d_Rd_endBlocks_33 ⟨fad, a_cells_a_draft_h0, rfl, zb0, rfl⟩
  · replace h := it_f c42 h
    refine j_aload_n d_Rd_endBlocks_10 rfl 0 rfl ?_
    refine j_get ig_Rd rfl 0 rfl 5 (by decide) rfl m_174 rfl d_Rd_endBlocks_11 ?_
    refine j_get ig_Fr rfl 1 rfl 2 (by decide) rfl m_111 rfl d_Rd_endBlocks_14 ?_
    refine j_bipush (v := 14) d_Rd_endBlocks_17 (by decide) ?_
    refine j_icmp_ne (tgt := 34) d_Rd_endBlocks_19 (by decide) (fun c43 => ?_) (fun c43 => ?_)
    · replace h := it_f c43 h
      refine j_subP (w := [(h0, .inr (2, [.ref a_scanner_h0, .ref a_draft_h0, .ref a_waiting_h0, .ref a_functions_h0, .ref (fad 0), .ref (fad fd), .ref a_text_h0, .int mode_h0, .int levels_h0, .int signs_h0, .int loops_h0, .int token_h0, .int fault_h0])), ((fad fd), .inr (0, [(frB fad fd), (frA fad fn fd), .int kind_t, .int place_t, .int width_t, .int second_t, .int parts_t, .int innerParts_t, .int innerPlace_t, .int innerWidth_t, .int signs_t, .int waitingBelow_t, .int limited_t, .int targets_t, .int lastBlock_t])), (a_draft_h0, .inr (1, [.ref a_cells_a_draft_h0, .int count_a_draft_h0])), (a_cells_a_draft_h0, .inl (cI, n_a_cells_a_draft_h0, .inl b_a_cells_a_draft_h0))]) (pl := fpo fad fn fd fcf) (lv' := [(0, .ref h0)]) [0, 1, 2, 3] [] 4 rfl rfl (by decide) [0] rfl ?_
      exact L_Rd_endBlocks_34 l D cI cB cJ cS h0 fad a_scanner_h0 a_draft_h0 a_waiting_h0 a_functions_h0 a_text_h0 a_cells_a_draft_h0 fn fd fcf mode_h0 levels_h0 signs_h0 loops_h0 token_h0 fault_h0 kind_t place_t width_t second_t parts_t innerParts_t innerPlace_t innerWidth_t signs_t waitingBelow_t limited_t targets_t lastBlock_t count_a_draft_h0 n_a_cells_a_draft_h0 b_a_cells_a_draft_h0 on_p od_p ocf_p ret o_0_7 o_0_8 o_0_9 o_0_10 o_1_2 o_1_3 o_1_4 o_1_5 o_1_6 o_1_7 o_1_8 o_1_9 o_1_10 o_1_11 o_1_12 o_1_13 o_1_14 o_2_1 on_nq_2_0 ob_nq_2_0 mc ms p e s m below meth c hr hnm fad fn fd fcf 0 0 mc ms h hC hS
    · replace h := it_t c43 h
      refine j_aload_n d_Rd_endBlocks_22 rfl 0 rfl ?_
      refine j_get ig_Rd rfl 0 rfl 5 (by decide) rfl m_174 rfl d_Rd_endBlocks_23 ?_
      refine j_get ig_Fr rfl 1 rfl 14 (by decide) rfl m_135 rfl d_Rd_endBlocks_26 ?_
      refine j_if_ne (tgt := 34) d_Rd_endBlocks_29 (by decide) (fun c44 => ?_) (fun c44 => ?_)
      · replace h := it_f c44 h
        refine j_subP (w := [(h0, .inr (2, [.ref a_scanner_h0, .ref a_draft_h0, .ref a_waiting_h0, .ref a_functions_h0, .ref (fad 0), .ref (fad fd), .ref a_text_h0, .int mode_h0, .int levels_h0, .int signs_h0, .int loops_h0, .int token_h0, .int fault_h0])), ((fad fd), .inr (0, [(frB fad fd), (frA fad fn fd), .int kind_t, .int place_t, .int width_t, .int second_t, .int parts_t, .int innerParts_t, .int innerPlace_t, .int innerWidth_t, .int signs_t, .int waitingBelow_t, .int limited_t, .int targets_t, .int lastBlock_t])), (a_draft_h0, .inr (1, [.ref a_cells_a_draft_h0, .int count_a_draft_h0])), (a_cells_a_draft_h0, .inl (cI, n_a_cells_a_draft_h0, .inl b_a_cells_a_draft_h0))]) (pl := fpo fad fn fd fcf) (lv' := [(0, .ref h0)]) [0, 1, 2, 3] [] 4 rfl rfl (by decide) [0] rfl ?_
        exact L_Rd_endBlocks_34 l D cI cB cJ cS h0 fad a_scanner_h0 a_draft_h0 a_waiting_h0 a_functions_h0 a_text_h0 a_cells_a_draft_h0 fn fd fcf mode_h0 levels_h0 signs_h0 loops_h0 token_h0 fault_h0 kind_t place_t width_t second_t parts_t innerParts_t innerPlace_t innerWidth_t signs_t waitingBelow_t limited_t targets_t lastBlock_t count_a_draft_h0 n_a_cells_a_draft_h0 b_a_cells_a_draft_h0 on_p od_p ocf_p ret o_0_7 o_0_8 o_0_9 o_0_10 o_1_2 o_1_3 o_1_4 o_1_5 o_1_6 o_1_7 o_1_8 o_1_9 o_1_10 o_1_11 o_1_12 o_1_13 o_1_14 o_2_1 on_nq_2_0 ob_nq_2_0 mc ms p e s m below meth c hr hnm fad fn fd fcf 0 0 mc ms h hC hS
      · replace h := it_t c44 h
        refine j_iconst (v := 0) d_Rd_endBlocks_32 (by decide) ?_
        replace h := lf_s h
        obtain ⟨h, e1, e2⟩ := h
        replace h := Prod.mk.inj h
        obtain ⟨h9, h⟩ := h
        subst h9
        replace h := Prod.mk.inj h
        obtain ⟨h9, h⟩ := h
        subst h9
        replace h := Prod.mk.inj h
        obtain ⟨h9, h⟩ := h
        subst h9
        replace h := Prod.mk.inj h
        obtain ⟨h9, h⟩ := h
        subst h9
        replace h := Prod.mk.inj h
        obtain ⟨h9, h⟩ := h
        subst h9
        replace h := Prod.mk.inj h
        obtain ⟨h9, h⟩ := h
        subst h9
        replace h := Prod.mk.inj h
        obtain ⟨h9, h⟩ := h
        subst h9
        replace h := Prod.mk.inj h
        obtain ⟨h9, h⟩ := h
        subst h9
        replace h := Prod.mk.inj h
        obtain ⟨h9, h⟩ := h
        subst h9
        replace h := Prod.mk.inj h
        obtain ⟨h9, h⟩ := h
        subst h9
        replace h := Prod.mk.inj h
        obtain ⟨h9, h⟩ := h
        subst h9
        replace h := Prod.mk.inj h
        obtain ⟨h9, h⟩ := h
        subst h9
        replace h := Prod.mk.inj h
        obtain ⟨h9, h⟩ := h
        subst h9
        replace h := Prod.mk.inj h
        obtain ⟨h9, h⟩ := h
        subst h9
        replace h := Prod.mk.inj h
        obtain ⟨h9, h⟩ := h
        subst h9
        replace h := Prod.mk.inj h
        obtain ⟨h9, h⟩ := h
        subst h9
        replace h := Prod.mk.inj h
        obtain ⟨h9, h⟩ := h
        subst h9
        replace h := Prod.mk.inj h
        obtain ⟨h9, h⟩ := h
        subst h9
        replace h := Prod.mk.inj h
        obtain ⟨h9, h⟩ := h
        subst h9
        replace h := Prod.mk.inj h
        obtain ⟨h9, h⟩ := h
        subst h9
        replace h := Prod.mk.inj h
        obtain ⟨h9, h⟩ := h
        subst h9
        replace h := Prod.mk.inj h
        obtain ⟨h9, h⟩ := h
        subst h9
        replace h := Prod.mk.inj h
        obtain ⟨h9, h⟩ := h
        subst h9
        subst h
        refine j_widen (cl' := mc) (sl' := ms) (by omega) (by omega) ?_
        refine j_subP (w := [(h0, .inr (2, [.ref a_scanner_h0, .ref a_draft_h0, .ref a_waiting_h0, .ref a_functions_h0, .ref (fad 0), .ref (fad fd), .ref a_text_h0, .int mode_h0, .int levels_h0, .int signs_h0, .int loops_h0, .int token_h0, .int fault_h0])), ((fad fd), .inr (0, [(frB fad fd), (frA fad fn fd), .int kind_t, .int place_t, .int width_t, .int second_t, .int parts_t, .int innerParts_t, .int innerPlace_t, .int innerWidth_t, .int signs_t, .int waitingBelow_t, .int limited_t, .int targets_t, .int lastBlock_t])), (a_draft_h0, .inr (1, [.ref a_cells_a_draft_h0, .int count_a_draft_h0])), (a_cells_a_draft_h0, .inl (cI, n_a_cells_a_draft_h0, .inl b_a_cells_a_draft_h0))]) (pl := fpo fad fn fd fcf) (lv' := []) [0, 1, 2, 3] [] 4 rfl rfl (by decide) [] rfl ?_
        exact j_zretE hr (zb_n zb0) d_Rd_endBlocks_33 ⟨fad, a_cells_a_draft_h0, rfl, zb0, rfl⟩
noncomputable def F_Rd_nameFunction_2 (mode_h0 : Int32) (levels_h0 : Int32) (signs_h0 : Int32) (loops_h0 : Int32) (token_h0 : Int32) (fault_h0 : Int32) (count_a_functions_h0 : Int32) (kind_a_top_h0 : Int32) (place_a_top_h0 : Int32) (width_a_top_h0 : Int32) (second_a_top_h0 : Int32) (parts_a_top_h0 : Int32) (innerParts_a_top_h0 : Int32) (innerPlace_a_top_h0 : Int32) (innerWidth_a_top_h0 : Int32) (signs_a_top_h0 : Int32) (waitingBelow_a_top_h0 : Int32) (limited_a_top_h0 : Int32) (targets_a_top_h0 : Int32) (lastBlock_a_top_h0 : Int32) (n_a_cells_a_functions_h0 : Nat) (b_a_cells_a_functions_h0 : Nat → Int32) (count_a_draft_h0 : Int32) (n_a_cells_a_draft_h0 : Nat) (b_a_cells_a_draft_h0 : Nat → Int32) (size_a_text_h0 : Int32) (n_a_bytes_a_text_h0 : Nat) (b_a_bytes_a_text_h0 : Nat → Int32) : Nat → Int32 → Option ((Int32 × Int32 × Int32 × Int32 × Int32 × Nat × (Nat → Int32) × Nat × (Nat → Int32)) × Nat × Nat)
  | 0, _ => none
  | k_2 + 1, v1_2 =>
    if count_a_functions_h0 ≤ v1_2 then (bw (F_Tk_add 10 second_a_top_h0 width_a_top_h0 count_a_functions_h0 n_a_cells_a_functions_h0 b_a_cells_a_functions_h0) fun ⟨r3, r4, r5⟩ =>
      bw (F_Rd_endNames second_a_top_h0 mode_h0 levels_h0 signs_h0 loops_h0 token_h0 fault_h0 kind_a_top_h0 place_a_top_h0 width_a_top_h0 second_a_top_h0 parts_a_top_h0 innerParts_a_top_h0 innerPlace_a_top_h0 innerWidth_a_top_h0 signs_a_top_h0 waitingBelow_a_top_h0 limited_a_top_h0 targets_a_top_h0 lastBlock_a_top_h0 count_a_draft_h0 n_a_cells_a_draft_h0 b_a_cells_a_draft_h0) fun ⟨r12, r13, r14⟩ =>
      (some ((1, r3, parts_a_top_h0 + 1, 0, r12, r4, r5, r13, r14), 0, 0)))
    else (Option.bind (F_Tk_get v1_2 3 count_a_functions_h0 n_a_cells_a_functions_h0 b_a_cells_a_functions_h0) fun r21 =>
      if r21 = width_a_top_h0 then (Option.bind (F_Tk_get v1_2 1 count_a_functions_h0 n_a_cells_a_functions_h0 b_a_cells_a_functions_h0) fun r24 =>
        Option.bind (F_Rw_same r24 second_a_top_h0 width_a_top_h0 size_a_text_h0 n_a_bytes_a_text_h0 b_a_bytes_a_text_h0) fun r26 =>
        if r26 = 0 then (F_Rd_nameFunction_2 mode_h0 levels_h0 signs_h0 loops_h0 token_h0 fault_h0 count_a_functions_h0 kind_a_top_h0 place_a_top_h0 width_a_top_h0 second_a_top_h0 parts_a_top_h0 innerParts_a_top_h0 innerPlace_a_top_h0 innerWidth_a_top_h0 signs_a_top_h0 waitingBelow_a_top_h0 limited_a_top_h0 targets_a_top_h0 lastBlock_a_top_h0 n_a_cells_a_functions_h0 b_a_cells_a_functions_h0 count_a_draft_h0 n_a_cells_a_draft_h0 b_a_cells_a_draft_h0 size_a_text_h0 n_a_bytes_a_text_h0 b_a_bytes_a_text_h0  k_2 (v1_2 + 1))
        else (some ((0, count_a_functions_h0, parts_a_top_h0, innerParts_a_top_h0, count_a_draft_h0, n_a_cells_a_functions_h0, b_a_cells_a_functions_h0, n_a_cells_a_draft_h0, b_a_cells_a_draft_h0), 0, 0)))
      else (F_Rd_nameFunction_2 mode_h0 levels_h0 signs_h0 loops_h0 token_h0 fault_h0 count_a_functions_h0 kind_a_top_h0 place_a_top_h0 width_a_top_h0 second_a_top_h0 parts_a_top_h0 innerParts_a_top_h0 innerPlace_a_top_h0 innerWidth_a_top_h0 signs_a_top_h0 waitingBelow_a_top_h0 limited_a_top_h0 targets_a_top_h0 lastBlock_a_top_h0 n_a_cells_a_functions_h0 b_a_cells_a_functions_h0 count_a_draft_h0 n_a_cells_a_draft_h0 b_a_cells_a_draft_h0 size_a_text_h0 n_a_bytes_a_text_h0 b_a_bytes_a_text_h0  k_2 (v1_2 + 1)))
noncomputable def F_Rd_nameFunction (mode_h0 : Int32) (levels_h0 : Int32) (signs_h0 : Int32) (loops_h0 : Int32) (token_h0 : Int32) (fault_h0 : Int32) (count_a_functions_h0 : Int32) (kind_a_top_h0 : Int32) (place_a_top_h0 : Int32) (width_a_top_h0 : Int32) (second_a_top_h0 : Int32) (parts_a_top_h0 : Int32) (innerParts_a_top_h0 : Int32) (innerPlace_a_top_h0 : Int32) (innerWidth_a_top_h0 : Int32) (signs_a_top_h0 : Int32) (waitingBelow_a_top_h0 : Int32) (limited_a_top_h0 : Int32) (targets_a_top_h0 : Int32) (lastBlock_a_top_h0 : Int32) (n_a_cells_a_functions_h0 : Nat) (b_a_cells_a_functions_h0 : Nat → Int32) (count_a_draft_h0 : Int32) (n_a_cells_a_draft_h0 : Nat) (b_a_cells_a_draft_h0 : Nat → Int32) (size_a_text_h0 : Int32) (n_a_bytes_a_text_h0 : Nat) (b_a_bytes_a_text_h0 : Nat → Int32) : Option ((Int32 × Int32 × Int32 × Int32 × Int32 × Nat × (Nat → Int32) × Nat × (Nat → Int32)) × Nat × Nat) :=
  F_Rd_nameFunction_2 mode_h0 levels_h0 signs_h0 loops_h0 token_h0 fault_h0 count_a_functions_h0 kind_a_top_h0 place_a_top_h0 width_a_top_h0 second_a_top_h0 parts_a_top_h0 innerParts_a_top_h0 innerPlace_a_top_h0 innerWidth_a_top_h0 signs_a_top_h0 waitingBelow_a_top_h0 limited_a_top_h0 targets_a_top_h0 lastBlock_a_top_h0 n_a_cells_a_functions_h0 b_a_cells_a_functions_h0 count_a_draft_h0 n_a_cells_a_draft_h0 b_a_cells_a_draft_h0 size_a_text_h0 n_a_bytes_a_text_h0 b_a_bytes_a_text_h0  FU 0
theorem d_Rd_nameFunction_0 : decode prog_6_method_30_code 0 = .ok (.iconst 0, 1) := by decide +kernel
theorem d_Rd_nameFunction_1 : decode prog_6_method_30_code 1 = .ok (.istore_n 1, 1) := by decide +kernel
theorem d_Rd_nameFunction_2 : decode prog_6_method_30_code 2 = .ok (.iload_n 1, 1) := by decide +kernel
theorem d_Rd_nameFunction_3 : decode prog_6_method_30_code 3 = .ok (.aload_n 0, 1) := by decide +kernel
theorem d_Rd_nameFunction_4 : decode prog_6_method_30_code 4 = .ok (.getfield 34, 3) := by decide +kernel
theorem d_Rd_nameFunction_7 : decode prog_6_method_30_code 7 = .ok (.invokevirtual 137, 3) := by decide +kernel
theorem d_Rd_nameFunction_10 : decode prog_6_method_30_code 10 = .ok (.if_icmp .ge 63, 3) := by decide +kernel
theorem d_Rd_nameFunction_13 : decode prog_6_method_30_code 13 = .ok (.aload_n 0, 1) := by decide +kernel
theorem d_Rd_nameFunction_14 : decode prog_6_method_30_code 14 = .ok (.getfield 34, 3) := by decide +kernel
theorem d_Rd_nameFunction_17 : decode prog_6_method_30_code 17 = .ok (.iload_n 1, 1) := by decide +kernel
theorem d_Rd_nameFunction_18 : decode prog_6_method_30_code 18 = .ok (.iconst 3, 1) := by decide +kernel
theorem d_Rd_nameFunction_19 : decode prog_6_method_30_code 19 = .ok (.invokevirtual 262, 3) := by decide +kernel
theorem d_Rd_nameFunction_22 : decode prog_6_method_30_code 22 = .ok (.aload_n 0, 1) := by decide +kernel
theorem d_Rd_nameFunction_23 : decode prog_6_method_30_code 23 = .ok (.getfield 46, 3) := by decide +kernel
theorem d_Rd_nameFunction_26 : decode prog_6_method_30_code 26 = .ok (.getfield 230, 3) := by decide +kernel
theorem d_Rd_nameFunction_29 : decode prog_6_method_30_code 29 = .ok (.if_icmp .ne 38, 3) := by decide +kernel
theorem d_Rd_nameFunction_32 : decode prog_6_method_30_code 32 = .ok (.aload_n 0, 1) := by decide +kernel
theorem d_Rd_nameFunction_33 : decode prog_6_method_30_code 33 = .ok (.getfield 52, 3) := by decide +kernel
theorem d_Rd_nameFunction_36 : decode prog_6_method_30_code 36 = .ok (.aload_n 0, 1) := by decide +kernel
theorem d_Rd_nameFunction_37 : decode prog_6_method_30_code 37 = .ok (.getfield 34, 3) := by decide +kernel
theorem d_Rd_nameFunction_40 : decode prog_6_method_30_code 40 = .ok (.iload_n 1, 1) := by decide +kernel
theorem d_Rd_nameFunction_41 : decode prog_6_method_30_code 41 = .ok (.iconst 1, 1) := by decide +kernel
theorem d_Rd_nameFunction_42 : decode prog_6_method_30_code 42 = .ok (.invokevirtual 262, 3) := by decide +kernel
theorem d_Rd_nameFunction_45 : decode prog_6_method_30_code 45 = .ok (.aload_n 0, 1) := by decide +kernel
theorem d_Rd_nameFunction_46 : decode prog_6_method_30_code 46 = .ok (.getfield 46, 3) := by decide +kernel
theorem d_Rd_nameFunction_49 : decode prog_6_method_30_code 49 = .ok (.getfield 259, 3) := by decide +kernel
theorem d_Rd_nameFunction_52 : decode prog_6_method_30_code 52 = .ok (.aload_n 0, 1) := by decide +kernel
theorem d_Rd_nameFunction_53 : decode prog_6_method_30_code 53 = .ok (.getfield 46, 3) := by decide +kernel
theorem d_Rd_nameFunction_56 : decode prog_6_method_30_code 56 = .ok (.getfield 230, 3) := by decide +kernel
theorem d_Rd_nameFunction_59 : decode prog_6_method_30_code 59 = .ok (.invokevirtual 266, 3) := by decide +kernel
theorem d_Rd_nameFunction_62 : decode prog_6_method_30_code 62 = .ok (.ifCond .eq 5, 3) := by decide +kernel
theorem d_Rd_nameFunction_65 : decode prog_6_method_30_code 65 = .ok (.iconst 0, 1) := by decide +kernel
theorem d_Rd_nameFunction_66 : decode prog_6_method_30_code 66 = .ok (.ireturn, 1) := by decide +kernel
theorem d_Rd_nameFunction_67 : decode prog_6_method_30_code 67 = .ok (.iinc 1 1, 3) := by decide +kernel
theorem d_Rd_nameFunction_70 : decode prog_6_method_30_code 70 = .ok (.goto (-68), 3) := by decide +kernel
theorem d_Rd_nameFunction_73 : decode prog_6_method_30_code 73 = .ok (.aload_n 0, 1) := by decide +kernel
theorem d_Rd_nameFunction_74 : decode prog_6_method_30_code 74 = .ok (.getfield 34, 3) := by decide +kernel
theorem d_Rd_nameFunction_77 : decode prog_6_method_30_code 77 = .ok (.bipush 10, 2) := by decide +kernel
theorem d_Rd_nameFunction_79 : decode prog_6_method_30_code 79 = .ok (.aload_n 0, 1) := by decide +kernel
theorem d_Rd_nameFunction_80 : decode prog_6_method_30_code 80 = .ok (.getfield 46, 3) := by decide +kernel
theorem d_Rd_nameFunction_83 : decode prog_6_method_30_code 83 = .ok (.getfield 259, 3) := by decide +kernel
theorem d_Rd_nameFunction_86 : decode prog_6_method_30_code 86 = .ok (.aload_n 0, 1) := by decide +kernel
theorem d_Rd_nameFunction_87 : decode prog_6_method_30_code 87 = .ok (.getfield 46, 3) := by decide +kernel
theorem d_Rd_nameFunction_90 : decode prog_6_method_30_code 90 = .ok (.getfield 230, 3) := by decide +kernel
theorem d_Rd_nameFunction_93 : decode prog_6_method_30_code 93 = .ok (.invokevirtual 270, 3) := by decide +kernel
theorem d_Rd_nameFunction_96 : decode prog_6_method_30_code 96 = .ok (.aload_n 0, 1) := by decide +kernel
theorem d_Rd_nameFunction_97 : decode prog_6_method_30_code 97 = .ok (.aload_n 0, 1) := by decide +kernel
theorem d_Rd_nameFunction_98 : decode prog_6_method_30_code 98 = .ok (.getfield 46, 3) := by decide +kernel
theorem d_Rd_nameFunction_101 : decode prog_6_method_30_code 101 = .ok (.getfield 259, 3) := by decide +kernel
theorem d_Rd_nameFunction_104 : decode prog_6_method_30_code 104 = .ok (.invokevirtual 272, 3) := by decide +kernel
theorem d_Rd_nameFunction_107 : decode prog_6_method_30_code 107 = .ok (.iconst 1, 1) := by decide +kernel
theorem d_Rd_nameFunction_108 : decode prog_6_method_30_code 108 = .ok (.ireturn, 1) := by decide +kernel
set_option maxHeartbeats 4000000 in
set_option maxRecDepth 100000 in
theorem L_Rd_nameFunction_2 (l : Launch) (D : va_G) (cI cB cJ cS : ClassId) (h0 : Nat) (a_scanner_h0 : Nat) (a_draft_h0 : Nat) (a_waiting_h0 : Nat) (a_functions_h0 : Nat) (a_bottom_h0 : Nat) (a_top_h0 : Nat) (a_text_h0 : Nat) (a_cells_a_functions_h0 : Nat) (V_below_a_top_h0 : Value) (V_above_a_top_h0 : Value) (a_cells_a_draft_h0 : Nat) (a_bytes_a_text_h0 : Nat) (mode_h0 : Int32) (levels_h0 : Int32) (signs_h0 : Int32) (loops_h0 : Int32) (token_h0 : Int32) (fault_h0 : Int32) (count_a_functions_h0 : Int32) (kind_a_top_h0 : Int32) (place_a_top_h0 : Int32) (width_a_top_h0 : Int32) (second_a_top_h0 : Int32) (parts_a_top_h0 : Int32) (innerParts_a_top_h0 : Int32) (innerPlace_a_top_h0 : Int32) (innerWidth_a_top_h0 : Int32) (signs_a_top_h0 : Int32) (waitingBelow_a_top_h0 : Int32) (limited_a_top_h0 : Int32) (targets_a_top_h0 : Int32) (lastBlock_a_top_h0 : Int32) (n_a_cells_a_functions_h0 : Nat) (b_a_cells_a_functions_h0 : Nat → Int32) (count_a_draft_h0 : Int32) (n_a_cells_a_draft_h0 : Nat) (b_a_cells_a_draft_h0 : Nat → Int32) (size_a_text_h0 : Int32) (n_a_bytes_a_text_h0 : Nat) (b_a_bytes_a_text_h0 : Nat → Int32) (ret : Int32) (o_1_1 : Int32) (o_2_6 : Int32) (o_2_7 : Int32) (o_4_1 : Int32) (on_nq_1_0 : Nat) (ob_nq_1_0 : Nat → Int32) (on_nq_4_0 : Nat) (ob_nq_4_0 : Nat → Int32) (mc ms : Nat) (p : Program) (e : Env) (s : State) (m : MethodId) (below : List Frame) (meth : Method) (c : Code) (hr : meth.sig.returnType = (Option.some Jvm.ClassFile.FieldType.boolean)) (hnm : meth.name = y_Rd_nameFunction.name) : ∀ (k_2 : Nat) (v1_2 : Int32) (cl_2 sl_2 C_2 S_2 : Nat), F_Rd_nameFunction_2 mode_h0 levels_h0 signs_h0 loops_h0 token_h0 fault_h0 count_a_functions_h0 kind_a_top_h0 place_a_top_h0 width_a_top_h0 second_a_top_h0 parts_a_top_h0 innerParts_a_top_h0 innerPlace_a_top_h0 innerWidth_a_top_h0 signs_a_top_h0 waitingBelow_a_top_h0 limited_a_top_h0 targets_a_top_h0 lastBlock_a_top_h0 n_a_cells_a_functions_h0 b_a_cells_a_functions_h0 count_a_draft_h0 n_a_cells_a_draft_h0 b_a_cells_a_draft_h0 size_a_text_h0 n_a_bytes_a_text_h0 b_a_bytes_a_text_h0  k_2 v1_2 = some ((ret, o_1_1, o_2_6, o_2_7, o_4_1, on_nq_1_0, ob_nq_1_0, on_nq_4_0, ob_nq_4_0), C_2, S_2) → cl_2 + C_2 ≤ mc → sl_2 + S_2 ≤ ms → J (KxOf p l e { frames := 4, cells := mc, slots := ms, locals := 131 } s m [.ref h0].toArray below meth c D (gT cI cB cJ cS) [(h0, .inr (2, [.ref a_scanner_h0, .ref a_draft_h0, .ref a_waiting_h0, .ref a_functions_h0, .ref a_bottom_h0, .ref a_top_h0, .ref a_text_h0, .int mode_h0, .int levels_h0, .int signs_h0, .int loops_h0, .int token_h0, .int fault_h0])), (a_functions_h0, .inr (5, [.ref a_cells_a_functions_h0, .int count_a_functions_h0])), (a_top_h0, .inr (0, [V_below_a_top_h0, V_above_a_top_h0, .int kind_a_top_h0, .int place_a_top_h0, .int width_a_top_h0, .int second_a_top_h0, .int parts_a_top_h0, .int innerParts_a_top_h0, .int innerPlace_a_top_h0, .int innerWidth_a_top_h0, .int signs_a_top_h0, .int waitingBelow_a_top_h0, .int limited_a_top_h0, .int targets_a_top_h0, .int lastBlock_a_top_h0])), (a_cells_a_functions_h0, .inl (cI, n_a_cells_a_functions_h0, .inl b_a_cells_a_functions_h0)), (a_draft_h0, .inr (1, [.ref a_cells_a_draft_h0, .int count_a_draft_h0])), (a_cells_a_draft_h0, .inl (cI, n_a_cells_a_draft_h0, .inl b_a_cells_a_draft_h0)), (a_text_h0, .inr (3, [.ref a_bytes_a_text_h0, .int size_a_text_h0])), (a_bytes_a_text_h0, .inl (cB, n_a_bytes_a_text_h0, .inl b_a_bytes_a_text_h0))] (fun v w => ∃ nq_1_0 : Nat, ∃ nq_4_0 : Nat, v = some (.int ret) ∧ zb ret ∧ w = [(h0, .inr (2, [.ref a_scanner_h0, .ref a_draft_h0, .ref a_waiting_h0, .ref a_functions_h0, .ref a_bottom_h0, .ref a_top_h0, .ref a_text_h0, .int mode_h0, .int levels_h0, .int signs_h0, .int loops_h0, .int token_h0, .int fault_h0])), (a_functions_h0, .inr (5, [.ref nq_1_0, .int o_1_1])), (a_top_h0, .inr (0, [V_below_a_top_h0, V_above_a_top_h0, .int kind_a_top_h0, .int place_a_top_h0, .int width_a_top_h0, .int second_a_top_h0, .int o_2_6, .int o_2_7, .int innerPlace_a_top_h0, .int innerWidth_a_top_h0, .int signs_a_top_h0, .int waitingBelow_a_top_h0, .int limited_a_top_h0, .int targets_a_top_h0, .int lastBlock_a_top_h0])), (a_draft_h0, .inr (1, [.ref nq_4_0, .int o_4_1])), (a_text_h0, .inr (3, [.ref a_bytes_a_text_h0, .int size_a_text_h0])), (a_bytes_a_text_h0, .inl (cB, n_a_bytes_a_text_h0, .inl b_a_bytes_a_text_h0)), (nq_1_0, .inl (cI, on_nq_1_0, .inl ob_nq_1_0)), (nq_4_0, .inl (cI, on_nq_4_0, .inl ob_nq_4_0))]) mc ms) prog_6_method_30_code 2 R_Rd 2 [(1, .int v1_2), (0, .ref h0)] [] [(h0, .inr (2, [.ref a_scanner_h0, .ref a_draft_h0, .ref a_waiting_h0, .ref a_functions_h0, .ref a_bottom_h0, .ref a_top_h0, .ref a_text_h0, .int mode_h0, .int levels_h0, .int signs_h0, .int loops_h0, .int token_h0, .int fault_h0])), (a_functions_h0, .inr (5, [.ref a_cells_a_functions_h0, .int count_a_functions_h0])), (a_top_h0, .inr (0, [V_below_a_top_h0, V_above_a_top_h0, .int kind_a_top_h0, .int place_a_top_h0, .int width_a_top_h0, .int second_a_top_h0, .int parts_a_top_h0, .int innerParts_a_top_h0, .int innerPlace_a_top_h0, .int innerWidth_a_top_h0, .int signs_a_top_h0, .int waitingBelow_a_top_h0, .int limited_a_top_h0, .int targets_a_top_h0, .int lastBlock_a_top_h0])), (a_cells_a_functions_h0, .inl (cI, n_a_cells_a_functions_h0, .inl b_a_cells_a_functions_h0)), (a_draft_h0, .inr (1, [.ref a_cells_a_draft_h0, .int count_a_draft_h0])), (a_cells_a_draft_h0, .inl (cI, n_a_cells_a_draft_h0, .inl b_a_cells_a_draft_h0)), (a_text_h0, .inr (3, [.ref a_bytes_a_text_h0, .int size_a_text_h0])), (a_bytes_a_text_h0, .inl (cB, n_a_bytes_a_text_h0, .inl b_a_bytes_a_text_h0))] cl_2 sl_2 := by
  intro k_2
  induction k_2 with
  | zero => intro v1_2 cl_2 sl_2 C_2 S_2 h; rw [F_Rd_nameFunction_2] at h; cases h
  | succ k_2 ih_2 =>
    intro v1_2 cl_2 sl_2 C_2 S_2 h hC hS
    rw [F_Rd_nameFunction_2] at h
    refine j_iload_n d_Rd_nameFunction_2 rfl 0 rfl ?_
    refine j_aload_n d_Rd_nameFunction_3 rfl 1 rfl ?_
    refine j_get ig_Rd rfl 0 rfl 3 (by decide) rfl m_172 rfl d_Rd_nameFunction_4 ?_
    refine j_callV (n := 0) (As := []) (rest := [.int v1_2]) (wr := [(h0, .inr (2, [.ref a_scanner_h0, .ref a_draft_h0, .ref a_waiting_h0, .ref a_functions_h0, .ref a_bottom_h0, .ref a_top_h0, .ref a_text_h0, .int mode_h0, .int levels_h0, .int signs_h0, .int loops_h0, .int token_h0, .int fault_h0])), (a_top_h0, .inr (0, [V_below_a_top_h0, V_above_a_top_h0, .int kind_a_top_h0, .int place_a_top_h0, .int width_a_top_h0, .int second_a_top_h0, .int parts_a_top_h0, .int innerParts_a_top_h0, .int innerPlace_a_top_h0, .int innerWidth_a_top_h0, .int signs_a_top_h0, .int waitingBelow_a_top_h0, .int limited_a_top_h0, .int targets_a_top_h0, .int lastBlock_a_top_h0])), (a_cells_a_functions_h0, .inl (cI, n_a_cells_a_functions_h0, .inl b_a_cells_a_functions_h0)), (a_draft_h0, .inr (1, [.ref a_cells_a_draft_h0, .int count_a_draft_h0])), (a_cells_a_draft_h0, .inl (cI, n_a_cells_a_draft_h0, .inl b_a_cells_a_draft_h0)), (a_text_h0, .inr (3, [.ref a_bytes_a_text_h0, .int size_a_text_h0])), (a_bytes_a_text_h0, .inl (cB, n_a_bytes_a_text_h0, .inl b_a_bytes_a_text_h0))]) (c_Tk_count l D cI cB cJ cS a_functions_h0 a_cells_a_functions_h0 count_a_functions_h0  ) k_Rd_137 (by decide) ⟨Nat.le_of_ble_eq_true rfl, Nat.le_of_ble_eq_true rfl⟩ rfl 0 rfl [1] [0, 2, 3, 4, 5, 6, 7] rfl (by decide) rfl (by decide) (by decide) rfl rfl (Nat.le_of_ble_eq_true rfl) d_Rd_nameFunction_7 ⟨show cl_2 + 0 ≤ mc by omega, show sl_2 + 0 ≤ ms by omega⟩ (fun v w hq => ?_)
    obtain ⟨rfl, rfl⟩ := hq
    refine j_norm (pc' := 10) (st' := [.int count_a_functions_h0, .int v1_2]) (ws' := [(h0, .inr (2, [.ref a_scanner_h0, .ref a_draft_h0, .ref a_waiting_h0, .ref a_functions_h0, .ref a_bottom_h0, .ref a_top_h0, .ref a_text_h0, .int mode_h0, .int levels_h0, .int signs_h0, .int loops_h0, .int token_h0, .int fault_h0])), (a_top_h0, .inr (0, [V_below_a_top_h0, V_above_a_top_h0, .int kind_a_top_h0, .int place_a_top_h0, .int width_a_top_h0, .int second_a_top_h0, .int parts_a_top_h0, .int innerParts_a_top_h0, .int innerPlace_a_top_h0, .int innerWidth_a_top_h0, .int signs_a_top_h0, .int waitingBelow_a_top_h0, .int limited_a_top_h0, .int targets_a_top_h0, .int lastBlock_a_top_h0])), (a_cells_a_functions_h0, .inl (cI, n_a_cells_a_functions_h0, .inl b_a_cells_a_functions_h0)), (a_draft_h0, .inr (1, [.ref a_cells_a_draft_h0, .int count_a_draft_h0])), (a_cells_a_draft_h0, .inl (cI, n_a_cells_a_draft_h0, .inl b_a_cells_a_draft_h0)), (a_text_h0, .inr (3, [.ref a_bytes_a_text_h0, .int size_a_text_h0])), (a_bytes_a_text_h0, .inl (cB, n_a_bytes_a_text_h0, .inl b_a_bytes_a_text_h0)), (a_functions_h0, .inr (5, [.ref a_cells_a_functions_h0, .int count_a_functions_h0]))]) (cl' := cl_2) (sl' := sl_2) rfl rfl rfl rfl rfl rfl ?_
    refine j_icmp_ge (tgt := 73) d_Rd_nameFunction_10 (by decide) (fun c2 => ?_) (fun c2 => ?_)
    · replace h := it_t c2 h
      refine j_aload_n d_Rd_nameFunction_73 rfl 1 rfl ?_
      refine j_get ig_Rd rfl 0 rfl 3 (by decide) rfl m_172 rfl d_Rd_nameFunction_74 ?_
      refine j_bipush (v := 10) d_Rd_nameFunction_77 (by decide) ?_
      refine j_aload_n d_Rd_nameFunction_79 rfl 1 rfl ?_
      refine j_get ig_Rd rfl 0 rfl 5 (by decide) rfl m_174 rfl d_Rd_nameFunction_80 ?_
      refine j_get ig_Fr rfl 1 rfl 5 (by decide) rfl m_117 rfl d_Rd_nameFunction_83 ?_
      refine j_aload_n d_Rd_nameFunction_86 rfl 1 rfl ?_
      refine j_get ig_Rd rfl 0 rfl 5 (by decide) rfl m_174 rfl d_Rd_nameFunction_87 ?_
      refine j_get ig_Fr rfl 1 rfl 4 (by decide) rfl m_115 rfl d_Rd_nameFunction_90 ?_
      replace h := bw_s h
      obtain ⟨⟨r3, r4, r5⟩, C7, S8, C9, S10, k11, h, e1, e2⟩ := h
      replace hC : cl_2 + C7 + C9 ≤ mc := by omega
      replace hS : sl_2 + S8 + S10 ≤ ms := by omega
      clear e1 e2
      refine j_callV (n := 3) (As := [.int 10, .int second_a_top_h0, .int width_a_top_h0]) (rest := []) (wr := [(h0, .inr (2, [.ref a_scanner_h0, .ref a_draft_h0, .ref a_waiting_h0, .ref a_functions_h0, .ref a_bottom_h0, .ref a_top_h0, .ref a_text_h0, .int mode_h0, .int levels_h0, .int signs_h0, .int loops_h0, .int token_h0, .int fault_h0])), (a_top_h0, .inr (0, [V_below_a_top_h0, V_above_a_top_h0, .int kind_a_top_h0, .int place_a_top_h0, .int width_a_top_h0, .int second_a_top_h0, .int parts_a_top_h0, .int innerParts_a_top_h0, .int innerPlace_a_top_h0, .int innerWidth_a_top_h0, .int signs_a_top_h0, .int waitingBelow_a_top_h0, .int limited_a_top_h0, .int targets_a_top_h0, .int lastBlock_a_top_h0])), (a_draft_h0, .inr (1, [.ref a_cells_a_draft_h0, .int count_a_draft_h0])), (a_cells_a_draft_h0, .inl (cI, n_a_cells_a_draft_h0, .inl b_a_cells_a_draft_h0)), (a_text_h0, .inr (3, [.ref a_bytes_a_text_h0, .int size_a_text_h0])), (a_bytes_a_text_h0, .inl (cB, n_a_bytes_a_text_h0, .inl b_a_bytes_a_text_h0))]) (c_Tk_add l D cI cB cJ cS a_functions_h0 a_cells_a_functions_h0 10 second_a_top_h0 width_a_top_h0 count_a_functions_h0 n_a_cells_a_functions_h0 b_a_cells_a_functions_h0  r3 r4 r5 C7 S8 k11) k_Rd_270 (by decide) ⟨Nat.le_of_ble_eq_true rfl, Nat.le_of_ble_eq_true rfl⟩ rfl 0 rfl [7, 2] [0, 1, 3, 4, 5, 6] rfl (by decide) rfl (by decide) (by decide) rfl rfl (Nat.le_of_ble_eq_true rfl) d_Rd_nameFunction_93 ⟨show cl_2 + C7 ≤ mc by omega, show sl_2 + S8 ≤ ms by omega⟩ (fun v w hq => ?_)
      obtain ⟨q6, rfl, rfl⟩ := hq
      refine j_norm (pc' := 96) (st' := []) (ws' := [(h0, .inr (2, [.ref a_scanner_h0, .ref a_draft_h0, .ref a_waiting_h0, .ref a_functions_h0, .ref a_bottom_h0, .ref a_top_h0, .ref a_text_h0, .int mode_h0, .int levels_h0, .int signs_h0, .int loops_h0, .int token_h0, .int fault_h0])), (a_top_h0, .inr (0, [V_below_a_top_h0, V_above_a_top_h0, .int kind_a_top_h0, .int place_a_top_h0, .int width_a_top_h0, .int second_a_top_h0, .int parts_a_top_h0, .int innerParts_a_top_h0, .int innerPlace_a_top_h0, .int innerWidth_a_top_h0, .int signs_a_top_h0, .int waitingBelow_a_top_h0, .int limited_a_top_h0, .int targets_a_top_h0, .int lastBlock_a_top_h0])), (a_draft_h0, .inr (1, [.ref a_cells_a_draft_h0, .int count_a_draft_h0])), (a_cells_a_draft_h0, .inl (cI, n_a_cells_a_draft_h0, .inl b_a_cells_a_draft_h0)), (a_text_h0, .inr (3, [.ref a_bytes_a_text_h0, .int size_a_text_h0])), (a_bytes_a_text_h0, .inl (cB, n_a_bytes_a_text_h0, .inl b_a_bytes_a_text_h0)), (a_functions_h0, .inr (5, [.ref q6, .int r3])), (q6, .inl (cI, r4, .inl r5))]) (cl' := cl_2 + C7) (sl' := sl_2 + S8) rfl rfl rfl rfl rfl rfl ?_
      refine j_aload_n d_Rd_nameFunction_96 rfl 1 rfl ?_
      refine j_aload_n d_Rd_nameFunction_97 rfl 1 rfl ?_
      refine j_get ig_Rd rfl 0 rfl 5 (by decide) rfl m_174 rfl d_Rd_nameFunction_98 ?_
      refine j_get ig_Fr rfl 1 rfl 5 (by decide) rfl m_117 rfl d_Rd_nameFunction_101 ?_
      replace h := bw_s h
      obtain ⟨⟨r12, r13, r14⟩, C16, S17, C18, S19, k20, h, e1, e2⟩ := h
      replace hC : cl_2 + C7 + C16 + C18 ≤ mc := by omega
      replace hS : sl_2 + S8 + S17 + S19 ≤ ms := by omega
      clear e1 e2
      refine j_callV (n := 1) (As := [.int second_a_top_h0]) (rest := []) (wr := [(a_text_h0, .inr (3, [.ref a_bytes_a_text_h0, .int size_a_text_h0])), (a_bytes_a_text_h0, .inl (cB, n_a_bytes_a_text_h0, .inl b_a_bytes_a_text_h0)), (a_functions_h0, .inr (5, [.ref q6, .int r3])), (q6, .inl (cI, r4, .inl r5))]) (c_Rd_endNames l D cI cB cJ cS h0 a_scanner_h0 a_draft_h0 a_waiting_h0 a_functions_h0 a_bottom_h0 a_top_h0 a_text_h0 V_below_a_top_h0 V_above_a_top_h0 a_cells_a_draft_h0 second_a_top_h0 mode_h0 levels_h0 signs_h0 loops_h0 token_h0 fault_h0 kind_a_top_h0 place_a_top_h0 width_a_top_h0 second_a_top_h0 parts_a_top_h0 innerParts_a_top_h0 innerPlace_a_top_h0 innerWidth_a_top_h0 signs_a_top_h0 waitingBelow_a_top_h0 limited_a_top_h0 targets_a_top_h0 lastBlock_a_top_h0 count_a_draft_h0 n_a_cells_a_draft_h0 b_a_cells_a_draft_h0  r12 r13 r14 C16 S17 k20) k_Rd_272 (by decide) ⟨Nat.le_of_ble_eq_true rfl, Nat.le_of_ble_eq_true rfl⟩ rfl 0 rfl [0, 1, 2, 3] [4, 5, 6, 7] rfl (by decide) rfl (by decide) (by decide) rfl rfl (Nat.le_of_ble_eq_true rfl) d_Rd_nameFunction_104 ⟨show cl_2 + C7 + C16 ≤ mc by omega, show sl_2 + S8 + S17 ≤ ms by omega⟩ (fun v w hq => ?_)
      obtain ⟨q15, rfl, rfl⟩ := hq
      refine j_norm (pc' := 107) (st' := []) (ws' := [(a_text_h0, .inr (3, [.ref a_bytes_a_text_h0, .int size_a_text_h0])), (a_bytes_a_text_h0, .inl (cB, n_a_bytes_a_text_h0, .inl b_a_bytes_a_text_h0)), (a_functions_h0, .inr (5, [.ref q6, .int r3])), (q6, .inl (cI, r4, .inl r5)), (h0, .inr (2, [.ref a_scanner_h0, .ref a_draft_h0, .ref a_waiting_h0, .ref a_functions_h0, .ref a_bottom_h0, .ref a_top_h0, .ref a_text_h0, .int mode_h0, .int levels_h0, .int signs_h0, .int loops_h0, .int token_h0, .int fault_h0])), (a_top_h0, .inr (0, [V_below_a_top_h0, V_above_a_top_h0, .int kind_a_top_h0, .int place_a_top_h0, .int width_a_top_h0, .int second_a_top_h0, .int (parts_a_top_h0 + 1), .int 0, .int innerPlace_a_top_h0, .int innerWidth_a_top_h0, .int signs_a_top_h0, .int waitingBelow_a_top_h0, .int limited_a_top_h0, .int targets_a_top_h0, .int lastBlock_a_top_h0])), (a_draft_h0, .inr (1, [.ref q15, .int r12])), (q15, .inl (cI, r13, .inl r14))]) (cl' := cl_2 + C7 + C16) (sl' := sl_2 + S8 + S17) rfl rfl rfl rfl rfl rfl ?_
      refine j_iconst (v := 1) d_Rd_nameFunction_107 (by decide) ?_
      replace h := lf_s h
      obtain ⟨h, e1, e2⟩ := h
      replace h := Prod.mk.inj h
      obtain ⟨h9, h⟩ := h
      subst h9
      replace h := Prod.mk.inj h
      obtain ⟨h9, h⟩ := h
      subst h9
      replace h := Prod.mk.inj h
      obtain ⟨h9, h⟩ := h
      subst h9
      replace h := Prod.mk.inj h
      obtain ⟨h9, h⟩ := h
      subst h9
      replace h := Prod.mk.inj h
      obtain ⟨h9, h⟩ := h
      subst h9
      replace h := Prod.mk.inj h
      obtain ⟨h9, h⟩ := h
      subst h9
      replace h := Prod.mk.inj h
      obtain ⟨h9, h⟩ := h
      subst h9
      replace h := Prod.mk.inj h
      obtain ⟨h9, h⟩ := h
      subst h9
      subst h
      refine j_widen (cl' := mc) (sl' := ms) (by omega) (by omega) ?_
      exact j_zret (w := [(h0, .inr (2, [.ref a_scanner_h0, .ref a_draft_h0, .ref a_waiting_h0, .ref a_functions_h0, .ref a_bottom_h0, .ref a_top_h0, .ref a_text_h0, .int mode_h0, .int levels_h0, .int signs_h0, .int loops_h0, .int token_h0, .int fault_h0])), (a_functions_h0, .inr (5, [.ref q6, .int r3])), (a_top_h0, .inr (0, [V_below_a_top_h0, V_above_a_top_h0, .int kind_a_top_h0, .int place_a_top_h0, .int width_a_top_h0, .int second_a_top_h0, .int (parts_a_top_h0 + 1), .int 0, .int innerPlace_a_top_h0, .int innerWidth_a_top_h0, .int signs_a_top_h0, .int waitingBelow_a_top_h0, .int limited_a_top_h0, .int targets_a_top_h0, .int lastBlock_a_top_h0])), (a_draft_h0, .inr (1, [.ref q15, .int r12])), (a_text_h0, .inr (3, [.ref a_bytes_a_text_h0, .int size_a_text_h0])), (a_bytes_a_text_h0, .inl (cB, n_a_bytes_a_text_h0, .inl b_a_bytes_a_text_h0)), (q6, .inl (cI, r4, .inl r5)), (q15, .inl (cI, r13, .inl r14))]) hr (zb_n zb1) d_Rd_nameFunction_108 [4, 2, 5, 6, 0, 1, 3, 7] rfl (by decide) ⟨q6, q15, rfl, zb1, rfl⟩
    · replace h := it_f c2 h
      refine j_aload_n d_Rd_nameFunction_13 rfl 1 rfl ?_
      refine j_get ig_Rd rfl 0 rfl 3 (by decide) rfl m_172 rfl d_Rd_nameFunction_14 ?_
      refine j_iload_n d_Rd_nameFunction_17 rfl 0 rfl ?_
      refine j_iconst (v := 3) d_Rd_nameFunction_18 (by decide) ?_
      replace h := bd_s h
      obtain ⟨r21, k22, h⟩ := h
      refine j_callV (n := 2) (As := [.int v1_2, .int 3]) (rest := []) (wr := [(h0, .inr (2, [.ref a_scanner_h0, .ref a_draft_h0, .ref a_waiting_h0, .ref a_functions_h0, .ref a_bottom_h0, .ref a_top_h0, .ref a_text_h0, .int mode_h0, .int levels_h0, .int signs_h0, .int loops_h0, .int token_h0, .int fault_h0])), (a_top_h0, .inr (0, [V_below_a_top_h0, V_above_a_top_h0, .int kind_a_top_h0, .int place_a_top_h0, .int width_a_top_h0, .int second_a_top_h0, .int parts_a_top_h0, .int innerParts_a_top_h0, .int innerPlace_a_top_h0, .int innerWidth_a_top_h0, .int signs_a_top_h0, .int waitingBelow_a_top_h0, .int limited_a_top_h0, .int targets_a_top_h0, .int lastBlock_a_top_h0])), (a_draft_h0, .inr (1, [.ref a_cells_a_draft_h0, .int count_a_draft_h0])), (a_cells_a_draft_h0, .inl (cI, n_a_cells_a_draft_h0, .inl b_a_cells_a_draft_h0)), (a_text_h0, .inr (3, [.ref a_bytes_a_text_h0, .int size_a_text_h0])), (a_bytes_a_text_h0, .inl (cB, n_a_bytes_a_text_h0, .inl b_a_bytes_a_text_h0))]) (c_Tk_get l D cI cB cJ cS a_functions_h0 a_cells_a_functions_h0 v1_2 3 count_a_functions_h0 n_a_cells_a_functions_h0 b_a_cells_a_functions_h0  r21 k22) k_Rd_262 (by decide) ⟨Nat.le_of_ble_eq_true rfl, Nat.le_of_ble_eq_true rfl⟩ rfl 0 rfl [7, 2] [0, 1, 3, 4, 5, 6] rfl (by decide) rfl (by decide) (by decide) rfl rfl (Nat.le_of_ble_eq_true rfl) d_Rd_nameFunction_19 ⟨show cl_2 + 0 ≤ mc by omega, show sl_2 + 0 ≤ ms by omega⟩ (fun v w hq => ?_)
      obtain ⟨rfl, rfl⟩ := hq
      refine j_norm (pc' := 22) (st' := [.int r21]) (ws' := [(h0, .inr (2, [.ref a_scanner_h0, .ref a_draft_h0, .ref a_waiting_h0, .ref a_functions_h0, .ref a_bottom_h0, .ref a_top_h0, .ref a_text_h0, .int mode_h0, .int levels_h0, .int signs_h0, .int loops_h0, .int token_h0, .int fault_h0])), (a_top_h0, .inr (0, [V_below_a_top_h0, V_above_a_top_h0, .int kind_a_top_h0, .int place_a_top_h0, .int width_a_top_h0, .int second_a_top_h0, .int parts_a_top_h0, .int innerParts_a_top_h0, .int innerPlace_a_top_h0, .int innerWidth_a_top_h0, .int signs_a_top_h0, .int waitingBelow_a_top_h0, .int limited_a_top_h0, .int targets_a_top_h0, .int lastBlock_a_top_h0])), (a_draft_h0, .inr (1, [.ref a_cells_a_draft_h0, .int count_a_draft_h0])), (a_cells_a_draft_h0, .inl (cI, n_a_cells_a_draft_h0, .inl b_a_cells_a_draft_h0)), (a_text_h0, .inr (3, [.ref a_bytes_a_text_h0, .int size_a_text_h0])), (a_bytes_a_text_h0, .inl (cB, n_a_bytes_a_text_h0, .inl b_a_bytes_a_text_h0)), (a_functions_h0, .inr (5, [.ref a_cells_a_functions_h0, .int count_a_functions_h0])), (a_cells_a_functions_h0, .inl (cI, n_a_cells_a_functions_h0, .inl b_a_cells_a_functions_h0))]) (cl' := cl_2) (sl' := sl_2) rfl rfl rfl rfl rfl rfl ?_
      refine j_aload_n d_Rd_nameFunction_22 rfl 1 rfl ?_
      refine j_get ig_Rd rfl 0 rfl 5 (by decide) rfl m_174 rfl d_Rd_nameFunction_23 ?_
      refine j_get ig_Fr rfl 1 rfl 4 (by decide) rfl m_115 rfl d_Rd_nameFunction_26 ?_
      refine j_icmp_ne (tgt := 67) d_Rd_nameFunction_29 (by decide) (fun c23 => ?_) (fun c23 => ?_)
      · replace h := it_f c23 h
        refine j_iinc (v := v1_2 + 1) (lv' := [(1, .int (v1_2 + 1)), (0, .ref h0)]) d_Rd_nameFunction_67 0 rfl rfl (by decide) rfl ?_
        refine j_goto (tgt := 2) d_Rd_nameFunction_70 (by decide) ?_
        refine j_sub (w := [(h0, .inr (2, [.ref a_scanner_h0, .ref a_draft_h0, .ref a_waiting_h0, .ref a_functions_h0, .ref a_bottom_h0, .ref a_top_h0, .ref a_text_h0, .int mode_h0, .int levels_h0, .int signs_h0, .int loops_h0, .int token_h0, .int fault_h0])), (a_functions_h0, .inr (5, [.ref a_cells_a_functions_h0, .int count_a_functions_h0])), (a_top_h0, .inr (0, [V_below_a_top_h0, V_above_a_top_h0, .int kind_a_top_h0, .int place_a_top_h0, .int width_a_top_h0, .int second_a_top_h0, .int parts_a_top_h0, .int innerParts_a_top_h0, .int innerPlace_a_top_h0, .int innerWidth_a_top_h0, .int signs_a_top_h0, .int waitingBelow_a_top_h0, .int limited_a_top_h0, .int targets_a_top_h0, .int lastBlock_a_top_h0])), (a_cells_a_functions_h0, .inl (cI, n_a_cells_a_functions_h0, .inl b_a_cells_a_functions_h0)), (a_draft_h0, .inr (1, [.ref a_cells_a_draft_h0, .int count_a_draft_h0])), (a_cells_a_draft_h0, .inl (cI, n_a_cells_a_draft_h0, .inl b_a_cells_a_draft_h0)), (a_text_h0, .inr (3, [.ref a_bytes_a_text_h0, .int size_a_text_h0])), (a_bytes_a_text_h0, .inl (cB, n_a_bytes_a_text_h0, .inl b_a_bytes_a_text_h0))]) (lv' := [(1, .int (v1_2 + 1)), (0, .ref h0)]) [0, 6, 1, 7, 2, 3, 4, 5] rfl (by decide) [0, 1] rfl ?_
        exact ih_2 (v1_2 + 1) cl_2 sl_2 C_2 S_2 h hC hS
      · replace h := it_t c23 h
        refine j_aload_n d_Rd_nameFunction_32 rfl 1 rfl ?_
        refine j_get ig_Rd rfl 0 rfl 6 (by decide) rfl m_175 rfl d_Rd_nameFunction_33 ?_
        refine j_aload_n d_Rd_nameFunction_36 rfl 1 rfl ?_
        refine j_get ig_Rd rfl 0 rfl 3 (by decide) rfl m_172 rfl d_Rd_nameFunction_37 ?_
        refine j_iload_n d_Rd_nameFunction_40 rfl 0 rfl ?_
        refine j_iconst (v := 1) d_Rd_nameFunction_41 (by decide) ?_
        replace h := bd_s h
        obtain ⟨r24, k25, h⟩ := h
        refine j_callV (n := 2) (As := [.int v1_2, .int 1]) (rest := [.ref a_text_h0]) (wr := [(h0, .inr (2, [.ref a_scanner_h0, .ref a_draft_h0, .ref a_waiting_h0, .ref a_functions_h0, .ref a_bottom_h0, .ref a_top_h0, .ref a_text_h0, .int mode_h0, .int levels_h0, .int signs_h0, .int loops_h0, .int token_h0, .int fault_h0])), (a_top_h0, .inr (0, [V_below_a_top_h0, V_above_a_top_h0, .int kind_a_top_h0, .int place_a_top_h0, .int width_a_top_h0, .int second_a_top_h0, .int parts_a_top_h0, .int innerParts_a_top_h0, .int innerPlace_a_top_h0, .int innerWidth_a_top_h0, .int signs_a_top_h0, .int waitingBelow_a_top_h0, .int limited_a_top_h0, .int targets_a_top_h0, .int lastBlock_a_top_h0])), (a_draft_h0, .inr (1, [.ref a_cells_a_draft_h0, .int count_a_draft_h0])), (a_cells_a_draft_h0, .inl (cI, n_a_cells_a_draft_h0, .inl b_a_cells_a_draft_h0)), (a_text_h0, .inr (3, [.ref a_bytes_a_text_h0, .int size_a_text_h0])), (a_bytes_a_text_h0, .inl (cB, n_a_bytes_a_text_h0, .inl b_a_bytes_a_text_h0))]) (c_Tk_get l D cI cB cJ cS a_functions_h0 a_cells_a_functions_h0 v1_2 1 count_a_functions_h0 n_a_cells_a_functions_h0 b_a_cells_a_functions_h0  r24 k25) k_Rd_262 (by decide) ⟨Nat.le_of_ble_eq_true rfl, Nat.le_of_ble_eq_true rfl⟩ rfl 0 rfl [6, 7] [0, 1, 2, 3, 4, 5] rfl (by decide) rfl (by decide) (by decide) rfl rfl (Nat.le_of_ble_eq_true rfl) d_Rd_nameFunction_42 ⟨show cl_2 + 0 ≤ mc by omega, show sl_2 + 0 ≤ ms by omega⟩ (fun v w hq => ?_)
        obtain ⟨rfl, rfl⟩ := hq
        refine j_norm (pc' := 45) (st' := [.int r24, .ref a_text_h0]) (ws' := [(h0, .inr (2, [.ref a_scanner_h0, .ref a_draft_h0, .ref a_waiting_h0, .ref a_functions_h0, .ref a_bottom_h0, .ref a_top_h0, .ref a_text_h0, .int mode_h0, .int levels_h0, .int signs_h0, .int loops_h0, .int token_h0, .int fault_h0])), (a_top_h0, .inr (0, [V_below_a_top_h0, V_above_a_top_h0, .int kind_a_top_h0, .int place_a_top_h0, .int width_a_top_h0, .int second_a_top_h0, .int parts_a_top_h0, .int innerParts_a_top_h0, .int innerPlace_a_top_h0, .int innerWidth_a_top_h0, .int signs_a_top_h0, .int waitingBelow_a_top_h0, .int limited_a_top_h0, .int targets_a_top_h0, .int lastBlock_a_top_h0])), (a_draft_h0, .inr (1, [.ref a_cells_a_draft_h0, .int count_a_draft_h0])), (a_cells_a_draft_h0, .inl (cI, n_a_cells_a_draft_h0, .inl b_a_cells_a_draft_h0)), (a_text_h0, .inr (3, [.ref a_bytes_a_text_h0, .int size_a_text_h0])), (a_bytes_a_text_h0, .inl (cB, n_a_bytes_a_text_h0, .inl b_a_bytes_a_text_h0)), (a_functions_h0, .inr (5, [.ref a_cells_a_functions_h0, .int count_a_functions_h0])), (a_cells_a_functions_h0, .inl (cI, n_a_cells_a_functions_h0, .inl b_a_cells_a_functions_h0))]) (cl' := cl_2) (sl' := sl_2) rfl rfl rfl rfl rfl rfl ?_
        refine j_aload_n d_Rd_nameFunction_45 rfl 1 rfl ?_
        refine j_get ig_Rd rfl 0 rfl 5 (by decide) rfl m_174 rfl d_Rd_nameFunction_46 ?_
        refine j_get ig_Fr rfl 1 rfl 5 (by decide) rfl m_117 rfl d_Rd_nameFunction_49 ?_
        refine j_aload_n d_Rd_nameFunction_52 rfl 1 rfl ?_
        refine j_get ig_Rd rfl 0 rfl 5 (by decide) rfl m_174 rfl d_Rd_nameFunction_53 ?_
        refine j_get ig_Fr rfl 1 rfl 4 (by decide) rfl m_115 rfl d_Rd_nameFunction_56 ?_
        replace h := bd_s h
        obtain ⟨r26, k28, h⟩ := h
        refine j_callV (n := 3) (As := [.int r24, .int second_a_top_h0, .int width_a_top_h0]) (rest := []) (wr := [(h0, .inr (2, [.ref a_scanner_h0, .ref a_draft_h0, .ref a_waiting_h0, .ref a_functions_h0, .ref a_bottom_h0, .ref a_top_h0, .ref a_text_h0, .int mode_h0, .int levels_h0, .int signs_h0, .int loops_h0, .int token_h0, .int fault_h0])), (a_top_h0, .inr (0, [V_below_a_top_h0, V_above_a_top_h0, .int kind_a_top_h0, .int place_a_top_h0, .int width_a_top_h0, .int second_a_top_h0, .int parts_a_top_h0, .int innerParts_a_top_h0, .int innerPlace_a_top_h0, .int innerWidth_a_top_h0, .int signs_a_top_h0, .int waitingBelow_a_top_h0, .int limited_a_top_h0, .int targets_a_top_h0, .int lastBlock_a_top_h0])), (a_draft_h0, .inr (1, [.ref a_cells_a_draft_h0, .int count_a_draft_h0])), (a_cells_a_draft_h0, .inl (cI, n_a_cells_a_draft_h0, .inl b_a_cells_a_draft_h0)), (a_functions_h0, .inr (5, [.ref a_cells_a_functions_h0, .int count_a_functions_h0])), (a_cells_a_functions_h0, .inl (cI, n_a_cells_a_functions_h0, .inl b_a_cells_a_functions_h0))]) (c_Rw_same l D cI cB cJ cS a_text_h0 a_bytes_a_text_h0 r24 second_a_top_h0 width_a_top_h0 size_a_text_h0 n_a_bytes_a_text_h0 b_a_bytes_a_text_h0  r26 k28) k_Rd_266 (by decide) ⟨Nat.le_of_ble_eq_true rfl, Nat.le_of_ble_eq_true rfl⟩ rfl 0 rfl [4, 5] [0, 1, 2, 3, 6, 7] rfl (by decide) rfl (by decide) (by decide) rfl rfl (Nat.le_of_ble_eq_true rfl) d_Rd_nameFunction_59 ⟨show cl_2 + 0 ≤ mc by omega, show sl_2 + 0 ≤ ms by omega⟩ (fun v w hq => ?_)
        obtain ⟨rfl, z27, rfl⟩ := hq
        refine j_norm (pc' := 62) (st' := [.int r26]) (ws' := [(h0, .inr (2, [.ref a_scanner_h0, .ref a_draft_h0, .ref a_waiting_h0, .ref a_functions_h0, .ref a_bottom_h0, .ref a_top_h0, .ref a_text_h0, .int mode_h0, .int levels_h0, .int signs_h0, .int loops_h0, .int token_h0, .int fault_h0])), (a_top_h0, .inr (0, [V_below_a_top_h0, V_above_a_top_h0, .int kind_a_top_h0, .int place_a_top_h0, .int width_a_top_h0, .int second_a_top_h0, .int parts_a_top_h0, .int innerParts_a_top_h0, .int innerPlace_a_top_h0, .int innerWidth_a_top_h0, .int signs_a_top_h0, .int waitingBelow_a_top_h0, .int limited_a_top_h0, .int targets_a_top_h0, .int lastBlock_a_top_h0])), (a_draft_h0, .inr (1, [.ref a_cells_a_draft_h0, .int count_a_draft_h0])), (a_cells_a_draft_h0, .inl (cI, n_a_cells_a_draft_h0, .inl b_a_cells_a_draft_h0)), (a_functions_h0, .inr (5, [.ref a_cells_a_functions_h0, .int count_a_functions_h0])), (a_cells_a_functions_h0, .inl (cI, n_a_cells_a_functions_h0, .inl b_a_cells_a_functions_h0)), (a_text_h0, .inr (3, [.ref a_bytes_a_text_h0, .int size_a_text_h0])), (a_bytes_a_text_h0, .inl (cB, n_a_bytes_a_text_h0, .inl b_a_bytes_a_text_h0))]) (cl' := cl_2) (sl' := sl_2) rfl rfl rfl rfl rfl rfl ?_
        refine j_if_eq (tgt := 67) d_Rd_nameFunction_62 (by decide) (fun c29 => ?_) (fun c29 => ?_)
        · replace h := it_t c29 h
          refine j_iinc (v := v1_2 + 1) (lv' := [(1, .int (v1_2 + 1)), (0, .ref h0)]) d_Rd_nameFunction_67 0 rfl rfl (by decide) rfl ?_
          refine j_goto (tgt := 2) d_Rd_nameFunction_70 (by decide) ?_
          refine j_sub (w := [(h0, .inr (2, [.ref a_scanner_h0, .ref a_draft_h0, .ref a_waiting_h0, .ref a_functions_h0, .ref a_bottom_h0, .ref a_top_h0, .ref a_text_h0, .int mode_h0, .int levels_h0, .int signs_h0, .int loops_h0, .int token_h0, .int fault_h0])), (a_functions_h0, .inr (5, [.ref a_cells_a_functions_h0, .int count_a_functions_h0])), (a_top_h0, .inr (0, [V_below_a_top_h0, V_above_a_top_h0, .int kind_a_top_h0, .int place_a_top_h0, .int width_a_top_h0, .int second_a_top_h0, .int parts_a_top_h0, .int innerParts_a_top_h0, .int innerPlace_a_top_h0, .int innerWidth_a_top_h0, .int signs_a_top_h0, .int waitingBelow_a_top_h0, .int limited_a_top_h0, .int targets_a_top_h0, .int lastBlock_a_top_h0])), (a_cells_a_functions_h0, .inl (cI, n_a_cells_a_functions_h0, .inl b_a_cells_a_functions_h0)), (a_draft_h0, .inr (1, [.ref a_cells_a_draft_h0, .int count_a_draft_h0])), (a_cells_a_draft_h0, .inl (cI, n_a_cells_a_draft_h0, .inl b_a_cells_a_draft_h0)), (a_text_h0, .inr (3, [.ref a_bytes_a_text_h0, .int size_a_text_h0])), (a_bytes_a_text_h0, .inl (cB, n_a_bytes_a_text_h0, .inl b_a_bytes_a_text_h0))]) (lv' := [(1, .int (v1_2 + 1)), (0, .ref h0)]) [0, 4, 1, 5, 2, 3, 6, 7] rfl (by decide) [0, 1] rfl ?_
          exact ih_2 (v1_2 + 1) cl_2 sl_2 C_2 S_2 h hC hS
        · replace h := it_f c29 h
          refine j_iconst (v := 0) d_Rd_nameFunction_65 (by decide) ?_
          replace h := lf_s h
          obtain ⟨h, e1, e2⟩ := h
          replace h := Prod.mk.inj h
          obtain ⟨h9, h⟩ := h
          subst h9
          replace h := Prod.mk.inj h
          obtain ⟨h9, h⟩ := h
          subst h9
          replace h := Prod.mk.inj h
          obtain ⟨h9, h⟩ := h
          subst h9
          replace h := Prod.mk.inj h
          obtain ⟨h9, h⟩ := h
          subst h9
          replace h := Prod.mk.inj h
          obtain ⟨h9, h⟩ := h
          subst h9
          replace h := Prod.mk.inj h
          obtain ⟨h9, h⟩ := h
          subst h9
          replace h := Prod.mk.inj h
          obtain ⟨h9, h⟩ := h
          subst h9
          replace h := Prod.mk.inj h
          obtain ⟨h9, h⟩ := h
          subst h9
          subst h
          refine j_widen (cl' := mc) (sl' := ms) (by omega) (by omega) ?_
          exact j_zret (w := [(h0, .inr (2, [.ref a_scanner_h0, .ref a_draft_h0, .ref a_waiting_h0, .ref a_functions_h0, .ref a_bottom_h0, .ref a_top_h0, .ref a_text_h0, .int mode_h0, .int levels_h0, .int signs_h0, .int loops_h0, .int token_h0, .int fault_h0])), (a_functions_h0, .inr (5, [.ref a_cells_a_functions_h0, .int count_a_functions_h0])), (a_top_h0, .inr (0, [V_below_a_top_h0, V_above_a_top_h0, .int kind_a_top_h0, .int place_a_top_h0, .int width_a_top_h0, .int second_a_top_h0, .int parts_a_top_h0, .int innerParts_a_top_h0, .int innerPlace_a_top_h0, .int innerWidth_a_top_h0, .int signs_a_top_h0, .int waitingBelow_a_top_h0, .int limited_a_top_h0, .int targets_a_top_h0, .int lastBlock_a_top_h0])), (a_draft_h0, .inr (1, [.ref a_cells_a_draft_h0, .int count_a_draft_h0])), (a_text_h0, .inr (3, [.ref a_bytes_a_text_h0, .int size_a_text_h0])), (a_bytes_a_text_h0, .inl (cB, n_a_bytes_a_text_h0, .inl b_a_bytes_a_text_h0)), (a_cells_a_functions_h0, .inl (cI, n_a_cells_a_functions_h0, .inl b_a_cells_a_functions_h0)), (a_cells_a_draft_h0, .inl (cI, n_a_cells_a_draft_h0, .inl b_a_cells_a_draft_h0))]) hr (zb_n zb0) d_Rd_nameFunction_66 [0, 4, 1, 2, 6, 7, 5, 3] rfl (by decide) ⟨a_cells_a_functions_h0, a_cells_a_draft_h0, rfl, zb0, rfl⟩
set_option maxHeartbeats 4000000 in
set_option maxRecDepth 100000 in
theorem c_Rd_nameFunction (l : Launch) (D : va_G) (cI cB cJ cS : ClassId) (h0 : Nat) (a_scanner_h0 : Nat) (a_draft_h0 : Nat) (a_waiting_h0 : Nat) (a_functions_h0 : Nat) (a_bottom_h0 : Nat) (a_top_h0 : Nat) (a_text_h0 : Nat) (a_cells_a_functions_h0 : Nat) (V_below_a_top_h0 : Value) (V_above_a_top_h0 : Value) (a_cells_a_draft_h0 : Nat) (a_bytes_a_text_h0 : Nat) (mode_h0 : Int32) (levels_h0 : Int32) (signs_h0 : Int32) (loops_h0 : Int32) (token_h0 : Int32) (fault_h0 : Int32) (count_a_functions_h0 : Int32) (kind_a_top_h0 : Int32) (place_a_top_h0 : Int32) (width_a_top_h0 : Int32) (second_a_top_h0 : Int32) (parts_a_top_h0 : Int32) (innerParts_a_top_h0 : Int32) (innerPlace_a_top_h0 : Int32) (innerWidth_a_top_h0 : Int32) (signs_a_top_h0 : Int32) (waitingBelow_a_top_h0 : Int32) (limited_a_top_h0 : Int32) (targets_a_top_h0 : Int32) (lastBlock_a_top_h0 : Int32) (n_a_cells_a_functions_h0 : Nat) (b_a_cells_a_functions_h0 : Nat → Int32) (count_a_draft_h0 : Int32) (n_a_cells_a_draft_h0 : Nat) (b_a_cells_a_draft_h0 : Nat → Int32) (size_a_text_h0 : Int32) (n_a_bytes_a_text_h0 : Nat) (b_a_bytes_a_text_h0 : Nat → Int32) (ret : Int32) (o_1_1 : Int32) (o_2_6 : Int32) (o_2_7 : Int32) (o_4_1 : Int32) (on_nq_1_0 : Nat) (ob_nq_1_0 : Nat → Int32) (on_nq_4_0 : Nat) (ob_nq_4_0 : Nat → Int32) (mc ms : Nat) (h : F_Rd_nameFunction mode_h0 levels_h0 signs_h0 loops_h0 token_h0 fault_h0 count_a_functions_h0 kind_a_top_h0 place_a_top_h0 width_a_top_h0 second_a_top_h0 parts_a_top_h0 innerParts_a_top_h0 innerPlace_a_top_h0 innerWidth_a_top_h0 signs_a_top_h0 waitingBelow_a_top_h0 limited_a_top_h0 targets_a_top_h0 lastBlock_a_top_h0 n_a_cells_a_functions_h0 b_a_cells_a_functions_h0 count_a_draft_h0 n_a_cells_a_draft_h0 b_a_cells_a_draft_h0 size_a_text_h0 n_a_bytes_a_text_h0 b_a_bytes_a_text_h0 = some ((ret, o_1_1, o_2_6, o_2_7, o_4_1, on_nq_1_0, ob_nq_1_0, on_nq_4_0, ob_nq_4_0), mc, ms)) : Ct l D (gT cI cB cJ cS) y_Rd_nameFunction prog_6_method_30_code 2 (Option.some Jvm.ClassFile.FieldType.boolean) 4 131 mc ms [.ref h0] [(h0, .inr (2, [.ref a_scanner_h0, .ref a_draft_h0, .ref a_waiting_h0, .ref a_functions_h0, .ref a_bottom_h0, .ref a_top_h0, .ref a_text_h0, .int mode_h0, .int levels_h0, .int signs_h0, .int loops_h0, .int token_h0, .int fault_h0])), (a_functions_h0, .inr (5, [.ref a_cells_a_functions_h0, .int count_a_functions_h0])), (a_top_h0, .inr (0, [V_below_a_top_h0, V_above_a_top_h0, .int kind_a_top_h0, .int place_a_top_h0, .int width_a_top_h0, .int second_a_top_h0, .int parts_a_top_h0, .int innerParts_a_top_h0, .int innerPlace_a_top_h0, .int innerWidth_a_top_h0, .int signs_a_top_h0, .int waitingBelow_a_top_h0, .int limited_a_top_h0, .int targets_a_top_h0, .int lastBlock_a_top_h0])), (a_cells_a_functions_h0, .inl (cI, n_a_cells_a_functions_h0, .inl b_a_cells_a_functions_h0)), (a_draft_h0, .inr (1, [.ref a_cells_a_draft_h0, .int count_a_draft_h0])), (a_cells_a_draft_h0, .inl (cI, n_a_cells_a_draft_h0, .inl b_a_cells_a_draft_h0)), (a_text_h0, .inr (3, [.ref a_bytes_a_text_h0, .int size_a_text_h0])), (a_bytes_a_text_h0, .inl (cB, n_a_bytes_a_text_h0, .inl b_a_bytes_a_text_h0))] (fun v w => ∃ nq_1_0 : Nat, ∃ nq_4_0 : Nat, v = some (.int ret) ∧ zb ret ∧ w = [(h0, .inr (2, [.ref a_scanner_h0, .ref a_draft_h0, .ref a_waiting_h0, .ref a_functions_h0, .ref a_bottom_h0, .ref a_top_h0, .ref a_text_h0, .int mode_h0, .int levels_h0, .int signs_h0, .int loops_h0, .int token_h0, .int fault_h0])), (a_functions_h0, .inr (5, [.ref nq_1_0, .int o_1_1])), (a_top_h0, .inr (0, [V_below_a_top_h0, V_above_a_top_h0, .int kind_a_top_h0, .int place_a_top_h0, .int width_a_top_h0, .int second_a_top_h0, .int o_2_6, .int o_2_7, .int innerPlace_a_top_h0, .int innerWidth_a_top_h0, .int signs_a_top_h0, .int waitingBelow_a_top_h0, .int limited_a_top_h0, .int targets_a_top_h0, .int lastBlock_a_top_h0])), (a_draft_h0, .inr (1, [.ref nq_4_0, .int o_4_1])), (a_text_h0, .inr (3, [.ref a_bytes_a_text_h0, .int size_a_text_h0])), (a_bytes_a_text_h0, .inl (cB, n_a_bytes_a_text_h0, .inl b_a_bytes_a_text_h0)), (nq_1_0, .inl (cI, on_nq_1_0, .inl ob_nq_1_0)), (nq_4_0, .inl (cI, on_nq_4_0, .inl ob_nq_4_0))]) := by
  refine Ct.mk (by decide) (Nat.le_of_ble_eq_true rfl) ?_
  intro p e s m below meth c hr hnm
  refine j_norm (pc' := 0) (lv' := [(0, .ref h0)]) (st' := []) (ws' := [(h0, .inr (2, [.ref a_scanner_h0, .ref a_draft_h0, .ref a_waiting_h0, .ref a_functions_h0, .ref a_bottom_h0, .ref a_top_h0, .ref a_text_h0, .int mode_h0, .int levels_h0, .int signs_h0, .int loops_h0, .int token_h0, .int fault_h0])), (a_functions_h0, .inr (5, [.ref a_cells_a_functions_h0, .int count_a_functions_h0])), (a_top_h0, .inr (0, [V_below_a_top_h0, V_above_a_top_h0, .int kind_a_top_h0, .int place_a_top_h0, .int width_a_top_h0, .int second_a_top_h0, .int parts_a_top_h0, .int innerParts_a_top_h0, .int innerPlace_a_top_h0, .int innerWidth_a_top_h0, .int signs_a_top_h0, .int waitingBelow_a_top_h0, .int limited_a_top_h0, .int targets_a_top_h0, .int lastBlock_a_top_h0])), (a_cells_a_functions_h0, .inl (cI, n_a_cells_a_functions_h0, .inl b_a_cells_a_functions_h0)), (a_draft_h0, .inr (1, [.ref a_cells_a_draft_h0, .int count_a_draft_h0])), (a_cells_a_draft_h0, .inl (cI, n_a_cells_a_draft_h0, .inl b_a_cells_a_draft_h0)), (a_text_h0, .inr (3, [.ref a_bytes_a_text_h0, .int size_a_text_h0])), (a_bytes_a_text_h0, .inl (cB, n_a_bytes_a_text_h0, .inl b_a_bytes_a_text_h0))]) (cl' := 0) (sl' := 0) rfl rfl rfl rfl rfl rfl ?_
  unfold F_Rd_nameFunction at h
  have hC : 0 + mc ≤ mc := by omega
  have hS : 0 + ms ≤ ms := by omega
  refine j_iconst (v := 0) d_Rd_nameFunction_0 (by decide) ?_
  refine j_istore_n (lv' := [(1, .int 0), (0, .ref h0)]) d_Rd_nameFunction_1 rfl (by decide) rfl ?_
  refine j_sub (w := [(h0, .inr (2, [.ref a_scanner_h0, .ref a_draft_h0, .ref a_waiting_h0, .ref a_functions_h0, .ref a_bottom_h0, .ref a_top_h0, .ref a_text_h0, .int mode_h0, .int levels_h0, .int signs_h0, .int loops_h0, .int token_h0, .int fault_h0])), (a_functions_h0, .inr (5, [.ref a_cells_a_functions_h0, .int count_a_functions_h0])), (a_top_h0, .inr (0, [V_below_a_top_h0, V_above_a_top_h0, .int kind_a_top_h0, .int place_a_top_h0, .int width_a_top_h0, .int second_a_top_h0, .int parts_a_top_h0, .int innerParts_a_top_h0, .int innerPlace_a_top_h0, .int innerWidth_a_top_h0, .int signs_a_top_h0, .int waitingBelow_a_top_h0, .int limited_a_top_h0, .int targets_a_top_h0, .int lastBlock_a_top_h0])), (a_cells_a_functions_h0, .inl (cI, n_a_cells_a_functions_h0, .inl b_a_cells_a_functions_h0)), (a_draft_h0, .inr (1, [.ref a_cells_a_draft_h0, .int count_a_draft_h0])), (a_cells_a_draft_h0, .inl (cI, n_a_cells_a_draft_h0, .inl b_a_cells_a_draft_h0)), (a_text_h0, .inr (3, [.ref a_bytes_a_text_h0, .int size_a_text_h0])), (a_bytes_a_text_h0, .inl (cB, n_a_bytes_a_text_h0, .inl b_a_bytes_a_text_h0))]) (lv' := [(1, .int 0), (0, .ref h0)]) [0, 1, 2, 3, 4, 5, 6, 7] rfl (by decide) [0, 1] rfl ?_
  exact L_Rd_nameFunction_2 l D cI cB cJ cS h0 a_scanner_h0 a_draft_h0 a_waiting_h0 a_functions_h0 a_bottom_h0 a_top_h0 a_text_h0 a_cells_a_functions_h0 V_below_a_top_h0 V_above_a_top_h0 a_cells_a_draft_h0 a_bytes_a_text_h0 mode_h0 levels_h0 signs_h0 loops_h0 token_h0 fault_h0 count_a_functions_h0 kind_a_top_h0 place_a_top_h0 width_a_top_h0 second_a_top_h0 parts_a_top_h0 innerParts_a_top_h0 innerPlace_a_top_h0 innerWidth_a_top_h0 signs_a_top_h0 waitingBelow_a_top_h0 limited_a_top_h0 targets_a_top_h0 lastBlock_a_top_h0 n_a_cells_a_functions_h0 b_a_cells_a_functions_h0 count_a_draft_h0 n_a_cells_a_draft_h0 b_a_cells_a_draft_h0 size_a_text_h0 n_a_bytes_a_text_h0 b_a_bytes_a_text_h0 ret o_1_1 o_2_6 o_2_7 o_4_1 on_nq_1_0 ob_nq_1_0 on_nq_4_0 ob_nq_4_0 mc ms p e s m below meth c hr hnm FU 0 0 0 mc ms h hC hS
noncomputable def F_Rd_standsInSeveral (fn : Nat) (fd : Nat) (fcf : Nat → FrC) (mode_h0 : Int32) (levels_h0 : Int32) (signs_h0 : Int32) (loops_h0 : Int32) (token_h0 : Int32) (fault_h0 : Int32) (kind_t : Int32) (place_t : Int32) (width_t : Int32) (second_t : Int32) (parts_t : Int32) (innerParts_t : Int32) (innerPlace_t : Int32) (innerWidth_t : Int32) (signs_t : Int32) (waitingBelow_t : Int32) (limited_t : Int32) (targets_t : Int32) (lastBlock_t : Int32) (next_a_scanner_h0 : Int32) (kind_a_scanner_h0 : Int32) (start_a_scanner_h0 : Int32) (width_a_scanner_h0 : Int32) (count_a_draft_h0 : Int32) (n_a_cells_a_draft_h0 : Nat) (b_a_cells_a_draft_h0 : Nat → Int32) (count_a_waiting_h0 : Int32) : Option ((Nat × Nat × (Nat → FrC) × Int32 × Int32 × Int32 × Int32 × Int32 × Int32 × Int32 × Int32 × Int32 × Int32 × Int32 × Int32 × Int32 × Int32 × Int32 × Int32 × Int32 × Int32 × Nat × (Nat → Int32)) × Nat × Nat) :=
  if mode_h0 = 20 then (if token_h0 = 126 then (bw (F_Rd_addNothing start_a_scanner_h0 mode_h0 levels_h0 signs_h0 loops_h0 token_h0 fault_h0 kind_t place_t width_t second_t parts_t innerParts_t innerPlace_t innerWidth_t signs_t waitingBelow_t limited_t targets_t lastBlock_t count_a_draft_h0 n_a_cells_a_draft_h0 b_a_cells_a_draft_h0) fun ⟨r15, r16, r17⟩ =>
      (some ((fn, fd, fcf, 1, 21, levels_h0, signs_h0, kind_t, place_t, width_t, second_t, parts_t, innerParts_t + 1, innerPlace_t, innerWidth_t, signs_t, waitingBelow_t, limited_t, targets_t, lastBlock_t, r15, r16, r17), 0, 0)))
    else if token_h0 = 2 then (bw (F_Rd_addTarget mode_h0 levels_h0 signs_h0 loops_h0 token_h0 fault_h0 kind_t place_t width_t second_t parts_t innerParts_t innerPlace_t innerWidth_t signs_t waitingBelow_t limited_t targets_t lastBlock_t next_a_scanner_h0 kind_a_scanner_h0 start_a_scanner_h0 width_a_scanner_h0 count_a_draft_h0 n_a_cells_a_draft_h0 b_a_cells_a_draft_h0) fun ⟨r4, r5, r6⟩ =>
      (some ((fn, fd, fcf, 1, 21, levels_h0, signs_h0, kind_t, place_t, width_t, second_t, parts_t, innerParts_t + 1, innerPlace_t, innerWidth_t, signs_t, waitingBelow_t, limited_t, targets_t, lastBlock_t, r4, r5, r6), 0, 0)))
    else (some ((fn, fd, fcf, 0, mode_h0, levels_h0, signs_h0, kind_t, place_t, width_t, second_t, parts_t, innerParts_t, innerPlace_t, innerWidth_t, signs_t, waitingBelow_t, limited_t, targets_t, lastBlock_t, count_a_draft_h0, n_a_cells_a_draft_h0, b_a_cells_a_draft_h0), 0, 0)))
  else if mode_h0 = 21 then (if token_h0 = 93 then (bw (F_Rd_endTargets mode_h0 levels_h0 signs_h0 loops_h0 token_h0 fault_h0 kind_t place_t width_t second_t parts_t innerParts_t innerPlace_t innerWidth_t signs_t waitingBelow_t limited_t targets_t lastBlock_t count_a_draft_h0 n_a_cells_a_draft_h0 b_a_cells_a_draft_h0) fun ⟨r33, r34, r35⟩ =>
      (some ((fn, fd, fcf, 1, 22, (levels_h0 - 1), signs_h0, kind_t, place_t, width_t, second_t, parts_t, innerParts_t, innerPlace_t, innerWidth_t, signs_t, waitingBelow_t, limited_t, targets_t, lastBlock_t, r33, r34, r35), 0, 0)))
    else if token_h0 = 44 then (nm (F_Rd_hasRoomForName mode_h0 levels_h0 signs_h0 loops_h0 token_h0 fault_h0 kind_t place_t width_t second_t parts_t innerParts_t innerPlace_t innerWidth_t signs_t waitingBelow_t limited_t targets_t lastBlock_t) fun r27 =>
      if r27 = 0 then (some ((fn, fd, fcf, 0, mode_h0, levels_h0, signs_h0, kind_t, place_t, width_t, second_t, parts_t, innerParts_t, innerPlace_t, innerWidth_t, signs_t, waitingBelow_t, limited_t, targets_t, lastBlock_t, count_a_draft_h0, n_a_cells_a_draft_h0, b_a_cells_a_draft_h0), 0, 0))
      else (some ((fn, fd, fcf, 1, 20, levels_h0, signs_h0, kind_t, place_t, width_t, second_t, parts_t, innerParts_t, innerPlace_t, innerWidth_t, signs_t, waitingBelow_t, limited_t, targets_t, lastBlock_t, count_a_draft_h0, n_a_cells_a_draft_h0, b_a_cells_a_draft_h0), 0, 0)))
    else (some ((fn, fd, fcf, 0, mode_h0, levels_h0, signs_h0, kind_t, place_t, width_t, second_t, parts_t, innerParts_t, innerPlace_t, innerWidth_t, signs_t, waitingBelow_t, limited_t, targets_t, lastBlock_t, count_a_draft_h0, n_a_cells_a_draft_h0, b_a_cells_a_draft_h0), 0, 0)))
  else if mode_h0 = 22 then (if token_h0 = 61 then (some ((fn, fd, fcf, 1, 23, levels_h0, signs_h0, kind_t, start_a_scanner_h0, width_a_scanner_h0, second_t, parts_t, innerParts_t, innerPlace_t, innerWidth_t, signs_t, waitingBelow_t, limited_t, targets_t, lastBlock_t, count_a_draft_h0, n_a_cells_a_draft_h0, b_a_cells_a_draft_h0), 0, 0))
    else (some ((fn, fd, fcf, 0, mode_h0, levels_h0, signs_h0, kind_t, place_t, width_t, second_t, parts_t, innerParts_t, innerPlace_t, innerWidth_t, signs_t, waitingBelow_t, limited_t, targets_t, lastBlock_t, count_a_draft_h0, n_a_cells_a_draft_h0, b_a_cells_a_draft_h0), 0, 0)))
  else if mode_h0 = 23 then (if token_h0 = 2 then (bw (F_Rd_beginCall fn fd fcf mode_h0 levels_h0 signs_h0 loops_h0 token_h0 fault_h0 kind_t place_t width_t second_t parts_t innerParts_t innerPlace_t innerWidth_t signs_t waitingBelow_t limited_t targets_t lastBlock_t next_a_scanner_h0 kind_a_scanner_h0 start_a_scanner_h0 width_a_scanner_h0 count_a_waiting_h0) fun ⟨r48, r49, r50⟩ =>
      (some ((r48, r49, r50, 1, 24, levels_h0, 0, 52, start_a_scanner_h0, width_a_scanner_h0, (-1), 0, 0, start_a_scanner_h0, width_a_scanner_h0, signs_h0, count_a_waiting_h0, 0, 0, 0, count_a_draft_h0, n_a_cells_a_draft_h0, b_a_cells_a_draft_h0), 0, 0)))
    else (some ((fn, fd, fcf, 0, mode_h0, levels_h0, signs_h0, kind_t, place_t, width_t, second_t, parts_t, innerParts_t, innerPlace_t, innerWidth_t, signs_t, waitingBelow_t, limited_t, targets_t, lastBlock_t, count_a_draft_h0, n_a_cells_a_draft_h0, b_a_cells_a_draft_h0), 0, 0)))
  else if mode_h0 = 24 then (if token_h0 = 40 then (nm (F_Rd_goDeeper mode_h0 levels_h0 signs_h0 loops_h0 token_h0 fault_h0) fun ⟨r60, r61⟩ =>
      if r60 = 0 then (some ((fn, fd, fcf, 0, mode_h0, r61, signs_h0, kind_t, place_t, width_t, second_t, parts_t, innerParts_t, innerPlace_t, innerWidth_t, signs_t, waitingBelow_t, limited_t, targets_t, lastBlock_t, count_a_draft_h0, n_a_cells_a_draft_h0, b_a_cells_a_draft_h0), 0, 0))
      else (some ((fn, fd, fcf, 1, 30, r61, signs_h0, kind_t, place_t, width_t, start_a_scanner_h0, parts_t, innerParts_t, innerPlace_t, innerWidth_t, signs_t, waitingBelow_t, limited_t, targets_t, lastBlock_t, count_a_draft_h0, n_a_cells_a_draft_h0, b_a_cells_a_draft_h0), 0, 0)))
    else (some ((fn, fd, fcf, 0, mode_h0, levels_h0, signs_h0, kind_t, place_t, width_t, second_t, parts_t, innerParts_t, innerPlace_t, innerWidth_t, signs_t, waitingBelow_t, limited_t, targets_t, lastBlock_t, count_a_draft_h0, n_a_cells_a_draft_h0, b_a_cells_a_draft_h0), 0, 0)))
  else if mode_h0 = 25 then (if token_h0 = 59 then (bw (F_Rd_endSeveral fn fd fcf mode_h0 levels_h0 signs_h0 loops_h0 token_h0 fault_h0 kind_t place_t width_t second_t parts_t innerParts_t innerPlace_t innerWidth_t signs_t waitingBelow_t limited_t targets_t lastBlock_t count_a_draft_h0 n_a_cells_a_draft_h0 b_a_cells_a_draft_h0) fun ⟨r69, r70, r71, r72, r73, r74, r75, r76, r77, r78, r79, r80, r81, r82, r83, r84, r85, r86, r87⟩ =>
      (some ((r69, r70, r71, 1, 0, levels_h0, signs_t, r72, r73, r74, r75, r76, r77, r78, r79, r80, r81, r82, r83, r84, r85, r86, r87), 0, 0)))
    else (some ((fn, fd, fcf, 0, mode_h0, levels_h0, signs_h0, kind_t, place_t, width_t, second_t, parts_t, innerParts_t, innerPlace_t, innerWidth_t, signs_t, waitingBelow_t, limited_t, targets_t, lastBlock_t, count_a_draft_h0, n_a_cells_a_draft_h0, b_a_cells_a_draft_h0), 0, 0)))
  else (some ((fn, fd, fcf, 0, mode_h0, levels_h0, signs_h0, kind_t, place_t, width_t, second_t, parts_t, innerParts_t, innerPlace_t, innerWidth_t, signs_t, waitingBelow_t, limited_t, targets_t, lastBlock_t, count_a_draft_h0, n_a_cells_a_draft_h0, b_a_cells_a_draft_h0), 0, 0))
theorem d_Rd_standsInSeveral_0 : decode prog_6_method_36_code 0 = .ok (.aload_n 0, 1) := by decide +kernel
theorem d_Rd_standsInSeveral_1 : decode prog_6_method_36_code 1 = .ok (.getfield 56, 3) := by decide +kernel
theorem d_Rd_standsInSeveral_4 : decode prog_6_method_36_code 4 = .ok (.tableswitch 225 20 25 #[40, 84, 131, 153, 174, 203], 40) := by decide +kernel
theorem d_Rd_standsInSeveral_44 : decode prog_6_method_36_code 44 = .ok (.aload_n 0, 1) := by decide +kernel
theorem d_Rd_standsInSeveral_45 : decode prog_6_method_36_code 45 = .ok (.getfield 69, 3) := by decide +kernel
theorem d_Rd_standsInSeveral_48 : decode prog_6_method_36_code 48 = .ok (.bipush 126, 2) := by decide +kernel
theorem d_Rd_standsInSeveral_50 : decode prog_6_method_36_code 50 = .ok (.if_icmp .ne 17, 3) := by decide +kernel
theorem d_Rd_standsInSeveral_53 : decode prog_6_method_36_code 53 = .ok (.aload_n 0, 1) := by decide +kernel
theorem d_Rd_standsInSeveral_54 : decode prog_6_method_36_code 54 = .ok (.aload_n 0, 1) := by decide +kernel
theorem d_Rd_standsInSeveral_55 : decode prog_6_method_36_code 55 = .ok (.getfield 14, 3) := by decide +kernel
theorem d_Rd_standsInSeveral_58 : decode prog_6_method_36_code 58 = .ok (.invokevirtual 113, 3) := by decide +kernel
theorem d_Rd_standsInSeveral_61 : decode prog_6_method_36_code 61 = .ok (.invokevirtual 277, 3) := by decide +kernel
theorem d_Rd_standsInSeveral_64 : decode prog_6_method_36_code 64 = .ok (.goto 23, 3) := by decide +kernel
theorem d_Rd_standsInSeveral_67 : decode prog_6_method_36_code 67 = .ok (.aload_n 0, 1) := by decide +kernel
theorem d_Rd_standsInSeveral_68 : decode prog_6_method_36_code 68 = .ok (.getfield 69, 3) := by decide +kernel
theorem d_Rd_standsInSeveral_71 : decode prog_6_method_36_code 71 = .ok (.iconst 2, 1) := by decide +kernel
theorem d_Rd_standsInSeveral_72 : decode prog_6_method_36_code 72 = .ok (.if_icmp .ne 14, 3) := by decide +kernel
theorem d_Rd_standsInSeveral_75 : decode prog_6_method_36_code 75 = .ok (.aload_n 0, 1) := by decide +kernel
theorem d_Rd_standsInSeveral_76 : decode prog_6_method_36_code 76 = .ok (.invokevirtual 280, 3) := by decide +kernel
theorem d_Rd_standsInSeveral_79 : decode prog_6_method_36_code 79 = .ok (.ifCond .eq 7, 3) := by decide +kernel
theorem d_Rd_standsInSeveral_82 : decode prog_6_method_36_code 82 = .ok (.iconst 1, 1) := by decide +kernel
theorem d_Rd_standsInSeveral_83 : decode prog_6_method_36_code 83 = .ok (.goto 4, 3) := by decide +kernel
theorem d_Rd_standsInSeveral_86 : decode prog_6_method_36_code 86 = .ok (.iconst 0, 1) := by decide +kernel
theorem d_Rd_standsInSeveral_87 : decode prog_6_method_36_code 87 = .ok (.ireturn, 1) := by decide +kernel
theorem d_Rd_standsInSeveral_88 : decode prog_6_method_36_code 88 = .ok (.aload_n 0, 1) := by decide +kernel
theorem d_Rd_standsInSeveral_89 : decode prog_6_method_36_code 89 = .ok (.getfield 69, 3) := by decide +kernel
theorem d_Rd_standsInSeveral_92 : decode prog_6_method_36_code 92 = .ok (.bipush 93, 2) := by decide +kernel
theorem d_Rd_standsInSeveral_94 : decode prog_6_method_36_code 94 = .ok (.if_icmp .ne 10, 3) := by decide +kernel
theorem d_Rd_standsInSeveral_97 : decode prog_6_method_36_code 97 = .ok (.aload_n 0, 1) := by decide +kernel
theorem d_Rd_standsInSeveral_98 : decode prog_6_method_36_code 98 = .ok (.invokevirtual 283, 3) := by decide +kernel
theorem d_Rd_standsInSeveral_101 : decode prog_6_method_36_code 101 = .ok (.goto 33, 3) := by decide +kernel
theorem d_Rd_standsInSeveral_104 : decode prog_6_method_36_code 104 = .ok (.aload_n 0, 1) := by decide +kernel
theorem d_Rd_standsInSeveral_105 : decode prog_6_method_36_code 105 = .ok (.getfield 69, 3) := by decide +kernel
theorem d_Rd_standsInSeveral_108 : decode prog_6_method_36_code 108 = .ok (.bipush 44, 2) := by decide +kernel
theorem d_Rd_standsInSeveral_110 : decode prog_6_method_36_code 110 = .ok (.if_icmp .ne 23, 3) := by decide +kernel
theorem d_Rd_standsInSeveral_113 : decode prog_6_method_36_code 113 = .ok (.aload_n 0, 1) := by decide +kernel
theorem d_Rd_standsInSeveral_114 : decode prog_6_method_36_code 114 = .ok (.invokevirtual 247, 3) := by decide +kernel
theorem d_Rd_standsInSeveral_117 : decode prog_6_method_36_code 117 = .ok (.ifCond .eq 16, 3) := by decide +kernel
theorem d_Rd_standsInSeveral_120 : decode prog_6_method_36_code 120 = .ok (.aload_n 0, 1) := by decide +kernel
theorem d_Rd_standsInSeveral_121 : decode prog_6_method_36_code 121 = .ok (.bipush 20, 2) := by decide +kernel
theorem d_Rd_standsInSeveral_123 : decode prog_6_method_36_code 123 = .ok (.invokevirtual 130, 3) := by decide +kernel
theorem d_Rd_standsInSeveral_126 : decode prog_6_method_36_code 126 = .ok (.ifCond .eq 7, 3) := by decide +kernel
theorem d_Rd_standsInSeveral_129 : decode prog_6_method_36_code 129 = .ok (.iconst 1, 1) := by decide +kernel
theorem d_Rd_standsInSeveral_130 : decode prog_6_method_36_code 130 = .ok (.goto 4, 3) := by decide +kernel
theorem d_Rd_standsInSeveral_133 : decode prog_6_method_36_code 133 = .ok (.iconst 0, 1) := by decide +kernel
theorem d_Rd_standsInSeveral_134 : decode prog_6_method_36_code 134 = .ok (.ireturn, 1) := by decide +kernel
theorem d_Rd_standsInSeveral_135 : decode prog_6_method_36_code 135 = .ok (.aload_n 0, 1) := by decide +kernel
theorem d_Rd_standsInSeveral_136 : decode prog_6_method_36_code 136 = .ok (.getfield 69, 3) := by decide +kernel
theorem d_Rd_standsInSeveral_139 : decode prog_6_method_36_code 139 = .ok (.bipush 61, 2) := by decide +kernel
theorem d_Rd_standsInSeveral_141 : decode prog_6_method_36_code 141 = .ok (.if_icmp .ne 14, 3) := by decide +kernel
theorem d_Rd_standsInSeveral_144 : decode prog_6_method_36_code 144 = .ok (.aload_n 0, 1) := by decide +kernel
theorem d_Rd_standsInSeveral_145 : decode prog_6_method_36_code 145 = .ok (.invokevirtual 286, 3) := by decide +kernel
theorem d_Rd_standsInSeveral_148 : decode prog_6_method_36_code 148 = .ok (.ifCond .eq 7, 3) := by decide +kernel
theorem d_Rd_standsInSeveral_151 : decode prog_6_method_36_code 151 = .ok (.iconst 1, 1) := by decide +kernel
theorem d_Rd_standsInSeveral_152 : decode prog_6_method_36_code 152 = .ok (.goto 4, 3) := by decide +kernel
theorem d_Rd_standsInSeveral_155 : decode prog_6_method_36_code 155 = .ok (.iconst 0, 1) := by decide +kernel
theorem d_Rd_standsInSeveral_156 : decode prog_6_method_36_code 156 = .ok (.ireturn, 1) := by decide +kernel
theorem d_Rd_standsInSeveral_157 : decode prog_6_method_36_code 157 = .ok (.aload_n 0, 1) := by decide +kernel
theorem d_Rd_standsInSeveral_158 : decode prog_6_method_36_code 158 = .ok (.getfield 69, 3) := by decide +kernel
theorem d_Rd_standsInSeveral_161 : decode prog_6_method_36_code 161 = .ok (.iconst 2, 1) := by decide +kernel
theorem d_Rd_standsInSeveral_162 : decode prog_6_method_36_code 162 = .ok (.if_icmp .ne 14, 3) := by decide +kernel
theorem d_Rd_standsInSeveral_165 : decode prog_6_method_36_code 165 = .ok (.aload_n 0, 1) := by decide +kernel
theorem d_Rd_standsInSeveral_166 : decode prog_6_method_36_code 166 = .ok (.invokevirtual 289, 3) := by decide +kernel
theorem d_Rd_standsInSeveral_169 : decode prog_6_method_36_code 169 = .ok (.ifCond .eq 7, 3) := by decide +kernel
theorem d_Rd_standsInSeveral_172 : decode prog_6_method_36_code 172 = .ok (.iconst 1, 1) := by decide +kernel
theorem d_Rd_standsInSeveral_173 : decode prog_6_method_36_code 173 = .ok (.goto 4, 3) := by decide +kernel
theorem d_Rd_standsInSeveral_176 : decode prog_6_method_36_code 176 = .ok (.iconst 0, 1) := by decide +kernel
theorem d_Rd_standsInSeveral_177 : decode prog_6_method_36_code 177 = .ok (.ireturn, 1) := by decide +kernel
theorem d_Rd_standsInSeveral_178 : decode prog_6_method_36_code 178 = .ok (.aload_n 0, 1) := by decide +kernel
theorem d_Rd_standsInSeveral_179 : decode prog_6_method_36_code 179 = .ok (.getfield 69, 3) := by decide +kernel
theorem d_Rd_standsInSeveral_182 : decode prog_6_method_36_code 182 = .ok (.bipush 40, 2) := by decide +kernel
theorem d_Rd_standsInSeveral_184 : decode prog_6_method_36_code 184 = .ok (.if_icmp .ne 21, 3) := by decide +kernel
theorem d_Rd_standsInSeveral_187 : decode prog_6_method_36_code 187 = .ok (.aload_n 0, 1) := by decide +kernel
theorem d_Rd_standsInSeveral_188 : decode prog_6_method_36_code 188 = .ok (.invokevirtual 186, 3) := by decide +kernel
theorem d_Rd_standsInSeveral_191 : decode prog_6_method_36_code 191 = .ok (.ifCond .eq 14, 3) := by decide +kernel
theorem d_Rd_standsInSeveral_194 : decode prog_6_method_36_code 194 = .ok (.aload_n 0, 1) := by decide +kernel
theorem d_Rd_standsInSeveral_195 : decode prog_6_method_36_code 195 = .ok (.invokevirtual 292, 3) := by decide +kernel
theorem d_Rd_standsInSeveral_198 : decode prog_6_method_36_code 198 = .ok (.ifCond .eq 7, 3) := by decide +kernel
theorem d_Rd_standsInSeveral_201 : decode prog_6_method_36_code 201 = .ok (.iconst 1, 1) := by decide +kernel
theorem d_Rd_standsInSeveral_202 : decode prog_6_method_36_code 202 = .ok (.goto 4, 3) := by decide +kernel
theorem d_Rd_standsInSeveral_205 : decode prog_6_method_36_code 205 = .ok (.iconst 0, 1) := by decide +kernel
theorem d_Rd_standsInSeveral_206 : decode prog_6_method_36_code 206 = .ok (.ireturn, 1) := by decide +kernel
theorem d_Rd_standsInSeveral_207 : decode prog_6_method_36_code 207 = .ok (.aload_n 0, 1) := by decide +kernel
theorem d_Rd_standsInSeveral_208 : decode prog_6_method_36_code 208 = .ok (.getfield 69, 3) := by decide +kernel
theorem d_Rd_standsInSeveral_211 : decode prog_6_method_36_code 211 = .ok (.bipush 59, 2) := by decide +kernel
theorem d_Rd_standsInSeveral_213 : decode prog_6_method_36_code 213 = .ok (.if_icmp .ne 14, 3) := by decide +kernel
theorem d_Rd_standsInSeveral_216 : decode prog_6_method_36_code 216 = .ok (.aload_n 0, 1) := by decide +kernel
theorem d_Rd_standsInSeveral_217 : decode prog_6_method_36_code 217 = .ok (.invokevirtual 295, 3) := by decide +kernel
theorem d_Rd_standsInSeveral_220 : decode prog_6_method_36_code 220 = .ok (.ifCond .eq 7, 3) := by decide +kernel
theorem d_Rd_standsInSeveral_223 : decode prog_6_method_36_code 223 = .ok (.iconst 1, 1) := by decide +kernel
theorem d_Rd_standsInSeveral_224 : decode prog_6_method_36_code 224 = .ok (.goto 4, 3) := by decide +kernel
theorem d_Rd_standsInSeveral_227 : decode prog_6_method_36_code 227 = .ok (.iconst 0, 1) := by decide +kernel
theorem d_Rd_standsInSeveral_228 : decode prog_6_method_36_code 228 = .ok (.ireturn, 1) := by decide +kernel
theorem d_Rd_standsInSeveral_229 : decode prog_6_method_36_code 229 = .ok (.iconst 0, 1) := by decide +kernel
theorem d_Rd_standsInSeveral_230 : decode prog_6_method_36_code 230 = .ok (.ireturn, 1) := by decide +kernel
set_option maxHeartbeats 4000000 in
set_option maxRecDepth 100000 in
theorem c_Rd_standsInSeveral (l : Launch) (D : va_G) (cI cB cJ cS : ClassId) (h0 : Nat) (fad : Nat → Nat) (a_scanner_h0 : Nat) (a_draft_h0 : Nat) (a_waiting_h0 : Nat) (a_functions_h0 : Nat) (a_text_h0 : Nat) (a_text_a_scanner_h0 : Nat) (a_cells_a_draft_h0 : Nat) (a_cells_a_waiting_h0 : Nat) (fn : Nat) (fd : Nat) (fcf : Nat → FrC) (mode_h0 : Int32) (levels_h0 : Int32) (signs_h0 : Int32) (loops_h0 : Int32) (token_h0 : Int32) (fault_h0 : Int32) (kind_t : Int32) (place_t : Int32) (width_t : Int32) (second_t : Int32) (parts_t : Int32) (innerParts_t : Int32) (innerPlace_t : Int32) (innerWidth_t : Int32) (signs_t : Int32) (waitingBelow_t : Int32) (limited_t : Int32) (targets_t : Int32) (lastBlock_t : Int32) (next_a_scanner_h0 : Int32) (kind_a_scanner_h0 : Int32) (start_a_scanner_h0 : Int32) (width_a_scanner_h0 : Int32) (count_a_draft_h0 : Int32) (n_a_cells_a_draft_h0 : Nat) (b_a_cells_a_draft_h0 : Nat → Int32) (count_a_waiting_h0 : Int32) (on_p : Nat) (od_p : Nat) (ocf_p : Nat → FrC) (ret : Int32) (o_0_7 : Int32) (o_0_8 : Int32) (o_0_9 : Int32) (o_1_2 : Int32) (o_1_3 : Int32) (o_1_4 : Int32) (o_1_5 : Int32) (o_1_6 : Int32) (o_1_7 : Int32) (o_1_8 : Int32) (o_1_9 : Int32) (o_1_10 : Int32) (o_1_11 : Int32) (o_1_12 : Int32) (o_1_13 : Int32) (o_1_14 : Int32) (o_3_1 : Int32) (on_nq_3_0 : Nat) (ob_nq_3_0 : Nat → Int32) (mc ms : Nat) (h : F_Rd_standsInSeveral fn fd fcf mode_h0 levels_h0 signs_h0 loops_h0 token_h0 fault_h0 kind_t place_t width_t second_t parts_t innerParts_t innerPlace_t innerWidth_t signs_t waitingBelow_t limited_t targets_t lastBlock_t next_a_scanner_h0 kind_a_scanner_h0 start_a_scanner_h0 width_a_scanner_h0 count_a_draft_h0 n_a_cells_a_draft_h0 b_a_cells_a_draft_h0 count_a_waiting_h0 = some ((on_p, od_p, ocf_p, ret, o_0_7, o_0_8, o_0_9, o_1_2, o_1_3, o_1_4, o_1_5, o_1_6, o_1_7, o_1_8, o_1_9, o_1_10, o_1_11, o_1_12, o_1_13, o_1_14, o_3_1, on_nq_3_0, ob_nq_3_0), mc, ms)) : Ct l D (gT cI cB cJ cS) y_Rd_standsInSeveral prog_6_method_36_code 1 (Option.some Jvm.ClassFile.FieldType.boolean) 6 174 mc ms [.ref h0] ((h0, .inr (2, [.ref a_scanner_h0, .ref a_draft_h0, .ref a_waiting_h0, .ref a_functions_h0, .ref (fad 0), .ref (fad fd), .ref a_text_h0, .int mode_h0, .int levels_h0, .int signs_h0, .int loops_h0, .int token_h0, .int fault_h0])) :: ((fad fd), .inr (0, [(frB fad fd), (frA fad fn fd), .int kind_t, .int place_t, .int width_t, .int second_t, .int parts_t, .int innerParts_t, .int innerPlace_t, .int innerWidth_t, .int signs_t, .int waitingBelow_t, .int limited_t, .int targets_t, .int lastBlock_t])) :: (a_scanner_h0, .inr (4, [.ref a_text_a_scanner_h0, .int next_a_scanner_h0, .int kind_a_scanner_h0, .int start_a_scanner_h0, .int width_a_scanner_h0])) :: (a_draft_h0, .inr (1, [.ref a_cells_a_draft_h0, .int count_a_draft_h0])) :: (a_cells_a_draft_h0, .inl (cI, n_a_cells_a_draft_h0, .inl b_a_cells_a_draft_h0)) :: (a_waiting_h0, .inr (5, [.ref a_cells_a_waiting_h0, .int count_a_waiting_h0])) :: fpo fad fn fd fcf) (fun v w => ∃ nad : Nat → Nat, ∃ nq_3_0 : Nat, v = some (.int ret) ∧ zb ret ∧ w = ((h0, .inr (2, [.ref a_scanner_h0, .ref a_draft_h0, .ref a_waiting_h0, .ref a_functions_h0, .ref (nad 0), .ref (nad od_p), .ref a_text_h0, .int o_0_7, .int o_0_8, .int o_0_9, .int loops_h0, .int token_h0, .int fault_h0])) :: ((nad od_p), .inr (0, [(frB nad od_p), (frA nad on_p od_p), .int o_1_2, .int o_1_3, .int o_1_4, .int o_1_5, .int o_1_6, .int o_1_7, .int o_1_8, .int o_1_9, .int o_1_10, .int o_1_11, .int o_1_12, .int o_1_13, .int o_1_14])) :: (a_scanner_h0, .inr (4, [.ref a_text_a_scanner_h0, .int next_a_scanner_h0, .int kind_a_scanner_h0, .int start_a_scanner_h0, .int width_a_scanner_h0])) :: (a_draft_h0, .inr (1, [.ref nq_3_0, .int o_3_1])) :: (a_waiting_h0, .inr (5, [.ref a_cells_a_waiting_h0, .int count_a_waiting_h0])) :: (nq_3_0, .inl (cI, on_nq_3_0, .inl ob_nq_3_0)) :: fpo nad on_p od_p ocf_p)) := by
  refine Ct.mk (by decide) (Nat.le_of_ble_eq_true rfl) ?_
  intro p e s m below meth c hr hnm
  refine j_norm (pc' := 0) (lv' := [(0, .ref h0)]) (st' := []) (ws' := ((h0, .inr (2, [.ref a_scanner_h0, .ref a_draft_h0, .ref a_waiting_h0, .ref a_functions_h0, .ref (fad 0), .ref (fad fd), .ref a_text_h0, .int mode_h0, .int levels_h0, .int signs_h0, .int loops_h0, .int token_h0, .int fault_h0])) :: ((fad fd), .inr (0, [(frB fad fd), (frA fad fn fd), .int kind_t, .int place_t, .int width_t, .int second_t, .int parts_t, .int innerParts_t, .int innerPlace_t, .int innerWidth_t, .int signs_t, .int waitingBelow_t, .int limited_t, .int targets_t, .int lastBlock_t])) :: (a_scanner_h0, .inr (4, [.ref a_text_a_scanner_h0, .int next_a_scanner_h0, .int kind_a_scanner_h0, .int start_a_scanner_h0, .int width_a_scanner_h0])) :: (a_draft_h0, .inr (1, [.ref a_cells_a_draft_h0, .int count_a_draft_h0])) :: (a_cells_a_draft_h0, .inl (cI, n_a_cells_a_draft_h0, .inl b_a_cells_a_draft_h0)) :: (a_waiting_h0, .inr (5, [.ref a_cells_a_waiting_h0, .int count_a_waiting_h0])) :: fpo fad fn fd fcf)) (cl' := 0) (sl' := 0) rfl rfl rfl rfl rfl rfl ?_
  unfold F_Rd_standsInSeveral at h
  have hC : 0 + mc ≤ mc := by omega
  have hS : 0 + ms ≤ ms := by omega
  refine j_aload_n d_Rd_standsInSeveral_0 rfl 0 rfl ?_
  refine j_get ig_Rd rfl 0 rfl 7 (by decide) rfl m_176 rfl d_Rd_standsInSeveral_1 ?_
  by_cases c1 : mode_h0 = 20
  · replace h := it_t c1 h
    refine j_tabIn (tgt := 44) (off := 40) d_Rd_standsInSeveral_4 20 c1 (by decide) (by decide) (by decide) (by decide) ?_
    refine j_aload_n d_Rd_standsInSeveral_44 rfl 0 rfl ?_
    refine j_get ig_Rd rfl 0 rfl 11 (by decide) rfl m_180 rfl d_Rd_standsInSeveral_45 ?_
    refine j_bipush (v := 126) d_Rd_standsInSeveral_48 (by decide) ?_
    refine j_icmp_ne (tgt := 67) d_Rd_standsInSeveral_50 (by decide) (fun c2 => ?_) (fun c2 => ?_)
    · replace h := it_f c2 h
      refine j_aload_n d_Rd_standsInSeveral_67 rfl 0 rfl ?_
      refine j_get ig_Rd rfl 0 rfl 11 (by decide) rfl m_180 rfl d_Rd_standsInSeveral_68 ?_
      refine j_iconst (v := 2) d_Rd_standsInSeveral_71 (by decide) ?_
      refine j_icmp_ne (tgt := 86) d_Rd_standsInSeveral_72 (by decide) (fun c3 => ?_) (fun c3 => ?_)
      · replace h := it_f c3 h
        refine j_iconst (v := 0) d_Rd_standsInSeveral_86 (by decide) ?_
        replace h := lf_s h
        obtain ⟨h, e1, e2⟩ := h
        replace h := Prod.mk.inj h
        obtain ⟨h9, h⟩ := h
        subst h9
        replace h := Prod.mk.inj h
        obtain ⟨h9, h⟩ := h
        subst h9
        replace h := Prod.mk.inj h
        obtain ⟨h9, h⟩ := h
        subst h9
        replace h := Prod.mk.inj h
        obtain ⟨h9, h⟩ := h
        subst h9
        replace h := Prod.mk.inj h
        obtain ⟨h9, h⟩ := h
        subst h9
        replace h := Prod.mk.inj h
        obtain ⟨h9, h⟩ := h
        subst h9
        replace h := Prod.mk.inj h
        obtain ⟨h9, h⟩ := h
        subst h9
        replace h := Prod.mk.inj h
        obtain ⟨h9, h⟩ := h
        subst h9
        replace h := Prod.mk.inj h
        obtain ⟨h9, h⟩ := h
        subst h9
        replace h := Prod.mk.inj h
        obtain ⟨h9, h⟩ := h
        subst h9
        replace h := Prod.mk.inj h
        obtain ⟨h9, h⟩ := h
        subst h9
        replace h := Prod.mk.inj h
        obtain ⟨h9, h⟩ := h
        subst h9
        replace h := Prod.mk.inj h
        obtain ⟨h9, h⟩ := h
        subst h9
        replace h := Prod.mk.inj h
        obtain ⟨h9, h⟩ := h
        subst h9
        replace h := Prod.mk.inj h
        obtain ⟨h9, h⟩ := h
        subst h9
        replace h := Prod.mk.inj h
        obtain ⟨h9, h⟩ := h
        subst h9
        replace h := Prod.mk.inj h
        obtain ⟨h9, h⟩ := h
        subst h9
        replace h := Prod.mk.inj h
        obtain ⟨h9, h⟩ := h
        subst h9
        replace h := Prod.mk.inj h
        obtain ⟨h9, h⟩ := h
        subst h9
        replace h := Prod.mk.inj h
        obtain ⟨h9, h⟩ := h
        subst h9
        replace h := Prod.mk.inj h
        obtain ⟨h9, h⟩ := h
        subst h9
        replace h := Prod.mk.inj h
        obtain ⟨h9, h⟩ := h
        subst h9
        subst h
        refine j_widen (cl' := mc) (sl' := ms) (by omega) (by omega) ?_
        refine j_subP (w := [(h0, .inr (2, [.ref a_scanner_h0, .ref a_draft_h0, .ref a_waiting_h0, .ref a_functions_h0, .ref (fad 0), .ref (fad fd), .ref a_text_h0, .int mode_h0, .int levels_h0, .int signs_h0, .int loops_h0, .int token_h0, .int fault_h0])), ((fad fd), .inr (0, [(frB fad fd), (frA fad fn fd), .int kind_t, .int place_t, .int width_t, .int second_t, .int parts_t, .int innerParts_t, .int innerPlace_t, .int innerWidth_t, .int signs_t, .int waitingBelow_t, .int limited_t, .int targets_t, .int lastBlock_t])), (a_scanner_h0, .inr (4, [.ref a_text_a_scanner_h0, .int next_a_scanner_h0, .int kind_a_scanner_h0, .int start_a_scanner_h0, .int width_a_scanner_h0])), (a_draft_h0, .inr (1, [.ref a_cells_a_draft_h0, .int count_a_draft_h0])), (a_waiting_h0, .inr (5, [.ref a_cells_a_waiting_h0, .int count_a_waiting_h0])), (a_cells_a_draft_h0, .inl (cI, n_a_cells_a_draft_h0, .inl b_a_cells_a_draft_h0))]) (pl := fpo fad fn fd fcf) (lv' := []) [0, 1, 2, 3, 5, 4] [] 6 rfl rfl (by decide) [] rfl ?_
        exact j_zretE hr (zb_n zb0) d_Rd_standsInSeveral_87 ⟨fad, a_cells_a_draft_h0, rfl, zb0, rfl⟩
      · replace h := it_t c3 h
        refine j_aload_n d_Rd_standsInSeveral_75 rfl 0 rfl ?_
        replace h := bw_s h
        obtain ⟨⟨r4, r5, r6⟩, C8, S9, C10, S11, k12, h, e1, e2⟩ := h
        replace hC : 0 + C8 + C10 ≤ mc := by omega
        replace hS : 0 + S9 + S11 ≤ ms := by omega
        clear e1 e2
        refine j_callVg (n := 0) (As := []) (rest := []) (wr := ([(a_waiting_h0, .inr (5, [.ref a_cells_a_waiting_h0, .int count_a_waiting_h0]))] ++ fpo fad fn fd fcf)) (c_Rd_addTarget l D cI cB cJ cS h0 a_scanner_h0 a_draft_h0 a_waiting_h0 a_functions_h0 (fad 0) (fad fd) a_text_h0 (frB fad fd) (frA fad fn fd) a_text_a_scanner_h0 a_cells_a_draft_h0 mode_h0 levels_h0 signs_h0 loops_h0 token_h0 fault_h0 kind_t place_t width_t second_t parts_t innerParts_t innerPlace_t innerWidth_t signs_t waitingBelow_t limited_t targets_t lastBlock_t next_a_scanner_h0 kind_a_scanner_h0 start_a_scanner_h0 width_a_scanner_h0 count_a_draft_h0 n_a_cells_a_draft_h0 b_a_cells_a_draft_h0  r4 r5 r6 C8 S9 k12) k_Rd_280 (by decide) ⟨Nat.le_of_ble_eq_true rfl, Nat.le_of_ble_eq_true rfl⟩ rfl 0 rfl (pk_mid (wr := [(a_waiting_h0, .inr (5, [.ref a_cells_a_waiting_h0, .int count_a_waiting_h0]))]) (w0 := [(h0, .inr (2, [.ref a_scanner_h0, .ref a_draft_h0, .ref a_waiting_h0, .ref a_functions_h0, .ref (fad 0), .ref (fad fd), .ref a_text_h0, .int mode_h0, .int levels_h0, .int signs_h0, .int loops_h0, .int token_h0, .int fault_h0])), ((fad fd), .inr (0, [(frB fad fd), (frA fad fn fd), .int kind_t, .int place_t, .int width_t, .int second_t, .int parts_t, .int innerParts_t, .int innerPlace_t, .int innerWidth_t, .int signs_t, .int waitingBelow_t, .int limited_t, .int targets_t, .int lastBlock_t])), (a_scanner_h0, .inr (4, [.ref a_text_a_scanner_h0, .int next_a_scanner_h0, .int kind_a_scanner_h0, .int start_a_scanner_h0, .int width_a_scanner_h0])), (a_draft_h0, .inr (1, [.ref a_cells_a_draft_h0, .int count_a_draft_h0])), (a_cells_a_draft_h0, .inl (cI, n_a_cells_a_draft_h0, .inl b_a_cells_a_draft_h0))]) (pl := fpo fad fn fd fcf) [5, 0, 1, 2, 3, 4] 6 rfl rfl (by decide)) rfl rfl (Nat.le_of_ble_eq_true rfl) d_Rd_standsInSeveral_76 ⟨show 0 + C8 ≤ mc by omega, show 0 + S9 ≤ ms by omega⟩ (fun v w hq => ?_)
        obtain ⟨q7, rfl, _, rfl⟩ := hq
        refine j_perm (ws' := ((a_waiting_h0, .inr (5, [.ref a_cells_a_waiting_h0, .int count_a_waiting_h0])) :: (h0, .inr (2, [.ref a_scanner_h0, .ref a_draft_h0, .ref a_waiting_h0, .ref a_functions_h0, .ref (fad 0), .ref (fad fd), .ref a_text_h0, .int 21, .int levels_h0, .int signs_h0, .int loops_h0, .int token_h0, .int fault_h0])) :: ((fad fd), .inr (0, [(frB fad fd), (frA fad fn fd), .int kind_t, .int place_t, .int width_t, .int second_t, .int parts_t, .int (innerParts_t + 1), .int innerPlace_t, .int innerWidth_t, .int signs_t, .int waitingBelow_t, .int limited_t, .int targets_t, .int lastBlock_t])) :: (a_scanner_h0, .inr (4, [.ref a_text_a_scanner_h0, .int next_a_scanner_h0, .int kind_a_scanner_h0, .int start_a_scanner_h0, .int width_a_scanner_h0])) :: (a_draft_h0, .inr (1, [.ref q7, .int r4])) :: (q7, .inl (cI, r5, .inl r6)) :: fpo fad fn fd fcf)) (pm_eq (a := [(a_waiting_h0, .inr (5, [.ref a_cells_a_waiting_h0, .int count_a_waiting_h0]))]) (b := fpo fad fn fd fcf) (c := [(h0, .inr (2, [.ref a_scanner_h0, .ref a_draft_h0, .ref a_waiting_h0, .ref a_functions_h0, .ref (fad 0), .ref (fad fd), .ref a_text_h0, .int 21, .int levels_h0, .int signs_h0, .int loops_h0, .int token_h0, .int fault_h0])), ((fad fd), .inr (0, [(frB fad fd), (frA fad fn fd), .int kind_t, .int place_t, .int width_t, .int second_t, .int parts_t, .int (innerParts_t + 1), .int innerPlace_t, .int innerWidth_t, .int signs_t, .int waitingBelow_t, .int limited_t, .int targets_t, .int lastBlock_t])), (a_scanner_h0, .inr (4, [.ref a_text_a_scanner_h0, .int next_a_scanner_h0, .int kind_a_scanner_h0, .int start_a_scanner_h0, .int width_a_scanner_h0])), (a_draft_h0, .inr (1, [.ref q7, .int r4])), (q7, .inl (cI, r5, .inl r6))]) rfl) ?_
        refine j_norm (pc' := 79) (st' := [.int 1]) (ws' := ((a_waiting_h0, .inr (5, [.ref a_cells_a_waiting_h0, .int count_a_waiting_h0])) :: (h0, .inr (2, [.ref a_scanner_h0, .ref a_draft_h0, .ref a_waiting_h0, .ref a_functions_h0, .ref (fad 0), .ref (fad fd), .ref a_text_h0, .int 21, .int levels_h0, .int signs_h0, .int loops_h0, .int token_h0, .int fault_h0])) :: ((fad fd), .inr (0, [(frB fad fd), (frA fad fn fd), .int kind_t, .int place_t, .int width_t, .int second_t, .int parts_t, .int (innerParts_t + 1), .int innerPlace_t, .int innerWidth_t, .int signs_t, .int waitingBelow_t, .int limited_t, .int targets_t, .int lastBlock_t])) :: (a_scanner_h0, .inr (4, [.ref a_text_a_scanner_h0, .int next_a_scanner_h0, .int kind_a_scanner_h0, .int start_a_scanner_h0, .int width_a_scanner_h0])) :: (a_draft_h0, .inr (1, [.ref q7, .int r4])) :: (q7, .inl (cI, r5, .inl r6)) :: fpo fad fn fd fcf)) (cl' := 0 + C8) (sl' := 0 + S9) rfl rfl rfl rfl rfl rfl ?_
        refine j_if_eq (tgt := 86) d_Rd_standsInSeveral_79 (by decide) (fun c13 => absurd c13 (by decide)) (fun c13 => ?_)
        refine j_iconst (v := 1) d_Rd_standsInSeveral_82 (by decide) ?_
        refine j_goto (tgt := 87) d_Rd_standsInSeveral_83 (by decide) ?_
        replace h := lf_s h
        obtain ⟨h, e1, e2⟩ := h
        replace h := Prod.mk.inj h
        obtain ⟨h9, h⟩ := h
        subst h9
        replace h := Prod.mk.inj h
        obtain ⟨h9, h⟩ := h
        subst h9
        replace h := Prod.mk.inj h
        obtain ⟨h9, h⟩ := h
        subst h9
        replace h := Prod.mk.inj h
        obtain ⟨h9, h⟩ := h
        subst h9
        replace h := Prod.mk.inj h
        obtain ⟨h9, h⟩ := h
        subst h9
        replace h := Prod.mk.inj h
        obtain ⟨h9, h⟩ := h
        subst h9
        replace h := Prod.mk.inj h
        obtain ⟨h9, h⟩ := h
        subst h9
        replace h := Prod.mk.inj h
        obtain ⟨h9, h⟩ := h
        subst h9
        replace h := Prod.mk.inj h
        obtain ⟨h9, h⟩ := h
        subst h9
        replace h := Prod.mk.inj h
        obtain ⟨h9, h⟩ := h
        subst h9
        replace h := Prod.mk.inj h
        obtain ⟨h9, h⟩ := h
        subst h9
        replace h := Prod.mk.inj h
        obtain ⟨h9, h⟩ := h
        subst h9
        replace h := Prod.mk.inj h
        obtain ⟨h9, h⟩ := h
        subst h9
        replace h := Prod.mk.inj h
        obtain ⟨h9, h⟩ := h
        subst h9
        replace h := Prod.mk.inj h
        obtain ⟨h9, h⟩ := h
        subst h9
        replace h := Prod.mk.inj h
        obtain ⟨h9, h⟩ := h
        subst h9
        replace h := Prod.mk.inj h
        obtain ⟨h9, h⟩ := h
        subst h9
        replace h := Prod.mk.inj h
        obtain ⟨h9, h⟩ := h
        subst h9
        replace h := Prod.mk.inj h
        obtain ⟨h9, h⟩ := h
        subst h9
        replace h := Prod.mk.inj h
        obtain ⟨h9, h⟩ := h
        subst h9
        replace h := Prod.mk.inj h
        obtain ⟨h9, h⟩ := h
        subst h9
        replace h := Prod.mk.inj h
        obtain ⟨h9, h⟩ := h
        subst h9
        subst h
        refine j_widen (cl' := mc) (sl' := ms) (by omega) (by omega) ?_
        refine j_subP (w := [(h0, .inr (2, [.ref a_scanner_h0, .ref a_draft_h0, .ref a_waiting_h0, .ref a_functions_h0, .ref (fad 0), .ref (fad fd), .ref a_text_h0, .int 21, .int levels_h0, .int signs_h0, .int loops_h0, .int token_h0, .int fault_h0])), ((fad fd), .inr (0, [(frB fad fd), (frA fad fn fd), .int kind_t, .int place_t, .int width_t, .int second_t, .int parts_t, .int (innerParts_t + 1), .int innerPlace_t, .int innerWidth_t, .int signs_t, .int waitingBelow_t, .int limited_t, .int targets_t, .int lastBlock_t])), (a_scanner_h0, .inr (4, [.ref a_text_a_scanner_h0, .int next_a_scanner_h0, .int kind_a_scanner_h0, .int start_a_scanner_h0, .int width_a_scanner_h0])), (a_draft_h0, .inr (1, [.ref q7, .int r4])), (a_waiting_h0, .inr (5, [.ref a_cells_a_waiting_h0, .int count_a_waiting_h0])), (q7, .inl (cI, r5, .inl r6))]) (pl := fpo fad fn fd fcf) (lv' := []) [1, 2, 3, 4, 0, 5] [] 6 rfl rfl (by decide) [] rfl ?_
        exact j_zretE hr (zb_n zb1) d_Rd_standsInSeveral_87 ⟨fad, q7, rfl, zb1, rfl⟩
    · replace h := it_t c2 h
      refine j_aload_n d_Rd_standsInSeveral_53 rfl 0 rfl ?_
      refine j_aload_n d_Rd_standsInSeveral_54 rfl 0 rfl ?_
      refine j_get ig_Rd rfl 0 rfl 0 (by decide) rfl m_169 rfl d_Rd_standsInSeveral_55 ?_
      refine j_callVg (n := 0) (As := []) (rest := [.ref h0]) (wr := ([(h0, .inr (2, [.ref a_scanner_h0, .ref a_draft_h0, .ref a_waiting_h0, .ref a_functions_h0, .ref (fad 0), .ref (fad fd), .ref a_text_h0, .int mode_h0, .int levels_h0, .int signs_h0, .int loops_h0, .int token_h0, .int fault_h0])), ((fad fd), .inr (0, [(frB fad fd), (frA fad fn fd), .int kind_t, .int place_t, .int width_t, .int second_t, .int parts_t, .int innerParts_t, .int innerPlace_t, .int innerWidth_t, .int signs_t, .int waitingBelow_t, .int limited_t, .int targets_t, .int lastBlock_t])), (a_draft_h0, .inr (1, [.ref a_cells_a_draft_h0, .int count_a_draft_h0])), (a_cells_a_draft_h0, .inl (cI, n_a_cells_a_draft_h0, .inl b_a_cells_a_draft_h0)), (a_waiting_h0, .inr (5, [.ref a_cells_a_waiting_h0, .int count_a_waiting_h0]))] ++ fpo fad fn fd fcf)) (c_Sc_start l D cI cB cJ cS a_scanner_h0 a_text_a_scanner_h0 next_a_scanner_h0 kind_a_scanner_h0 start_a_scanner_h0 width_a_scanner_h0  ) k_Rd_113 (by decide) ⟨Nat.le_of_ble_eq_true rfl, Nat.le_of_ble_eq_true rfl⟩ rfl 0 rfl (pk_mid (wr := [(h0, .inr (2, [.ref a_scanner_h0, .ref a_draft_h0, .ref a_waiting_h0, .ref a_functions_h0, .ref (fad 0), .ref (fad fd), .ref a_text_h0, .int mode_h0, .int levels_h0, .int signs_h0, .int loops_h0, .int token_h0, .int fault_h0])), ((fad fd), .inr (0, [(frB fad fd), (frA fad fn fd), .int kind_t, .int place_t, .int width_t, .int second_t, .int parts_t, .int innerParts_t, .int innerPlace_t, .int innerWidth_t, .int signs_t, .int waitingBelow_t, .int limited_t, .int targets_t, .int lastBlock_t])), (a_draft_h0, .inr (1, [.ref a_cells_a_draft_h0, .int count_a_draft_h0])), (a_cells_a_draft_h0, .inl (cI, n_a_cells_a_draft_h0, .inl b_a_cells_a_draft_h0)), (a_waiting_h0, .inr (5, [.ref a_cells_a_waiting_h0, .int count_a_waiting_h0]))]) (w0 := [(a_scanner_h0, .inr (4, [.ref a_text_a_scanner_h0, .int next_a_scanner_h0, .int kind_a_scanner_h0, .int start_a_scanner_h0, .int width_a_scanner_h0]))]) (pl := fpo fad fn fd fcf) [0, 1, 3, 4, 5, 2] 6 rfl rfl (by decide)) rfl rfl (Nat.le_of_ble_eq_true rfl) d_Rd_standsInSeveral_58 ⟨show 0 + 0 ≤ mc by omega, show 0 + 0 ≤ ms by omega⟩ (fun v w hq => ?_)
      obtain ⟨rfl, rfl⟩ := hq
      refine j_perm (ws' := ((h0, .inr (2, [.ref a_scanner_h0, .ref a_draft_h0, .ref a_waiting_h0, .ref a_functions_h0, .ref (fad 0), .ref (fad fd), .ref a_text_h0, .int mode_h0, .int levels_h0, .int signs_h0, .int loops_h0, .int token_h0, .int fault_h0])) :: ((fad fd), .inr (0, [(frB fad fd), (frA fad fn fd), .int kind_t, .int place_t, .int width_t, .int second_t, .int parts_t, .int innerParts_t, .int innerPlace_t, .int innerWidth_t, .int signs_t, .int waitingBelow_t, .int limited_t, .int targets_t, .int lastBlock_t])) :: (a_draft_h0, .inr (1, [.ref a_cells_a_draft_h0, .int count_a_draft_h0])) :: (a_cells_a_draft_h0, .inl (cI, n_a_cells_a_draft_h0, .inl b_a_cells_a_draft_h0)) :: (a_waiting_h0, .inr (5, [.ref a_cells_a_waiting_h0, .int count_a_waiting_h0])) :: (a_scanner_h0, .inr (4, [.ref a_text_a_scanner_h0, .int next_a_scanner_h0, .int kind_a_scanner_h0, .int start_a_scanner_h0, .int width_a_scanner_h0])) :: fpo fad fn fd fcf)) (pm_eq (a := [(h0, .inr (2, [.ref a_scanner_h0, .ref a_draft_h0, .ref a_waiting_h0, .ref a_functions_h0, .ref (fad 0), .ref (fad fd), .ref a_text_h0, .int mode_h0, .int levels_h0, .int signs_h0, .int loops_h0, .int token_h0, .int fault_h0])), ((fad fd), .inr (0, [(frB fad fd), (frA fad fn fd), .int kind_t, .int place_t, .int width_t, .int second_t, .int parts_t, .int innerParts_t, .int innerPlace_t, .int innerWidth_t, .int signs_t, .int waitingBelow_t, .int limited_t, .int targets_t, .int lastBlock_t])), (a_draft_h0, .inr (1, [.ref a_cells_a_draft_h0, .int count_a_draft_h0])), (a_cells_a_draft_h0, .inl (cI, n_a_cells_a_draft_h0, .inl b_a_cells_a_draft_h0)), (a_waiting_h0, .inr (5, [.ref a_cells_a_waiting_h0, .int count_a_waiting_h0]))]) (b := fpo fad fn fd fcf) (c := [(a_scanner_h0, .inr (4, [.ref a_text_a_scanner_h0, .int next_a_scanner_h0, .int kind_a_scanner_h0, .int start_a_scanner_h0, .int width_a_scanner_h0]))]) rfl) ?_
      refine j_norm (pc' := 61) (st' := [.int start_a_scanner_h0, .ref h0]) (ws' := ((h0, .inr (2, [.ref a_scanner_h0, .ref a_draft_h0, .ref a_waiting_h0, .ref a_functions_h0, .ref (fad 0), .ref (fad fd), .ref a_text_h0, .int mode_h0, .int levels_h0, .int signs_h0, .int loops_h0, .int token_h0, .int fault_h0])) :: ((fad fd), .inr (0, [(frB fad fd), (frA fad fn fd), .int kind_t, .int place_t, .int width_t, .int second_t, .int parts_t, .int innerParts_t, .int innerPlace_t, .int innerWidth_t, .int signs_t, .int waitingBelow_t, .int limited_t, .int targets_t, .int lastBlock_t])) :: (a_draft_h0, .inr (1, [.ref a_cells_a_draft_h0, .int count_a_draft_h0])) :: (a_cells_a_draft_h0, .inl (cI, n_a_cells_a_draft_h0, .inl b_a_cells_a_draft_h0)) :: (a_waiting_h0, .inr (5, [.ref a_cells_a_waiting_h0, .int count_a_waiting_h0])) :: (a_scanner_h0, .inr (4, [.ref a_text_a_scanner_h0, .int next_a_scanner_h0, .int kind_a_scanner_h0, .int start_a_scanner_h0, .int width_a_scanner_h0])) :: fpo fad fn fd fcf)) (cl' := 0) (sl' := 0) rfl rfl rfl rfl rfl rfl ?_
      replace h := bw_s h
      obtain ⟨⟨r15, r16, r17⟩, C19, S20, C21, S22, k23, h, e1, e2⟩ := h
      replace hC : 0 + C19 + C21 ≤ mc := by omega
      replace hS : 0 + S20 + S22 ≤ ms := by omega
      clear e1 e2
      refine j_callVg (n := 1) (As := [.int start_a_scanner_h0]) (rest := []) (wr := ([(a_waiting_h0, .inr (5, [.ref a_cells_a_waiting_h0, .int count_a_waiting_h0])), (a_scanner_h0, .inr (4, [.ref a_text_a_scanner_h0, .int next_a_scanner_h0, .int kind_a_scanner_h0, .int start_a_scanner_h0, .int width_a_scanner_h0]))] ++ fpo fad fn fd fcf)) (c_Rd_addNothing l D cI cB cJ cS h0 a_scanner_h0 a_draft_h0 a_waiting_h0 a_functions_h0 (fad 0) (fad fd) a_text_h0 (frB fad fd) (frA fad fn fd) a_cells_a_draft_h0 start_a_scanner_h0 mode_h0 levels_h0 signs_h0 loops_h0 token_h0 fault_h0 kind_t place_t width_t second_t parts_t innerParts_t innerPlace_t innerWidth_t signs_t waitingBelow_t limited_t targets_t lastBlock_t count_a_draft_h0 n_a_cells_a_draft_h0 b_a_cells_a_draft_h0  r15 r16 r17 C19 S20 k23) k_Rd_277 (by decide) ⟨Nat.le_of_ble_eq_true rfl, Nat.le_of_ble_eq_true rfl⟩ rfl 0 rfl (pk_mid (wr := [(a_waiting_h0, .inr (5, [.ref a_cells_a_waiting_h0, .int count_a_waiting_h0])), (a_scanner_h0, .inr (4, [.ref a_text_a_scanner_h0, .int next_a_scanner_h0, .int kind_a_scanner_h0, .int start_a_scanner_h0, .int width_a_scanner_h0]))]) (w0 := [(h0, .inr (2, [.ref a_scanner_h0, .ref a_draft_h0, .ref a_waiting_h0, .ref a_functions_h0, .ref (fad 0), .ref (fad fd), .ref a_text_h0, .int mode_h0, .int levels_h0, .int signs_h0, .int loops_h0, .int token_h0, .int fault_h0])), ((fad fd), .inr (0, [(frB fad fd), (frA fad fn fd), .int kind_t, .int place_t, .int width_t, .int second_t, .int parts_t, .int innerParts_t, .int innerPlace_t, .int innerWidth_t, .int signs_t, .int waitingBelow_t, .int limited_t, .int targets_t, .int lastBlock_t])), (a_draft_h0, .inr (1, [.ref a_cells_a_draft_h0, .int count_a_draft_h0])), (a_cells_a_draft_h0, .inl (cI, n_a_cells_a_draft_h0, .inl b_a_cells_a_draft_h0))]) (pl := fpo fad fn fd fcf) [4, 5, 0, 1, 2, 3] 6 rfl rfl (by decide)) rfl rfl (Nat.le_of_ble_eq_true rfl) d_Rd_standsInSeveral_61 ⟨show 0 + C19 ≤ mc by omega, show 0 + S20 ≤ ms by omega⟩ (fun v w hq => ?_)
      obtain ⟨q18, rfl, _, rfl⟩ := hq
      refine j_perm (ws' := ((a_waiting_h0, .inr (5, [.ref a_cells_a_waiting_h0, .int count_a_waiting_h0])) :: (a_scanner_h0, .inr (4, [.ref a_text_a_scanner_h0, .int next_a_scanner_h0, .int kind_a_scanner_h0, .int start_a_scanner_h0, .int width_a_scanner_h0])) :: (h0, .inr (2, [.ref a_scanner_h0, .ref a_draft_h0, .ref a_waiting_h0, .ref a_functions_h0, .ref (fad 0), .ref (fad fd), .ref a_text_h0, .int 21, .int levels_h0, .int signs_h0, .int loops_h0, .int token_h0, .int fault_h0])) :: ((fad fd), .inr (0, [(frB fad fd), (frA fad fn fd), .int kind_t, .int place_t, .int width_t, .int second_t, .int parts_t, .int (innerParts_t + 1), .int innerPlace_t, .int innerWidth_t, .int signs_t, .int waitingBelow_t, .int limited_t, .int targets_t, .int lastBlock_t])) :: (a_draft_h0, .inr (1, [.ref q18, .int r15])) :: (q18, .inl (cI, r16, .inl r17)) :: fpo fad fn fd fcf)) (pm_eq (a := [(a_waiting_h0, .inr (5, [.ref a_cells_a_waiting_h0, .int count_a_waiting_h0])), (a_scanner_h0, .inr (4, [.ref a_text_a_scanner_h0, .int next_a_scanner_h0, .int kind_a_scanner_h0, .int start_a_scanner_h0, .int width_a_scanner_h0]))]) (b := fpo fad fn fd fcf) (c := [(h0, .inr (2, [.ref a_scanner_h0, .ref a_draft_h0, .ref a_waiting_h0, .ref a_functions_h0, .ref (fad 0), .ref (fad fd), .ref a_text_h0, .int 21, .int levels_h0, .int signs_h0, .int loops_h0, .int token_h0, .int fault_h0])), ((fad fd), .inr (0, [(frB fad fd), (frA fad fn fd), .int kind_t, .int place_t, .int width_t, .int second_t, .int parts_t, .int (innerParts_t + 1), .int innerPlace_t, .int innerWidth_t, .int signs_t, .int waitingBelow_t, .int limited_t, .int targets_t, .int lastBlock_t])), (a_draft_h0, .inr (1, [.ref q18, .int r15])), (q18, .inl (cI, r16, .inl r17))]) rfl) ?_
      refine j_norm (pc' := 64) (st' := [.int 1]) (ws' := ((a_waiting_h0, .inr (5, [.ref a_cells_a_waiting_h0, .int count_a_waiting_h0])) :: (a_scanner_h0, .inr (4, [.ref a_text_a_scanner_h0, .int next_a_scanner_h0, .int kind_a_scanner_h0, .int start_a_scanner_h0, .int width_a_scanner_h0])) :: (h0, .inr (2, [.ref a_scanner_h0, .ref a_draft_h0, .ref a_waiting_h0, .ref a_functions_h0, .ref (fad 0), .ref (fad fd), .ref a_text_h0, .int 21, .int levels_h0, .int signs_h0, .int loops_h0, .int token_h0, .int fault_h0])) :: ((fad fd), .inr (0, [(frB fad fd), (frA fad fn fd), .int kind_t, .int place_t, .int width_t, .int second_t, .int parts_t, .int (innerParts_t + 1), .int innerPlace_t, .int innerWidth_t, .int signs_t, .int waitingBelow_t, .int limited_t, .int targets_t, .int lastBlock_t])) :: (a_draft_h0, .inr (1, [.ref q18, .int r15])) :: (q18, .inl (cI, r16, .inl r17)) :: fpo fad fn fd fcf)) (cl' := 0 + C19) (sl' := 0 + S20) rfl rfl rfl rfl rfl rfl ?_
      refine j_goto (tgt := 87) d_Rd_standsInSeveral_64 (by decide) ?_
      replace h := lf_s h
      obtain ⟨h, e1, e2⟩ := h
      replace h := Prod.mk.inj h
      obtain ⟨h9, h⟩ := h
      subst h9
      replace h := Prod.mk.inj h
      obtain ⟨h9, h⟩ := h
      subst h9
      replace h := Prod.mk.inj h
      obtain ⟨h9, h⟩ := h
      subst h9
      replace h := Prod.mk.inj h
      obtain ⟨h9, h⟩ := h
      subst h9
      replace h := Prod.mk.inj h
      obtain ⟨h9, h⟩ := h
      subst h9
      replace h := Prod.mk.inj h
      obtain ⟨h9, h⟩ := h
      subst h9
      replace h := Prod.mk.inj h
      obtain ⟨h9, h⟩ := h
      subst h9
      replace h := Prod.mk.inj h
      obtain ⟨h9, h⟩ := h
      subst h9
      replace h := Prod.mk.inj h
      obtain ⟨h9, h⟩ := h
      subst h9
      replace h := Prod.mk.inj h
      obtain ⟨h9, h⟩ := h
      subst h9
      replace h := Prod.mk.inj h
      obtain ⟨h9, h⟩ := h
      subst h9
      replace h := Prod.mk.inj h
      obtain ⟨h9, h⟩ := h
      subst h9
      replace h := Prod.mk.inj h
      obtain ⟨h9, h⟩ := h
      subst h9
      replace h := Prod.mk.inj h
      obtain ⟨h9, h⟩ := h
      subst h9
      replace h := Prod.mk.inj h
      obtain ⟨h9, h⟩ := h
      subst h9
      replace h := Prod.mk.inj h
      obtain ⟨h9, h⟩ := h
      subst h9
      replace h := Prod.mk.inj h
      obtain ⟨h9, h⟩ := h
      subst h9
      replace h := Prod.mk.inj h
      obtain ⟨h9, h⟩ := h
      subst h9
      replace h := Prod.mk.inj h
      obtain ⟨h9, h⟩ := h
      subst h9
      replace h := Prod.mk.inj h
      obtain ⟨h9, h⟩ := h
      subst h9
      replace h := Prod.mk.inj h
      obtain ⟨h9, h⟩ := h
      subst h9
      replace h := Prod.mk.inj h
      obtain ⟨h9, h⟩ := h
      subst h9
      subst h
      refine j_widen (cl' := mc) (sl' := ms) (by omega) (by omega) ?_
      refine j_subP (w := [(h0, .inr (2, [.ref a_scanner_h0, .ref a_draft_h0, .ref a_waiting_h0, .ref a_functions_h0, .ref (fad 0), .ref (fad fd), .ref a_text_h0, .int 21, .int levels_h0, .int signs_h0, .int loops_h0, .int token_h0, .int fault_h0])), ((fad fd), .inr (0, [(frB fad fd), (frA fad fn fd), .int kind_t, .int place_t, .int width_t, .int second_t, .int parts_t, .int (innerParts_t + 1), .int innerPlace_t, .int innerWidth_t, .int signs_t, .int waitingBelow_t, .int limited_t, .int targets_t, .int lastBlock_t])), (a_scanner_h0, .inr (4, [.ref a_text_a_scanner_h0, .int next_a_scanner_h0, .int kind_a_scanner_h0, .int start_a_scanner_h0, .int width_a_scanner_h0])), (a_draft_h0, .inr (1, [.ref q18, .int r15])), (a_waiting_h0, .inr (5, [.ref a_cells_a_waiting_h0, .int count_a_waiting_h0])), (q18, .inl (cI, r16, .inl r17))]) (pl := fpo fad fn fd fcf) (lv' := []) [2, 3, 1, 4, 0, 5] [] 6 rfl rfl (by decide) [] rfl ?_
      exact j_zretE hr (zb_n zb1) d_Rd_standsInSeveral_87 ⟨fad, q18, rfl, zb1, rfl⟩
  · replace h := it_f c1 h
    by_cases c24 : mode_h0 = 21
    · replace h := it_t c24 h
      refine j_tabIn (tgt := 88) (off := 84) d_Rd_standsInSeveral_4 21 c24 (by decide) (by decide) (by decide) (by decide) ?_
      refine j_aload_n d_Rd_standsInSeveral_88 rfl 0 rfl ?_
      refine j_get ig_Rd rfl 0 rfl 11 (by decide) rfl m_180 rfl d_Rd_standsInSeveral_89 ?_
      refine j_bipush (v := 93) d_Rd_standsInSeveral_92 (by decide) ?_
      refine j_icmp_ne (tgt := 104) d_Rd_standsInSeveral_94 (by decide) (fun c25 => ?_) (fun c25 => ?_)
      · replace h := it_f c25 h
        refine j_aload_n d_Rd_standsInSeveral_104 rfl 0 rfl ?_
        refine j_get ig_Rd rfl 0 rfl 11 (by decide) rfl m_180 rfl d_Rd_standsInSeveral_105 ?_
        refine j_bipush (v := 44) d_Rd_standsInSeveral_108 (by decide) ?_
        refine j_icmp_ne (tgt := 133) d_Rd_standsInSeveral_110 (by decide) (fun c26 => ?_) (fun c26 => ?_)
        · replace h := it_f c26 h
          refine j_iconst (v := 0) d_Rd_standsInSeveral_133 (by decide) ?_
          replace h := lf_s h
          obtain ⟨h, e1, e2⟩ := h
          replace h := Prod.mk.inj h
          obtain ⟨h9, h⟩ := h
          subst h9
          replace h := Prod.mk.inj h
          obtain ⟨h9, h⟩ := h
          subst h9
          replace h := Prod.mk.inj h
          obtain ⟨h9, h⟩ := h
          subst h9
          replace h := Prod.mk.inj h
          obtain ⟨h9, h⟩ := h
          subst h9
          replace h := Prod.mk.inj h
          obtain ⟨h9, h⟩ := h
          subst h9
          replace h := Prod.mk.inj h
          obtain ⟨h9, h⟩ := h
          subst h9
          replace h := Prod.mk.inj h
          obtain ⟨h9, h⟩ := h
          subst h9
          replace h := Prod.mk.inj h
          obtain ⟨h9, h⟩ := h
          subst h9
          replace h := Prod.mk.inj h
          obtain ⟨h9, h⟩ := h
          subst h9
          replace h := Prod.mk.inj h
          obtain ⟨h9, h⟩ := h
          subst h9
          replace h := Prod.mk.inj h
          obtain ⟨h9, h⟩ := h
          subst h9
          replace h := Prod.mk.inj h
          obtain ⟨h9, h⟩ := h
          subst h9
          replace h := Prod.mk.inj h
          obtain ⟨h9, h⟩ := h
          subst h9
          replace h := Prod.mk.inj h
          obtain ⟨h9, h⟩ := h
          subst h9
          replace h := Prod.mk.inj h
          obtain ⟨h9, h⟩ := h
          subst h9
          replace h := Prod.mk.inj h
          obtain ⟨h9, h⟩ := h
          subst h9
          replace h := Prod.mk.inj h
          obtain ⟨h9, h⟩ := h
          subst h9
          replace h := Prod.mk.inj h
          obtain ⟨h9, h⟩ := h
          subst h9
          replace h := Prod.mk.inj h
          obtain ⟨h9, h⟩ := h
          subst h9
          replace h := Prod.mk.inj h
          obtain ⟨h9, h⟩ := h
          subst h9
          replace h := Prod.mk.inj h
          obtain ⟨h9, h⟩ := h
          subst h9
          replace h := Prod.mk.inj h
          obtain ⟨h9, h⟩ := h
          subst h9
          subst h
          refine j_widen (cl' := mc) (sl' := ms) (by omega) (by omega) ?_
          refine j_subP (w := [(h0, .inr (2, [.ref a_scanner_h0, .ref a_draft_h0, .ref a_waiting_h0, .ref a_functions_h0, .ref (fad 0), .ref (fad fd), .ref a_text_h0, .int mode_h0, .int levels_h0, .int signs_h0, .int loops_h0, .int token_h0, .int fault_h0])), ((fad fd), .inr (0, [(frB fad fd), (frA fad fn fd), .int kind_t, .int place_t, .int width_t, .int second_t, .int parts_t, .int innerParts_t, .int innerPlace_t, .int innerWidth_t, .int signs_t, .int waitingBelow_t, .int limited_t, .int targets_t, .int lastBlock_t])), (a_scanner_h0, .inr (4, [.ref a_text_a_scanner_h0, .int next_a_scanner_h0, .int kind_a_scanner_h0, .int start_a_scanner_h0, .int width_a_scanner_h0])), (a_draft_h0, .inr (1, [.ref a_cells_a_draft_h0, .int count_a_draft_h0])), (a_waiting_h0, .inr (5, [.ref a_cells_a_waiting_h0, .int count_a_waiting_h0])), (a_cells_a_draft_h0, .inl (cI, n_a_cells_a_draft_h0, .inl b_a_cells_a_draft_h0))]) (pl := fpo fad fn fd fcf) (lv' := []) [0, 1, 2, 3, 5, 4] [] 6 rfl rfl (by decide) [] rfl ?_
          exact j_zretE hr (zb_n zb0) d_Rd_standsInSeveral_134 ⟨fad, a_cells_a_draft_h0, rfl, zb0, rfl⟩
        · replace h := it_t c26 h
          refine j_aload_n d_Rd_standsInSeveral_113 rfl 0 rfl ?_
          obtain ⟨r27, k29⟩ : ∃ z, (F_Rd_hasRoomForName mode_h0 levels_h0 signs_h0 loops_h0 token_h0 fault_h0 kind_t place_t width_t second_t parts_t innerParts_t innerPlace_t innerWidth_t signs_t waitingBelow_t limited_t targets_t lastBlock_t) = z := ⟨_, rfl⟩
          replace h := nm_at k29 h
          refine j_callVg (n := 0) (As := []) (rest := []) (wr := ([(a_scanner_h0, .inr (4, [.ref a_text_a_scanner_h0, .int next_a_scanner_h0, .int kind_a_scanner_h0, .int start_a_scanner_h0, .int width_a_scanner_h0])), (a_draft_h0, .inr (1, [.ref a_cells_a_draft_h0, .int count_a_draft_h0])), (a_cells_a_draft_h0, .inl (cI, n_a_cells_a_draft_h0, .inl b_a_cells_a_draft_h0)), (a_waiting_h0, .inr (5, [.ref a_cells_a_waiting_h0, .int count_a_waiting_h0]))] ++ fpo fad fn fd fcf)) (c_Rd_hasRoomForName l D cI cB cJ cS h0 a_scanner_h0 a_draft_h0 a_waiting_h0 a_functions_h0 (fad 0) (fad fd) a_text_h0 (frB fad fd) (frA fad fn fd) mode_h0 levels_h0 signs_h0 loops_h0 token_h0 fault_h0 kind_t place_t width_t second_t parts_t innerParts_t innerPlace_t innerWidth_t signs_t waitingBelow_t limited_t targets_t lastBlock_t  r27 k29) k_Rd_247 (by decide) ⟨Nat.le_of_ble_eq_true rfl, Nat.le_of_ble_eq_true rfl⟩ rfl 0 rfl (pk_mid (wr := [(a_scanner_h0, .inr (4, [.ref a_text_a_scanner_h0, .int next_a_scanner_h0, .int kind_a_scanner_h0, .int start_a_scanner_h0, .int width_a_scanner_h0])), (a_draft_h0, .inr (1, [.ref a_cells_a_draft_h0, .int count_a_draft_h0])), (a_cells_a_draft_h0, .inl (cI, n_a_cells_a_draft_h0, .inl b_a_cells_a_draft_h0)), (a_waiting_h0, .inr (5, [.ref a_cells_a_waiting_h0, .int count_a_waiting_h0]))]) (w0 := [(h0, .inr (2, [.ref a_scanner_h0, .ref a_draft_h0, .ref a_waiting_h0, .ref a_functions_h0, .ref (fad 0), .ref (fad fd), .ref a_text_h0, .int mode_h0, .int levels_h0, .int signs_h0, .int loops_h0, .int token_h0, .int fault_h0])), ((fad fd), .inr (0, [(frB fad fd), (frA fad fn fd), .int kind_t, .int place_t, .int width_t, .int second_t, .int parts_t, .int innerParts_t, .int innerPlace_t, .int innerWidth_t, .int signs_t, .int waitingBelow_t, .int limited_t, .int targets_t, .int lastBlock_t]))]) (pl := fpo fad fn fd fcf) [2, 3, 4, 5, 0, 1] 6 rfl rfl (by decide)) rfl rfl (Nat.le_of_ble_eq_true rfl) d_Rd_standsInSeveral_114 ⟨show 0 + 0 ≤ mc by omega, show 0 + 0 ≤ ms by omega⟩ (fun v w hq => ?_)
          obtain ⟨rfl, z28, rfl⟩ := hq
          refine j_perm (ws' := ((a_scanner_h0, .inr (4, [.ref a_text_a_scanner_h0, .int next_a_scanner_h0, .int kind_a_scanner_h0, .int start_a_scanner_h0, .int width_a_scanner_h0])) :: (a_draft_h0, .inr (1, [.ref a_cells_a_draft_h0, .int count_a_draft_h0])) :: (a_cells_a_draft_h0, .inl (cI, n_a_cells_a_draft_h0, .inl b_a_cells_a_draft_h0)) :: (a_waiting_h0, .inr (5, [.ref a_cells_a_waiting_h0, .int count_a_waiting_h0])) :: (h0, .inr (2, [.ref a_scanner_h0, .ref a_draft_h0, .ref a_waiting_h0, .ref a_functions_h0, .ref (fad 0), .ref (fad fd), .ref a_text_h0, .int mode_h0, .int levels_h0, .int signs_h0, .int loops_h0, .int token_h0, .int fault_h0])) :: ((fad fd), .inr (0, [(frB fad fd), (frA fad fn fd), .int kind_t, .int place_t, .int width_t, .int second_t, .int parts_t, .int innerParts_t, .int innerPlace_t, .int innerWidth_t, .int signs_t, .int waitingBelow_t, .int limited_t, .int targets_t, .int lastBlock_t])) :: fpo fad fn fd fcf)) (pm_eq (a := [(a_scanner_h0, .inr (4, [.ref a_text_a_scanner_h0, .int next_a_scanner_h0, .int kind_a_scanner_h0, .int start_a_scanner_h0, .int width_a_scanner_h0])), (a_draft_h0, .inr (1, [.ref a_cells_a_draft_h0, .int count_a_draft_h0])), (a_cells_a_draft_h0, .inl (cI, n_a_cells_a_draft_h0, .inl b_a_cells_a_draft_h0)), (a_waiting_h0, .inr (5, [.ref a_cells_a_waiting_h0, .int count_a_waiting_h0]))]) (b := fpo fad fn fd fcf) (c := [(h0, .inr (2, [.ref a_scanner_h0, .ref a_draft_h0, .ref a_waiting_h0, .ref a_functions_h0, .ref (fad 0), .ref (fad fd), .ref a_text_h0, .int mode_h0, .int levels_h0, .int signs_h0, .int loops_h0, .int token_h0, .int fault_h0])), ((fad fd), .inr (0, [(frB fad fd), (frA fad fn fd), .int kind_t, .int place_t, .int width_t, .int second_t, .int parts_t, .int innerParts_t, .int innerPlace_t, .int innerWidth_t, .int signs_t, .int waitingBelow_t, .int limited_t, .int targets_t, .int lastBlock_t]))]) rfl) ?_
          refine j_norm (pc' := 117) (st' := [.int r27]) (ws' := ((a_scanner_h0, .inr (4, [.ref a_text_a_scanner_h0, .int next_a_scanner_h0, .int kind_a_scanner_h0, .int start_a_scanner_h0, .int width_a_scanner_h0])) :: (a_draft_h0, .inr (1, [.ref a_cells_a_draft_h0, .int count_a_draft_h0])) :: (a_cells_a_draft_h0, .inl (cI, n_a_cells_a_draft_h0, .inl b_a_cells_a_draft_h0)) :: (a_waiting_h0, .inr (5, [.ref a_cells_a_waiting_h0, .int count_a_waiting_h0])) :: (h0, .inr (2, [.ref a_scanner_h0, .ref a_draft_h0, .ref a_waiting_h0, .ref a_functions_h0, .ref (fad 0), .ref (fad fd), .ref a_text_h0, .int mode_h0, .int levels_h0, .int signs_h0, .int loops_h0, .int token_h0, .int fault_h0])) :: ((fad fd), .inr (0, [(frB fad fd), (frA fad fn fd), .int kind_t, .int place_t, .int width_t, .int second_t, .int parts_t, .int innerParts_t, .int innerPlace_t, .int innerWidth_t, .int signs_t, .int waitingBelow_t, .int limited_t, .int targets_t, .int lastBlock_t])) :: fpo fad fn fd fcf)) (cl' := 0) (sl' := 0) rfl rfl rfl rfl rfl rfl ?_
          refine j_if_eq (tgt := 133) d_Rd_standsInSeveral_117 (by decide) (fun c30 => ?_) (fun c30 => ?_)
          · replace h := it_t c30 h
            refine j_iconst (v := 0) d_Rd_standsInSeveral_133 (by decide) ?_
            replace h := lf_s h
            obtain ⟨h, e1, e2⟩ := h
            replace h := Prod.mk.inj h
            obtain ⟨h9, h⟩ := h
            subst h9
            replace h := Prod.mk.inj h
            obtain ⟨h9, h⟩ := h
            subst h9
            replace h := Prod.mk.inj h
            obtain ⟨h9, h⟩ := h
            subst h9
            replace h := Prod.mk.inj h
            obtain ⟨h9, h⟩ := h
            subst h9
            replace h := Prod.mk.inj h
            obtain ⟨h9, h⟩ := h
            subst h9
            replace h := Prod.mk.inj h
            obtain ⟨h9, h⟩ := h
            subst h9
            replace h := Prod.mk.inj h
            obtain ⟨h9, h⟩ := h
            subst h9
            replace h := Prod.mk.inj h
            obtain ⟨h9, h⟩ := h
            subst h9
            replace h := Prod.mk.inj h
            obtain ⟨h9, h⟩ := h
            subst h9
            replace h := Prod.mk.inj h
            obtain ⟨h9, h⟩ := h
            subst h9
            replace h := Prod.mk.inj h
            obtain ⟨h9, h⟩ := h
            subst h9
            replace h := Prod.mk.inj h
            obtain ⟨h9, h⟩ := h
            subst h9
            replace h := Prod.mk.inj h
            obtain ⟨h9, h⟩ := h
            subst h9
            replace h := Prod.mk.inj h
            obtain ⟨h9, h⟩ := h
            subst h9
            replace h := Prod.mk.inj h
            obtain ⟨h9, h⟩ := h
            subst h9
            replace h := Prod.mk.inj h
            obtain ⟨h9, h⟩ := h
            subst h9
            replace h := Prod.mk.inj h
            obtain ⟨h9, h⟩ := h
            subst h9
            replace h := Prod.mk.inj h
            obtain ⟨h9, h⟩ := h
            subst h9
            replace h := Prod.mk.inj h
            obtain ⟨h9, h⟩ := h
            subst h9
            replace h := Prod.mk.inj h
            obtain ⟨h9, h⟩ := h
            subst h9
            replace h := Prod.mk.inj h
            obtain ⟨h9, h⟩ := h
            subst h9
            replace h := Prod.mk.inj h
            obtain ⟨h9, h⟩ := h
            subst h9
            subst h
            refine j_widen (cl' := mc) (sl' := ms) (by omega) (by omega) ?_
            refine j_subP (w := [(h0, .inr (2, [.ref a_scanner_h0, .ref a_draft_h0, .ref a_waiting_h0, .ref a_functions_h0, .ref (fad 0), .ref (fad fd), .ref a_text_h0, .int mode_h0, .int levels_h0, .int signs_h0, .int loops_h0, .int token_h0, .int fault_h0])), ((fad fd), .inr (0, [(frB fad fd), (frA fad fn fd), .int kind_t, .int place_t, .int width_t, .int second_t, .int parts_t, .int innerParts_t, .int innerPlace_t, .int innerWidth_t, .int signs_t, .int waitingBelow_t, .int limited_t, .int targets_t, .int lastBlock_t])), (a_scanner_h0, .inr (4, [.ref a_text_a_scanner_h0, .int next_a_scanner_h0, .int kind_a_scanner_h0, .int start_a_scanner_h0, .int width_a_scanner_h0])), (a_draft_h0, .inr (1, [.ref a_cells_a_draft_h0, .int count_a_draft_h0])), (a_waiting_h0, .inr (5, [.ref a_cells_a_waiting_h0, .int count_a_waiting_h0])), (a_cells_a_draft_h0, .inl (cI, n_a_cells_a_draft_h0, .inl b_a_cells_a_draft_h0))]) (pl := fpo fad fn fd fcf) (lv' := []) [4, 5, 0, 1, 3, 2] [] 6 rfl rfl (by decide) [] rfl ?_
            exact j_zretE hr (zb_n zb0) d_Rd_standsInSeveral_134 ⟨fad, a_cells_a_draft_h0, rfl, zb0, rfl⟩
          · replace h := it_f c30 h
            refine j_aload_n d_Rd_standsInSeveral_120 rfl 0 rfl ?_
            refine j_bipush (v := 20) d_Rd_standsInSeveral_121 (by decide) ?_
            refine j_callVg (n := 1) (As := [.int 20]) (rest := []) (wr := ([(a_scanner_h0, .inr (4, [.ref a_text_a_scanner_h0, .int next_a_scanner_h0, .int kind_a_scanner_h0, .int start_a_scanner_h0, .int width_a_scanner_h0])), (a_draft_h0, .inr (1, [.ref a_cells_a_draft_h0, .int count_a_draft_h0])), (a_cells_a_draft_h0, .inl (cI, n_a_cells_a_draft_h0, .inl b_a_cells_a_draft_h0)), (a_waiting_h0, .inr (5, [.ref a_cells_a_waiting_h0, .int count_a_waiting_h0])), ((fad fd), .inr (0, [(frB fad fd), (frA fad fn fd), .int kind_t, .int place_t, .int width_t, .int second_t, .int parts_t, .int innerParts_t, .int innerPlace_t, .int innerWidth_t, .int signs_t, .int waitingBelow_t, .int limited_t, .int targets_t, .int lastBlock_t]))] ++ fpo fad fn fd fcf)) (c_Rd_goOn l D cI cB cJ cS h0 a_scanner_h0 a_draft_h0 a_waiting_h0 a_functions_h0 (fad 0) (fad fd) a_text_h0 20 mode_h0 levels_h0 signs_h0 loops_h0 token_h0 fault_h0  ) k_Rd_130 (by decide) ⟨Nat.le_of_ble_eq_true rfl, Nat.le_of_ble_eq_true rfl⟩ rfl 0 rfl (pk_mid (wr := [(a_scanner_h0, .inr (4, [.ref a_text_a_scanner_h0, .int next_a_scanner_h0, .int kind_a_scanner_h0, .int start_a_scanner_h0, .int width_a_scanner_h0])), (a_draft_h0, .inr (1, [.ref a_cells_a_draft_h0, .int count_a_draft_h0])), (a_cells_a_draft_h0, .inl (cI, n_a_cells_a_draft_h0, .inl b_a_cells_a_draft_h0)), (a_waiting_h0, .inr (5, [.ref a_cells_a_waiting_h0, .int count_a_waiting_h0])), ((fad fd), .inr (0, [(frB fad fd), (frA fad fn fd), .int kind_t, .int place_t, .int width_t, .int second_t, .int parts_t, .int innerParts_t, .int innerPlace_t, .int innerWidth_t, .int signs_t, .int waitingBelow_t, .int limited_t, .int targets_t, .int lastBlock_t]))]) (w0 := [(h0, .inr (2, [.ref a_scanner_h0, .ref a_draft_h0, .ref a_waiting_h0, .ref a_functions_h0, .ref (fad 0), .ref (fad fd), .ref a_text_h0, .int mode_h0, .int levels_h0, .int signs_h0, .int loops_h0, .int token_h0, .int fault_h0]))]) (pl := fpo fad fn fd fcf) [0, 1, 2, 3, 5, 4] 6 rfl rfl (by decide)) rfl rfl (Nat.le_of_ble_eq_true rfl) d_Rd_standsInSeveral_123 ⟨show 0 + 0 ≤ mc by omega, show 0 + 0 ≤ ms by omega⟩ (fun v w hq => ?_)
            obtain ⟨rfl, _, rfl⟩ := hq
            refine j_perm (ws' := ((a_scanner_h0, .inr (4, [.ref a_text_a_scanner_h0, .int next_a_scanner_h0, .int kind_a_scanner_h0, .int start_a_scanner_h0, .int width_a_scanner_h0])) :: (a_draft_h0, .inr (1, [.ref a_cells_a_draft_h0, .int count_a_draft_h0])) :: (a_cells_a_draft_h0, .inl (cI, n_a_cells_a_draft_h0, .inl b_a_cells_a_draft_h0)) :: (a_waiting_h0, .inr (5, [.ref a_cells_a_waiting_h0, .int count_a_waiting_h0])) :: ((fad fd), .inr (0, [(frB fad fd), (frA fad fn fd), .int kind_t, .int place_t, .int width_t, .int second_t, .int parts_t, .int innerParts_t, .int innerPlace_t, .int innerWidth_t, .int signs_t, .int waitingBelow_t, .int limited_t, .int targets_t, .int lastBlock_t])) :: (h0, .inr (2, [.ref a_scanner_h0, .ref a_draft_h0, .ref a_waiting_h0, .ref a_functions_h0, .ref (fad 0), .ref (fad fd), .ref a_text_h0, .int 20, .int levels_h0, .int signs_h0, .int loops_h0, .int token_h0, .int fault_h0])) :: fpo fad fn fd fcf)) (pm_eq (a := [(a_scanner_h0, .inr (4, [.ref a_text_a_scanner_h0, .int next_a_scanner_h0, .int kind_a_scanner_h0, .int start_a_scanner_h0, .int width_a_scanner_h0])), (a_draft_h0, .inr (1, [.ref a_cells_a_draft_h0, .int count_a_draft_h0])), (a_cells_a_draft_h0, .inl (cI, n_a_cells_a_draft_h0, .inl b_a_cells_a_draft_h0)), (a_waiting_h0, .inr (5, [.ref a_cells_a_waiting_h0, .int count_a_waiting_h0])), ((fad fd), .inr (0, [(frB fad fd), (frA fad fn fd), .int kind_t, .int place_t, .int width_t, .int second_t, .int parts_t, .int innerParts_t, .int innerPlace_t, .int innerWidth_t, .int signs_t, .int waitingBelow_t, .int limited_t, .int targets_t, .int lastBlock_t]))]) (b := fpo fad fn fd fcf) (c := [(h0, .inr (2, [.ref a_scanner_h0, .ref a_draft_h0, .ref a_waiting_h0, .ref a_functions_h0, .ref (fad 0), .ref (fad fd), .ref a_text_h0, .int 20, .int levels_h0, .int signs_h0, .int loops_h0, .int token_h0, .int fault_h0]))]) rfl) ?_
            refine j_norm (pc' := 126) (st' := [.int 1]) (ws' := ((a_scanner_h0, .inr (4, [.ref a_text_a_scanner_h0, .int next_a_scanner_h0, .int kind_a_scanner_h0, .int start_a_scanner_h0, .int width_a_scanner_h0])) :: (a_draft_h0, .inr (1, [.ref a_cells_a_draft_h0, .int count_a_draft_h0])) :: (a_cells_a_draft_h0, .inl (cI, n_a_cells_a_draft_h0, .inl b_a_cells_a_draft_h0)) :: (a_waiting_h0, .inr (5, [.ref a_cells_a_waiting_h0, .int count_a_waiting_h0])) :: ((fad fd), .inr (0, [(frB fad fd), (frA fad fn fd), .int kind_t, .int place_t, .int width_t, .int second_t, .int parts_t, .int innerParts_t, .int innerPlace_t, .int innerWidth_t, .int signs_t, .int waitingBelow_t, .int limited_t, .int targets_t, .int lastBlock_t])) :: (h0, .inr (2, [.ref a_scanner_h0, .ref a_draft_h0, .ref a_waiting_h0, .ref a_functions_h0, .ref (fad 0), .ref (fad fd), .ref a_text_h0, .int 20, .int levels_h0, .int signs_h0, .int loops_h0, .int token_h0, .int fault_h0])) :: fpo fad fn fd fcf)) (cl' := 0) (sl' := 0) rfl rfl rfl rfl rfl rfl ?_
            refine j_if_eq (tgt := 133) d_Rd_standsInSeveral_126 (by decide) (fun c32 => absurd c32 (by decide)) (fun c32 => ?_)
            refine j_iconst (v := 1) d_Rd_standsInSeveral_129 (by decide) ?_
            refine j_goto (tgt := 134) d_Rd_standsInSeveral_130 (by decide) ?_
            replace h := lf_s h
            obtain ⟨h, e1, e2⟩ := h
            replace h := Prod.mk.inj h
            obtain ⟨h9, h⟩ := h
            subst h9
            replace h := Prod.mk.inj h
            obtain ⟨h9, h⟩ := h
            subst h9
            replace h := Prod.mk.inj h
            obtain ⟨h9, h⟩ := h
            subst h9
            replace h := Prod.mk.inj h
            obtain ⟨h9, h⟩ := h
            subst h9
            replace h := Prod.mk.inj h
            obtain ⟨h9, h⟩ := h
            subst h9
            replace h := Prod.mk.inj h
            obtain ⟨h9, h⟩ := h
            subst h9
            replace h := Prod.mk.inj h
            obtain ⟨h9, h⟩ := h
            subst h9
            replace h := Prod.mk.inj h
            obtain ⟨h9, h⟩ := h
            subst h9
            replace h := Prod.mk.inj h
            obtain ⟨h9, h⟩ := h
            subst h9
            replace h := Prod.mk.inj h
            obtain ⟨h9, h⟩ := h
            subst h9
            replace h := Prod.mk.inj h
            obtain ⟨h9, h⟩ := h
            subst h9
            replace h := Prod.mk.inj h
            obtain ⟨h9, h⟩ := h
            subst h9
            replace h := Prod.mk.inj h
            obtain ⟨h9, h⟩ := h
            subst h9
            replace h := Prod.mk.inj h
            obtain ⟨h9, h⟩ := h
            subst h9
            replace h := Prod.mk.inj h
            obtain ⟨h9, h⟩ := h
            subst h9
            replace h := Prod.mk.inj h
            obtain ⟨h9, h⟩ := h
            subst h9
            replace h := Prod.mk.inj h
            obtain ⟨h9, h⟩ := h
            subst h9
            replace h := Prod.mk.inj h
            obtain ⟨h9, h⟩ := h
            subst h9
            replace h := Prod.mk.inj h
            obtain ⟨h9, h⟩ := h
            subst h9
            replace h := Prod.mk.inj h
            obtain ⟨h9, h⟩ := h
            subst h9
            replace h := Prod.mk.inj h
            obtain ⟨h9, h⟩ := h
            subst h9
            replace h := Prod.mk.inj h
            obtain ⟨h9, h⟩ := h
            subst h9
            subst h
            refine j_widen (cl' := mc) (sl' := ms) (by omega) (by omega) ?_
            refine j_subP (w := [(h0, .inr (2, [.ref a_scanner_h0, .ref a_draft_h0, .ref a_waiting_h0, .ref a_functions_h0, .ref (fad 0), .ref (fad fd), .ref a_text_h0, .int 20, .int levels_h0, .int signs_h0, .int loops_h0, .int token_h0, .int fault_h0])), ((fad fd), .inr (0, [(frB fad fd), (frA fad fn fd), .int kind_t, .int place_t, .int width_t, .int second_t, .int parts_t, .int innerParts_t, .int innerPlace_t, .int innerWidth_t, .int signs_t, .int waitingBelow_t, .int limited_t, .int targets_t, .int lastBlock_t])), (a_scanner_h0, .inr (4, [.ref a_text_a_scanner_h0, .int next_a_scanner_h0, .int kind_a_scanner_h0, .int start_a_scanner_h0, .int width_a_scanner_h0])), (a_draft_h0, .inr (1, [.ref a_cells_a_draft_h0, .int count_a_draft_h0])), (a_waiting_h0, .inr (5, [.ref a_cells_a_waiting_h0, .int count_a_waiting_h0])), (a_cells_a_draft_h0, .inl (cI, n_a_cells_a_draft_h0, .inl b_a_cells_a_draft_h0))]) (pl := fpo fad fn fd fcf) (lv' := []) [5, 4, 0, 1, 3, 2] [] 6 rfl rfl (by decide) [] rfl ?_
            exact j_zretE hr (zb_n zb1) d_Rd_standsInSeveral_134 ⟨fad, a_cells_a_draft_h0, rfl, zb1, rfl⟩
      · replace h := it_t c25 h
        refine j_aload_n d_Rd_standsInSeveral_97 rfl 0 rfl ?_
        replace h := bw_s h
        obtain ⟨⟨r33, r34, r35⟩, C37, S38, C39, S40, k41, h, e1, e2⟩ := h
        replace hC : 0 + C37 + C39 ≤ mc := by omega
        replace hS : 0 + S38 + S40 ≤ ms := by omega
        clear e1 e2
        refine j_callVg (n := 0) (As := []) (rest := []) (wr := ([(a_scanner_h0, .inr (4, [.ref a_text_a_scanner_h0, .int next_a_scanner_h0, .int kind_a_scanner_h0, .int start_a_scanner_h0, .int width_a_scanner_h0])), (a_waiting_h0, .inr (5, [.ref a_cells_a_waiting_h0, .int count_a_waiting_h0]))] ++ fpo fad fn fd fcf)) (c_Rd_endTargets l D cI cB cJ cS h0 a_scanner_h0 a_draft_h0 a_waiting_h0 a_functions_h0 (fad 0) (fad fd) a_text_h0 (frB fad fd) (frA fad fn fd) a_cells_a_draft_h0 mode_h0 levels_h0 signs_h0 loops_h0 token_h0 fault_h0 kind_t place_t width_t second_t parts_t innerParts_t innerPlace_t innerWidth_t signs_t waitingBelow_t limited_t targets_t lastBlock_t count_a_draft_h0 n_a_cells_a_draft_h0 b_a_cells_a_draft_h0  r33 r34 r35 C37 S38 k41) k_Rd_283 (by decide) ⟨Nat.le_of_ble_eq_true rfl, Nat.le_of_ble_eq_true rfl⟩ rfl 0 rfl (pk_mid (wr := [(a_scanner_h0, .inr (4, [.ref a_text_a_scanner_h0, .int next_a_scanner_h0, .int kind_a_scanner_h0, .int start_a_scanner_h0, .int width_a_scanner_h0])), (a_waiting_h0, .inr (5, [.ref a_cells_a_waiting_h0, .int count_a_waiting_h0]))]) (w0 := [(h0, .inr (2, [.ref a_scanner_h0, .ref a_draft_h0, .ref a_waiting_h0, .ref a_functions_h0, .ref (fad 0), .ref (fad fd), .ref a_text_h0, .int mode_h0, .int levels_h0, .int signs_h0, .int loops_h0, .int token_h0, .int fault_h0])), ((fad fd), .inr (0, [(frB fad fd), (frA fad fn fd), .int kind_t, .int place_t, .int width_t, .int second_t, .int parts_t, .int innerParts_t, .int innerPlace_t, .int innerWidth_t, .int signs_t, .int waitingBelow_t, .int limited_t, .int targets_t, .int lastBlock_t])), (a_draft_h0, .inr (1, [.ref a_cells_a_draft_h0, .int count_a_draft_h0])), (a_cells_a_draft_h0, .inl (cI, n_a_cells_a_draft_h0, .inl b_a_cells_a_draft_h0))]) (pl := fpo fad fn fd fcf) [2, 5, 0, 1, 3, 4] 6 rfl rfl (by decide)) rfl rfl (Nat.le_of_ble_eq_true rfl) d_Rd_standsInSeveral_98 ⟨show 0 + C37 ≤ mc by omega, show 0 + S38 ≤ ms by omega⟩ (fun v w hq => ?_)
        obtain ⟨q36, rfl, _, rfl⟩ := hq
        refine j_perm (ws' := ((a_scanner_h0, .inr (4, [.ref a_text_a_scanner_h0, .int next_a_scanner_h0, .int kind_a_scanner_h0, .int start_a_scanner_h0, .int width_a_scanner_h0])) :: (a_waiting_h0, .inr (5, [.ref a_cells_a_waiting_h0, .int count_a_waiting_h0])) :: (h0, .inr (2, [.ref a_scanner_h0, .ref a_draft_h0, .ref a_waiting_h0, .ref a_functions_h0, .ref (fad 0), .ref (fad fd), .ref a_text_h0, .int 22, .int (levels_h0 - 1), .int signs_h0, .int loops_h0, .int token_h0, .int fault_h0])) :: ((fad fd), .inr (0, [(frB fad fd), (frA fad fn fd), .int kind_t, .int place_t, .int width_t, .int second_t, .int parts_t, .int innerParts_t, .int innerPlace_t, .int innerWidth_t, .int signs_t, .int waitingBelow_t, .int limited_t, .int targets_t, .int lastBlock_t])) :: (a_draft_h0, .inr (1, [.ref q36, .int r33])) :: (q36, .inl (cI, r34, .inl r35)) :: fpo fad fn fd fcf)) (pm_eq (a := [(a_scanner_h0, .inr (4, [.ref a_text_a_scanner_h0, .int next_a_scanner_h0, .int kind_a_scanner_h0, .int start_a_scanner_h0, .int width_a_scanner_h0])), (a_waiting_h0, .inr (5, [.ref a_cells_a_waiting_h0, .int count_a_waiting_h0]))]) (b := fpo fad fn fd fcf) (c := [(h0, .inr (2, [.ref a_scanner_h0, .ref a_draft_h0, .ref a_waiting_h0, .ref a_functions_h0, .ref (fad 0), .ref (fad fd), .ref a_text_h0, .int 22, .int (levels_h0 - 1), .int signs_h0, .int loops_h0, .int token_h0, .int fault_h0])), ((fad fd), .inr (0, [(frB fad fd), (frA fad fn fd), .int kind_t, .int place_t, .int width_t, .int second_t, .int parts_t, .int innerParts_t, .int innerPlace_t, .int innerWidth_t, .int signs_t, .int waitingBelow_t, .int limited_t, .int targets_t, .int lastBlock_t])), (a_draft_h0, .inr (1, [.ref q36, .int r33])), (q36, .inl (cI, r34, .inl r35))]) rfl) ?_
        refine j_norm (pc' := 101) (st' := [.int 1]) (ws' := ((a_scanner_h0, .inr (4, [.ref a_text_a_scanner_h0, .int next_a_scanner_h0, .int kind_a_scanner_h0, .int start_a_scanner_h0, .int width_a_scanner_h0])) :: (a_waiting_h0, .inr (5, [.ref a_cells_a_waiting_h0, .int count_a_waiting_h0])) :: (h0, .inr (2, [.ref a_scanner_h0, .ref a_draft_h0, .ref a_waiting_h0, .ref a_functions_h0, .ref (fad 0), .ref (fad fd), .ref a_text_h0, .int 22, .int (levels_h0 - 1), .int signs_h0, .int loops_h0, .int token_h0, .int fault_h0])) :: ((fad fd), .inr (0, [(frB fad fd), (frA fad fn fd), .int kind_t, .int place_t, .int width_t, .int second_t, .int parts_t, .int innerParts_t, .int innerPlace_t, .int innerWidth_t, .int signs_t, .int waitingBelow_t, .int limited_t, .int targets_t, .int lastBlock_t])) :: (a_draft_h0, .inr (1, [.ref q36, .int r33])) :: (q36, .inl (cI, r34, .inl r35)) :: fpo fad fn fd fcf)) (cl' := 0 + C37) (sl' := 0 + S38) rfl rfl rfl rfl rfl rfl ?_
        refine j_goto (tgt := 134) d_Rd_standsInSeveral_101 (by decide) ?_
        replace h := lf_s h
        obtain ⟨h, e1, e2⟩ := h
        replace h := Prod.mk.inj h
        obtain ⟨h9, h⟩ := h
        subst h9
        replace h := Prod.mk.inj h
        obtain ⟨h9, h⟩ := h
        subst h9
        replace h := Prod.mk.inj h
        obtain ⟨h9, h⟩ := h
        subst h9
        replace h := Prod.mk.inj h
        obtain ⟨h9, h⟩ := h
        subst h9
        replace h := Prod.mk.inj h
        obtain ⟨h9, h⟩ := h
        subst h9
        replace h := Prod.mk.inj h
        obtain ⟨h9, h⟩ := h
        subst h9
        replace h := Prod.mk.inj h
        obtain ⟨h9, h⟩ := h
        subst h9
        replace h := Prod.mk.inj h
        obtain ⟨h9, h⟩ := h
        subst h9
        replace h := Prod.mk.inj h
        obtain ⟨h9, h⟩ := h
        subst h9
        replace h := Prod.mk.inj h
        obtain ⟨h9, h⟩ := h
        subst h9
        replace h := Prod.mk.inj h
        obtain ⟨h9, h⟩ := h
        subst h9
        replace h := Prod.mk.inj h
        obtain ⟨h9, h⟩ := h
        subst h9
        replace h := Prod.mk.inj h
        obtain ⟨h9, h⟩ := h
        subst h9
        replace h := Prod.mk.inj h
        obtain ⟨h9, h⟩ := h
        subst h9
        replace h := Prod.mk.inj h
        obtain ⟨h9, h⟩ := h
        subst h9
        replace h := Prod.mk.inj h
        obtain ⟨h9, h⟩ := h
        subst h9
        replace h := Prod.mk.inj h
        obtain ⟨h9, h⟩ := h
        subst h9
        replace h := Prod.mk.inj h
        obtain ⟨h9, h⟩ := h
        subst h9
        replace h := Prod.mk.inj h
        obtain ⟨h9, h⟩ := h
        subst h9
        replace h := Prod.mk.inj h
        obtain ⟨h9, h⟩ := h
        subst h9
        replace h := Prod.mk.inj h
        obtain ⟨h9, h⟩ := h
        subst h9
        replace h := Prod.mk.inj h
        obtain ⟨h9, h⟩ := h
        subst h9
        subst h
        refine j_widen (cl' := mc) (sl' := ms) (by omega) (by omega) ?_
        refine j_subP (w := [(h0, .inr (2, [.ref a_scanner_h0, .ref a_draft_h0, .ref a_waiting_h0, .ref a_functions_h0, .ref (fad 0), .ref (fad fd), .ref a_text_h0, .int 22, .int (levels_h0 - 1), .int signs_h0, .int loops_h0, .int token_h0, .int fault_h0])), ((fad fd), .inr (0, [(frB fad fd), (frA fad fn fd), .int kind_t, .int place_t, .int width_t, .int second_t, .int parts_t, .int innerParts_t, .int innerPlace_t, .int innerWidth_t, .int signs_t, .int waitingBelow_t, .int limited_t, .int targets_t, .int lastBlock_t])), (a_scanner_h0, .inr (4, [.ref a_text_a_scanner_h0, .int next_a_scanner_h0, .int kind_a_scanner_h0, .int start_a_scanner_h0, .int width_a_scanner_h0])), (a_draft_h0, .inr (1, [.ref q36, .int r33])), (a_waiting_h0, .inr (5, [.ref a_cells_a_waiting_h0, .int count_a_waiting_h0])), (q36, .inl (cI, r34, .inl r35))]) (pl := fpo fad fn fd fcf) (lv' := []) [2, 3, 0, 4, 1, 5] [] 6 rfl rfl (by decide) [] rfl ?_
        exact j_zretE hr (zb_n zb1) d_Rd_standsInSeveral_134 ⟨fad, q36, rfl, zb1, rfl⟩
    · replace h := it_f c24 h
      by_cases c42 : mode_h0 = 22
      · replace h := it_t c42 h
        refine j_tabIn (tgt := 135) (off := 131) d_Rd_standsInSeveral_4 22 c42 (by decide) (by decide) (by decide) (by decide) ?_
        refine j_aload_n d_Rd_standsInSeveral_135 rfl 0 rfl ?_
        refine j_get ig_Rd rfl 0 rfl 11 (by decide) rfl m_180 rfl d_Rd_standsInSeveral_136 ?_
        refine j_bipush (v := 61) d_Rd_standsInSeveral_139 (by decide) ?_
        refine j_icmp_ne (tgt := 155) d_Rd_standsInSeveral_141 (by decide) (fun c43 => ?_) (fun c43 => ?_)
        · replace h := it_f c43 h
          refine j_iconst (v := 0) d_Rd_standsInSeveral_155 (by decide) ?_
          replace h := lf_s h
          obtain ⟨h, e1, e2⟩ := h
          replace h := Prod.mk.inj h
          obtain ⟨h9, h⟩ := h
          subst h9
          replace h := Prod.mk.inj h
          obtain ⟨h9, h⟩ := h
          subst h9
          replace h := Prod.mk.inj h
          obtain ⟨h9, h⟩ := h
          subst h9
          replace h := Prod.mk.inj h
          obtain ⟨h9, h⟩ := h
          subst h9
          replace h := Prod.mk.inj h
          obtain ⟨h9, h⟩ := h
          subst h9
          replace h := Prod.mk.inj h
          obtain ⟨h9, h⟩ := h
          subst h9
          replace h := Prod.mk.inj h
          obtain ⟨h9, h⟩ := h
          subst h9
          replace h := Prod.mk.inj h
          obtain ⟨h9, h⟩ := h
          subst h9
          replace h := Prod.mk.inj h
          obtain ⟨h9, h⟩ := h
          subst h9
          replace h := Prod.mk.inj h
          obtain ⟨h9, h⟩ := h
          subst h9
          replace h := Prod.mk.inj h
          obtain ⟨h9, h⟩ := h
          subst h9
          replace h := Prod.mk.inj h
          obtain ⟨h9, h⟩ := h
          subst h9
          replace h := Prod.mk.inj h
          obtain ⟨h9, h⟩ := h
          subst h9
          replace h := Prod.mk.inj h
          obtain ⟨h9, h⟩ := h
          subst h9
          replace h := Prod.mk.inj h
          obtain ⟨h9, h⟩ := h
          subst h9
          replace h := Prod.mk.inj h
          obtain ⟨h9, h⟩ := h
          subst h9
          replace h := Prod.mk.inj h
          obtain ⟨h9, h⟩ := h
          subst h9
          replace h := Prod.mk.inj h
          obtain ⟨h9, h⟩ := h
          subst h9
          replace h := Prod.mk.inj h
          obtain ⟨h9, h⟩ := h
          subst h9
          replace h := Prod.mk.inj h
          obtain ⟨h9, h⟩ := h
          subst h9
          replace h := Prod.mk.inj h
          obtain ⟨h9, h⟩ := h
          subst h9
          replace h := Prod.mk.inj h
          obtain ⟨h9, h⟩ := h
          subst h9
          subst h
          refine j_widen (cl' := mc) (sl' := ms) (by omega) (by omega) ?_
          refine j_subP (w := [(h0, .inr (2, [.ref a_scanner_h0, .ref a_draft_h0, .ref a_waiting_h0, .ref a_functions_h0, .ref (fad 0), .ref (fad fd), .ref a_text_h0, .int mode_h0, .int levels_h0, .int signs_h0, .int loops_h0, .int token_h0, .int fault_h0])), ((fad fd), .inr (0, [(frB fad fd), (frA fad fn fd), .int kind_t, .int place_t, .int width_t, .int second_t, .int parts_t, .int innerParts_t, .int innerPlace_t, .int innerWidth_t, .int signs_t, .int waitingBelow_t, .int limited_t, .int targets_t, .int lastBlock_t])), (a_scanner_h0, .inr (4, [.ref a_text_a_scanner_h0, .int next_a_scanner_h0, .int kind_a_scanner_h0, .int start_a_scanner_h0, .int width_a_scanner_h0])), (a_draft_h0, .inr (1, [.ref a_cells_a_draft_h0, .int count_a_draft_h0])), (a_waiting_h0, .inr (5, [.ref a_cells_a_waiting_h0, .int count_a_waiting_h0])), (a_cells_a_draft_h0, .inl (cI, n_a_cells_a_draft_h0, .inl b_a_cells_a_draft_h0))]) (pl := fpo fad fn fd fcf) (lv' := []) [0, 1, 2, 3, 5, 4] [] 6 rfl rfl (by decide) [] rfl ?_
          exact j_zretE hr (zb_n zb0) d_Rd_standsInSeveral_156 ⟨fad, a_cells_a_draft_h0, rfl, zb0, rfl⟩
        · replace h := it_t c43 h
          refine j_aload_n d_Rd_standsInSeveral_144 rfl 0 rfl ?_
          refine j_callVg (n := 0) (As := []) (rest := []) (wr := ([(a_draft_h0, .inr (1, [.ref a_cells_a_draft_h0, .int count_a_draft_h0])), (a_cells_a_draft_h0, .inl (cI, n_a_cells_a_draft_h0, .inl b_a_cells_a_draft_h0)), (a_waiting_h0, .inr (5, [.ref a_cells_a_waiting_h0, .int count_a_waiting_h0]))] ++ fpo fad fn fd fcf)) (c_Rd_takeSeveralEquals l D cI cB cJ cS h0 a_scanner_h0 a_draft_h0 a_waiting_h0 a_functions_h0 (fad 0) (fad fd) a_text_h0 a_text_a_scanner_h0 (frB fad fd) (frA fad fn fd) mode_h0 levels_h0 signs_h0 loops_h0 token_h0 fault_h0 next_a_scanner_h0 kind_a_scanner_h0 start_a_scanner_h0 width_a_scanner_h0 kind_t place_t width_t second_t parts_t innerParts_t innerPlace_t innerWidth_t signs_t waitingBelow_t limited_t targets_t lastBlock_t  ) k_Rd_286 (by decide) ⟨Nat.le_of_ble_eq_true rfl, Nat.le_of_ble_eq_true rfl⟩ rfl 0 rfl (pk_mid (wr := [(a_draft_h0, .inr (1, [.ref a_cells_a_draft_h0, .int count_a_draft_h0])), (a_cells_a_draft_h0, .inl (cI, n_a_cells_a_draft_h0, .inl b_a_cells_a_draft_h0)), (a_waiting_h0, .inr (5, [.ref a_cells_a_waiting_h0, .int count_a_waiting_h0]))]) (w0 := [(h0, .inr (2, [.ref a_scanner_h0, .ref a_draft_h0, .ref a_waiting_h0, .ref a_functions_h0, .ref (fad 0), .ref (fad fd), .ref a_text_h0, .int mode_h0, .int levels_h0, .int signs_h0, .int loops_h0, .int token_h0, .int fault_h0])), (a_scanner_h0, .inr (4, [.ref a_text_a_scanner_h0, .int next_a_scanner_h0, .int kind_a_scanner_h0, .int start_a_scanner_h0, .int width_a_scanner_h0])), ((fad fd), .inr (0, [(frB fad fd), (frA fad fn fd), .int kind_t, .int place_t, .int width_t, .int second_t, .int parts_t, .int innerParts_t, .int innerPlace_t, .int innerWidth_t, .int signs_t, .int waitingBelow_t, .int limited_t, .int targets_t, .int lastBlock_t]))]) (pl := fpo fad fn fd fcf) [3, 4, 5, 0, 2, 1] 6 rfl rfl (by decide)) rfl rfl (Nat.le_of_ble_eq_true rfl) d_Rd_standsInSeveral_145 ⟨show 0 + 0 ≤ mc by omega, show 0 + 0 ≤ ms by omega⟩ (fun v w hq => ?_)
          obtain ⟨rfl, _, rfl⟩ := hq
          refine j_perm (ws' := ((a_draft_h0, .inr (1, [.ref a_cells_a_draft_h0, .int count_a_draft_h0])) :: (a_cells_a_draft_h0, .inl (cI, n_a_cells_a_draft_h0, .inl b_a_cells_a_draft_h0)) :: (a_waiting_h0, .inr (5, [.ref a_cells_a_waiting_h0, .int count_a_waiting_h0])) :: (h0, .inr (2, [.ref a_scanner_h0, .ref a_draft_h0, .ref a_waiting_h0, .ref a_functions_h0, .ref (fad 0), .ref (fad fd), .ref a_text_h0, .int 23, .int levels_h0, .int signs_h0, .int loops_h0, .int token_h0, .int fault_h0])) :: (a_scanner_h0, .inr (4, [.ref a_text_a_scanner_h0, .int next_a_scanner_h0, .int kind_a_scanner_h0, .int start_a_scanner_h0, .int width_a_scanner_h0])) :: ((fad fd), .inr (0, [(frB fad fd), (frA fad fn fd), .int kind_t, .int start_a_scanner_h0, .int width_a_scanner_h0, .int second_t, .int parts_t, .int innerParts_t, .int innerPlace_t, .int innerWidth_t, .int signs_t, .int waitingBelow_t, .int limited_t, .int targets_t, .int lastBlock_t])) :: fpo fad fn fd fcf)) (pm_eq (a := [(a_draft_h0, .inr (1, [.ref a_cells_a_draft_h0, .int count_a_draft_h0])), (a_cells_a_draft_h0, .inl (cI, n_a_cells_a_draft_h0, .inl b_a_cells_a_draft_h0)), (a_waiting_h0, .inr (5, [.ref a_cells_a_waiting_h0, .int count_a_waiting_h0]))]) (b := fpo fad fn fd fcf) (c := [(h0, .inr (2, [.ref a_scanner_h0, .ref a_draft_h0, .ref a_waiting_h0, .ref a_functions_h0, .ref (fad 0), .ref (fad fd), .ref a_text_h0, .int 23, .int levels_h0, .int signs_h0, .int loops_h0, .int token_h0, .int fault_h0])), (a_scanner_h0, .inr (4, [.ref a_text_a_scanner_h0, .int next_a_scanner_h0, .int kind_a_scanner_h0, .int start_a_scanner_h0, .int width_a_scanner_h0])), ((fad fd), .inr (0, [(frB fad fd), (frA fad fn fd), .int kind_t, .int start_a_scanner_h0, .int width_a_scanner_h0, .int second_t, .int parts_t, .int innerParts_t, .int innerPlace_t, .int innerWidth_t, .int signs_t, .int waitingBelow_t, .int limited_t, .int targets_t, .int lastBlock_t]))]) rfl) ?_
          refine j_norm (pc' := 148) (st' := [.int 1]) (ws' := ((a_draft_h0, .inr (1, [.ref a_cells_a_draft_h0, .int count_a_draft_h0])) :: (a_cells_a_draft_h0, .inl (cI, n_a_cells_a_draft_h0, .inl b_a_cells_a_draft_h0)) :: (a_waiting_h0, .inr (5, [.ref a_cells_a_waiting_h0, .int count_a_waiting_h0])) :: (h0, .inr (2, [.ref a_scanner_h0, .ref a_draft_h0, .ref a_waiting_h0, .ref a_functions_h0, .ref (fad 0), .ref (fad fd), .ref a_text_h0, .int 23, .int levels_h0, .int signs_h0, .int loops_h0, .int token_h0, .int fault_h0])) :: (a_scanner_h0, .inr (4, [.ref a_text_a_scanner_h0, .int next_a_scanner_h0, .int kind_a_scanner_h0, .int start_a_scanner_h0, .int width_a_scanner_h0])) :: ((fad fd), .inr (0, [(frB fad fd), (frA fad fn fd), .int kind_t, .int start_a_scanner_h0, .int width_a_scanner_h0, .int second_t, .int parts_t, .int innerParts_t, .int innerPlace_t, .int innerWidth_t, .int signs_t, .int waitingBelow_t, .int limited_t, .int targets_t, .int lastBlock_t])) :: fpo fad fn fd fcf)) (cl' := 0) (sl' := 0) rfl rfl rfl rfl rfl rfl ?_
          refine j_if_eq (tgt := 155) d_Rd_standsInSeveral_148 (by decide) (fun c45 => absurd c45 (by decide)) (fun c45 => ?_)
          refine j_iconst (v := 1) d_Rd_standsInSeveral_151 (by decide) ?_
          refine j_goto (tgt := 156) d_Rd_standsInSeveral_152 (by decide) ?_
          replace h := lf_s h
          obtain ⟨h, e1, e2⟩ := h
          replace h := Prod.mk.inj h
          obtain ⟨h9, h⟩ := h
          subst h9
          replace h := Prod.mk.inj h
          obtain ⟨h9, h⟩ := h
          subst h9
          replace h := Prod.mk.inj h
          obtain ⟨h9, h⟩ := h
          subst h9
          replace h := Prod.mk.inj h
          obtain ⟨h9, h⟩ := h
          subst h9
          replace h := Prod.mk.inj h
          obtain ⟨h9, h⟩ := h
          subst h9
          replace h := Prod.mk.inj h
          obtain ⟨h9, h⟩ := h
          subst h9
          replace h := Prod.mk.inj h
          obtain ⟨h9, h⟩ := h
          subst h9
          replace h := Prod.mk.inj h
          obtain ⟨h9, h⟩ := h
          subst h9
          replace h := Prod.mk.inj h
          obtain ⟨h9, h⟩ := h
          subst h9
          replace h := Prod.mk.inj h
          obtain ⟨h9, h⟩ := h
          subst h9
          replace h := Prod.mk.inj h
          obtain ⟨h9, h⟩ := h
          subst h9
          replace h := Prod.mk.inj h
          obtain ⟨h9, h⟩ := h
          subst h9
          replace h := Prod.mk.inj h
          obtain ⟨h9, h⟩ := h
          subst h9
          replace h := Prod.mk.inj h
          obtain ⟨h9, h⟩ := h
          subst h9
          replace h := Prod.mk.inj h
          obtain ⟨h9, h⟩ := h
          subst h9
          replace h := Prod.mk.inj h
          obtain ⟨h9, h⟩ := h
          subst h9
          replace h := Prod.mk.inj h
          obtain ⟨h9, h⟩ := h
          subst h9
          replace h := Prod.mk.inj h
          obtain ⟨h9, h⟩ := h
          subst h9
          replace h := Prod.mk.inj h
          obtain ⟨h9, h⟩ := h
          subst h9
          replace h := Prod.mk.inj h
          obtain ⟨h9, h⟩ := h
          subst h9
          replace h := Prod.mk.inj h
          obtain ⟨h9, h⟩ := h
          subst h9
          replace h := Prod.mk.inj h
          obtain ⟨h9, h⟩ := h
          subst h9
          subst h
          refine j_widen (cl' := mc) (sl' := ms) (by omega) (by omega) ?_
          refine j_subP (w := [(h0, .inr (2, [.ref a_scanner_h0, .ref a_draft_h0, .ref a_waiting_h0, .ref a_functions_h0, .ref (fad 0), .ref (fad fd), .ref a_text_h0, .int 23, .int levels_h0, .int signs_h0, .int loops_h0, .int token_h0, .int fault_h0])), ((fad fd), .inr (0, [(frB fad fd), (frA fad fn fd), .int kind_t, .int start_a_scanner_h0, .int width_a_scanner_h0, .int second_t, .int parts_t, .int innerParts_t, .int innerPlace_t, .int innerWidth_t, .int signs_t, .int waitingBelow_t, .int limited_t, .int targets_t, .int lastBlock_t])), (a_scanner_h0, .inr (4, [.ref a_text_a_scanner_h0, .int next_a_scanner_h0, .int kind_a_scanner_h0, .int start_a_scanner_h0, .int width_a_scanner_h0])), (a_draft_h0, .inr (1, [.ref a_cells_a_draft_h0, .int count_a_draft_h0])), (a_waiting_h0, .inr (5, [.ref a_cells_a_waiting_h0, .int count_a_waiting_h0])), (a_cells_a_draft_h0, .inl (cI, n_a_cells_a_draft_h0, .inl b_a_cells_a_draft_h0))]) (pl := fpo fad fn fd fcf) (lv' := []) [3, 5, 4, 0, 2, 1] [] 6 rfl rfl (by decide) [] rfl ?_
          exact j_zretE hr (zb_n zb1) d_Rd_standsInSeveral_156 ⟨fad, a_cells_a_draft_h0, rfl, zb1, rfl⟩
      · replace h := it_f c42 h
        by_cases c46 : mode_h0 = 23
        · replace h := it_t c46 h
          refine j_tabIn (tgt := 157) (off := 153) d_Rd_standsInSeveral_4 23 c46 (by decide) (by decide) (by decide) (by decide) ?_
          refine j_aload_n d_Rd_standsInSeveral_157 rfl 0 rfl ?_
          refine j_get ig_Rd rfl 0 rfl 11 (by decide) rfl m_180 rfl d_Rd_standsInSeveral_158 ?_
          refine j_iconst (v := 2) d_Rd_standsInSeveral_161 (by decide) ?_
          refine j_icmp_ne (tgt := 176) d_Rd_standsInSeveral_162 (by decide) (fun c47 => ?_) (fun c47 => ?_)
          · replace h := it_f c47 h
            refine j_iconst (v := 0) d_Rd_standsInSeveral_176 (by decide) ?_
            replace h := lf_s h
            obtain ⟨h, e1, e2⟩ := h
            replace h := Prod.mk.inj h
            obtain ⟨h9, h⟩ := h
            subst h9
            replace h := Prod.mk.inj h
            obtain ⟨h9, h⟩ := h
            subst h9
            replace h := Prod.mk.inj h
            obtain ⟨h9, h⟩ := h
            subst h9
            replace h := Prod.mk.inj h
            obtain ⟨h9, h⟩ := h
            subst h9
            replace h := Prod.mk.inj h
            obtain ⟨h9, h⟩ := h
            subst h9
            replace h := Prod.mk.inj h
            obtain ⟨h9, h⟩ := h
            subst h9
            replace h := Prod.mk.inj h
            obtain ⟨h9, h⟩ := h
            subst h9
            replace h := Prod.mk.inj h
            obtain ⟨h9, h⟩ := h
            subst h9
            replace h := Prod.mk.inj h
            obtain ⟨h9, h⟩ := h
            subst h9
            replace h := Prod.mk.inj h
            obtain ⟨h9, h⟩ := h
            subst h9
            replace h := Prod.mk.inj h
            obtain ⟨h9, h⟩ := h
            subst h9
            replace h := Prod.mk.inj h
            obtain ⟨h9, h⟩ := h
            subst h9
            replace h := Prod.mk.inj h
            obtain ⟨h9, h⟩ := h
            subst h9
            replace h := Prod.mk.inj h
            obtain ⟨h9, h⟩ := h
            subst h9
            replace h := Prod.mk.inj h
            obtain ⟨h9, h⟩ := h
            subst h9
            replace h := Prod.mk.inj h
            obtain ⟨h9, h⟩ := h
            subst h9
            replace h := Prod.mk.inj h
            obtain ⟨h9, h⟩ := h
            subst h9
            replace h := Prod.mk.inj h
            obtain ⟨h9, h⟩ := h
            subst h9
            replace h := Prod.mk.inj h
            obtain ⟨h9, h⟩ := h
            subst h9
            replace h := Prod.mk.inj h
            obtain ⟨h9, h⟩ := h
            subst h9
            replace h := Prod.mk.inj h
            obtain ⟨h9, h⟩ := h
            subst h9
            replace h := Prod.mk.inj h
            obtain ⟨h9, h⟩ := h
            subst h9
            subst h
            refine j_widen (cl' := mc) (sl' := ms) (by omega) (by omega) ?_
            refine j_subP (w := [(h0, .inr (2, [.ref a_scanner_h0, .ref a_draft_h0, .ref a_waiting_h0, .ref a_functions_h0, .ref (fad 0), .ref (fad fd), .ref a_text_h0, .int mode_h0, .int levels_h0, .int signs_h0, .int loops_h0, .int token_h0, .int fault_h0])), ((fad fd), .inr (0, [(frB fad fd), (frA fad fn fd), .int kind_t, .int place_t, .int width_t, .int second_t, .int parts_t, .int innerParts_t, .int innerPlace_t, .int innerWidth_t, .int signs_t, .int waitingBelow_t, .int limited_t, .int targets_t, .int lastBlock_t])), (a_scanner_h0, .inr (4, [.ref a_text_a_scanner_h0, .int next_a_scanner_h0, .int kind_a_scanner_h0, .int start_a_scanner_h0, .int width_a_scanner_h0])), (a_draft_h0, .inr (1, [.ref a_cells_a_draft_h0, .int count_a_draft_h0])), (a_waiting_h0, .inr (5, [.ref a_cells_a_waiting_h0, .int count_a_waiting_h0])), (a_cells_a_draft_h0, .inl (cI, n_a_cells_a_draft_h0, .inl b_a_cells_a_draft_h0))]) (pl := fpo fad fn fd fcf) (lv' := []) [0, 1, 2, 3, 5, 4] [] 6 rfl rfl (by decide) [] rfl ?_
            exact j_zretE hr (zb_n zb0) d_Rd_standsInSeveral_177 ⟨fad, a_cells_a_draft_h0, rfl, zb0, rfl⟩
          · replace h := it_t c47 h
            refine j_aload_n d_Rd_standsInSeveral_165 rfl 0 rfl ?_
            replace h := bw_s h
            obtain ⟨⟨r48, r49, r50⟩, C52, S53, C54, S55, k56, h, e1, e2⟩ := h
            replace hC : 0 + C52 + C54 ≤ mc := by omega
            replace hS : 0 + S53 + S55 ≤ ms := by omega
            clear e1 e2
            refine j_callVg (n := 0) (As := []) (rest := []) (wr := [(a_draft_h0, .inr (1, [.ref a_cells_a_draft_h0, .int count_a_draft_h0])), (a_cells_a_draft_h0, .inl (cI, n_a_cells_a_draft_h0, .inl b_a_cells_a_draft_h0))]) (c_Rd_beginCall l D cI cB cJ cS h0 fad a_scanner_h0 a_draft_h0 a_waiting_h0 a_functions_h0 a_text_h0 a_text_a_scanner_h0 a_cells_a_waiting_h0 fn fd fcf mode_h0 levels_h0 signs_h0 loops_h0 token_h0 fault_h0 kind_t place_t width_t second_t parts_t innerParts_t innerPlace_t innerWidth_t signs_t waitingBelow_t limited_t targets_t lastBlock_t next_a_scanner_h0 kind_a_scanner_h0 start_a_scanner_h0 width_a_scanner_h0 count_a_waiting_h0  r48 r49 r50 C52 S53 k56) k_Rd_289 (by decide) ⟨Nat.le_of_ble_eq_true rfl, Nat.le_of_ble_eq_true rfl⟩ rfl 0 rfl (pk_app (wr := [(a_draft_h0, .inr (1, [.ref a_cells_a_draft_h0, .int count_a_draft_h0])), (a_cells_a_draft_h0, .inl (cI, n_a_cells_a_draft_h0, .inl b_a_cells_a_draft_h0))]) (w0 := [(h0, .inr (2, [.ref a_scanner_h0, .ref a_draft_h0, .ref a_waiting_h0, .ref a_functions_h0, .ref (fad 0), .ref (fad fd), .ref a_text_h0, .int mode_h0, .int levels_h0, .int signs_h0, .int loops_h0, .int token_h0, .int fault_h0])), ((fad fd), .inr (0, [(frB fad fd), (frA fad fn fd), .int kind_t, .int place_t, .int width_t, .int second_t, .int parts_t, .int innerParts_t, .int innerPlace_t, .int innerWidth_t, .int signs_t, .int waitingBelow_t, .int limited_t, .int targets_t, .int lastBlock_t])), (a_scanner_h0, .inr (4, [.ref a_text_a_scanner_h0, .int next_a_scanner_h0, .int kind_a_scanner_h0, .int start_a_scanner_h0, .int width_a_scanner_h0])), (a_waiting_h0, .inr (5, [.ref a_cells_a_waiting_h0, .int count_a_waiting_h0]))]) (pl := fpo fad fn fd fcf) [3, 4, 0, 1, 2, 5] 6 rfl rfl rfl (by decide)) rfl rfl (Nat.le_of_ble_eq_true rfl) d_Rd_standsInSeveral_166 ⟨show 0 + C52 ≤ mc by omega, show 0 + S53 ≤ ms by omega⟩ (fun v w hq => ?_)
            obtain ⟨a51, rfl, _, rfl⟩ := hq
            refine j_norm (pc' := 169) (st' := [.int 1]) (ws' := ((a_draft_h0, .inr (1, [.ref a_cells_a_draft_h0, .int count_a_draft_h0])) :: (a_cells_a_draft_h0, .inl (cI, n_a_cells_a_draft_h0, .inl b_a_cells_a_draft_h0)) :: (h0, .inr (2, [.ref a_scanner_h0, .ref a_draft_h0, .ref a_waiting_h0, .ref a_functions_h0, .ref (a51 0), .ref (a51 r49), .ref a_text_h0, .int 24, .int levels_h0, .int 0, .int loops_h0, .int token_h0, .int fault_h0])) :: ((a51 r49), .inr (0, [(frB a51 r49), (frA a51 r48 r49), .int 52, .int start_a_scanner_h0, .int width_a_scanner_h0, .int (-1), .int 0, .int 0, .int start_a_scanner_h0, .int width_a_scanner_h0, .int signs_h0, .int count_a_waiting_h0, .int 0, .int 0, .int 0])) :: (a_scanner_h0, .inr (4, [.ref a_text_a_scanner_h0, .int next_a_scanner_h0, .int kind_a_scanner_h0, .int start_a_scanner_h0, .int width_a_scanner_h0])) :: (a_waiting_h0, .inr (5, [.ref a_cells_a_waiting_h0, .int count_a_waiting_h0])) :: fpo a51 r48 r49 r50)) (cl' := 0 + C52) (sl' := 0 + S53) rfl rfl rfl rfl rfl rfl ?_
            refine j_if_eq (tgt := 176) d_Rd_standsInSeveral_169 (by decide) (fun c57 => absurd c57 (by decide)) (fun c57 => ?_)
            refine j_iconst (v := 1) d_Rd_standsInSeveral_172 (by decide) ?_
            refine j_goto (tgt := 177) d_Rd_standsInSeveral_173 (by decide) ?_
            replace h := lf_s h
            obtain ⟨h, e1, e2⟩ := h
            replace h := Prod.mk.inj h
            obtain ⟨h9, h⟩ := h
            subst h9
            replace h := Prod.mk.inj h
            obtain ⟨h9, h⟩ := h
            subst h9
            replace h := Prod.mk.inj h
            obtain ⟨h9, h⟩ := h
            subst h9
            replace h := Prod.mk.inj h
            obtain ⟨h9, h⟩ := h
            subst h9
            replace h := Prod.mk.inj h
            obtain ⟨h9, h⟩ := h
            subst h9
            replace h := Prod.mk.inj h
            obtain ⟨h9, h⟩ := h
            subst h9
            replace h := Prod.mk.inj h
            obtain ⟨h9, h⟩ := h
            subst h9
            replace h := Prod.mk.inj h
            obtain ⟨h9, h⟩ := h
            subst h9
            replace h := Prod.mk.inj h
            obtain ⟨h9, h⟩ := h
            subst h9
            replace h := Prod.mk.inj h
            obtain ⟨h9, h⟩ := h
            subst h9
            replace h := Prod.mk.inj h
            obtain ⟨h9, h⟩ := h
            subst h9
            replace h := Prod.mk.inj h
            obtain ⟨h9, h⟩ := h
            subst h9
            replace h := Prod.mk.inj h
            obtain ⟨h9, h⟩ := h
            subst h9
            replace h := Prod.mk.inj h
            obtain ⟨h9, h⟩ := h
            subst h9
            replace h := Prod.mk.inj h
            obtain ⟨h9, h⟩ := h
            subst h9
            replace h := Prod.mk.inj h
            obtain ⟨h9, h⟩ := h
            subst h9
            replace h := Prod.mk.inj h
            obtain ⟨h9, h⟩ := h
            subst h9
            replace h := Prod.mk.inj h
            obtain ⟨h9, h⟩ := h
            subst h9
            replace h := Prod.mk.inj h
            obtain ⟨h9, h⟩ := h
            subst h9
            replace h := Prod.mk.inj h
            obtain ⟨h9, h⟩ := h
            subst h9
            replace h := Prod.mk.inj h
            obtain ⟨h9, h⟩ := h
            subst h9
            replace h := Prod.mk.inj h
            obtain ⟨h9, h⟩ := h
            subst h9
            subst h
            refine j_widen (cl' := mc) (sl' := ms) (by omega) (by omega) ?_
            refine j_subP (w := [(h0, .inr (2, [.ref a_scanner_h0, .ref a_draft_h0, .ref a_waiting_h0, .ref a_functions_h0, .ref (a51 0), .ref (a51 r49), .ref a_text_h0, .int 24, .int levels_h0, .int 0, .int loops_h0, .int token_h0, .int fault_h0])), ((a51 r49), .inr (0, [(frB a51 r49), (frA a51 r48 r49), .int 52, .int start_a_scanner_h0, .int width_a_scanner_h0, .int (-1), .int 0, .int 0, .int start_a_scanner_h0, .int width_a_scanner_h0, .int signs_h0, .int count_a_waiting_h0, .int 0, .int 0, .int 0])), (a_scanner_h0, .inr (4, [.ref a_text_a_scanner_h0, .int next_a_scanner_h0, .int kind_a_scanner_h0, .int start_a_scanner_h0, .int width_a_scanner_h0])), (a_draft_h0, .inr (1, [.ref a_cells_a_draft_h0, .int count_a_draft_h0])), (a_waiting_h0, .inr (5, [.ref a_cells_a_waiting_h0, .int count_a_waiting_h0])), (a_cells_a_draft_h0, .inl (cI, n_a_cells_a_draft_h0, .inl b_a_cells_a_draft_h0))]) (pl := fpo a51 r48 r49 r50) (lv' := []) [2, 3, 4, 0, 5, 1] [] 6 rfl rfl (by decide) [] rfl ?_
            exact j_zretE hr (zb_n zb1) d_Rd_standsInSeveral_177 ⟨a51, a_cells_a_draft_h0, rfl, zb1, rfl⟩
        · replace h := it_f c46 h
          by_cases c58 : mode_h0 = 24
          · replace h := it_t c58 h
            refine j_tabIn (tgt := 178) (off := 174) d_Rd_standsInSeveral_4 24 c58 (by decide) (by decide) (by decide) (by decide) ?_
            refine j_aload_n d_Rd_standsInSeveral_178 rfl 0 rfl ?_
            refine j_get ig_Rd rfl 0 rfl 11 (by decide) rfl m_180 rfl d_Rd_standsInSeveral_179 ?_
            refine j_bipush (v := 40) d_Rd_standsInSeveral_182 (by decide) ?_
            refine j_icmp_ne (tgt := 205) d_Rd_standsInSeveral_184 (by decide) (fun c59 => ?_) (fun c59 => ?_)
            · replace h := it_f c59 h
              refine j_iconst (v := 0) d_Rd_standsInSeveral_205 (by decide) ?_
              replace h := lf_s h
              obtain ⟨h, e1, e2⟩ := h
              replace h := Prod.mk.inj h
              obtain ⟨h9, h⟩ := h
              subst h9
              replace h := Prod.mk.inj h
              obtain ⟨h9, h⟩ := h
              subst h9
              replace h := Prod.mk.inj h
              obtain ⟨h9, h⟩ := h
              subst h9
              replace h := Prod.mk.inj h
              obtain ⟨h9, h⟩ := h
              subst h9
              replace h := Prod.mk.inj h
              obtain ⟨h9, h⟩ := h
              subst h9
              replace h := Prod.mk.inj h
              obtain ⟨h9, h⟩ := h
              subst h9
              replace h := Prod.mk.inj h
              obtain ⟨h9, h⟩ := h
              subst h9
              replace h := Prod.mk.inj h
              obtain ⟨h9, h⟩ := h
              subst h9
              replace h := Prod.mk.inj h
              obtain ⟨h9, h⟩ := h
              subst h9
              replace h := Prod.mk.inj h
              obtain ⟨h9, h⟩ := h
              subst h9
              replace h := Prod.mk.inj h
              obtain ⟨h9, h⟩ := h
              subst h9
              replace h := Prod.mk.inj h
              obtain ⟨h9, h⟩ := h
              subst h9
              replace h := Prod.mk.inj h
              obtain ⟨h9, h⟩ := h
              subst h9
              replace h := Prod.mk.inj h
              obtain ⟨h9, h⟩ := h
              subst h9
              replace h := Prod.mk.inj h
              obtain ⟨h9, h⟩ := h
              subst h9
              replace h := Prod.mk.inj h
              obtain ⟨h9, h⟩ := h
              subst h9
              replace h := Prod.mk.inj h
              obtain ⟨h9, h⟩ := h
              subst h9
              replace h := Prod.mk.inj h
              obtain ⟨h9, h⟩ := h
              subst h9
              replace h := Prod.mk.inj h
              obtain ⟨h9, h⟩ := h
              subst h9
              replace h := Prod.mk.inj h
              obtain ⟨h9, h⟩ := h
              subst h9
              replace h := Prod.mk.inj h
              obtain ⟨h9, h⟩ := h
              subst h9
              replace h := Prod.mk.inj h
              obtain ⟨h9, h⟩ := h
              subst h9
              subst h
              refine j_widen (cl' := mc) (sl' := ms) (by omega) (by omega) ?_
              refine j_subP (w := [(h0, .inr (2, [.ref a_scanner_h0, .ref a_draft_h0, .ref a_waiting_h0, .ref a_functions_h0, .ref (fad 0), .ref (fad fd), .ref a_text_h0, .int mode_h0, .int levels_h0, .int signs_h0, .int loops_h0, .int token_h0, .int fault_h0])), ((fad fd), .inr (0, [(frB fad fd), (frA fad fn fd), .int kind_t, .int place_t, .int width_t, .int second_t, .int parts_t, .int innerParts_t, .int innerPlace_t, .int innerWidth_t, .int signs_t, .int waitingBelow_t, .int limited_t, .int targets_t, .int lastBlock_t])), (a_scanner_h0, .inr (4, [.ref a_text_a_scanner_h0, .int next_a_scanner_h0, .int kind_a_scanner_h0, .int start_a_scanner_h0, .int width_a_scanner_h0])), (a_draft_h0, .inr (1, [.ref a_cells_a_draft_h0, .int count_a_draft_h0])), (a_waiting_h0, .inr (5, [.ref a_cells_a_waiting_h0, .int count_a_waiting_h0])), (a_cells_a_draft_h0, .inl (cI, n_a_cells_a_draft_h0, .inl b_a_cells_a_draft_h0))]) (pl := fpo fad fn fd fcf) (lv' := []) [0, 1, 2, 3, 5, 4] [] 6 rfl rfl (by decide) [] rfl ?_
              exact j_zretE hr (zb_n zb0) d_Rd_standsInSeveral_206 ⟨fad, a_cells_a_draft_h0, rfl, zb0, rfl⟩
            · replace h := it_t c59 h
              refine j_aload_n d_Rd_standsInSeveral_187 rfl 0 rfl ?_
              obtain ⟨⟨r60, r61⟩, k63⟩ : ∃ z, (F_Rd_goDeeper mode_h0 levels_h0 signs_h0 loops_h0 token_h0 fault_h0) = z := ⟨_, rfl⟩
              replace h := nm_at k63 h
              refine j_callVg (n := 0) (As := []) (rest := []) (wr := ([((fad fd), .inr (0, [(frB fad fd), (frA fad fn fd), .int kind_t, .int place_t, .int width_t, .int second_t, .int parts_t, .int innerParts_t, .int innerPlace_t, .int innerWidth_t, .int signs_t, .int waitingBelow_t, .int limited_t, .int targets_t, .int lastBlock_t])), (a_scanner_h0, .inr (4, [.ref a_text_a_scanner_h0, .int next_a_scanner_h0, .int kind_a_scanner_h0, .int start_a_scanner_h0, .int width_a_scanner_h0])), (a_draft_h0, .inr (1, [.ref a_cells_a_draft_h0, .int count_a_draft_h0])), (a_cells_a_draft_h0, .inl (cI, n_a_cells_a_draft_h0, .inl b_a_cells_a_draft_h0)), (a_waiting_h0, .inr (5, [.ref a_cells_a_waiting_h0, .int count_a_waiting_h0]))] ++ fpo fad fn fd fcf)) (c_Rd_goDeeper l D cI cB cJ cS h0 a_scanner_h0 a_draft_h0 a_waiting_h0 a_functions_h0 (fad 0) (fad fd) a_text_h0 mode_h0 levels_h0 signs_h0 loops_h0 token_h0 fault_h0  r60 r61 k63) k_Rd_186 (by decide) ⟨Nat.le_of_ble_eq_true rfl, Nat.le_of_ble_eq_true rfl⟩ rfl 0 rfl (pk_mid (wr := [((fad fd), .inr (0, [(frB fad fd), (frA fad fn fd), .int kind_t, .int place_t, .int width_t, .int second_t, .int parts_t, .int innerParts_t, .int innerPlace_t, .int innerWidth_t, .int signs_t, .int waitingBelow_t, .int limited_t, .int targets_t, .int lastBlock_t])), (a_scanner_h0, .inr (4, [.ref a_text_a_scanner_h0, .int next_a_scanner_h0, .int kind_a_scanner_h0, .int start_a_scanner_h0, .int width_a_scanner_h0])), (a_draft_h0, .inr (1, [.ref a_cells_a_draft_h0, .int count_a_draft_h0])), (a_cells_a_draft_h0, .inl (cI, n_a_cells_a_draft_h0, .inl b_a_cells_a_draft_h0)), (a_waiting_h0, .inr (5, [.ref a_cells_a_waiting_h0, .int count_a_waiting_h0]))]) (w0 := [(h0, .inr (2, [.ref a_scanner_h0, .ref a_draft_h0, .ref a_waiting_h0, .ref a_functions_h0, .ref (fad 0), .ref (fad fd), .ref a_text_h0, .int mode_h0, .int levels_h0, .int signs_h0, .int loops_h0, .int token_h0, .int fault_h0]))]) (pl := fpo fad fn fd fcf) [1, 2, 3, 4, 5, 0] 6 rfl rfl (by decide)) rfl rfl (Nat.le_of_ble_eq_true rfl) d_Rd_standsInSeveral_188 ⟨show 0 + 0 ≤ mc by omega, show 0 + 0 ≤ ms by omega⟩ (fun v w hq => ?_)
              obtain ⟨rfl, z62, rfl⟩ := hq
              refine j_perm (ws' := (((fad fd), .inr (0, [(frB fad fd), (frA fad fn fd), .int kind_t, .int place_t, .int width_t, .int second_t, .int parts_t, .int innerParts_t, .int innerPlace_t, .int innerWidth_t, .int signs_t, .int waitingBelow_t, .int limited_t, .int targets_t, .int lastBlock_t])) :: (a_scanner_h0, .inr (4, [.ref a_text_a_scanner_h0, .int next_a_scanner_h0, .int kind_a_scanner_h0, .int start_a_scanner_h0, .int width_a_scanner_h0])) :: (a_draft_h0, .inr (1, [.ref a_cells_a_draft_h0, .int count_a_draft_h0])) :: (a_cells_a_draft_h0, .inl (cI, n_a_cells_a_draft_h0, .inl b_a_cells_a_draft_h0)) :: (a_waiting_h0, .inr (5, [.ref a_cells_a_waiting_h0, .int count_a_waiting_h0])) :: (h0, .inr (2, [.ref a_scanner_h0, .ref a_draft_h0, .ref a_waiting_h0, .ref a_functions_h0, .ref (fad 0), .ref (fad fd), .ref a_text_h0, .int mode_h0, .int r61, .int signs_h0, .int loops_h0, .int token_h0, .int fault_h0])) :: fpo fad fn fd fcf)) (pm_eq (a := [((fad fd), .inr (0, [(frB fad fd), (frA fad fn fd), .int kind_t, .int place_t, .int width_t, .int second_t, .int parts_t, .int innerParts_t, .int innerPlace_t, .int innerWidth_t, .int signs_t, .int waitingBelow_t, .int limited_t, .int targets_t, .int lastBlock_t])), (a_scanner_h0, .inr (4, [.ref a_text_a_scanner_h0, .int next_a_scanner_h0, .int kind_a_scanner_h0, .int start_a_scanner_h0, .int width_a_scanner_h0])), (a_draft_h0, .inr (1, [.ref a_cells_a_draft_h0, .int count_a_draft_h0])), (a_cells_a_draft_h0, .inl (cI, n_a_cells_a_draft_h0, .inl b_a_cells_a_draft_h0)), (a_waiting_h0, .inr (5, [.ref a_cells_a_waiting_h0, .int count_a_waiting_h0]))]) (b := fpo fad fn fd fcf) (c := [(h0, .inr (2, [.ref a_scanner_h0, .ref a_draft_h0, .ref a_waiting_h0, .ref a_functions_h0, .ref (fad 0), .ref (fad fd), .ref a_text_h0, .int mode_h0, .int r61, .int signs_h0, .int loops_h0, .int token_h0, .int fault_h0]))]) rfl) ?_
              refine j_norm (pc' := 191) (st' := [.int r60]) (ws' := (((fad fd), .inr (0, [(frB fad fd), (frA fad fn fd), .int kind_t, .int place_t, .int width_t, .int second_t, .int parts_t, .int innerParts_t, .int innerPlace_t, .int innerWidth_t, .int signs_t, .int waitingBelow_t, .int limited_t, .int targets_t, .int lastBlock_t])) :: (a_scanner_h0, .inr (4, [.ref a_text_a_scanner_h0, .int next_a_scanner_h0, .int kind_a_scanner_h0, .int start_a_scanner_h0, .int width_a_scanner_h0])) :: (a_draft_h0, .inr (1, [.ref a_cells_a_draft_h0, .int count_a_draft_h0])) :: (a_cells_a_draft_h0, .inl (cI, n_a_cells_a_draft_h0, .inl b_a_cells_a_draft_h0)) :: (a_waiting_h0, .inr (5, [.ref a_cells_a_waiting_h0, .int count_a_waiting_h0])) :: (h0, .inr (2, [.ref a_scanner_h0, .ref a_draft_h0, .ref a_waiting_h0, .ref a_functions_h0, .ref (fad 0), .ref (fad fd), .ref a_text_h0, .int mode_h0, .int r61, .int signs_h0, .int loops_h0, .int token_h0, .int fault_h0])) :: fpo fad fn fd fcf)) (cl' := 0) (sl' := 0) rfl rfl rfl rfl rfl rfl ?_
              refine j_if_eq (tgt := 205) d_Rd_standsInSeveral_191 (by decide) (fun c64 => ?_) (fun c64 => ?_)
              · replace h := it_t c64 h
                refine j_iconst (v := 0) d_Rd_standsInSeveral_205 (by decide) ?_
                replace h := lf_s h
                obtain ⟨h, e1, e2⟩ := h
                replace h := Prod.mk.inj h
                obtain ⟨h9, h⟩ := h
                subst h9
                replace h := Prod.mk.inj h
                obtain ⟨h9, h⟩ := h
                subst h9
                replace h := Prod.mk.inj h
                obtain ⟨h9, h⟩ := h
                subst h9
                replace h := Prod.mk.inj h
                obtain ⟨h9, h⟩ := h
                subst h9
                replace h := Prod.mk.inj h
                obtain ⟨h9, h⟩ := h
                subst h9
                replace h := Prod.mk.inj h
                obtain ⟨h9, h⟩ := h
                subst h9
                replace h := Prod.mk.inj h
                obtain ⟨h9, h⟩ := h
                subst h9
                replace h := Prod.mk.inj h
                obtain ⟨h9, h⟩ := h
                subst h9
                replace h := Prod.mk.inj h
                obtain ⟨h9, h⟩ := h
                subst h9
                replace h := Prod.mk.inj h
                obtain ⟨h9, h⟩ := h
                subst h9
                replace h := Prod.mk.inj h
                obtain ⟨h9, h⟩ := h
                subst h9
                replace h := Prod.mk.inj h
                obtain ⟨h9, h⟩ := h
                subst h9
                replace h := Prod.mk.inj h
                obtain ⟨h9, h⟩ := h
                subst h9
                replace h := Prod.mk.inj h
                obtain ⟨h9, h⟩ := h
                subst h9
                replace h := Prod.mk.inj h
                obtain ⟨h9, h⟩ := h
                subst h9
                replace h := Prod.mk.inj h
                obtain ⟨h9, h⟩ := h
                subst h9
                replace h := Prod.mk.inj h
                obtain ⟨h9, h⟩ := h
                subst h9
                replace h := Prod.mk.inj h
                obtain ⟨h9, h⟩ := h
                subst h9
                replace h := Prod.mk.inj h
                obtain ⟨h9, h⟩ := h
                subst h9
                replace h := Prod.mk.inj h
                obtain ⟨h9, h⟩ := h
                subst h9
                replace h := Prod.mk.inj h
                obtain ⟨h9, h⟩ := h
                subst h9
                replace h := Prod.mk.inj h
                obtain ⟨h9, h⟩ := h
                subst h9
                subst h
                refine j_widen (cl' := mc) (sl' := ms) (by omega) (by omega) ?_
                refine j_subP (w := [(h0, .inr (2, [.ref a_scanner_h0, .ref a_draft_h0, .ref a_waiting_h0, .ref a_functions_h0, .ref (fad 0), .ref (fad fd), .ref a_text_h0, .int mode_h0, .int r61, .int signs_h0, .int loops_h0, .int token_h0, .int fault_h0])), ((fad fd), .inr (0, [(frB fad fd), (frA fad fn fd), .int kind_t, .int place_t, .int width_t, .int second_t, .int parts_t, .int innerParts_t, .int innerPlace_t, .int innerWidth_t, .int signs_t, .int waitingBelow_t, .int limited_t, .int targets_t, .int lastBlock_t])), (a_scanner_h0, .inr (4, [.ref a_text_a_scanner_h0, .int next_a_scanner_h0, .int kind_a_scanner_h0, .int start_a_scanner_h0, .int width_a_scanner_h0])), (a_draft_h0, .inr (1, [.ref a_cells_a_draft_h0, .int count_a_draft_h0])), (a_waiting_h0, .inr (5, [.ref a_cells_a_waiting_h0, .int count_a_waiting_h0])), (a_cells_a_draft_h0, .inl (cI, n_a_cells_a_draft_h0, .inl b_a_cells_a_draft_h0))]) (pl := fpo fad fn fd fcf) (lv' := []) [5, 0, 1, 2, 4, 3] [] 6 rfl rfl (by decide) [] rfl ?_
                exact j_zretE hr (zb_n zb0) d_Rd_standsInSeveral_206 ⟨fad, a_cells_a_draft_h0, rfl, zb0, rfl⟩
              · replace h := it_f c64 h
                refine j_aload_n d_Rd_standsInSeveral_194 rfl 0 rfl ?_
                refine j_callVg (n := 0) (As := []) (rest := []) (wr := ([(a_draft_h0, .inr (1, [.ref a_cells_a_draft_h0, .int count_a_draft_h0])), (a_cells_a_draft_h0, .inl (cI, n_a_cells_a_draft_h0, .inl b_a_cells_a_draft_h0)), (a_waiting_h0, .inr (5, [.ref a_cells_a_waiting_h0, .int count_a_waiting_h0]))] ++ fpo fad fn fd fcf)) (c_Rd_openCall l D cI cB cJ cS h0 a_scanner_h0 a_draft_h0 a_waiting_h0 a_functions_h0 (fad 0) (fad fd) a_text_h0 a_text_a_scanner_h0 (frB fad fd) (frA fad fn fd) mode_h0 r61 signs_h0 loops_h0 token_h0 fault_h0 next_a_scanner_h0 kind_a_scanner_h0 start_a_scanner_h0 width_a_scanner_h0 kind_t place_t width_t second_t parts_t innerParts_t innerPlace_t innerWidth_t signs_t waitingBelow_t limited_t targets_t lastBlock_t  ) k_Rd_292 (by decide) ⟨Nat.le_of_ble_eq_true rfl, Nat.le_of_ble_eq_true rfl⟩ rfl 0 rfl (pk_mid (wr := [(a_draft_h0, .inr (1, [.ref a_cells_a_draft_h0, .int count_a_draft_h0])), (a_cells_a_draft_h0, .inl (cI, n_a_cells_a_draft_h0, .inl b_a_cells_a_draft_h0)), (a_waiting_h0, .inr (5, [.ref a_cells_a_waiting_h0, .int count_a_waiting_h0]))]) (w0 := [(h0, .inr (2, [.ref a_scanner_h0, .ref a_draft_h0, .ref a_waiting_h0, .ref a_functions_h0, .ref (fad 0), .ref (fad fd), .ref a_text_h0, .int mode_h0, .int r61, .int signs_h0, .int loops_h0, .int token_h0, .int fault_h0])), (a_scanner_h0, .inr (4, [.ref a_text_a_scanner_h0, .int next_a_scanner_h0, .int kind_a_scanner_h0, .int start_a_scanner_h0, .int width_a_scanner_h0])), ((fad fd), .inr (0, [(frB fad fd), (frA fad fn fd), .int kind_t, .int place_t, .int width_t, .int second_t, .int parts_t, .int innerParts_t, .int innerPlace_t, .int innerWidth_t, .int signs_t, .int waitingBelow_t, .int limited_t, .int targets_t, .int lastBlock_t]))]) (pl := fpo fad fn fd fcf) [2, 3, 4, 5, 1, 0] 6 rfl rfl (by decide)) rfl rfl (Nat.le_of_ble_eq_true rfl) d_Rd_standsInSeveral_195 ⟨show 0 + 0 ≤ mc by omega, show 0 + 0 ≤ ms by omega⟩ (fun v w hq => ?_)
                obtain ⟨rfl, _, rfl⟩ := hq
                refine j_perm (ws' := ((a_draft_h0, .inr (1, [.ref a_cells_a_draft_h0, .int count_a_draft_h0])) :: (a_cells_a_draft_h0, .inl (cI, n_a_cells_a_draft_h0, .inl b_a_cells_a_draft_h0)) :: (a_waiting_h0, .inr (5, [.ref a_cells_a_waiting_h0, .int count_a_waiting_h0])) :: (h0, .inr (2, [.ref a_scanner_h0, .ref a_draft_h0, .ref a_waiting_h0, .ref a_functions_h0, .ref (fad 0), .ref (fad fd), .ref a_text_h0, .int 30, .int r61, .int signs_h0, .int loops_h0, .int token_h0, .int fault_h0])) :: (a_scanner_h0, .inr (4, [.ref a_text_a_scanner_h0, .int next_a_scanner_h0, .int kind_a_scanner_h0, .int start_a_scanner_h0, .int width_a_scanner_h0])) :: ((fad fd), .inr (0, [(frB fad fd), (frA fad fn fd), .int kind_t, .int place_t, .int width_t, .int start_a_scanner_h0, .int parts_t, .int innerParts_t, .int innerPlace_t, .int innerWidth_t, .int signs_t, .int waitingBelow_t, .int limited_t, .int targets_t, .int lastBlock_t])) :: fpo fad fn fd fcf)) (pm_eq (a := [(a_draft_h0, .inr (1, [.ref a_cells_a_draft_h0, .int count_a_draft_h0])), (a_cells_a_draft_h0, .inl (cI, n_a_cells_a_draft_h0, .inl b_a_cells_a_draft_h0)), (a_waiting_h0, .inr (5, [.ref a_cells_a_waiting_h0, .int count_a_waiting_h0]))]) (b := fpo fad fn fd fcf) (c := [(h0, .inr (2, [.ref a_scanner_h0, .ref a_draft_h0, .ref a_waiting_h0, .ref a_functions_h0, .ref (fad 0), .ref (fad fd), .ref a_text_h0, .int 30, .int r61, .int signs_h0, .int loops_h0, .int token_h0, .int fault_h0])), (a_scanner_h0, .inr (4, [.ref a_text_a_scanner_h0, .int next_a_scanner_h0, .int kind_a_scanner_h0, .int start_a_scanner_h0, .int width_a_scanner_h0])), ((fad fd), .inr (0, [(frB fad fd), (frA fad fn fd), .int kind_t, .int place_t, .int width_t, .int start_a_scanner_h0, .int parts_t, .int innerParts_t, .int innerPlace_t, .int innerWidth_t, .int signs_t, .int waitingBelow_t, .int limited_t, .int targets_t, .int lastBlock_t]))]) rfl) ?_
                refine j_norm (pc' := 198) (st' := [.int 1]) (ws' := ((a_draft_h0, .inr (1, [.ref a_cells_a_draft_h0, .int count_a_draft_h0])) :: (a_cells_a_draft_h0, .inl (cI, n_a_cells_a_draft_h0, .inl b_a_cells_a_draft_h0)) :: (a_waiting_h0, .inr (5, [.ref a_cells_a_waiting_h0, .int count_a_waiting_h0])) :: (h0, .inr (2, [.ref a_scanner_h0, .ref a_draft_h0, .ref a_waiting_h0, .ref a_functions_h0, .ref (fad 0), .ref (fad fd), .ref a_text_h0, .int 30, .int r61, .int signs_h0, .int loops_h0, .int token_h0, .int fault_h0])) :: (a_scanner_h0, .inr (4, [.ref a_text_a_scanner_h0, .int next_a_scanner_h0, .int kind_a_scanner_h0, .int start_a_scanner_h0, .int width_a_scanner_h0])) :: ((fad fd), .inr (0, [(frB fad fd), (frA fad fn fd), .int kind_t, .int place_t, .int width_t, .int start_a_scanner_h0, .int parts_t, .int innerParts_t, .int innerPlace_t, .int innerWidth_t, .int signs_t, .int waitingBelow_t, .int limited_t, .int targets_t, .int lastBlock_t])) :: fpo fad fn fd fcf)) (cl' := 0) (sl' := 0) rfl rfl rfl rfl rfl rfl ?_
                refine j_if_eq (tgt := 205) d_Rd_standsInSeveral_198 (by decide) (fun c66 => absurd c66 (by decide)) (fun c66 => ?_)
                refine j_iconst (v := 1) d_Rd_standsInSeveral_201 (by decide) ?_
                refine j_goto (tgt := 206) d_Rd_standsInSeveral_202 (by decide) ?_
                replace h := lf_s h
                obtain ⟨h, e1, e2⟩ := h
                replace h := Prod.mk.inj h
                obtain ⟨h9, h⟩ := h
                subst h9
                replace h := Prod.mk.inj h
                obtain ⟨h9, h⟩ := h
                subst h9
                replace h := Prod.mk.inj h
                obtain ⟨h9, h⟩ := h
                subst h9
                replace h := Prod.mk.inj h
                obtain ⟨h9, h⟩ := h
                subst h9
                replace h := Prod.mk.inj h
                obtain ⟨h9, h⟩ := h
                subst h9
                replace h := Prod.mk.inj h
                obtain ⟨h9, h⟩ := h
                subst h9
                replace h := Prod.mk.inj h
                obtain ⟨h9, h⟩ := h
                subst h9
                replace h := Prod.mk.inj h
                obtain ⟨h9, h⟩ := h
                subst h9
                replace h := Prod.mk.inj h
                obtain ⟨h9, h⟩ := h
                subst h9
                replace h := Prod.mk.inj h
                obtain ⟨h9, h⟩ := h
                subst h9
                replace h := Prod.mk.inj h
                obtain ⟨h9, h⟩ := h
                subst h9
                replace h := Prod.mk.inj h
                obtain ⟨h9, h⟩ := h
                subst h9
                replace h := Prod.mk.inj h
                obtain ⟨h9, h⟩ := h
                subst h9
                replace h := Prod.mk.inj h
                obtain ⟨h9, h⟩ := h
                subst h9
                replace h := Prod.mk.inj h
                obtain ⟨h9, h⟩ := h
                subst h9
                replace h := Prod.mk.inj h
                obtain ⟨h9, h⟩ := h
                subst h9
                replace h := Prod.mk.inj h
                obtain ⟨h9, h⟩ := h
                subst h9
                replace h := Prod.mk.inj h
                obtain ⟨h9, h⟩ := h
                subst h9
                replace h := Prod.mk.inj h
                obtain ⟨h9, h⟩ := h
                subst h9
                replace h := Prod.mk.inj h
                obtain ⟨h9, h⟩ := h
                subst h9
                replace h := Prod.mk.inj h
                obtain ⟨h9, h⟩ := h
                subst h9
                replace h := Prod.mk.inj h
                obtain ⟨h9, h⟩ := h
                subst h9
                subst h
                refine j_widen (cl' := mc) (sl' := ms) (by omega) (by omega) ?_
                refine j_subP (w := [(h0, .inr (2, [.ref a_scanner_h0, .ref a_draft_h0, .ref a_waiting_h0, .ref a_functions_h0, .ref (fad 0), .ref (fad fd), .ref a_text_h0, .int 30, .int r61, .int signs_h0, .int loops_h0, .int token_h0, .int fault_h0])), ((fad fd), .inr (0, [(frB fad fd), (frA fad fn fd), .int kind_t, .int place_t, .int width_t, .int start_a_scanner_h0, .int parts_t, .int innerParts_t, .int innerPlace_t, .int innerWidth_t, .int signs_t, .int waitingBelow_t, .int limited_t, .int targets_t, .int lastBlock_t])), (a_scanner_h0, .inr (4, [.ref a_text_a_scanner_h0, .int next_a_scanner_h0, .int kind_a_scanner_h0, .int start_a_scanner_h0, .int width_a_scanner_h0])), (a_draft_h0, .inr (1, [.ref a_cells_a_draft_h0, .int count_a_draft_h0])), (a_waiting_h0, .inr (5, [.ref a_cells_a_waiting_h0, .int count_a_waiting_h0])), (a_cells_a_draft_h0, .inl (cI, n_a_cells_a_draft_h0, .inl b_a_cells_a_draft_h0))]) (pl := fpo fad fn fd fcf) (lv' := []) [3, 5, 4, 0, 2, 1] [] 6 rfl rfl (by decide) [] rfl ?_
                exact j_zretE hr (zb_n zb1) d_Rd_standsInSeveral_206 ⟨fad, a_cells_a_draft_h0, rfl, zb1, rfl⟩
          · replace h := it_f c58 h
            by_cases c67 : mode_h0 = 25
            · replace h := it_t c67 h
              refine j_tabIn (tgt := 207) (off := 203) d_Rd_standsInSeveral_4 25 c67 (by decide) (by decide) (by decide) (by decide) ?_
              refine j_aload_n d_Rd_standsInSeveral_207 rfl 0 rfl ?_
              refine j_get ig_Rd rfl 0 rfl 11 (by decide) rfl m_180 rfl d_Rd_standsInSeveral_208 ?_
              refine j_bipush (v := 59) d_Rd_standsInSeveral_211 (by decide) ?_
              refine j_icmp_ne (tgt := 227) d_Rd_standsInSeveral_213 (by decide) (fun c68 => ?_) (fun c68 => ?_)
              · replace h := it_f c68 h
                refine j_iconst (v := 0) d_Rd_standsInSeveral_227 (by decide) ?_
                replace h := lf_s h
                obtain ⟨h, e1, e2⟩ := h
                replace h := Prod.mk.inj h
                obtain ⟨h9, h⟩ := h
                subst h9
                replace h := Prod.mk.inj h
                obtain ⟨h9, h⟩ := h
                subst h9
                replace h := Prod.mk.inj h
                obtain ⟨h9, h⟩ := h
                subst h9
                replace h := Prod.mk.inj h
                obtain ⟨h9, h⟩ := h
                subst h9
                replace h := Prod.mk.inj h
                obtain ⟨h9, h⟩ := h
                subst h9
                replace h := Prod.mk.inj h
                obtain ⟨h9, h⟩ := h
                subst h9
                replace h := Prod.mk.inj h
                obtain ⟨h9, h⟩ := h
                subst h9
                replace h := Prod.mk.inj h
                obtain ⟨h9, h⟩ := h
                subst h9
                replace h := Prod.mk.inj h
                obtain ⟨h9, h⟩ := h
                subst h9
                replace h := Prod.mk.inj h
                obtain ⟨h9, h⟩ := h
                subst h9
                replace h := Prod.mk.inj h
                obtain ⟨h9, h⟩ := h
                subst h9
                replace h := Prod.mk.inj h
                obtain ⟨h9, h⟩ := h
                subst h9
                replace h := Prod.mk.inj h
                obtain ⟨h9, h⟩ := h
                subst h9
                replace h := Prod.mk.inj h
                obtain ⟨h9, h⟩ := h
                subst h9
                replace h := Prod.mk.inj h
                obtain ⟨h9, h⟩ := h
                subst h9
                replace h := Prod.mk.inj h
                obtain ⟨h9, h⟩ := h
                subst h9
                replace h := Prod.mk.inj h
                obtain ⟨h9, h⟩ := h
                subst h9
                replace h := Prod.mk.inj h
                obtain ⟨h9, h⟩ := h
                subst h9
                replace h := Prod.mk.inj h
                obtain ⟨h9, h⟩ := h
                subst h9
                replace h := Prod.mk.inj h
                obtain ⟨h9, h⟩ := h
                subst h9
                replace h := Prod.mk.inj h
                obtain ⟨h9, h⟩ := h
                subst h9
                replace h := Prod.mk.inj h
                obtain ⟨h9, h⟩ := h
                subst h9
                subst h
                refine j_widen (cl' := mc) (sl' := ms) (by omega) (by omega) ?_
                refine j_subP (w := [(h0, .inr (2, [.ref a_scanner_h0, .ref a_draft_h0, .ref a_waiting_h0, .ref a_functions_h0, .ref (fad 0), .ref (fad fd), .ref a_text_h0, .int mode_h0, .int levels_h0, .int signs_h0, .int loops_h0, .int token_h0, .int fault_h0])), ((fad fd), .inr (0, [(frB fad fd), (frA fad fn fd), .int kind_t, .int place_t, .int width_t, .int second_t, .int parts_t, .int innerParts_t, .int innerPlace_t, .int innerWidth_t, .int signs_t, .int waitingBelow_t, .int limited_t, .int targets_t, .int lastBlock_t])), (a_scanner_h0, .inr (4, [.ref a_text_a_scanner_h0, .int next_a_scanner_h0, .int kind_a_scanner_h0, .int start_a_scanner_h0, .int width_a_scanner_h0])), (a_draft_h0, .inr (1, [.ref a_cells_a_draft_h0, .int count_a_draft_h0])), (a_waiting_h0, .inr (5, [.ref a_cells_a_waiting_h0, .int count_a_waiting_h0])), (a_cells_a_draft_h0, .inl (cI, n_a_cells_a_draft_h0, .inl b_a_cells_a_draft_h0))]) (pl := fpo fad fn fd fcf) (lv' := []) [0, 1, 2, 3, 5, 4] [] 6 rfl rfl (by decide) [] rfl ?_
                exact j_zretE hr (zb_n zb0) d_Rd_standsInSeveral_228 ⟨fad, a_cells_a_draft_h0, rfl, zb0, rfl⟩
              · replace h := it_t c68 h
                refine j_aload_n d_Rd_standsInSeveral_216 rfl 0 rfl ?_
                replace h := bw_s h
                obtain ⟨⟨r69, r70, r71, r72, r73, r74, r75, r76, r77, r78, r79, r80, r81, r82, r83, r84, r85, r86, r87⟩, C90, S91, C92, S93, k94, h, e1, e2⟩ := h
                replace hC : 0 + C90 + C92 ≤ mc := by omega
                replace hS : 0 + S91 + S93 ≤ ms := by omega
                clear e1 e2
                refine j_callVg (n := 0) (As := []) (rest := []) (wr := [(a_scanner_h0, .inr (4, [.ref a_text_a_scanner_h0, .int next_a_scanner_h0, .int kind_a_scanner_h0, .int start_a_scanner_h0, .int width_a_scanner_h0])), (a_waiting_h0, .inr (5, [.ref a_cells_a_waiting_h0, .int count_a_waiting_h0]))]) (c_Rd_endSeveral l D cI cB cJ cS h0 fad a_scanner_h0 a_draft_h0 a_waiting_h0 a_functions_h0 a_text_h0 a_cells_a_draft_h0 fn fd fcf mode_h0 levels_h0 signs_h0 loops_h0 token_h0 fault_h0 kind_t place_t width_t second_t parts_t innerParts_t innerPlace_t innerWidth_t signs_t waitingBelow_t limited_t targets_t lastBlock_t count_a_draft_h0 n_a_cells_a_draft_h0 b_a_cells_a_draft_h0  r69 r70 r71 r72 r73 r74 r75 r76 r77 r78 r79 r80 r81 r82 r83 r84 r85 r86 r87 C90 S91 k94) k_Rd_295 (by decide) ⟨Nat.le_of_ble_eq_true rfl, Nat.le_of_ble_eq_true rfl⟩ rfl 0 rfl (pk_app (wr := [(a_scanner_h0, .inr (4, [.ref a_text_a_scanner_h0, .int next_a_scanner_h0, .int kind_a_scanner_h0, .int start_a_scanner_h0, .int width_a_scanner_h0])), (a_waiting_h0, .inr (5, [.ref a_cells_a_waiting_h0, .int count_a_waiting_h0]))]) (w0 := [(h0, .inr (2, [.ref a_scanner_h0, .ref a_draft_h0, .ref a_waiting_h0, .ref a_functions_h0, .ref (fad 0), .ref (fad fd), .ref a_text_h0, .int mode_h0, .int levels_h0, .int signs_h0, .int loops_h0, .int token_h0, .int fault_h0])), ((fad fd), .inr (0, [(frB fad fd), (frA fad fn fd), .int kind_t, .int place_t, .int width_t, .int second_t, .int parts_t, .int innerParts_t, .int innerPlace_t, .int innerWidth_t, .int signs_t, .int waitingBelow_t, .int limited_t, .int targets_t, .int lastBlock_t])), (a_draft_h0, .inr (1, [.ref a_cells_a_draft_h0, .int count_a_draft_h0])), (a_cells_a_draft_h0, .inl (cI, n_a_cells_a_draft_h0, .inl b_a_cells_a_draft_h0))]) (pl := fpo fad fn fd fcf) [2, 5, 0, 1, 3, 4] 6 rfl rfl rfl (by decide)) rfl rfl (Nat.le_of_ble_eq_true rfl) d_Rd_standsInSeveral_217 ⟨show 0 + C90 ≤ mc by omega, show 0 + S91 ≤ ms by omega⟩ (fun v w hq => ?_)
                obtain ⟨a88, q89, rfl, _, rfl⟩ := hq
                refine j_norm (pc' := 220) (st' := [.int 1]) (ws' := ((a_scanner_h0, .inr (4, [.ref a_text_a_scanner_h0, .int next_a_scanner_h0, .int kind_a_scanner_h0, .int start_a_scanner_h0, .int width_a_scanner_h0])) :: (a_waiting_h0, .inr (5, [.ref a_cells_a_waiting_h0, .int count_a_waiting_h0])) :: (h0, .inr (2, [.ref a_scanner_h0, .ref a_draft_h0, .ref a_waiting_h0, .ref a_functions_h0, .ref (a88 0), .ref (a88 r70), .ref a_text_h0, .int 0, .int levels_h0, .int signs_t, .int loops_h0, .int token_h0, .int fault_h0])) :: ((a88 r70), .inr (0, [(frB a88 r70), (frA a88 r69 r70), .int r72, .int r73, .int r74, .int r75, .int r76, .int r77, .int r78, .int r79, .int r80, .int r81, .int r82, .int r83, .int r84])) :: (a_draft_h0, .inr (1, [.ref q89, .int r85])) :: (q89, .inl (cI, r86, .inl r87)) :: fpo a88 r69 r70 r71)) (cl' := 0 + C90) (sl' := 0 + S91) rfl rfl rfl rfl rfl rfl ?_
                refine j_if_eq (tgt := 227) d_Rd_standsInSeveral_220 (by decide) (fun c95 => absurd c95 (by decide)) (fun c95 => ?_)
                refine j_iconst (v := 1) d_Rd_standsInSeveral_223 (by decide) ?_
                refine j_goto (tgt := 228) d_Rd_standsInSeveral_224 (by decide) ?_
                replace h := lf_s h
                obtain ⟨h, e1, e2⟩ := h
                replace h := Prod.mk.inj h
                obtain ⟨h9, h⟩ := h
                subst h9
                replace h := Prod.mk.inj h
                obtain ⟨h9, h⟩ := h
                subst h9
                replace h := Prod.mk.inj h
                obtain ⟨h9, h⟩ := h
                subst h9
                replace h := Prod.mk.inj h
                obtain ⟨h9, h⟩ := h
                subst h9
                replace h := Prod.mk.inj h
                obtain ⟨h9, h⟩ := h
                subst h9
                replace h := Prod.mk.inj h
                obtain ⟨h9, h⟩ := h
                subst h9
                replace h := Prod.mk.inj h
                obtain ⟨h9, h⟩ := h
                subst h9
                replace h := Prod.mk.inj h
                obtain ⟨h9, h⟩ := h
                subst h9
                replace h := Prod.mk.inj h
                obtain ⟨h9, h⟩ := h
                subst h9
                replace h := Prod.mk.inj h
                obtain ⟨h9, h⟩ := h
                subst h9
                replace h := Prod.mk.inj h
                obtain ⟨h9, h⟩ := h
                subst h9
                replace h := Prod.mk.inj h
                obtain ⟨h9, h⟩ := h
                subst h9
                replace h := Prod.mk.inj h
                obtain ⟨h9, h⟩ := h
                subst h9
                replace h := Prod.mk.inj h
                obtain ⟨h9, h⟩ := h
                subst h9
                replace h := Prod.mk.inj h
                obtain ⟨h9, h⟩ := h
                subst h9
                replace h := Prod.mk.inj h
                obtain ⟨h9, h⟩ := h
                subst h9
                replace h := Prod.mk.inj h
                obtain ⟨h9, h⟩ := h
                subst h9
                replace h := Prod.mk.inj h
                obtain ⟨h9, h⟩ := h
                subst h9
                replace h := Prod.mk.inj h
                obtain ⟨h9, h⟩ := h
                subst h9
                replace h := Prod.mk.inj h
                obtain ⟨h9, h⟩ := h
                subst h9
                replace h := Prod.mk.inj h
                obtain ⟨h9, h⟩ := h
                subst h9
                replace h := Prod.mk.inj h
                obtain ⟨h9, h⟩ := h
                subst h9
                subst h
                refine j_widen (cl' := mc) (sl' := ms) (by omega) (by omega) ?_
                refine j_subP (w := [(h0, .inr (2, [.ref a_scanner_h0, .ref a_draft_h0, .ref a_waiting_h0, .ref a_functions_h0, .ref (a88 0), .ref (a88 r70), .ref a_text_h0, .int 0, .int levels_h0, .int signs_t, .int loops_h0, .int token_h0, .int fault_h0])), ((a88 r70), .inr (0, [(frB a88 r70), (frA a88 r69 r70), .int r72, .int r73, .int r74, .int r75, .int r76, .int r77, .int r78, .int r79, .int r80, .int r81, .int r82, .int r83, .int r84])), (a_scanner_h0, .inr (4, [.ref a_text_a_scanner_h0, .int next_a_scanner_h0, .int kind_a_scanner_h0, .int start_a_scanner_h0, .int width_a_scanner_h0])), (a_draft_h0, .inr (1, [.ref q89, .int r85])), (a_waiting_h0, .inr (5, [.ref a_cells_a_waiting_h0, .int count_a_waiting_h0])), (q89, .inl (cI, r86, .inl r87))]) (pl := fpo a88 r69 r70 r71) (lv' := []) [2, 3, 0, 4, 1, 5] [] 6 rfl rfl (by decide) [] rfl ?_
                exact j_zretE hr (zb_n zb1) d_Rd_standsInSeveral_228 ⟨a88, q89, rfl, zb1, rfl⟩
            · replace h := it_f c67 h
              refine j_tabOut (tgt := 229) d_Rd_standsInSeveral_4 (by have := lv_neT c1 (by decide : (20 : Int32).toInt = 20); have := lv_neT c24 (by decide : (21 : Int32).toInt = 21); have := lv_neT c42 (by decide : (22 : Int32).toInt = 22); have := lv_neT c46 (by decide : (23 : Int32).toInt = 23); have := lv_neT c58 (by decide : (24 : Int32).toInt = 24); have := lv_neT c67 (by decide : (25 : Int32).toInt = 25); omega) (by decide) ?_
              refine j_iconst (v := 0) d_Rd_standsInSeveral_229 (by decide) ?_
              replace h := lf_s h
              obtain ⟨h, e1, e2⟩ := h
              replace h := Prod.mk.inj h
              obtain ⟨h9, h⟩ := h
              subst h9
              replace h := Prod.mk.inj h
              obtain ⟨h9, h⟩ := h
              subst h9
              replace h := Prod.mk.inj h
              obtain ⟨h9, h⟩ := h
              subst h9
              replace h := Prod.mk.inj h
              obtain ⟨h9, h⟩ := h
              subst h9
              replace h := Prod.mk.inj h
              obtain ⟨h9, h⟩ := h
              subst h9
              replace h := Prod.mk.inj h
              obtain ⟨h9, h⟩ := h
              subst h9
              replace h := Prod.mk.inj h
              obtain ⟨h9, h⟩ := h
              subst h9
              replace h := Prod.mk.inj h
              obtain ⟨h9, h⟩ := h
              subst h9
              replace h := Prod.mk.inj h
              obtain ⟨h9, h⟩ := h
              subst h9
              replace h := Prod.mk.inj h
              obtain ⟨h9, h⟩ := h
              subst h9
              replace h := Prod.mk.inj h
              obtain ⟨h9, h⟩ := h
              subst h9
              replace h := Prod.mk.inj h
              obtain ⟨h9, h⟩ := h
              subst h9
              replace h := Prod.mk.inj h
              obtain ⟨h9, h⟩ := h
              subst h9
              replace h := Prod.mk.inj h
              obtain ⟨h9, h⟩ := h
              subst h9
              replace h := Prod.mk.inj h
              obtain ⟨h9, h⟩ := h
              subst h9
              replace h := Prod.mk.inj h
              obtain ⟨h9, h⟩ := h
              subst h9
              replace h := Prod.mk.inj h
              obtain ⟨h9, h⟩ := h
              subst h9
              replace h := Prod.mk.inj h
              obtain ⟨h9, h⟩ := h
              subst h9
              replace h := Prod.mk.inj h
              obtain ⟨h9, h⟩ := h
              subst h9
              replace h := Prod.mk.inj h
              obtain ⟨h9, h⟩ := h
              subst h9
              replace h := Prod.mk.inj h
              obtain ⟨h9, h⟩ := h
              subst h9
              replace h := Prod.mk.inj h
              obtain ⟨h9, h⟩ := h
              subst h9
              subst h
              refine j_widen (cl' := mc) (sl' := ms) (by omega) (by omega) ?_
              refine j_subP (w := [(h0, .inr (2, [.ref a_scanner_h0, .ref a_draft_h0, .ref a_waiting_h0, .ref a_functions_h0, .ref (fad 0), .ref (fad fd), .ref a_text_h0, .int mode_h0, .int levels_h0, .int signs_h0, .int loops_h0, .int token_h0, .int fault_h0])), ((fad fd), .inr (0, [(frB fad fd), (frA fad fn fd), .int kind_t, .int place_t, .int width_t, .int second_t, .int parts_t, .int innerParts_t, .int innerPlace_t, .int innerWidth_t, .int signs_t, .int waitingBelow_t, .int limited_t, .int targets_t, .int lastBlock_t])), (a_scanner_h0, .inr (4, [.ref a_text_a_scanner_h0, .int next_a_scanner_h0, .int kind_a_scanner_h0, .int start_a_scanner_h0, .int width_a_scanner_h0])), (a_draft_h0, .inr (1, [.ref a_cells_a_draft_h0, .int count_a_draft_h0])), (a_waiting_h0, .inr (5, [.ref a_cells_a_waiting_h0, .int count_a_waiting_h0])), (a_cells_a_draft_h0, .inl (cI, n_a_cells_a_draft_h0, .inl b_a_cells_a_draft_h0))]) (pl := fpo fad fn fd fcf) (lv' := []) [0, 1, 2, 3, 5, 4] [] 6 rfl rfl (by decide) [] rfl ?_
              exact j_zretE hr (zb_n zb0) d_Rd_standsInSeveral_230 ⟨fad, a_cells_a_draft_h0, rfl, zb0, rfl⟩
