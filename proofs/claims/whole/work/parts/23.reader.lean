noncomputable def F_Rd_takeOperation (p1 : Int32) (mode_h0 : Int32) (levels_h0 : Int32) (signs_h0 : Int32) (loops_h0 : Int32) (token_h0 : Int32) (fault_h0 : Int32) (next_a_scanner_h0 : Int32) (kind_a_scanner_h0 : Int32) (start_a_scanner_h0 : Int32) (width_a_scanner_h0 : Int32) (count_a_waiting_h0 : Int32) (n_a_cells_a_waiting_h0 : Nat) (b_a_cells_a_waiting_h0 : Nat → Int32) : Option ((Int32 × Int32 × Nat × (Nat → Int32)) × Nat × Nat) :=
  bw (F_Tk_add p1 start_a_scanner_h0 width_a_scanner_h0 count_a_waiting_h0 n_a_cells_a_waiting_h0 b_a_cells_a_waiting_h0) fun ⟨r3, r4, r5⟩ =>
  if p1 = 8 then (some ((32, r3, r4, r5), 0, 0))
  else (some ((31, r3, r4, r5), 0, 0))
theorem d_Rd_takeOperation_0 : decode prog_6_method_60_code 0 = .ok (.aload_n 0, 1) := by decide +kernel
theorem d_Rd_takeOperation_1 : decode prog_6_method_60_code 1 = .ok (.getfield 30, 3) := by decide +kernel
theorem d_Rd_takeOperation_4 : decode prog_6_method_60_code 4 = .ok (.iload_n 1, 1) := by decide +kernel
theorem d_Rd_takeOperation_5 : decode prog_6_method_60_code 5 = .ok (.aload_n 0, 1) := by decide +kernel
theorem d_Rd_takeOperation_6 : decode prog_6_method_60_code 6 = .ok (.getfield 14, 3) := by decide +kernel
theorem d_Rd_takeOperation_9 : decode prog_6_method_60_code 9 = .ok (.invokevirtual 113, 3) := by decide +kernel
theorem d_Rd_takeOperation_12 : decode prog_6_method_60_code 12 = .ok (.aload_n 0, 1) := by decide +kernel
theorem d_Rd_takeOperation_13 : decode prog_6_method_60_code 13 = .ok (.getfield 14, 3) := by decide +kernel
theorem d_Rd_takeOperation_16 : decode prog_6_method_60_code 16 = .ok (.invokevirtual 124, 3) := by decide +kernel
theorem d_Rd_takeOperation_19 : decode prog_6_method_60_code 19 = .ok (.invokevirtual 270, 3) := by decide +kernel
theorem d_Rd_takeOperation_22 : decode prog_6_method_60_code 22 = .ok (.aload_n 0, 1) := by decide +kernel
theorem d_Rd_takeOperation_23 : decode prog_6_method_60_code 23 = .ok (.iload_n 1, 1) := by decide +kernel
theorem d_Rd_takeOperation_24 : decode prog_6_method_60_code 24 = .ok (.bipush 8, 2) := by decide +kernel
theorem d_Rd_takeOperation_26 : decode prog_6_method_60_code 26 = .ok (.if_icmp .ne 8, 3) := by decide +kernel
theorem d_Rd_takeOperation_29 : decode prog_6_method_60_code 29 = .ok (.bipush 32, 2) := by decide +kernel
theorem d_Rd_takeOperation_31 : decode prog_6_method_60_code 31 = .ok (.goto 5, 3) := by decide +kernel
theorem d_Rd_takeOperation_34 : decode prog_6_method_60_code 34 = .ok (.bipush 31, 2) := by decide +kernel
theorem d_Rd_takeOperation_36 : decode prog_6_method_60_code 36 = .ok (.invokevirtual 130, 3) := by decide +kernel
theorem d_Rd_takeOperation_39 : decode prog_6_method_60_code 39 = .ok (.ireturn, 1) := by decide +kernel
set_option maxHeartbeats 4000000 in
set_option maxRecDepth 100000 in
theorem c_Rd_takeOperation (l : Launch) (D : va_G) (cI cB cJ cS : ClassId) (h0 : Nat) (a_scanner_h0 : Nat) (a_draft_h0 : Nat) (a_waiting_h0 : Nat) (a_functions_h0 : Nat) (a_bottom_h0 : Nat) (a_top_h0 : Nat) (a_text_h0 : Nat) (a_text_a_scanner_h0 : Nat) (a_cells_a_waiting_h0 : Nat) (p1 : Int32) (mode_h0 : Int32) (levels_h0 : Int32) (signs_h0 : Int32) (loops_h0 : Int32) (token_h0 : Int32) (fault_h0 : Int32) (next_a_scanner_h0 : Int32) (kind_a_scanner_h0 : Int32) (start_a_scanner_h0 : Int32) (width_a_scanner_h0 : Int32) (count_a_waiting_h0 : Int32) (n_a_cells_a_waiting_h0 : Nat) (b_a_cells_a_waiting_h0 : Nat → Int32) (o_0_7 : Int32) (o_2_1 : Int32) (on_nq_2_0 : Nat) (ob_nq_2_0 : Nat → Int32) (mc ms : Nat) (h : F_Rd_takeOperation p1 mode_h0 levels_h0 signs_h0 loops_h0 token_h0 fault_h0 next_a_scanner_h0 kind_a_scanner_h0 start_a_scanner_h0 width_a_scanner_h0 count_a_waiting_h0 n_a_cells_a_waiting_h0 b_a_cells_a_waiting_h0 = some ((o_0_7, o_2_1, on_nq_2_0, ob_nq_2_0), mc, ms)) : Ct l D (gT cI cB cJ cS) y_Rd_takeOperation prog_6_method_60_code 2 (Option.some Jvm.ClassFile.FieldType.boolean) 3 106 mc ms [.ref h0, .int p1] [(h0, .inr (2, [.ref a_scanner_h0, .ref a_draft_h0, .ref a_waiting_h0, .ref a_functions_h0, .ref a_bottom_h0, .ref a_top_h0, .ref a_text_h0, .int mode_h0, .int levels_h0, .int signs_h0, .int loops_h0, .int token_h0, .int fault_h0])), (a_scanner_h0, .inr (4, [.ref a_text_a_scanner_h0, .int next_a_scanner_h0, .int kind_a_scanner_h0, .int start_a_scanner_h0, .int width_a_scanner_h0])), (a_waiting_h0, .inr (5, [.ref a_cells_a_waiting_h0, .int count_a_waiting_h0])), (a_cells_a_waiting_h0, .inl (cI, n_a_cells_a_waiting_h0, .inl b_a_cells_a_waiting_h0))] (fun v w => ∃ nq_2_0 : Nat, v = some (.int 1) ∧ zb 1 ∧ w = [(h0, .inr (2, [.ref a_scanner_h0, .ref a_draft_h0, .ref a_waiting_h0, .ref a_functions_h0, .ref a_bottom_h0, .ref a_top_h0, .ref a_text_h0, .int o_0_7, .int levels_h0, .int signs_h0, .int loops_h0, .int token_h0, .int fault_h0])), (a_scanner_h0, .inr (4, [.ref a_text_a_scanner_h0, .int next_a_scanner_h0, .int kind_a_scanner_h0, .int start_a_scanner_h0, .int width_a_scanner_h0])), (a_waiting_h0, .inr (5, [.ref nq_2_0, .int o_2_1])), (nq_2_0, .inl (cI, on_nq_2_0, .inl ob_nq_2_0))]) := by
  refine Ct.mk (by decide) (Nat.le_of_ble_eq_true rfl) ?_
  intro p e s m below meth c hr hnm
  refine j_norm (pc' := 0) (lv' := [(0, .ref h0), (1, .int p1)]) (st' := []) (ws' := [(h0, .inr (2, [.ref a_scanner_h0, .ref a_draft_h0, .ref a_waiting_h0, .ref a_functions_h0, .ref a_bottom_h0, .ref a_top_h0, .ref a_text_h0, .int mode_h0, .int levels_h0, .int signs_h0, .int loops_h0, .int token_h0, .int fault_h0])), (a_scanner_h0, .inr (4, [.ref a_text_a_scanner_h0, .int next_a_scanner_h0, .int kind_a_scanner_h0, .int start_a_scanner_h0, .int width_a_scanner_h0])), (a_waiting_h0, .inr (5, [.ref a_cells_a_waiting_h0, .int count_a_waiting_h0])), (a_cells_a_waiting_h0, .inl (cI, n_a_cells_a_waiting_h0, .inl b_a_cells_a_waiting_h0))]) (cl' := 0) (sl' := 0) rfl rfl rfl rfl rfl rfl ?_
  unfold F_Rd_takeOperation at h
  have hC : 0 + mc ≤ mc := by omega
  have hS : 0 + ms ≤ ms := by omega
  refine j_aload_n d_Rd_takeOperation_0 rfl 0 rfl ?_
  refine j_get ig_Rd rfl 0 rfl 2 (by decide) rfl m_171 rfl d_Rd_takeOperation_1 ?_
  refine j_iload_n d_Rd_takeOperation_4 rfl 1 rfl ?_
  refine j_aload_n d_Rd_takeOperation_5 rfl 0 rfl ?_
  refine j_get ig_Rd rfl 0 rfl 0 (by decide) rfl m_169 rfl d_Rd_takeOperation_6 ?_
  refine j_callV (n := 0) (As := []) (rest := [.int p1, .ref a_waiting_h0]) (wr := [(h0, .inr (2, [.ref a_scanner_h0, .ref a_draft_h0, .ref a_waiting_h0, .ref a_functions_h0, .ref a_bottom_h0, .ref a_top_h0, .ref a_text_h0, .int mode_h0, .int levels_h0, .int signs_h0, .int loops_h0, .int token_h0, .int fault_h0])), (a_waiting_h0, .inr (5, [.ref a_cells_a_waiting_h0, .int count_a_waiting_h0])), (a_cells_a_waiting_h0, .inl (cI, n_a_cells_a_waiting_h0, .inl b_a_cells_a_waiting_h0))]) (c_Sc_start l D cI cB cJ cS a_scanner_h0 a_text_a_scanner_h0 next_a_scanner_h0 kind_a_scanner_h0 start_a_scanner_h0 width_a_scanner_h0  ) k_Rd_113 (by decide) ⟨Nat.le_of_ble_eq_true rfl, Nat.le_of_ble_eq_true rfl⟩ rfl 0 rfl [1] [0, 2, 3] rfl (by decide) rfl (by decide) (by decide) rfl rfl (Nat.le_of_ble_eq_true rfl) d_Rd_takeOperation_9 ⟨show 0 + 0 ≤ mc by omega, show 0 + 0 ≤ ms by omega⟩ (fun v w hq => ?_)
  obtain ⟨rfl, rfl⟩ := hq
  refine j_norm (pc' := 12) (st' := [.int start_a_scanner_h0, .int p1, .ref a_waiting_h0]) (ws' := [(h0, .inr (2, [.ref a_scanner_h0, .ref a_draft_h0, .ref a_waiting_h0, .ref a_functions_h0, .ref a_bottom_h0, .ref a_top_h0, .ref a_text_h0, .int mode_h0, .int levels_h0, .int signs_h0, .int loops_h0, .int token_h0, .int fault_h0])), (a_waiting_h0, .inr (5, [.ref a_cells_a_waiting_h0, .int count_a_waiting_h0])), (a_cells_a_waiting_h0, .inl (cI, n_a_cells_a_waiting_h0, .inl b_a_cells_a_waiting_h0)), (a_scanner_h0, .inr (4, [.ref a_text_a_scanner_h0, .int next_a_scanner_h0, .int kind_a_scanner_h0, .int start_a_scanner_h0, .int width_a_scanner_h0]))]) (cl' := 0) (sl' := 0) rfl rfl rfl rfl rfl rfl ?_
  refine j_aload_n d_Rd_takeOperation_12 rfl 0 rfl ?_
  refine j_get ig_Rd rfl 0 rfl 0 (by decide) rfl m_169 rfl d_Rd_takeOperation_13 ?_
  refine j_callV (n := 0) (As := []) (rest := [.int start_a_scanner_h0, .int p1, .ref a_waiting_h0]) (wr := [(h0, .inr (2, [.ref a_scanner_h0, .ref a_draft_h0, .ref a_waiting_h0, .ref a_functions_h0, .ref a_bottom_h0, .ref a_top_h0, .ref a_text_h0, .int mode_h0, .int levels_h0, .int signs_h0, .int loops_h0, .int token_h0, .int fault_h0])), (a_waiting_h0, .inr (5, [.ref a_cells_a_waiting_h0, .int count_a_waiting_h0])), (a_cells_a_waiting_h0, .inl (cI, n_a_cells_a_waiting_h0, .inl b_a_cells_a_waiting_h0))]) (c_Sc_width l D cI cB cJ cS a_scanner_h0 a_text_a_scanner_h0 next_a_scanner_h0 kind_a_scanner_h0 start_a_scanner_h0 width_a_scanner_h0  ) k_Rd_124 (by decide) ⟨Nat.le_of_ble_eq_true rfl, Nat.le_of_ble_eq_true rfl⟩ rfl 0 rfl [3] [0, 1, 2] rfl (by decide) rfl (by decide) (by decide) rfl rfl (Nat.le_of_ble_eq_true rfl) d_Rd_takeOperation_16 ⟨show 0 + 0 ≤ mc by omega, show 0 + 0 ≤ ms by omega⟩ (fun v w hq => ?_)
  obtain ⟨rfl, rfl⟩ := hq
  refine j_norm (pc' := 19) (st' := [.int width_a_scanner_h0, .int start_a_scanner_h0, .int p1, .ref a_waiting_h0]) (ws' := [(h0, .inr (2, [.ref a_scanner_h0, .ref a_draft_h0, .ref a_waiting_h0, .ref a_functions_h0, .ref a_bottom_h0, .ref a_top_h0, .ref a_text_h0, .int mode_h0, .int levels_h0, .int signs_h0, .int loops_h0, .int token_h0, .int fault_h0])), (a_waiting_h0, .inr (5, [.ref a_cells_a_waiting_h0, .int count_a_waiting_h0])), (a_cells_a_waiting_h0, .inl (cI, n_a_cells_a_waiting_h0, .inl b_a_cells_a_waiting_h0)), (a_scanner_h0, .inr (4, [.ref a_text_a_scanner_h0, .int next_a_scanner_h0, .int kind_a_scanner_h0, .int start_a_scanner_h0, .int width_a_scanner_h0]))]) (cl' := 0) (sl' := 0) rfl rfl rfl rfl rfl rfl ?_
  replace h := bw_s h
  obtain ⟨⟨r3, r4, r5⟩, C7, S8, C9, S10, k11, h, e1, e2⟩ := h
  replace hC : 0 + C7 + C9 ≤ mc := by omega
  replace hS : 0 + S8 + S10 ≤ ms := by omega
  clear e1 e2
  refine j_callV (n := 3) (As := [.int p1, .int start_a_scanner_h0, .int width_a_scanner_h0]) (rest := []) (wr := [(h0, .inr (2, [.ref a_scanner_h0, .ref a_draft_h0, .ref a_waiting_h0, .ref a_functions_h0, .ref a_bottom_h0, .ref a_top_h0, .ref a_text_h0, .int mode_h0, .int levels_h0, .int signs_h0, .int loops_h0, .int token_h0, .int fault_h0])), (a_scanner_h0, .inr (4, [.ref a_text_a_scanner_h0, .int next_a_scanner_h0, .int kind_a_scanner_h0, .int start_a_scanner_h0, .int width_a_scanner_h0]))]) (c_Tk_add l D cI cB cJ cS a_waiting_h0 a_cells_a_waiting_h0 p1 start_a_scanner_h0 width_a_scanner_h0 count_a_waiting_h0 n_a_cells_a_waiting_h0 b_a_cells_a_waiting_h0  r3 r4 r5 C7 S8 k11) k_Rd_270 (by decide) ⟨Nat.le_of_ble_eq_true rfl, Nat.le_of_ble_eq_true rfl⟩ rfl 0 rfl [1, 2] [0, 3] rfl (by decide) rfl (by decide) (by decide) rfl rfl (Nat.le_of_ble_eq_true rfl) d_Rd_takeOperation_19 ⟨show 0 + C7 ≤ mc by omega, show 0 + S8 ≤ ms by omega⟩ (fun v w hq => ?_)
  obtain ⟨q6, rfl, rfl⟩ := hq
  refine j_norm (pc' := 22) (st' := []) (ws' := [(h0, .inr (2, [.ref a_scanner_h0, .ref a_draft_h0, .ref a_waiting_h0, .ref a_functions_h0, .ref a_bottom_h0, .ref a_top_h0, .ref a_text_h0, .int mode_h0, .int levels_h0, .int signs_h0, .int loops_h0, .int token_h0, .int fault_h0])), (a_scanner_h0, .inr (4, [.ref a_text_a_scanner_h0, .int next_a_scanner_h0, .int kind_a_scanner_h0, .int start_a_scanner_h0, .int width_a_scanner_h0])), (a_waiting_h0, .inr (5, [.ref q6, .int r3])), (q6, .inl (cI, r4, .inl r5))]) (cl' := 0 + C7) (sl' := 0 + S8) rfl rfl rfl rfl rfl rfl ?_
  refine j_aload_n d_Rd_takeOperation_22 rfl 0 rfl ?_
  refine j_iload_n d_Rd_takeOperation_23 rfl 1 rfl ?_
  refine j_bipush (v := 8) d_Rd_takeOperation_24 (by decide) ?_
  refine j_icmp_ne (tgt := 34) d_Rd_takeOperation_26 (by decide) (fun c12 => ?_) (fun c12 => ?_)
  · replace h := it_f c12 h
    refine j_bipush (v := 31) d_Rd_takeOperation_34 (by decide) ?_
    refine j_callV (n := 1) (As := [.int 31]) (rest := []) (wr := [(a_scanner_h0, .inr (4, [.ref a_text_a_scanner_h0, .int next_a_scanner_h0, .int kind_a_scanner_h0, .int start_a_scanner_h0, .int width_a_scanner_h0])), (a_waiting_h0, .inr (5, [.ref q6, .int r3])), (q6, .inl (cI, r4, .inl r5))]) (c_Rd_goOn l D cI cB cJ cS h0 a_scanner_h0 a_draft_h0 a_waiting_h0 a_functions_h0 a_bottom_h0 a_top_h0 a_text_h0 31 mode_h0 levels_h0 signs_h0 loops_h0 token_h0 fault_h0  ) k_Rd_130 (by decide) ⟨Nat.le_of_ble_eq_true rfl, Nat.le_of_ble_eq_true rfl⟩ rfl 0 rfl [0] [1, 2, 3] rfl (by decide) rfl (by decide) (by decide) rfl rfl (Nat.le_of_ble_eq_true rfl) d_Rd_takeOperation_36 ⟨show 0 + C7 + 0 ≤ mc by omega, show 0 + S8 + 0 ≤ ms by omega⟩ (fun v w hq => ?_)
    obtain ⟨rfl, _, rfl⟩ := hq
    refine j_norm (pc' := 39) (st' := [.int 1]) (ws' := [(a_scanner_h0, .inr (4, [.ref a_text_a_scanner_h0, .int next_a_scanner_h0, .int kind_a_scanner_h0, .int start_a_scanner_h0, .int width_a_scanner_h0])), (a_waiting_h0, .inr (5, [.ref q6, .int r3])), (q6, .inl (cI, r4, .inl r5)), (h0, .inr (2, [.ref a_scanner_h0, .ref a_draft_h0, .ref a_waiting_h0, .ref a_functions_h0, .ref a_bottom_h0, .ref a_top_h0, .ref a_text_h0, .int 31, .int levels_h0, .int signs_h0, .int loops_h0, .int token_h0, .int fault_h0]))]) (cl' := 0 + C7) (sl' := 0 + S8) rfl rfl rfl rfl rfl rfl ?_
    replace h := lf_s h
    obtain ⟨h, e1, e2⟩ := h
    replace h := Prod.mk.inj h
    obtain ⟨h9, h⟩ := h
    subst h9
    replace h := Prod.mk.inj h
    obtain ⟨h9, h⟩ := h
    subst h9
    replace h := Prod.mk.inj h
    obtain ⟨h9, h⟩ := h
    subst h9
    subst h
    refine j_widen (cl' := mc) (sl' := ms) (by omega) (by omega) ?_
    exact j_zret (w := [(h0, .inr (2, [.ref a_scanner_h0, .ref a_draft_h0, .ref a_waiting_h0, .ref a_functions_h0, .ref a_bottom_h0, .ref a_top_h0, .ref a_text_h0, .int 31, .int levels_h0, .int signs_h0, .int loops_h0, .int token_h0, .int fault_h0])), (a_scanner_h0, .inr (4, [.ref a_text_a_scanner_h0, .int next_a_scanner_h0, .int kind_a_scanner_h0, .int start_a_scanner_h0, .int width_a_scanner_h0])), (a_waiting_h0, .inr (5, [.ref q6, .int r3])), (q6, .inl (cI, r4, .inl r5))]) hr (zb_n zb1) d_Rd_takeOperation_39 [3, 0, 1, 2] rfl (by decide) ⟨q6, rfl, zb1, rfl⟩
  · replace h := it_t c12 h
    refine j_bipush (v := 32) d_Rd_takeOperation_29 (by decide) ?_
    refine j_goto (tgt := 36) d_Rd_takeOperation_31 (by decide) ?_
    refine j_callV (n := 1) (As := [.int 32]) (rest := []) (wr := [(a_scanner_h0, .inr (4, [.ref a_text_a_scanner_h0, .int next_a_scanner_h0, .int kind_a_scanner_h0, .int start_a_scanner_h0, .int width_a_scanner_h0])), (a_waiting_h0, .inr (5, [.ref q6, .int r3])), (q6, .inl (cI, r4, .inl r5))]) (c_Rd_goOn l D cI cB cJ cS h0 a_scanner_h0 a_draft_h0 a_waiting_h0 a_functions_h0 a_bottom_h0 a_top_h0 a_text_h0 32 mode_h0 levels_h0 signs_h0 loops_h0 token_h0 fault_h0  ) k_Rd_130 (by decide) ⟨Nat.le_of_ble_eq_true rfl, Nat.le_of_ble_eq_true rfl⟩ rfl 0 rfl [0] [1, 2, 3] rfl (by decide) rfl (by decide) (by decide) rfl rfl (Nat.le_of_ble_eq_true rfl) d_Rd_takeOperation_36 ⟨show 0 + C7 + 0 ≤ mc by omega, show 0 + S8 + 0 ≤ ms by omega⟩ (fun v w hq => ?_)
    obtain ⟨rfl, _, rfl⟩ := hq
    refine j_norm (pc' := 39) (st' := [.int 1]) (ws' := [(a_scanner_h0, .inr (4, [.ref a_text_a_scanner_h0, .int next_a_scanner_h0, .int kind_a_scanner_h0, .int start_a_scanner_h0, .int width_a_scanner_h0])), (a_waiting_h0, .inr (5, [.ref q6, .int r3])), (q6, .inl (cI, r4, .inl r5)), (h0, .inr (2, [.ref a_scanner_h0, .ref a_draft_h0, .ref a_waiting_h0, .ref a_functions_h0, .ref a_bottom_h0, .ref a_top_h0, .ref a_text_h0, .int 32, .int levels_h0, .int signs_h0, .int loops_h0, .int token_h0, .int fault_h0]))]) (cl' := 0 + C7) (sl' := 0 + S8) rfl rfl rfl rfl rfl rfl ?_
    replace h := lf_s h
    obtain ⟨h, e1, e2⟩ := h
    replace h := Prod.mk.inj h
    obtain ⟨h9, h⟩ := h
    subst h9
    replace h := Prod.mk.inj h
    obtain ⟨h9, h⟩ := h
    subst h9
    replace h := Prod.mk.inj h
    obtain ⟨h9, h⟩ := h
    subst h9
    subst h
    refine j_widen (cl' := mc) (sl' := ms) (by omega) (by omega) ?_
    exact j_zret (w := [(h0, .inr (2, [.ref a_scanner_h0, .ref a_draft_h0, .ref a_waiting_h0, .ref a_functions_h0, .ref a_bottom_h0, .ref a_top_h0, .ref a_text_h0, .int 32, .int levels_h0, .int signs_h0, .int loops_h0, .int token_h0, .int fault_h0])), (a_scanner_h0, .inr (4, [.ref a_text_a_scanner_h0, .int next_a_scanner_h0, .int kind_a_scanner_h0, .int start_a_scanner_h0, .int width_a_scanner_h0])), (a_waiting_h0, .inr (5, [.ref q6, .int r3])), (q6, .inl (cI, r4, .inl r5))]) hr (zb_n zb1) d_Rd_takeOperation_39 [3, 0, 1, 2] rfl (by decide) ⟨q6, rfl, zb1, rfl⟩
noncomputable def F_Rd_takeColon (mode_h0 : Int32) (levels_h0 : Int32) (signs_h0 : Int32) (loops_h0 : Int32) (token_h0 : Int32) (fault_h0 : Int32) (count_a_waiting_h0 : Int32) (kind_a_top_h0 : Int32) (place_a_top_h0 : Int32) (width_a_top_h0 : Int32) (second_a_top_h0 : Int32) (parts_a_top_h0 : Int32) (innerParts_a_top_h0 : Int32) (innerPlace_a_top_h0 : Int32) (innerWidth_a_top_h0 : Int32) (signs_a_top_h0 : Int32) (waitingBelow_a_top_h0 : Int32) (limited_a_top_h0 : Int32) (targets_a_top_h0 : Int32) (lastBlock_a_top_h0 : Int32) (next_a_scanner_h0 : Int32) (kind_a_scanner_h0 : Int32) (start_a_scanner_h0 : Int32) (width_a_scanner_h0 : Int32) (n_a_cells_a_waiting_h0 : Nat) (b_a_cells_a_waiting_h0 : Nat → Int32) : Option ((Int32 × Int32 × Int32 × Nat × (Nat → Int32)) × Nat × Nat) :=
  if count_a_waiting_h0 = waitingBelow_a_top_h0 then (bw (F_Rd_takeOperation 4 mode_h0 levels_h0 signs_h0 loops_h0 token_h0 fault_h0 next_a_scanner_h0 kind_a_scanner_h0 start_a_scanner_h0 width_a_scanner_h0 count_a_waiting_h0 n_a_cells_a_waiting_h0 b_a_cells_a_waiting_h0) fun ⟨r3, r4, r5, r6⟩ =>
    (some ((1, r3, r4, r5, r6), 0, 0)))
  else (Option.bind (F_Tk_last 0 count_a_waiting_h0 n_a_cells_a_waiting_h0 b_a_cells_a_waiting_h0) fun r13 =>
    if r13 = 4 then (Option.bind (F_Tk_last 2 count_a_waiting_h0 n_a_cells_a_waiting_h0 b_a_cells_a_waiting_h0) fun r16 =>
      if r16 = (-1) then (Option.bind (F_Tk_giveLastSecond start_a_scanner_h0 count_a_waiting_h0 n_a_cells_a_waiting_h0 b_a_cells_a_waiting_h0) fun r20 =>
        (some ((1, 31, count_a_waiting_h0, n_a_cells_a_waiting_h0, r20), 0, 0)))
      else (some ((0, mode_h0, count_a_waiting_h0, n_a_cells_a_waiting_h0, b_a_cells_a_waiting_h0), 0, 0)))
    else (bw (F_Rd_takeOperation 4 mode_h0 levels_h0 signs_h0 loops_h0 token_h0 fault_h0 next_a_scanner_h0 kind_a_scanner_h0 start_a_scanner_h0 width_a_scanner_h0 count_a_waiting_h0 n_a_cells_a_waiting_h0 b_a_cells_a_waiting_h0) fun ⟨r23, r24, r25, r26⟩ =>
      (some ((1, r23, r24, r25, r26), 0, 0))))
theorem d_Rd_takeColon_0 : decode prog_6_method_61_code 0 = .ok (.aload_n 0, 1) := by decide +kernel
theorem d_Rd_takeColon_1 : decode prog_6_method_61_code 1 = .ok (.getfield 30, 3) := by decide +kernel
theorem d_Rd_takeColon_4 : decode prog_6_method_61_code 4 = .ok (.invokevirtual 137, 3) := by decide +kernel
theorem d_Rd_takeColon_7 : decode prog_6_method_61_code 7 = .ok (.aload_n 0, 1) := by decide +kernel
theorem d_Rd_takeColon_8 : decode prog_6_method_61_code 8 = .ok (.getfield 46, 3) := by decide +kernel
theorem d_Rd_takeColon_11 : decode prog_6_method_61_code 11 = .ok (.getfield 140, 3) := by decide +kernel
theorem d_Rd_takeColon_14 : decode prog_6_method_61_code 14 = .ok (.if_icmp .eq 15, 3) := by decide +kernel
theorem d_Rd_takeColon_17 : decode prog_6_method_61_code 17 = .ok (.aload_n 0, 1) := by decide +kernel
theorem d_Rd_takeColon_18 : decode prog_6_method_61_code 18 = .ok (.getfield 30, 3) := by decide +kernel
theorem d_Rd_takeColon_21 : decode prog_6_method_61_code 21 = .ok (.iconst 0, 1) := by decide +kernel
theorem d_Rd_takeColon_22 : decode prog_6_method_61_code 22 = .ok (.invokevirtual 164, 3) := by decide +kernel
theorem d_Rd_takeColon_25 : decode prog_6_method_61_code 25 = .ok (.iconst 4, 1) := by decide +kernel
theorem d_Rd_takeColon_26 : decode prog_6_method_61_code 26 = .ok (.if_icmp .eq 9, 3) := by decide +kernel
theorem d_Rd_takeColon_29 : decode prog_6_method_61_code 29 = .ok (.aload_n 0, 1) := by decide +kernel
theorem d_Rd_takeColon_30 : decode prog_6_method_61_code 30 = .ok (.iconst 4, 1) := by decide +kernel
theorem d_Rd_takeColon_31 : decode prog_6_method_61_code 31 = .ok (.invokevirtual 369, 3) := by decide +kernel
theorem d_Rd_takeColon_34 : decode prog_6_method_61_code 34 = .ok (.ireturn, 1) := by decide +kernel
theorem d_Rd_takeColon_35 : decode prog_6_method_61_code 35 = .ok (.aload_n 0, 1) := by decide +kernel
theorem d_Rd_takeColon_36 : decode prog_6_method_61_code 36 = .ok (.getfield 30, 3) := by decide +kernel
theorem d_Rd_takeColon_39 : decode prog_6_method_61_code 39 = .ok (.iconst 2, 1) := by decide +kernel
theorem d_Rd_takeColon_40 : decode prog_6_method_61_code 40 = .ok (.invokevirtual 164, 3) := by decide +kernel
theorem d_Rd_takeColon_43 : decode prog_6_method_61_code 43 = .ok (.iconst (-1), 1) := by decide +kernel
theorem d_Rd_takeColon_44 : decode prog_6_method_61_code 44 = .ok (.if_icmp .eq 5, 3) := by decide +kernel
theorem d_Rd_takeColon_47 : decode prog_6_method_61_code 47 = .ok (.iconst 0, 1) := by decide +kernel
theorem d_Rd_takeColon_48 : decode prog_6_method_61_code 48 = .ok (.ireturn, 1) := by decide +kernel
theorem d_Rd_takeColon_49 : decode prog_6_method_61_code 49 = .ok (.aload_n 0, 1) := by decide +kernel
theorem d_Rd_takeColon_50 : decode prog_6_method_61_code 50 = .ok (.getfield 30, 3) := by decide +kernel
theorem d_Rd_takeColon_53 : decode prog_6_method_61_code 53 = .ok (.aload_n 0, 1) := by decide +kernel
theorem d_Rd_takeColon_54 : decode prog_6_method_61_code 54 = .ok (.getfield 14, 3) := by decide +kernel
theorem d_Rd_takeColon_57 : decode prog_6_method_61_code 57 = .ok (.invokevirtual 113, 3) := by decide +kernel
theorem d_Rd_takeColon_60 : decode prog_6_method_61_code 60 = .ok (.invokevirtual 372, 3) := by decide +kernel
theorem d_Rd_takeColon_63 : decode prog_6_method_61_code 63 = .ok (.aload_n 0, 1) := by decide +kernel
theorem d_Rd_takeColon_64 : decode prog_6_method_61_code 64 = .ok (.bipush 31, 2) := by decide +kernel
theorem d_Rd_takeColon_66 : decode prog_6_method_61_code 66 = .ok (.invokevirtual 130, 3) := by decide +kernel
theorem d_Rd_takeColon_69 : decode prog_6_method_61_code 69 = .ok (.ireturn, 1) := by decide +kernel
set_option maxHeartbeats 4000000 in
set_option maxRecDepth 100000 in
theorem c_Rd_takeColon (l : Launch) (D : va_G) (cI cB cJ cS : ClassId) (h0 : Nat) (a_scanner_h0 : Nat) (a_draft_h0 : Nat) (a_waiting_h0 : Nat) (a_functions_h0 : Nat) (a_bottom_h0 : Nat) (a_top_h0 : Nat) (a_text_h0 : Nat) (a_cells_a_waiting_h0 : Nat) (V_below_a_top_h0 : Value) (V_above_a_top_h0 : Value) (a_text_a_scanner_h0 : Nat) (mode_h0 : Int32) (levels_h0 : Int32) (signs_h0 : Int32) (loops_h0 : Int32) (token_h0 : Int32) (fault_h0 : Int32) (count_a_waiting_h0 : Int32) (kind_a_top_h0 : Int32) (place_a_top_h0 : Int32) (width_a_top_h0 : Int32) (second_a_top_h0 : Int32) (parts_a_top_h0 : Int32) (innerParts_a_top_h0 : Int32) (innerPlace_a_top_h0 : Int32) (innerWidth_a_top_h0 : Int32) (signs_a_top_h0 : Int32) (waitingBelow_a_top_h0 : Int32) (limited_a_top_h0 : Int32) (targets_a_top_h0 : Int32) (lastBlock_a_top_h0 : Int32) (next_a_scanner_h0 : Int32) (kind_a_scanner_h0 : Int32) (start_a_scanner_h0 : Int32) (width_a_scanner_h0 : Int32) (n_a_cells_a_waiting_h0 : Nat) (b_a_cells_a_waiting_h0 : Nat → Int32) (ret : Int32) (o_0_7 : Int32) (o_1_1 : Int32) (on_nq_1_0 : Nat) (ob_nq_1_0 : Nat → Int32) (mc ms : Nat) (h : F_Rd_takeColon mode_h0 levels_h0 signs_h0 loops_h0 token_h0 fault_h0 count_a_waiting_h0 kind_a_top_h0 place_a_top_h0 width_a_top_h0 second_a_top_h0 parts_a_top_h0 innerParts_a_top_h0 innerPlace_a_top_h0 innerWidth_a_top_h0 signs_a_top_h0 waitingBelow_a_top_h0 limited_a_top_h0 targets_a_top_h0 lastBlock_a_top_h0 next_a_scanner_h0 kind_a_scanner_h0 start_a_scanner_h0 width_a_scanner_h0 n_a_cells_a_waiting_h0 b_a_cells_a_waiting_h0 = some ((ret, o_0_7, o_1_1, on_nq_1_0, ob_nq_1_0), mc, ms)) : Ct l D (gT cI cB cJ cS) y_Rd_takeColon prog_6_method_61_code 1 (Option.some Jvm.ClassFile.FieldType.boolean) 4 127 mc ms [.ref h0] [(h0, .inr (2, [.ref a_scanner_h0, .ref a_draft_h0, .ref a_waiting_h0, .ref a_functions_h0, .ref a_bottom_h0, .ref a_top_h0, .ref a_text_h0, .int mode_h0, .int levels_h0, .int signs_h0, .int loops_h0, .int token_h0, .int fault_h0])), (a_waiting_h0, .inr (5, [.ref a_cells_a_waiting_h0, .int count_a_waiting_h0])), (a_top_h0, .inr (0, [V_below_a_top_h0, V_above_a_top_h0, .int kind_a_top_h0, .int place_a_top_h0, .int width_a_top_h0, .int second_a_top_h0, .int parts_a_top_h0, .int innerParts_a_top_h0, .int innerPlace_a_top_h0, .int innerWidth_a_top_h0, .int signs_a_top_h0, .int waitingBelow_a_top_h0, .int limited_a_top_h0, .int targets_a_top_h0, .int lastBlock_a_top_h0])), (a_scanner_h0, .inr (4, [.ref a_text_a_scanner_h0, .int next_a_scanner_h0, .int kind_a_scanner_h0, .int start_a_scanner_h0, .int width_a_scanner_h0])), (a_cells_a_waiting_h0, .inl (cI, n_a_cells_a_waiting_h0, .inl b_a_cells_a_waiting_h0))] (fun v w => ∃ nq_1_0 : Nat, v = some (.int ret) ∧ zb ret ∧ w = [(h0, .inr (2, [.ref a_scanner_h0, .ref a_draft_h0, .ref a_waiting_h0, .ref a_functions_h0, .ref a_bottom_h0, .ref a_top_h0, .ref a_text_h0, .int o_0_7, .int levels_h0, .int signs_h0, .int loops_h0, .int token_h0, .int fault_h0])), (a_waiting_h0, .inr (5, [.ref nq_1_0, .int o_1_1])), (a_top_h0, .inr (0, [V_below_a_top_h0, V_above_a_top_h0, .int kind_a_top_h0, .int place_a_top_h0, .int width_a_top_h0, .int second_a_top_h0, .int parts_a_top_h0, .int innerParts_a_top_h0, .int innerPlace_a_top_h0, .int innerWidth_a_top_h0, .int signs_a_top_h0, .int waitingBelow_a_top_h0, .int limited_a_top_h0, .int targets_a_top_h0, .int lastBlock_a_top_h0])), (a_scanner_h0, .inr (4, [.ref a_text_a_scanner_h0, .int next_a_scanner_h0, .int kind_a_scanner_h0, .int start_a_scanner_h0, .int width_a_scanner_h0])), (nq_1_0, .inl (cI, on_nq_1_0, .inl ob_nq_1_0))]) := by
  refine Ct.mk (by decide) (Nat.le_of_ble_eq_true rfl) ?_
  intro p e s m below meth c hr hnm
  refine j_norm (pc' := 0) (lv' := [(0, .ref h0)]) (st' := []) (ws' := [(h0, .inr (2, [.ref a_scanner_h0, .ref a_draft_h0, .ref a_waiting_h0, .ref a_functions_h0, .ref a_bottom_h0, .ref a_top_h0, .ref a_text_h0, .int mode_h0, .int levels_h0, .int signs_h0, .int loops_h0, .int token_h0, .int fault_h0])), (a_waiting_h0, .inr (5, [.ref a_cells_a_waiting_h0, .int count_a_waiting_h0])), (a_top_h0, .inr (0, [V_below_a_top_h0, V_above_a_top_h0, .int kind_a_top_h0, .int place_a_top_h0, .int width_a_top_h0, .int second_a_top_h0, .int parts_a_top_h0, .int innerParts_a_top_h0, .int innerPlace_a_top_h0, .int innerWidth_a_top_h0, .int signs_a_top_h0, .int waitingBelow_a_top_h0, .int limited_a_top_h0, .int targets_a_top_h0, .int lastBlock_a_top_h0])), (a_scanner_h0, .inr (4, [.ref a_text_a_scanner_h0, .int next_a_scanner_h0, .int kind_a_scanner_h0, .int start_a_scanner_h0, .int width_a_scanner_h0])), (a_cells_a_waiting_h0, .inl (cI, n_a_cells_a_waiting_h0, .inl b_a_cells_a_waiting_h0))]) (cl' := 0) (sl' := 0) rfl rfl rfl rfl rfl rfl ?_
  unfold F_Rd_takeColon at h
  have hC : 0 + mc ≤ mc := by omega
  have hS : 0 + ms ≤ ms := by omega
  refine j_aload_n d_Rd_takeColon_0 rfl 0 rfl ?_
  refine j_get ig_Rd rfl 0 rfl 2 (by decide) rfl m_171 rfl d_Rd_takeColon_1 ?_
  refine j_callV (n := 0) (As := []) (rest := []) (wr := [(h0, .inr (2, [.ref a_scanner_h0, .ref a_draft_h0, .ref a_waiting_h0, .ref a_functions_h0, .ref a_bottom_h0, .ref a_top_h0, .ref a_text_h0, .int mode_h0, .int levels_h0, .int signs_h0, .int loops_h0, .int token_h0, .int fault_h0])), (a_top_h0, .inr (0, [V_below_a_top_h0, V_above_a_top_h0, .int kind_a_top_h0, .int place_a_top_h0, .int width_a_top_h0, .int second_a_top_h0, .int parts_a_top_h0, .int innerParts_a_top_h0, .int innerPlace_a_top_h0, .int innerWidth_a_top_h0, .int signs_a_top_h0, .int waitingBelow_a_top_h0, .int limited_a_top_h0, .int targets_a_top_h0, .int lastBlock_a_top_h0])), (a_scanner_h0, .inr (4, [.ref a_text_a_scanner_h0, .int next_a_scanner_h0, .int kind_a_scanner_h0, .int start_a_scanner_h0, .int width_a_scanner_h0])), (a_cells_a_waiting_h0, .inl (cI, n_a_cells_a_waiting_h0, .inl b_a_cells_a_waiting_h0))]) (c_Tk_count l D cI cB cJ cS a_waiting_h0 a_cells_a_waiting_h0 count_a_waiting_h0  ) k_Rd_137 (by decide) ⟨Nat.le_of_ble_eq_true rfl, Nat.le_of_ble_eq_true rfl⟩ rfl 0 rfl [1] [0, 2, 3, 4] rfl (by decide) rfl (by decide) (by decide) rfl rfl (Nat.le_of_ble_eq_true rfl) d_Rd_takeColon_4 ⟨show 0 + 0 ≤ mc by omega, show 0 + 0 ≤ ms by omega⟩ (fun v w hq => ?_)
  obtain ⟨rfl, rfl⟩ := hq
  refine j_norm (pc' := 7) (st' := [.int count_a_waiting_h0]) (ws' := [(h0, .inr (2, [.ref a_scanner_h0, .ref a_draft_h0, .ref a_waiting_h0, .ref a_functions_h0, .ref a_bottom_h0, .ref a_top_h0, .ref a_text_h0, .int mode_h0, .int levels_h0, .int signs_h0, .int loops_h0, .int token_h0, .int fault_h0])), (a_top_h0, .inr (0, [V_below_a_top_h0, V_above_a_top_h0, .int kind_a_top_h0, .int place_a_top_h0, .int width_a_top_h0, .int second_a_top_h0, .int parts_a_top_h0, .int innerParts_a_top_h0, .int innerPlace_a_top_h0, .int innerWidth_a_top_h0, .int signs_a_top_h0, .int waitingBelow_a_top_h0, .int limited_a_top_h0, .int targets_a_top_h0, .int lastBlock_a_top_h0])), (a_scanner_h0, .inr (4, [.ref a_text_a_scanner_h0, .int next_a_scanner_h0, .int kind_a_scanner_h0, .int start_a_scanner_h0, .int width_a_scanner_h0])), (a_cells_a_waiting_h0, .inl (cI, n_a_cells_a_waiting_h0, .inl b_a_cells_a_waiting_h0)), (a_waiting_h0, .inr (5, [.ref a_cells_a_waiting_h0, .int count_a_waiting_h0]))]) (cl' := 0) (sl' := 0) rfl rfl rfl rfl rfl rfl ?_
  refine j_aload_n d_Rd_takeColon_7 rfl 0 rfl ?_
  refine j_get ig_Rd rfl 0 rfl 5 (by decide) rfl m_174 rfl d_Rd_takeColon_8 ?_
  refine j_get ig_Fr rfl 1 rfl 11 (by decide) rfl m_129 rfl d_Rd_takeColon_11 ?_
  refine j_icmp_eq (tgt := 29) d_Rd_takeColon_14 (by decide) (fun c2 => ?_) (fun c2 => ?_)
  · replace h := it_t c2 h
    refine j_aload_n d_Rd_takeColon_29 rfl 0 rfl ?_
    refine j_iconst (v := 4) d_Rd_takeColon_30 (by decide) ?_
    replace h := bw_s h
    obtain ⟨⟨r3, r4, r5, r6⟩, C8, S9, C10, S11, k12, h, e1, e2⟩ := h
    replace hC : 0 + C8 + C10 ≤ mc := by omega
    replace hS : 0 + S9 + S11 ≤ ms := by omega
    clear e1 e2
    refine j_callV (n := 1) (As := [.int 4]) (rest := []) (wr := [(a_top_h0, .inr (0, [V_below_a_top_h0, V_above_a_top_h0, .int kind_a_top_h0, .int place_a_top_h0, .int width_a_top_h0, .int second_a_top_h0, .int parts_a_top_h0, .int innerParts_a_top_h0, .int innerPlace_a_top_h0, .int innerWidth_a_top_h0, .int signs_a_top_h0, .int waitingBelow_a_top_h0, .int limited_a_top_h0, .int targets_a_top_h0, .int lastBlock_a_top_h0]))]) (c_Rd_takeOperation l D cI cB cJ cS h0 a_scanner_h0 a_draft_h0 a_waiting_h0 a_functions_h0 a_bottom_h0 a_top_h0 a_text_h0 a_text_a_scanner_h0 a_cells_a_waiting_h0 4 mode_h0 levels_h0 signs_h0 loops_h0 token_h0 fault_h0 next_a_scanner_h0 kind_a_scanner_h0 start_a_scanner_h0 width_a_scanner_h0 count_a_waiting_h0 n_a_cells_a_waiting_h0 b_a_cells_a_waiting_h0  r3 r4 r5 r6 C8 S9 k12) k_Rd_369 (by decide) ⟨Nat.le_of_ble_eq_true rfl, Nat.le_of_ble_eq_true rfl⟩ rfl 0 rfl [0, 2, 4, 3] [1] rfl (by decide) rfl (by decide) (by decide) rfl rfl (Nat.le_of_ble_eq_true rfl) d_Rd_takeColon_31 ⟨show 0 + C8 ≤ mc by omega, show 0 + S9 ≤ ms by omega⟩ (fun v w hq => ?_)
    obtain ⟨q7, rfl, _, rfl⟩ := hq
    refine j_norm (pc' := 34) (st' := [.int 1]) (ws' := [(a_top_h0, .inr (0, [V_below_a_top_h0, V_above_a_top_h0, .int kind_a_top_h0, .int place_a_top_h0, .int width_a_top_h0, .int second_a_top_h0, .int parts_a_top_h0, .int innerParts_a_top_h0, .int innerPlace_a_top_h0, .int innerWidth_a_top_h0, .int signs_a_top_h0, .int waitingBelow_a_top_h0, .int limited_a_top_h0, .int targets_a_top_h0, .int lastBlock_a_top_h0])), (h0, .inr (2, [.ref a_scanner_h0, .ref a_draft_h0, .ref a_waiting_h0, .ref a_functions_h0, .ref a_bottom_h0, .ref a_top_h0, .ref a_text_h0, .int r3, .int levels_h0, .int signs_h0, .int loops_h0, .int token_h0, .int fault_h0])), (a_scanner_h0, .inr (4, [.ref a_text_a_scanner_h0, .int next_a_scanner_h0, .int kind_a_scanner_h0, .int start_a_scanner_h0, .int width_a_scanner_h0])), (a_waiting_h0, .inr (5, [.ref q7, .int r4])), (q7, .inl (cI, r5, .inl r6))]) (cl' := 0 + C8) (sl' := 0 + S9) rfl rfl rfl rfl rfl rfl ?_
    replace h := lf_s h
    obtain ⟨h, e1, e2⟩ := h
    replace h := Prod.mk.inj h
    obtain ⟨h9, h⟩ := h
    subst h9
    replace h := Prod.mk.inj h
    obtain ⟨h9, h⟩ := h
    subst h9
    replace h := Prod.mk.inj h
    obtain ⟨h9, h⟩ := h
    subst h9
    replace h := Prod.mk.inj h
    obtain ⟨h9, h⟩ := h
    subst h9
    subst h
    refine j_widen (cl' := mc) (sl' := ms) (by omega) (by omega) ?_
    exact j_zret (w := [(h0, .inr (2, [.ref a_scanner_h0, .ref a_draft_h0, .ref a_waiting_h0, .ref a_functions_h0, .ref a_bottom_h0, .ref a_top_h0, .ref a_text_h0, .int r3, .int levels_h0, .int signs_h0, .int loops_h0, .int token_h0, .int fault_h0])), (a_waiting_h0, .inr (5, [.ref q7, .int r4])), (a_top_h0, .inr (0, [V_below_a_top_h0, V_above_a_top_h0, .int kind_a_top_h0, .int place_a_top_h0, .int width_a_top_h0, .int second_a_top_h0, .int parts_a_top_h0, .int innerParts_a_top_h0, .int innerPlace_a_top_h0, .int innerWidth_a_top_h0, .int signs_a_top_h0, .int waitingBelow_a_top_h0, .int limited_a_top_h0, .int targets_a_top_h0, .int lastBlock_a_top_h0])), (a_scanner_h0, .inr (4, [.ref a_text_a_scanner_h0, .int next_a_scanner_h0, .int kind_a_scanner_h0, .int start_a_scanner_h0, .int width_a_scanner_h0])), (q7, .inl (cI, r5, .inl r6))]) hr (zb_n zb1) d_Rd_takeColon_34 [1, 3, 0, 2, 4] rfl (by decide) ⟨q7, rfl, zb1, rfl⟩
  · replace h := it_f c2 h
    refine j_aload_n d_Rd_takeColon_17 rfl 0 rfl ?_
    refine j_get ig_Rd rfl 0 rfl 2 (by decide) rfl m_171 rfl d_Rd_takeColon_18 ?_
    refine j_iconst (v := 0) d_Rd_takeColon_21 (by decide) ?_
    replace h := bd_s h
    obtain ⟨r13, k14, h⟩ := h
    refine j_callV (n := 1) (As := [.int 0]) (rest := []) (wr := [(h0, .inr (2, [.ref a_scanner_h0, .ref a_draft_h0, .ref a_waiting_h0, .ref a_functions_h0, .ref a_bottom_h0, .ref a_top_h0, .ref a_text_h0, .int mode_h0, .int levels_h0, .int signs_h0, .int loops_h0, .int token_h0, .int fault_h0])), (a_top_h0, .inr (0, [V_below_a_top_h0, V_above_a_top_h0, .int kind_a_top_h0, .int place_a_top_h0, .int width_a_top_h0, .int second_a_top_h0, .int parts_a_top_h0, .int innerParts_a_top_h0, .int innerPlace_a_top_h0, .int innerWidth_a_top_h0, .int signs_a_top_h0, .int waitingBelow_a_top_h0, .int limited_a_top_h0, .int targets_a_top_h0, .int lastBlock_a_top_h0])), (a_scanner_h0, .inr (4, [.ref a_text_a_scanner_h0, .int next_a_scanner_h0, .int kind_a_scanner_h0, .int start_a_scanner_h0, .int width_a_scanner_h0]))]) (c_Tk_last l D cI cB cJ cS a_waiting_h0 a_cells_a_waiting_h0 0 count_a_waiting_h0 n_a_cells_a_waiting_h0 b_a_cells_a_waiting_h0  r13 k14) k_Rd_164 (by decide) ⟨Nat.le_of_ble_eq_true rfl, Nat.le_of_ble_eq_true rfl⟩ rfl 0 rfl [4, 3] [0, 1, 2] rfl (by decide) rfl (by decide) (by decide) rfl rfl (Nat.le_of_ble_eq_true rfl) d_Rd_takeColon_22 ⟨show 0 + 0 ≤ mc by omega, show 0 + 0 ≤ ms by omega⟩ (fun v w hq => ?_)
    obtain ⟨rfl, rfl⟩ := hq
    refine j_norm (pc' := 25) (st' := [.int r13]) (ws' := [(h0, .inr (2, [.ref a_scanner_h0, .ref a_draft_h0, .ref a_waiting_h0, .ref a_functions_h0, .ref a_bottom_h0, .ref a_top_h0, .ref a_text_h0, .int mode_h0, .int levels_h0, .int signs_h0, .int loops_h0, .int token_h0, .int fault_h0])), (a_top_h0, .inr (0, [V_below_a_top_h0, V_above_a_top_h0, .int kind_a_top_h0, .int place_a_top_h0, .int width_a_top_h0, .int second_a_top_h0, .int parts_a_top_h0, .int innerParts_a_top_h0, .int innerPlace_a_top_h0, .int innerWidth_a_top_h0, .int signs_a_top_h0, .int waitingBelow_a_top_h0, .int limited_a_top_h0, .int targets_a_top_h0, .int lastBlock_a_top_h0])), (a_scanner_h0, .inr (4, [.ref a_text_a_scanner_h0, .int next_a_scanner_h0, .int kind_a_scanner_h0, .int start_a_scanner_h0, .int width_a_scanner_h0])), (a_waiting_h0, .inr (5, [.ref a_cells_a_waiting_h0, .int count_a_waiting_h0])), (a_cells_a_waiting_h0, .inl (cI, n_a_cells_a_waiting_h0, .inl b_a_cells_a_waiting_h0))]) (cl' := 0) (sl' := 0) rfl rfl rfl rfl rfl rfl ?_
    refine j_iconst (v := 4) d_Rd_takeColon_25 (by decide) ?_
    refine j_icmp_eq (tgt := 35) d_Rd_takeColon_26 (by decide) (fun c15 => ?_) (fun c15 => ?_)
    · replace h := it_t c15 h
      refine j_aload_n d_Rd_takeColon_35 rfl 0 rfl ?_
      refine j_get ig_Rd rfl 0 rfl 2 (by decide) rfl m_171 rfl d_Rd_takeColon_36 ?_
      refine j_iconst (v := 2) d_Rd_takeColon_39 (by decide) ?_
      replace h := bd_s h
      obtain ⟨r16, k17, h⟩ := h
      refine j_callV (n := 1) (As := [.int 2]) (rest := []) (wr := [(h0, .inr (2, [.ref a_scanner_h0, .ref a_draft_h0, .ref a_waiting_h0, .ref a_functions_h0, .ref a_bottom_h0, .ref a_top_h0, .ref a_text_h0, .int mode_h0, .int levels_h0, .int signs_h0, .int loops_h0, .int token_h0, .int fault_h0])), (a_top_h0, .inr (0, [V_below_a_top_h0, V_above_a_top_h0, .int kind_a_top_h0, .int place_a_top_h0, .int width_a_top_h0, .int second_a_top_h0, .int parts_a_top_h0, .int innerParts_a_top_h0, .int innerPlace_a_top_h0, .int innerWidth_a_top_h0, .int signs_a_top_h0, .int waitingBelow_a_top_h0, .int limited_a_top_h0, .int targets_a_top_h0, .int lastBlock_a_top_h0])), (a_scanner_h0, .inr (4, [.ref a_text_a_scanner_h0, .int next_a_scanner_h0, .int kind_a_scanner_h0, .int start_a_scanner_h0, .int width_a_scanner_h0]))]) (c_Tk_last l D cI cB cJ cS a_waiting_h0 a_cells_a_waiting_h0 2 count_a_waiting_h0 n_a_cells_a_waiting_h0 b_a_cells_a_waiting_h0  r16 k17) k_Rd_164 (by decide) ⟨Nat.le_of_ble_eq_true rfl, Nat.le_of_ble_eq_true rfl⟩ rfl 0 rfl [3, 4] [0, 1, 2] rfl (by decide) rfl (by decide) (by decide) rfl rfl (Nat.le_of_ble_eq_true rfl) d_Rd_takeColon_40 ⟨show 0 + 0 ≤ mc by omega, show 0 + 0 ≤ ms by omega⟩ (fun v w hq => ?_)
      obtain ⟨rfl, rfl⟩ := hq
      refine j_norm (pc' := 43) (st' := [.int r16]) (ws' := [(h0, .inr (2, [.ref a_scanner_h0, .ref a_draft_h0, .ref a_waiting_h0, .ref a_functions_h0, .ref a_bottom_h0, .ref a_top_h0, .ref a_text_h0, .int mode_h0, .int levels_h0, .int signs_h0, .int loops_h0, .int token_h0, .int fault_h0])), (a_top_h0, .inr (0, [V_below_a_top_h0, V_above_a_top_h0, .int kind_a_top_h0, .int place_a_top_h0, .int width_a_top_h0, .int second_a_top_h0, .int parts_a_top_h0, .int innerParts_a_top_h0, .int innerPlace_a_top_h0, .int innerWidth_a_top_h0, .int signs_a_top_h0, .int waitingBelow_a_top_h0, .int limited_a_top_h0, .int targets_a_top_h0, .int lastBlock_a_top_h0])), (a_scanner_h0, .inr (4, [.ref a_text_a_scanner_h0, .int next_a_scanner_h0, .int kind_a_scanner_h0, .int start_a_scanner_h0, .int width_a_scanner_h0])), (a_waiting_h0, .inr (5, [.ref a_cells_a_waiting_h0, .int count_a_waiting_h0])), (a_cells_a_waiting_h0, .inl (cI, n_a_cells_a_waiting_h0, .inl b_a_cells_a_waiting_h0))]) (cl' := 0) (sl' := 0) rfl rfl rfl rfl rfl rfl ?_
      refine j_iconst (v := (-1)) d_Rd_takeColon_43 (by decide) ?_
      refine j_icmp_eq (tgt := 49) d_Rd_takeColon_44 (by decide) (fun c18 => ?_) (fun c18 => ?_)
      · replace h := it_t c18 h
        refine j_aload_n d_Rd_takeColon_49 rfl 0 rfl ?_
        refine j_get ig_Rd rfl 0 rfl 2 (by decide) rfl m_171 rfl d_Rd_takeColon_50 ?_
        refine j_aload_n d_Rd_takeColon_53 rfl 0 rfl ?_
        refine j_get ig_Rd rfl 0 rfl 0 (by decide) rfl m_169 rfl d_Rd_takeColon_54 ?_
        refine j_callV (n := 0) (As := []) (rest := [.ref a_waiting_h0]) (wr := [(h0, .inr (2, [.ref a_scanner_h0, .ref a_draft_h0, .ref a_waiting_h0, .ref a_functions_h0, .ref a_bottom_h0, .ref a_top_h0, .ref a_text_h0, .int mode_h0, .int levels_h0, .int signs_h0, .int loops_h0, .int token_h0, .int fault_h0])), (a_top_h0, .inr (0, [V_below_a_top_h0, V_above_a_top_h0, .int kind_a_top_h0, .int place_a_top_h0, .int width_a_top_h0, .int second_a_top_h0, .int parts_a_top_h0, .int innerParts_a_top_h0, .int innerPlace_a_top_h0, .int innerWidth_a_top_h0, .int signs_a_top_h0, .int waitingBelow_a_top_h0, .int limited_a_top_h0, .int targets_a_top_h0, .int lastBlock_a_top_h0])), (a_waiting_h0, .inr (5, [.ref a_cells_a_waiting_h0, .int count_a_waiting_h0])), (a_cells_a_waiting_h0, .inl (cI, n_a_cells_a_waiting_h0, .inl b_a_cells_a_waiting_h0))]) (c_Sc_start l D cI cB cJ cS a_scanner_h0 a_text_a_scanner_h0 next_a_scanner_h0 kind_a_scanner_h0 start_a_scanner_h0 width_a_scanner_h0  ) k_Rd_113 (by decide) ⟨Nat.le_of_ble_eq_true rfl, Nat.le_of_ble_eq_true rfl⟩ rfl 0 rfl [2] [0, 1, 3, 4] rfl (by decide) rfl (by decide) (by decide) rfl rfl (Nat.le_of_ble_eq_true rfl) d_Rd_takeColon_57 ⟨show 0 + 0 ≤ mc by omega, show 0 + 0 ≤ ms by omega⟩ (fun v w hq => ?_)
        obtain ⟨rfl, rfl⟩ := hq
        refine j_norm (pc' := 60) (st' := [.int start_a_scanner_h0, .ref a_waiting_h0]) (ws' := [(h0, .inr (2, [.ref a_scanner_h0, .ref a_draft_h0, .ref a_waiting_h0, .ref a_functions_h0, .ref a_bottom_h0, .ref a_top_h0, .ref a_text_h0, .int mode_h0, .int levels_h0, .int signs_h0, .int loops_h0, .int token_h0, .int fault_h0])), (a_top_h0, .inr (0, [V_below_a_top_h0, V_above_a_top_h0, .int kind_a_top_h0, .int place_a_top_h0, .int width_a_top_h0, .int second_a_top_h0, .int parts_a_top_h0, .int innerParts_a_top_h0, .int innerPlace_a_top_h0, .int innerWidth_a_top_h0, .int signs_a_top_h0, .int waitingBelow_a_top_h0, .int limited_a_top_h0, .int targets_a_top_h0, .int lastBlock_a_top_h0])), (a_waiting_h0, .inr (5, [.ref a_cells_a_waiting_h0, .int count_a_waiting_h0])), (a_cells_a_waiting_h0, .inl (cI, n_a_cells_a_waiting_h0, .inl b_a_cells_a_waiting_h0)), (a_scanner_h0, .inr (4, [.ref a_text_a_scanner_h0, .int next_a_scanner_h0, .int kind_a_scanner_h0, .int start_a_scanner_h0, .int width_a_scanner_h0]))]) (cl' := 0) (sl' := 0) rfl rfl rfl rfl rfl rfl ?_
        replace h := bd_s h
        obtain ⟨r20, k21, h⟩ := h
        refine j_callV (n := 1) (As := [.int start_a_scanner_h0]) (rest := []) (wr := [(h0, .inr (2, [.ref a_scanner_h0, .ref a_draft_h0, .ref a_waiting_h0, .ref a_functions_h0, .ref a_bottom_h0, .ref a_top_h0, .ref a_text_h0, .int mode_h0, .int levels_h0, .int signs_h0, .int loops_h0, .int token_h0, .int fault_h0])), (a_top_h0, .inr (0, [V_below_a_top_h0, V_above_a_top_h0, .int kind_a_top_h0, .int place_a_top_h0, .int width_a_top_h0, .int second_a_top_h0, .int parts_a_top_h0, .int innerParts_a_top_h0, .int innerPlace_a_top_h0, .int innerWidth_a_top_h0, .int signs_a_top_h0, .int waitingBelow_a_top_h0, .int limited_a_top_h0, .int targets_a_top_h0, .int lastBlock_a_top_h0])), (a_scanner_h0, .inr (4, [.ref a_text_a_scanner_h0, .int next_a_scanner_h0, .int kind_a_scanner_h0, .int start_a_scanner_h0, .int width_a_scanner_h0]))]) (c_Tk_giveLastSecond l D cI cB cJ cS a_waiting_h0 a_cells_a_waiting_h0 start_a_scanner_h0 count_a_waiting_h0 n_a_cells_a_waiting_h0 b_a_cells_a_waiting_h0  r20 k21) k_Rd_372 (by decide) ⟨Nat.le_of_ble_eq_true rfl, Nat.le_of_ble_eq_true rfl⟩ rfl 0 rfl [2, 3] [0, 1, 4] rfl (by decide) rfl (by decide) (by decide) rfl rfl (Nat.le_of_ble_eq_true rfl) d_Rd_takeColon_60 ⟨show 0 + 0 ≤ mc by omega, show 0 + 0 ≤ ms by omega⟩ (fun v w hq => ?_)
        obtain ⟨rfl, rfl⟩ := hq
        refine j_norm (pc' := 63) (st' := []) (ws' := [(h0, .inr (2, [.ref a_scanner_h0, .ref a_draft_h0, .ref a_waiting_h0, .ref a_functions_h0, .ref a_bottom_h0, .ref a_top_h0, .ref a_text_h0, .int mode_h0, .int levels_h0, .int signs_h0, .int loops_h0, .int token_h0, .int fault_h0])), (a_top_h0, .inr (0, [V_below_a_top_h0, V_above_a_top_h0, .int kind_a_top_h0, .int place_a_top_h0, .int width_a_top_h0, .int second_a_top_h0, .int parts_a_top_h0, .int innerParts_a_top_h0, .int innerPlace_a_top_h0, .int innerWidth_a_top_h0, .int signs_a_top_h0, .int waitingBelow_a_top_h0, .int limited_a_top_h0, .int targets_a_top_h0, .int lastBlock_a_top_h0])), (a_scanner_h0, .inr (4, [.ref a_text_a_scanner_h0, .int next_a_scanner_h0, .int kind_a_scanner_h0, .int start_a_scanner_h0, .int width_a_scanner_h0])), (a_waiting_h0, .inr (5, [.ref a_cells_a_waiting_h0, .int count_a_waiting_h0])), (a_cells_a_waiting_h0, .inl (cI, n_a_cells_a_waiting_h0, .inl r20))]) (cl' := 0) (sl' := 0) rfl rfl rfl rfl rfl rfl ?_
        refine j_aload_n d_Rd_takeColon_63 rfl 0 rfl ?_
        refine j_bipush (v := 31) d_Rd_takeColon_64 (by decide) ?_
        refine j_callV (n := 1) (As := [.int 31]) (rest := []) (wr := [(a_top_h0, .inr (0, [V_below_a_top_h0, V_above_a_top_h0, .int kind_a_top_h0, .int place_a_top_h0, .int width_a_top_h0, .int second_a_top_h0, .int parts_a_top_h0, .int innerParts_a_top_h0, .int innerPlace_a_top_h0, .int innerWidth_a_top_h0, .int signs_a_top_h0, .int waitingBelow_a_top_h0, .int limited_a_top_h0, .int targets_a_top_h0, .int lastBlock_a_top_h0])), (a_scanner_h0, .inr (4, [.ref a_text_a_scanner_h0, .int next_a_scanner_h0, .int kind_a_scanner_h0, .int start_a_scanner_h0, .int width_a_scanner_h0])), (a_waiting_h0, .inr (5, [.ref a_cells_a_waiting_h0, .int count_a_waiting_h0])), (a_cells_a_waiting_h0, .inl (cI, n_a_cells_a_waiting_h0, .inl r20))]) (c_Rd_goOn l D cI cB cJ cS h0 a_scanner_h0 a_draft_h0 a_waiting_h0 a_functions_h0 a_bottom_h0 a_top_h0 a_text_h0 31 mode_h0 levels_h0 signs_h0 loops_h0 token_h0 fault_h0  ) k_Rd_130 (by decide) ⟨Nat.le_of_ble_eq_true rfl, Nat.le_of_ble_eq_true rfl⟩ rfl 0 rfl [0] [1, 2, 3, 4] rfl (by decide) rfl (by decide) (by decide) rfl rfl (Nat.le_of_ble_eq_true rfl) d_Rd_takeColon_66 ⟨show 0 + 0 ≤ mc by omega, show 0 + 0 ≤ ms by omega⟩ (fun v w hq => ?_)
        obtain ⟨rfl, _, rfl⟩ := hq
        refine j_norm (pc' := 69) (st' := [.int 1]) (ws' := [(a_top_h0, .inr (0, [V_below_a_top_h0, V_above_a_top_h0, .int kind_a_top_h0, .int place_a_top_h0, .int width_a_top_h0, .int second_a_top_h0, .int parts_a_top_h0, .int innerParts_a_top_h0, .int innerPlace_a_top_h0, .int innerWidth_a_top_h0, .int signs_a_top_h0, .int waitingBelow_a_top_h0, .int limited_a_top_h0, .int targets_a_top_h0, .int lastBlock_a_top_h0])), (a_scanner_h0, .inr (4, [.ref a_text_a_scanner_h0, .int next_a_scanner_h0, .int kind_a_scanner_h0, .int start_a_scanner_h0, .int width_a_scanner_h0])), (a_waiting_h0, .inr (5, [.ref a_cells_a_waiting_h0, .int count_a_waiting_h0])), (a_cells_a_waiting_h0, .inl (cI, n_a_cells_a_waiting_h0, .inl r20)), (h0, .inr (2, [.ref a_scanner_h0, .ref a_draft_h0, .ref a_waiting_h0, .ref a_functions_h0, .ref a_bottom_h0, .ref a_top_h0, .ref a_text_h0, .int 31, .int levels_h0, .int signs_h0, .int loops_h0, .int token_h0, .int fault_h0]))]) (cl' := 0) (sl' := 0) rfl rfl rfl rfl rfl rfl ?_
        replace h := lf_s h
        obtain ⟨h, e1, e2⟩ := h
        replace h := Prod.mk.inj h
        obtain ⟨h9, h⟩ := h
        subst h9
        replace h := Prod.mk.inj h
        obtain ⟨h9, h⟩ := h
        subst h9
        replace h := Prod.mk.inj h
        obtain ⟨h9, h⟩ := h
        subst h9
        replace h := Prod.mk.inj h
        obtain ⟨h9, h⟩ := h
        subst h9
        subst h
        refine j_widen (cl' := mc) (sl' := ms) (by omega) (by omega) ?_
        exact j_zret (w := [(h0, .inr (2, [.ref a_scanner_h0, .ref a_draft_h0, .ref a_waiting_h0, .ref a_functions_h0, .ref a_bottom_h0, .ref a_top_h0, .ref a_text_h0, .int 31, .int levels_h0, .int signs_h0, .int loops_h0, .int token_h0, .int fault_h0])), (a_waiting_h0, .inr (5, [.ref a_cells_a_waiting_h0, .int count_a_waiting_h0])), (a_top_h0, .inr (0, [V_below_a_top_h0, V_above_a_top_h0, .int kind_a_top_h0, .int place_a_top_h0, .int width_a_top_h0, .int second_a_top_h0, .int parts_a_top_h0, .int innerParts_a_top_h0, .int innerPlace_a_top_h0, .int innerWidth_a_top_h0, .int signs_a_top_h0, .int waitingBelow_a_top_h0, .int limited_a_top_h0, .int targets_a_top_h0, .int lastBlock_a_top_h0])), (a_scanner_h0, .inr (4, [.ref a_text_a_scanner_h0, .int next_a_scanner_h0, .int kind_a_scanner_h0, .int start_a_scanner_h0, .int width_a_scanner_h0])), (a_cells_a_waiting_h0, .inl (cI, n_a_cells_a_waiting_h0, .inl r20))]) hr (zb_n zb1) d_Rd_takeColon_69 [4, 2, 0, 1, 3] rfl (by decide) ⟨a_cells_a_waiting_h0, rfl, zb1, rfl⟩
      · replace h := it_f c18 h
        refine j_iconst (v := 0) d_Rd_takeColon_47 (by decide) ?_
        replace h := lf_s h
        obtain ⟨h, e1, e2⟩ := h
        replace h := Prod.mk.inj h
        obtain ⟨h9, h⟩ := h
        subst h9
        replace h := Prod.mk.inj h
        obtain ⟨h9, h⟩ := h
        subst h9
        replace h := Prod.mk.inj h
        obtain ⟨h9, h⟩ := h
        subst h9
        replace h := Prod.mk.inj h
        obtain ⟨h9, h⟩ := h
        subst h9
        subst h
        refine j_widen (cl' := mc) (sl' := ms) (by omega) (by omega) ?_
        exact j_zret (w := [(h0, .inr (2, [.ref a_scanner_h0, .ref a_draft_h0, .ref a_waiting_h0, .ref a_functions_h0, .ref a_bottom_h0, .ref a_top_h0, .ref a_text_h0, .int mode_h0, .int levels_h0, .int signs_h0, .int loops_h0, .int token_h0, .int fault_h0])), (a_waiting_h0, .inr (5, [.ref a_cells_a_waiting_h0, .int count_a_waiting_h0])), (a_top_h0, .inr (0, [V_below_a_top_h0, V_above_a_top_h0, .int kind_a_top_h0, .int place_a_top_h0, .int width_a_top_h0, .int second_a_top_h0, .int parts_a_top_h0, .int innerParts_a_top_h0, .int innerPlace_a_top_h0, .int innerWidth_a_top_h0, .int signs_a_top_h0, .int waitingBelow_a_top_h0, .int limited_a_top_h0, .int targets_a_top_h0, .int lastBlock_a_top_h0])), (a_scanner_h0, .inr (4, [.ref a_text_a_scanner_h0, .int next_a_scanner_h0, .int kind_a_scanner_h0, .int start_a_scanner_h0, .int width_a_scanner_h0])), (a_cells_a_waiting_h0, .inl (cI, n_a_cells_a_waiting_h0, .inl b_a_cells_a_waiting_h0))]) hr (zb_n zb0) d_Rd_takeColon_48 [0, 3, 1, 2, 4] rfl (by decide) ⟨a_cells_a_waiting_h0, rfl, zb0, rfl⟩
    · replace h := it_f c15 h
      refine j_aload_n d_Rd_takeColon_29 rfl 0 rfl ?_
      refine j_iconst (v := 4) d_Rd_takeColon_30 (by decide) ?_
      replace h := bw_s h
      obtain ⟨⟨r23, r24, r25, r26⟩, C28, S29, C30, S31, k32, h, e1, e2⟩ := h
      replace hC : 0 + C28 + C30 ≤ mc := by omega
      replace hS : 0 + S29 + S31 ≤ ms := by omega
      clear e1 e2
      refine j_callV (n := 1) (As := [.int 4]) (rest := []) (wr := [(a_top_h0, .inr (0, [V_below_a_top_h0, V_above_a_top_h0, .int kind_a_top_h0, .int place_a_top_h0, .int width_a_top_h0, .int second_a_top_h0, .int parts_a_top_h0, .int innerParts_a_top_h0, .int innerPlace_a_top_h0, .int innerWidth_a_top_h0, .int signs_a_top_h0, .int waitingBelow_a_top_h0, .int limited_a_top_h0, .int targets_a_top_h0, .int lastBlock_a_top_h0]))]) (c_Rd_takeOperation l D cI cB cJ cS h0 a_scanner_h0 a_draft_h0 a_waiting_h0 a_functions_h0 a_bottom_h0 a_top_h0 a_text_h0 a_text_a_scanner_h0 a_cells_a_waiting_h0 4 mode_h0 levels_h0 signs_h0 loops_h0 token_h0 fault_h0 next_a_scanner_h0 kind_a_scanner_h0 start_a_scanner_h0 width_a_scanner_h0 count_a_waiting_h0 n_a_cells_a_waiting_h0 b_a_cells_a_waiting_h0  r23 r24 r25 r26 C28 S29 k32) k_Rd_369 (by decide) ⟨Nat.le_of_ble_eq_true rfl, Nat.le_of_ble_eq_true rfl⟩ rfl 0 rfl [0, 2, 3, 4] [1] rfl (by decide) rfl (by decide) (by decide) rfl rfl (Nat.le_of_ble_eq_true rfl) d_Rd_takeColon_31 ⟨show 0 + C28 ≤ mc by omega, show 0 + S29 ≤ ms by omega⟩ (fun v w hq => ?_)
      obtain ⟨q27, rfl, _, rfl⟩ := hq
      refine j_norm (pc' := 34) (st' := [.int 1]) (ws' := [(a_top_h0, .inr (0, [V_below_a_top_h0, V_above_a_top_h0, .int kind_a_top_h0, .int place_a_top_h0, .int width_a_top_h0, .int second_a_top_h0, .int parts_a_top_h0, .int innerParts_a_top_h0, .int innerPlace_a_top_h0, .int innerWidth_a_top_h0, .int signs_a_top_h0, .int waitingBelow_a_top_h0, .int limited_a_top_h0, .int targets_a_top_h0, .int lastBlock_a_top_h0])), (h0, .inr (2, [.ref a_scanner_h0, .ref a_draft_h0, .ref a_waiting_h0, .ref a_functions_h0, .ref a_bottom_h0, .ref a_top_h0, .ref a_text_h0, .int r23, .int levels_h0, .int signs_h0, .int loops_h0, .int token_h0, .int fault_h0])), (a_scanner_h0, .inr (4, [.ref a_text_a_scanner_h0, .int next_a_scanner_h0, .int kind_a_scanner_h0, .int start_a_scanner_h0, .int width_a_scanner_h0])), (a_waiting_h0, .inr (5, [.ref q27, .int r24])), (q27, .inl (cI, r25, .inl r26))]) (cl' := 0 + C28) (sl' := 0 + S29) rfl rfl rfl rfl rfl rfl ?_
      replace h := lf_s h
      obtain ⟨h, e1, e2⟩ := h
      replace h := Prod.mk.inj h
      obtain ⟨h9, h⟩ := h
      subst h9
      replace h := Prod.mk.inj h
      obtain ⟨h9, h⟩ := h
      subst h9
      replace h := Prod.mk.inj h
      obtain ⟨h9, h⟩ := h
      subst h9
      replace h := Prod.mk.inj h
      obtain ⟨h9, h⟩ := h
      subst h9
      subst h
      refine j_widen (cl' := mc) (sl' := ms) (by omega) (by omega) ?_
      exact j_zret (w := [(h0, .inr (2, [.ref a_scanner_h0, .ref a_draft_h0, .ref a_waiting_h0, .ref a_functions_h0, .ref a_bottom_h0, .ref a_top_h0, .ref a_text_h0, .int r23, .int levels_h0, .int signs_h0, .int loops_h0, .int token_h0, .int fault_h0])), (a_waiting_h0, .inr (5, [.ref q27, .int r24])), (a_top_h0, .inr (0, [V_below_a_top_h0, V_above_a_top_h0, .int kind_a_top_h0, .int place_a_top_h0, .int width_a_top_h0, .int second_a_top_h0, .int parts_a_top_h0, .int innerParts_a_top_h0, .int innerPlace_a_top_h0, .int innerWidth_a_top_h0, .int signs_a_top_h0, .int waitingBelow_a_top_h0, .int limited_a_top_h0, .int targets_a_top_h0, .int lastBlock_a_top_h0])), (a_scanner_h0, .inr (4, [.ref a_text_a_scanner_h0, .int next_a_scanner_h0, .int kind_a_scanner_h0, .int start_a_scanner_h0, .int width_a_scanner_h0])), (q27, .inl (cI, r25, .inl r26))]) hr (zb_n zb1) d_Rd_takeColon_34 [1, 3, 0, 2, 4] rfl (by decide) ⟨q27, rfl, zb1, rfl⟩
def F_Rd_takeComma_136 (mode_h0 : Int32) (parts_a_top_h0 : Int32) (innerParts_a_top_h0 : Int32) (targets_a_top_h0 : Int32) (t0_136 : Int32) : (Int32 × Int32 × Int32 × Int32 × Int32) :=
    if t0_136 ≤ (parts_a_top_h0 + 1) then (0, mode_h0, parts_a_top_h0 + 1, innerParts_a_top_h0, targets_a_top_h0)
    else (1, 30, parts_a_top_h0 + 1, innerParts_a_top_h0, targets_a_top_h0)
def F_Rd_takeComma_100 (mode_h0 : Int32) (parts_a_top_h0 : Int32) (innerParts_a_top_h0 : Int32) (limited_a_top_h0 : Int32) (targets_a_top_h0 : Int32) : (Int32 × Int32 × Int32 × Int32 × Int32) :=
    if limited_a_top_h0 = 0 then (F_Rd_takeComma_136 mode_h0 parts_a_top_h0 innerParts_a_top_h0 targets_a_top_h0   8)
    else (F_Rd_takeComma_136 mode_h0 parts_a_top_h0 innerParts_a_top_h0 targets_a_top_h0   2)
def F_Rd_takeComma (mode_h0 : Int32) (levels_h0 : Int32) (signs_h0 : Int32) (loops_h0 : Int32) (token_h0 : Int32) (fault_h0 : Int32) (kind_a_top_h0 : Int32) (place_a_top_h0 : Int32) (width_a_top_h0 : Int32) (second_a_top_h0 : Int32) (parts_a_top_h0 : Int32) (innerParts_a_top_h0 : Int32) (innerPlace_a_top_h0 : Int32) (innerWidth_a_top_h0 : Int32) (signs_a_top_h0 : Int32) (waitingBelow_a_top_h0 : Int32) (limited_a_top_h0 : Int32) (targets_a_top_h0 : Int32) (lastBlock_a_top_h0 : Int32) : (Int32 × Int32 × Int32 × Int32 × Int32) :=
  if kind_a_top_h0 = 36 then (if targets_a_top_h0 = 0 then (1, 30, parts_a_top_h0, innerParts_a_top_h0 + 1, 0)
    else (nm (F_Rd_hasRoomForName mode_h0 levels_h0 signs_h0 loops_h0 token_h0 fault_h0 kind_a_top_h0 place_a_top_h0 width_a_top_h0 second_a_top_h0 parts_a_top_h0 (innerParts_a_top_h0 + 1) innerPlace_a_top_h0 innerWidth_a_top_h0 signs_a_top_h0 waitingBelow_a_top_h0 limited_a_top_h0 targets_a_top_h0 lastBlock_a_top_h0) fun r14 =>
      if r14 = 0 then (1, 30, parts_a_top_h0, (innerParts_a_top_h0 + 1), 0)
      else (1, 30, parts_a_top_h0, (innerParts_a_top_h0 + 1), 1)))
  else (nm (F_Rd_isCall kind_a_top_h0) fun r6 =>
    if r6 = 0 then (if kind_a_top_h0 = 18 then (F_Rd_takeComma_100 mode_h0 parts_a_top_h0 innerParts_a_top_h0 limited_a_top_h0 targets_a_top_h0   )
      else if kind_a_top_h0 = 19 then (F_Rd_takeComma_100 mode_h0 parts_a_top_h0 innerParts_a_top_h0 limited_a_top_h0 targets_a_top_h0   )
      else (0, mode_h0, parts_a_top_h0, innerParts_a_top_h0, targets_a_top_h0))
    else (F_Rd_takeComma_100 mode_h0 parts_a_top_h0 innerParts_a_top_h0 limited_a_top_h0 targets_a_top_h0   ))
theorem d_Rd_takeComma_0 : decode prog_6_method_62_code 0 = .ok (.aload_n 0, 1) := by decide +kernel
theorem d_Rd_takeComma_1 : decode prog_6_method_62_code 1 = .ok (.getfield 46, 3) := by decide +kernel
theorem d_Rd_takeComma_4 : decode prog_6_method_62_code 4 = .ok (.getfield 86, 3) := by decide +kernel
theorem d_Rd_takeComma_7 : decode prog_6_method_62_code 7 = .ok (.bipush 36, 2) := by decide +kernel
theorem d_Rd_takeComma_9 : decode prog_6_method_62_code 9 = .ok (.if_icmp .ne 52, 3) := by decide +kernel
theorem d_Rd_takeComma_12 : decode prog_6_method_62_code 12 = .ok (.aload_n 0, 1) := by decide +kernel
theorem d_Rd_takeComma_13 : decode prog_6_method_62_code 13 = .ok (.getfield 46, 3) := by decide +kernel
theorem d_Rd_takeComma_16 : decode prog_6_method_62_code 16 = .ok (.dup, 1) := by decide +kernel
theorem d_Rd_takeComma_17 : decode prog_6_method_62_code 17 = .ok (.getfield 90, 3) := by decide +kernel
theorem d_Rd_takeComma_20 : decode prog_6_method_62_code 20 = .ok (.iconst 1, 1) := by decide +kernel
theorem d_Rd_takeComma_21 : decode prog_6_method_62_code 21 = .ok (.iadd, 1) := by decide +kernel
theorem d_Rd_takeComma_22 : decode prog_6_method_62_code 22 = .ok (.putfield 90, 3) := by decide +kernel
theorem d_Rd_takeComma_25 : decode prog_6_method_62_code 25 = .ok (.aload_n 0, 1) := by decide +kernel
theorem d_Rd_takeComma_26 : decode prog_6_method_62_code 26 = .ok (.getfield 46, 3) := by decide +kernel
theorem d_Rd_takeComma_29 : decode prog_6_method_62_code 29 = .ok (.aload_n 0, 1) := by decide +kernel
theorem d_Rd_takeComma_30 : decode prog_6_method_62_code 30 = .ok (.getfield 46, 3) := by decide +kernel
theorem d_Rd_takeComma_33 : decode prog_6_method_62_code 33 = .ok (.getfield 160, 3) := by decide +kernel
theorem d_Rd_takeComma_36 : decode prog_6_method_62_code 36 = .ok (.ifCond .eq 14, 3) := by decide +kernel
theorem d_Rd_takeComma_39 : decode prog_6_method_62_code 39 = .ok (.aload_n 0, 1) := by decide +kernel
theorem d_Rd_takeComma_40 : decode prog_6_method_62_code 40 = .ok (.invokevirtual 247, 3) := by decide +kernel
theorem d_Rd_takeComma_43 : decode prog_6_method_62_code 43 = .ok (.ifCond .eq 7, 3) := by decide +kernel
theorem d_Rd_takeComma_46 : decode prog_6_method_62_code 46 = .ok (.iconst 1, 1) := by decide +kernel
theorem d_Rd_takeComma_47 : decode prog_6_method_62_code 47 = .ok (.goto 4, 3) := by decide +kernel
theorem d_Rd_takeComma_50 : decode prog_6_method_62_code 50 = .ok (.iconst 0, 1) := by decide +kernel
theorem d_Rd_takeComma_51 : decode prog_6_method_62_code 51 = .ok (.putfield 160, 3) := by decide +kernel
theorem d_Rd_takeComma_54 : decode prog_6_method_62_code 54 = .ok (.aload_n 0, 1) := by decide +kernel
theorem d_Rd_takeComma_55 : decode prog_6_method_62_code 55 = .ok (.bipush 30, 2) := by decide +kernel
theorem d_Rd_takeComma_57 : decode prog_6_method_62_code 57 = .ok (.invokevirtual 130, 3) := by decide +kernel
theorem d_Rd_takeComma_60 : decode prog_6_method_62_code 60 = .ok (.ireturn, 1) := by decide +kernel
theorem d_Rd_takeComma_61 : decode prog_6_method_62_code 61 = .ok (.aload_n 0, 1) := by decide +kernel
theorem d_Rd_takeComma_62 : decode prog_6_method_62_code 62 = .ok (.getfield 46, 3) := by decide +kernel
theorem d_Rd_takeComma_65 : decode prog_6_method_62_code 65 = .ok (.getfield 86, 3) := by decide +kernel
theorem d_Rd_takeComma_68 : decode prog_6_method_62_code 68 = .ok (.invokestatic 315, 3) := by decide +kernel
theorem d_Rd_takeComma_71 : decode prog_6_method_62_code 71 = .ok (.ifCond .ne 29, 3) := by decide +kernel
theorem d_Rd_takeComma_74 : decode prog_6_method_62_code 74 = .ok (.aload_n 0, 1) := by decide +kernel
theorem d_Rd_takeComma_75 : decode prog_6_method_62_code 75 = .ok (.getfield 46, 3) := by decide +kernel
theorem d_Rd_takeComma_78 : decode prog_6_method_62_code 78 = .ok (.getfield 86, 3) := by decide +kernel
theorem d_Rd_takeComma_81 : decode prog_6_method_62_code 81 = .ok (.bipush 18, 2) := by decide +kernel
theorem d_Rd_takeComma_83 : decode prog_6_method_62_code 83 = .ok (.if_icmp .eq 17, 3) := by decide +kernel
theorem d_Rd_takeComma_86 : decode prog_6_method_62_code 86 = .ok (.aload_n 0, 1) := by decide +kernel
theorem d_Rd_takeComma_87 : decode prog_6_method_62_code 87 = .ok (.getfield 46, 3) := by decide +kernel
theorem d_Rd_takeComma_90 : decode prog_6_method_62_code 90 = .ok (.getfield 86, 3) := by decide +kernel
theorem d_Rd_takeComma_93 : decode prog_6_method_62_code 93 = .ok (.bipush 19, 2) := by decide +kernel
theorem d_Rd_takeComma_95 : decode prog_6_method_62_code 95 = .ok (.if_icmp .eq 5, 3) := by decide +kernel
theorem d_Rd_takeComma_98 : decode prog_6_method_62_code 98 = .ok (.iconst 0, 1) := by decide +kernel
theorem d_Rd_takeComma_99 : decode prog_6_method_62_code 99 = .ok (.ireturn, 1) := by decide +kernel
theorem d_Rd_takeComma_100 : decode prog_6_method_62_code 100 = .ok (.aload_n 0, 1) := by decide +kernel
theorem d_Rd_takeComma_101 : decode prog_6_method_62_code 101 = .ok (.getfield 46, 3) := by decide +kernel
theorem d_Rd_takeComma_104 : decode prog_6_method_62_code 104 = .ok (.dup, 1) := by decide +kernel
theorem d_Rd_takeComma_105 : decode prog_6_method_62_code 105 = .ok (.getfield 224, 3) := by decide +kernel
theorem d_Rd_takeComma_108 : decode prog_6_method_62_code 108 = .ok (.iconst 1, 1) := by decide +kernel
theorem d_Rd_takeComma_109 : decode prog_6_method_62_code 109 = .ok (.iadd, 1) := by decide +kernel
theorem d_Rd_takeComma_110 : decode prog_6_method_62_code 110 = .ok (.putfield 224, 3) := by decide +kernel
theorem d_Rd_takeComma_113 : decode prog_6_method_62_code 113 = .ok (.aload_n 0, 1) := by decide +kernel
theorem d_Rd_takeComma_114 : decode prog_6_method_62_code 114 = .ok (.getfield 46, 3) := by decide +kernel
theorem d_Rd_takeComma_117 : decode prog_6_method_62_code 117 = .ok (.getfield 224, 3) := by decide +kernel
theorem d_Rd_takeComma_120 : decode prog_6_method_62_code 120 = .ok (.aload_n 0, 1) := by decide +kernel
theorem d_Rd_takeComma_121 : decode prog_6_method_62_code 121 = .ok (.getfield 46, 3) := by decide +kernel
theorem d_Rd_takeComma_124 : decode prog_6_method_62_code 124 = .ok (.getfield 330, 3) := by decide +kernel
theorem d_Rd_takeComma_127 : decode prog_6_method_62_code 127 = .ok (.ifCond .eq 7, 3) := by decide +kernel
theorem d_Rd_takeComma_130 : decode prog_6_method_62_code 130 = .ok (.iconst 2, 1) := by decide +kernel
theorem d_Rd_takeComma_131 : decode prog_6_method_62_code 131 = .ok (.goto 5, 3) := by decide +kernel
theorem d_Rd_takeComma_134 : decode prog_6_method_62_code 134 = .ok (.bipush 8, 2) := by decide +kernel
theorem d_Rd_takeComma_136 : decode prog_6_method_62_code 136 = .ok (.if_icmp .ge 16, 3) := by decide +kernel
theorem d_Rd_takeComma_139 : decode prog_6_method_62_code 139 = .ok (.aload_n 0, 1) := by decide +kernel
theorem d_Rd_takeComma_140 : decode prog_6_method_62_code 140 = .ok (.bipush 30, 2) := by decide +kernel
theorem d_Rd_takeComma_142 : decode prog_6_method_62_code 142 = .ok (.invokevirtual 130, 3) := by decide +kernel
theorem d_Rd_takeComma_145 : decode prog_6_method_62_code 145 = .ok (.ifCond .eq 7, 3) := by decide +kernel
theorem d_Rd_takeComma_148 : decode prog_6_method_62_code 148 = .ok (.iconst 1, 1) := by decide +kernel
theorem d_Rd_takeComma_149 : decode prog_6_method_62_code 149 = .ok (.goto 4, 3) := by decide +kernel
theorem d_Rd_takeComma_152 : decode prog_6_method_62_code 152 = .ok (.iconst 0, 1) := by decide +kernel
theorem d_Rd_takeComma_153 : decode prog_6_method_62_code 153 = .ok (.ireturn, 1) := by decide +kernel
set_option maxHeartbeats 4000000 in
set_option maxRecDepth 100000 in
theorem L_Rd_takeComma_136 (l : Launch) (D : va_G) (cI cB cJ cS : ClassId) (h0 : Nat) (a_scanner_h0 : Nat) (a_draft_h0 : Nat) (a_waiting_h0 : Nat) (a_functions_h0 : Nat) (a_bottom_h0 : Nat) (a_top_h0 : Nat) (a_text_h0 : Nat) (V_below_a_top_h0 : Value) (V_above_a_top_h0 : Value) (mode_h0 : Int32) (levels_h0 : Int32) (signs_h0 : Int32) (loops_h0 : Int32) (token_h0 : Int32) (fault_h0 : Int32) (kind_a_top_h0 : Int32) (place_a_top_h0 : Int32) (width_a_top_h0 : Int32) (second_a_top_h0 : Int32) (parts_a_top_h0 : Int32) (innerParts_a_top_h0 : Int32) (innerPlace_a_top_h0 : Int32) (innerWidth_a_top_h0 : Int32) (signs_a_top_h0 : Int32) (waitingBelow_a_top_h0 : Int32) (limited_a_top_h0 : Int32) (targets_a_top_h0 : Int32) (lastBlock_a_top_h0 : Int32) (ret : Int32) (o_0_7 : Int32) (o_1_6 : Int32) (o_1_7 : Int32) (o_1_13 : Int32) (p : Program) (e : Env) (s : State) (m : MethodId) (below : List Frame) (meth : Method) (c : Code) (hr : meth.sig.returnType = (Option.some Jvm.ClassFile.FieldType.boolean)) (hnm : meth.name = y_Rd_takeComma.name) : ∀ (t0_136 : Int32), F_Rd_takeComma_136 mode_h0 parts_a_top_h0 innerParts_a_top_h0 targets_a_top_h0   t0_136 = (ret, o_0_7, o_1_6, o_1_7, o_1_13) → J (KxOf p l e { frames := 1, cells := 0, slots := 0, locals := 21 } s m [.ref h0].toArray below meth c D (gT cI cB cJ cS) [(h0, .inr (2, [.ref a_scanner_h0, .ref a_draft_h0, .ref a_waiting_h0, .ref a_functions_h0, .ref a_bottom_h0, .ref a_top_h0, .ref a_text_h0, .int mode_h0, .int levels_h0, .int signs_h0, .int loops_h0, .int token_h0, .int fault_h0])), (a_top_h0, .inr (0, [V_below_a_top_h0, V_above_a_top_h0, .int kind_a_top_h0, .int place_a_top_h0, .int width_a_top_h0, .int second_a_top_h0, .int parts_a_top_h0, .int innerParts_a_top_h0, .int innerPlace_a_top_h0, .int innerWidth_a_top_h0, .int signs_a_top_h0, .int waitingBelow_a_top_h0, .int limited_a_top_h0, .int targets_a_top_h0, .int lastBlock_a_top_h0]))] (fun v w => v = some (.int ret) ∧ zb ret ∧ w = [(h0, .inr (2, [.ref a_scanner_h0, .ref a_draft_h0, .ref a_waiting_h0, .ref a_functions_h0, .ref a_bottom_h0, .ref a_top_h0, .ref a_text_h0, .int o_0_7, .int levels_h0, .int signs_h0, .int loops_h0, .int token_h0, .int fault_h0])), (a_top_h0, .inr (0, [V_below_a_top_h0, V_above_a_top_h0, .int kind_a_top_h0, .int place_a_top_h0, .int width_a_top_h0, .int second_a_top_h0, .int o_1_6, .int o_1_7, .int innerPlace_a_top_h0, .int innerWidth_a_top_h0, .int signs_a_top_h0, .int waitingBelow_a_top_h0, .int limited_a_top_h0, .int o_1_13, .int lastBlock_a_top_h0]))]) 0 0) prog_6_method_62_code 1 R_Rd 136 [(0, .ref h0)] [.int t0_136, .int (parts_a_top_h0 + 1)] [(h0, .inr (2, [.ref a_scanner_h0, .ref a_draft_h0, .ref a_waiting_h0, .ref a_functions_h0, .ref a_bottom_h0, .ref a_top_h0, .ref a_text_h0, .int mode_h0, .int levels_h0, .int signs_h0, .int loops_h0, .int token_h0, .int fault_h0])), (a_top_h0, .inr (0, [V_below_a_top_h0, V_above_a_top_h0, .int kind_a_top_h0, .int place_a_top_h0, .int width_a_top_h0, .int second_a_top_h0, .int (parts_a_top_h0 + 1), .int innerParts_a_top_h0, .int innerPlace_a_top_h0, .int innerWidth_a_top_h0, .int signs_a_top_h0, .int waitingBelow_a_top_h0, .int limited_a_top_h0, .int targets_a_top_h0, .int lastBlock_a_top_h0]))] 0 0 := by
  intro t0_136 h
  unfold F_Rd_takeComma_136 at h
  refine j_icmp_ge (tgt := 152) d_Rd_takeComma_136 (by decide) (fun c1 => ?_) (fun c1 => ?_)
  · replace h := it_t c1 h
    refine j_iconst (v := 0) d_Rd_takeComma_152 (by decide) ?_
    replace h := Prod.mk.inj h
    obtain ⟨h9, h⟩ := h
    subst h9
    replace h := Prod.mk.inj h
    obtain ⟨h9, h⟩ := h
    subst h9
    replace h := Prod.mk.inj h
    obtain ⟨h9, h⟩ := h
    subst h9
    replace h := Prod.mk.inj h
    obtain ⟨h9, h⟩ := h
    subst h9
    subst h
    exact j_zret (w := [(h0, .inr (2, [.ref a_scanner_h0, .ref a_draft_h0, .ref a_waiting_h0, .ref a_functions_h0, .ref a_bottom_h0, .ref a_top_h0, .ref a_text_h0, .int mode_h0, .int levels_h0, .int signs_h0, .int loops_h0, .int token_h0, .int fault_h0])), (a_top_h0, .inr (0, [V_below_a_top_h0, V_above_a_top_h0, .int kind_a_top_h0, .int place_a_top_h0, .int width_a_top_h0, .int second_a_top_h0, .int (parts_a_top_h0 + 1), .int innerParts_a_top_h0, .int innerPlace_a_top_h0, .int innerWidth_a_top_h0, .int signs_a_top_h0, .int waitingBelow_a_top_h0, .int limited_a_top_h0, .int targets_a_top_h0, .int lastBlock_a_top_h0]))]) hr (zb_n zb0) d_Rd_takeComma_153 [0, 1] rfl (by decide) ⟨rfl, zb0, rfl⟩
  · replace h := it_f c1 h
    refine j_aload_n d_Rd_takeComma_139 rfl 0 rfl ?_
    refine j_bipush (v := 30) d_Rd_takeComma_140 (by decide) ?_
    refine j_callV (n := 1) (As := [.int 30]) (rest := []) (wr := [(a_top_h0, .inr (0, [V_below_a_top_h0, V_above_a_top_h0, .int kind_a_top_h0, .int place_a_top_h0, .int width_a_top_h0, .int second_a_top_h0, .int (parts_a_top_h0 + 1), .int innerParts_a_top_h0, .int innerPlace_a_top_h0, .int innerWidth_a_top_h0, .int signs_a_top_h0, .int waitingBelow_a_top_h0, .int limited_a_top_h0, .int targets_a_top_h0, .int lastBlock_a_top_h0]))]) (c_Rd_goOn l D cI cB cJ cS h0 a_scanner_h0 a_draft_h0 a_waiting_h0 a_functions_h0 a_bottom_h0 a_top_h0 a_text_h0 30 mode_h0 levels_h0 signs_h0 loops_h0 token_h0 fault_h0  ) k_Rd_130 (by decide) ⟨Nat.le_of_ble_eq_true rfl, Nat.le_of_ble_eq_true rfl⟩ rfl 0 rfl [0] [1] rfl (by decide) rfl (by decide) (by decide) rfl rfl (Nat.le_of_ble_eq_true rfl) d_Rd_takeComma_142 ⟨Nat.le_of_ble_eq_true rfl, Nat.le_of_ble_eq_true rfl⟩ (fun v w hq => ?_)
    obtain ⟨rfl, _, rfl⟩ := hq
    refine j_norm (pc' := 145) (st' := [.int 1]) (ws' := [(a_top_h0, .inr (0, [V_below_a_top_h0, V_above_a_top_h0, .int kind_a_top_h0, .int place_a_top_h0, .int width_a_top_h0, .int second_a_top_h0, .int (parts_a_top_h0 + 1), .int innerParts_a_top_h0, .int innerPlace_a_top_h0, .int innerWidth_a_top_h0, .int signs_a_top_h0, .int waitingBelow_a_top_h0, .int limited_a_top_h0, .int targets_a_top_h0, .int lastBlock_a_top_h0])), (h0, .inr (2, [.ref a_scanner_h0, .ref a_draft_h0, .ref a_waiting_h0, .ref a_functions_h0, .ref a_bottom_h0, .ref a_top_h0, .ref a_text_h0, .int 30, .int levels_h0, .int signs_h0, .int loops_h0, .int token_h0, .int fault_h0]))]) (cl' := 0) (sl' := 0) rfl rfl rfl rfl rfl rfl ?_
    refine j_if_eq (tgt := 152) d_Rd_takeComma_145 (by decide) (fun c3 => absurd c3 (by decide)) (fun c3 => ?_)
    refine j_iconst (v := 1) d_Rd_takeComma_148 (by decide) ?_
    refine j_goto (tgt := 153) d_Rd_takeComma_149 (by decide) ?_
    replace h := Prod.mk.inj h
    obtain ⟨h9, h⟩ := h
    subst h9
    replace h := Prod.mk.inj h
    obtain ⟨h9, h⟩ := h
    subst h9
    replace h := Prod.mk.inj h
    obtain ⟨h9, h⟩ := h
    subst h9
    replace h := Prod.mk.inj h
    obtain ⟨h9, h⟩ := h
    subst h9
    subst h
    exact j_zret (w := [(h0, .inr (2, [.ref a_scanner_h0, .ref a_draft_h0, .ref a_waiting_h0, .ref a_functions_h0, .ref a_bottom_h0, .ref a_top_h0, .ref a_text_h0, .int 30, .int levels_h0, .int signs_h0, .int loops_h0, .int token_h0, .int fault_h0])), (a_top_h0, .inr (0, [V_below_a_top_h0, V_above_a_top_h0, .int kind_a_top_h0, .int place_a_top_h0, .int width_a_top_h0, .int second_a_top_h0, .int (parts_a_top_h0 + 1), .int innerParts_a_top_h0, .int innerPlace_a_top_h0, .int innerWidth_a_top_h0, .int signs_a_top_h0, .int waitingBelow_a_top_h0, .int limited_a_top_h0, .int targets_a_top_h0, .int lastBlock_a_top_h0]))]) hr (zb_n zb1) d_Rd_takeComma_153 [1, 0] rfl (by decide) ⟨rfl, zb1, rfl⟩
set_option maxHeartbeats 4000000 in
set_option maxRecDepth 100000 in
theorem L_Rd_takeComma_100 (l : Launch) (D : va_G) (cI cB cJ cS : ClassId) (h0 : Nat) (a_scanner_h0 : Nat) (a_draft_h0 : Nat) (a_waiting_h0 : Nat) (a_functions_h0 : Nat) (a_bottom_h0 : Nat) (a_top_h0 : Nat) (a_text_h0 : Nat) (V_below_a_top_h0 : Value) (V_above_a_top_h0 : Value) (mode_h0 : Int32) (levels_h0 : Int32) (signs_h0 : Int32) (loops_h0 : Int32) (token_h0 : Int32) (fault_h0 : Int32) (kind_a_top_h0 : Int32) (place_a_top_h0 : Int32) (width_a_top_h0 : Int32) (second_a_top_h0 : Int32) (parts_a_top_h0 : Int32) (innerParts_a_top_h0 : Int32) (innerPlace_a_top_h0 : Int32) (innerWidth_a_top_h0 : Int32) (signs_a_top_h0 : Int32) (waitingBelow_a_top_h0 : Int32) (limited_a_top_h0 : Int32) (targets_a_top_h0 : Int32) (lastBlock_a_top_h0 : Int32) (ret : Int32) (o_0_7 : Int32) (o_1_6 : Int32) (o_1_7 : Int32) (o_1_13 : Int32) (p : Program) (e : Env) (s : State) (m : MethodId) (below : List Frame) (meth : Method) (c : Code) (hr : meth.sig.returnType = (Option.some Jvm.ClassFile.FieldType.boolean)) (hnm : meth.name = y_Rd_takeComma.name) : F_Rd_takeComma_100 mode_h0 parts_a_top_h0 innerParts_a_top_h0 limited_a_top_h0 targets_a_top_h0    = (ret, o_0_7, o_1_6, o_1_7, o_1_13) → J (KxOf p l e { frames := 1, cells := 0, slots := 0, locals := 21 } s m [.ref h0].toArray below meth c D (gT cI cB cJ cS) [(h0, .inr (2, [.ref a_scanner_h0, .ref a_draft_h0, .ref a_waiting_h0, .ref a_functions_h0, .ref a_bottom_h0, .ref a_top_h0, .ref a_text_h0, .int mode_h0, .int levels_h0, .int signs_h0, .int loops_h0, .int token_h0, .int fault_h0])), (a_top_h0, .inr (0, [V_below_a_top_h0, V_above_a_top_h0, .int kind_a_top_h0, .int place_a_top_h0, .int width_a_top_h0, .int second_a_top_h0, .int parts_a_top_h0, .int innerParts_a_top_h0, .int innerPlace_a_top_h0, .int innerWidth_a_top_h0, .int signs_a_top_h0, .int waitingBelow_a_top_h0, .int limited_a_top_h0, .int targets_a_top_h0, .int lastBlock_a_top_h0]))] (fun v w => v = some (.int ret) ∧ zb ret ∧ w = [(h0, .inr (2, [.ref a_scanner_h0, .ref a_draft_h0, .ref a_waiting_h0, .ref a_functions_h0, .ref a_bottom_h0, .ref a_top_h0, .ref a_text_h0, .int o_0_7, .int levels_h0, .int signs_h0, .int loops_h0, .int token_h0, .int fault_h0])), (a_top_h0, .inr (0, [V_below_a_top_h0, V_above_a_top_h0, .int kind_a_top_h0, .int place_a_top_h0, .int width_a_top_h0, .int second_a_top_h0, .int o_1_6, .int o_1_7, .int innerPlace_a_top_h0, .int innerWidth_a_top_h0, .int signs_a_top_h0, .int waitingBelow_a_top_h0, .int limited_a_top_h0, .int o_1_13, .int lastBlock_a_top_h0]))]) 0 0) prog_6_method_62_code 1 R_Rd 100 [(0, .ref h0)] [] [(h0, .inr (2, [.ref a_scanner_h0, .ref a_draft_h0, .ref a_waiting_h0, .ref a_functions_h0, .ref a_bottom_h0, .ref a_top_h0, .ref a_text_h0, .int mode_h0, .int levels_h0, .int signs_h0, .int loops_h0, .int token_h0, .int fault_h0])), (a_top_h0, .inr (0, [V_below_a_top_h0, V_above_a_top_h0, .int kind_a_top_h0, .int place_a_top_h0, .int width_a_top_h0, .int second_a_top_h0, .int parts_a_top_h0, .int innerParts_a_top_h0, .int innerPlace_a_top_h0, .int innerWidth_a_top_h0, .int signs_a_top_h0, .int waitingBelow_a_top_h0, .int limited_a_top_h0, .int targets_a_top_h0, .int lastBlock_a_top_h0]))] 0 0 := by
  intro  h
  unfold F_Rd_takeComma_100 at h
  refine j_aload_n d_Rd_takeComma_100 rfl 0 rfl ?_
  refine j_get ig_Rd rfl 0 rfl 5 (by decide) rfl m_174 rfl d_Rd_takeComma_101 ?_
  refine j_dup rfl d_Rd_takeComma_104 ?_
  refine j_get ig_Fr rfl 1 rfl 6 (by decide) rfl m_119 rfl d_Rd_takeComma_105 ?_
  refine j_iconst (v := 1) d_Rd_takeComma_108 (by decide) ?_
  refine j_iadd d_Rd_takeComma_109 ?_
  refine j_put (ws' := [(h0, .inr (2, [.ref a_scanner_h0, .ref a_draft_h0, .ref a_waiting_h0, .ref a_functions_h0, .ref a_bottom_h0, .ref a_top_h0, .ref a_text_h0, .int mode_h0, .int levels_h0, .int signs_h0, .int loops_h0, .int token_h0, .int fault_h0])), (a_top_h0, .inr (0, [V_below_a_top_h0, V_above_a_top_h0, .int kind_a_top_h0, .int place_a_top_h0, .int width_a_top_h0, .int second_a_top_h0, .int (parts_a_top_h0 + 1), .int innerParts_a_top_h0, .int innerPlace_a_top_h0, .int innerWidth_a_top_h0, .int signs_a_top_h0, .int waitingBelow_a_top_h0, .int limited_a_top_h0, .int targets_a_top_h0, .int lastBlock_a_top_h0]))]) ig_Fr tk_Fr nm_Fr rfl 1 rfl 6 (by decide) rfl m_119 rfl (tk_Fr 6 (by decide)) rfl rfl (Nat.le_of_ble_eq_true rfl) d_Rd_takeComma_110 rfl ?_
  refine j_aload_n d_Rd_takeComma_113 rfl 0 rfl ?_
  refine j_get ig_Rd rfl 0 rfl 5 (by decide) rfl m_174 rfl d_Rd_takeComma_114 ?_
  refine j_get ig_Fr rfl 1 rfl 6 (by decide) rfl m_119 rfl d_Rd_takeComma_117 ?_
  refine j_aload_n d_Rd_takeComma_120 rfl 0 rfl ?_
  refine j_get ig_Rd rfl 0 rfl 5 (by decide) rfl m_174 rfl d_Rd_takeComma_121 ?_
  refine j_get ig_Fr rfl 1 rfl 12 (by decide) rfl m_131 rfl d_Rd_takeComma_124 ?_
  refine j_if_eq (tgt := 134) d_Rd_takeComma_127 (by decide) (fun c4 => ?_) (fun c4 => ?_)
  · replace h := it_t c4 h
    refine j_bipush (v := 8) d_Rd_takeComma_134 (by decide) ?_
    refine j_sub (w := [(h0, .inr (2, [.ref a_scanner_h0, .ref a_draft_h0, .ref a_waiting_h0, .ref a_functions_h0, .ref a_bottom_h0, .ref a_top_h0, .ref a_text_h0, .int mode_h0, .int levels_h0, .int signs_h0, .int loops_h0, .int token_h0, .int fault_h0])), (a_top_h0, .inr (0, [V_below_a_top_h0, V_above_a_top_h0, .int kind_a_top_h0, .int place_a_top_h0, .int width_a_top_h0, .int second_a_top_h0, .int (parts_a_top_h0 + 1), .int innerParts_a_top_h0, .int innerPlace_a_top_h0, .int innerWidth_a_top_h0, .int signs_a_top_h0, .int waitingBelow_a_top_h0, .int limited_a_top_h0, .int targets_a_top_h0, .int lastBlock_a_top_h0]))]) (lv' := [(0, .ref h0)]) [0, 1] rfl (by decide) [0] rfl ?_
    exact L_Rd_takeComma_136 l D cI cB cJ cS h0 a_scanner_h0 a_draft_h0 a_waiting_h0 a_functions_h0 a_bottom_h0 a_top_h0 a_text_h0 V_below_a_top_h0 V_above_a_top_h0 mode_h0 levels_h0 signs_h0 loops_h0 token_h0 fault_h0 kind_a_top_h0 place_a_top_h0 width_a_top_h0 second_a_top_h0 parts_a_top_h0 innerParts_a_top_h0 innerPlace_a_top_h0 innerWidth_a_top_h0 signs_a_top_h0 waitingBelow_a_top_h0 limited_a_top_h0 targets_a_top_h0 lastBlock_a_top_h0 ret o_0_7 o_1_6 o_1_7 o_1_13 p e s m below meth c hr hnm 8 h
  · replace h := it_f c4 h
    refine j_iconst (v := 2) d_Rd_takeComma_130 (by decide) ?_
    refine j_goto (tgt := 136) d_Rd_takeComma_131 (by decide) ?_
    refine j_sub (w := [(h0, .inr (2, [.ref a_scanner_h0, .ref a_draft_h0, .ref a_waiting_h0, .ref a_functions_h0, .ref a_bottom_h0, .ref a_top_h0, .ref a_text_h0, .int mode_h0, .int levels_h0, .int signs_h0, .int loops_h0, .int token_h0, .int fault_h0])), (a_top_h0, .inr (0, [V_below_a_top_h0, V_above_a_top_h0, .int kind_a_top_h0, .int place_a_top_h0, .int width_a_top_h0, .int second_a_top_h0, .int (parts_a_top_h0 + 1), .int innerParts_a_top_h0, .int innerPlace_a_top_h0, .int innerWidth_a_top_h0, .int signs_a_top_h0, .int waitingBelow_a_top_h0, .int limited_a_top_h0, .int targets_a_top_h0, .int lastBlock_a_top_h0]))]) (lv' := [(0, .ref h0)]) [0, 1] rfl (by decide) [0] rfl ?_
    exact L_Rd_takeComma_136 l D cI cB cJ cS h0 a_scanner_h0 a_draft_h0 a_waiting_h0 a_functions_h0 a_bottom_h0 a_top_h0 a_text_h0 V_below_a_top_h0 V_above_a_top_h0 mode_h0 levels_h0 signs_h0 loops_h0 token_h0 fault_h0 kind_a_top_h0 place_a_top_h0 width_a_top_h0 second_a_top_h0 parts_a_top_h0 innerParts_a_top_h0 innerPlace_a_top_h0 innerWidth_a_top_h0 signs_a_top_h0 waitingBelow_a_top_h0 limited_a_top_h0 targets_a_top_h0 lastBlock_a_top_h0 ret o_0_7 o_1_6 o_1_7 o_1_13 p e s m below meth c hr hnm 2 h
set_option maxHeartbeats 4000000 in
set_option maxRecDepth 100000 in
theorem c_Rd_takeComma (l : Launch) (D : va_G) (cI cB cJ cS : ClassId) (h0 : Nat) (a_scanner_h0 : Nat) (a_draft_h0 : Nat) (a_waiting_h0 : Nat) (a_functions_h0 : Nat) (a_bottom_h0 : Nat) (a_top_h0 : Nat) (a_text_h0 : Nat) (V_below_a_top_h0 : Value) (V_above_a_top_h0 : Value) (mode_h0 : Int32) (levels_h0 : Int32) (signs_h0 : Int32) (loops_h0 : Int32) (token_h0 : Int32) (fault_h0 : Int32) (kind_a_top_h0 : Int32) (place_a_top_h0 : Int32) (width_a_top_h0 : Int32) (second_a_top_h0 : Int32) (parts_a_top_h0 : Int32) (innerParts_a_top_h0 : Int32) (innerPlace_a_top_h0 : Int32) (innerWidth_a_top_h0 : Int32) (signs_a_top_h0 : Int32) (waitingBelow_a_top_h0 : Int32) (limited_a_top_h0 : Int32) (targets_a_top_h0 : Int32) (lastBlock_a_top_h0 : Int32) (ret : Int32) (o_0_7 : Int32) (o_1_6 : Int32) (o_1_7 : Int32) (o_1_13 : Int32) (h : F_Rd_takeComma mode_h0 levels_h0 signs_h0 loops_h0 token_h0 fault_h0 kind_a_top_h0 place_a_top_h0 width_a_top_h0 second_a_top_h0 parts_a_top_h0 innerParts_a_top_h0 innerPlace_a_top_h0 innerWidth_a_top_h0 signs_a_top_h0 waitingBelow_a_top_h0 limited_a_top_h0 targets_a_top_h0 lastBlock_a_top_h0 = (ret, o_0_7, o_1_6, o_1_7, o_1_13)) : Ct l D (gT cI cB cJ cS) y_Rd_takeComma prog_6_method_62_code 1 (Option.some Jvm.ClassFile.FieldType.boolean) 1 21 0 0 [.ref h0] [(h0, .inr (2, [.ref a_scanner_h0, .ref a_draft_h0, .ref a_waiting_h0, .ref a_functions_h0, .ref a_bottom_h0, .ref a_top_h0, .ref a_text_h0, .int mode_h0, .int levels_h0, .int signs_h0, .int loops_h0, .int token_h0, .int fault_h0])), (a_top_h0, .inr (0, [V_below_a_top_h0, V_above_a_top_h0, .int kind_a_top_h0, .int place_a_top_h0, .int width_a_top_h0, .int second_a_top_h0, .int parts_a_top_h0, .int innerParts_a_top_h0, .int innerPlace_a_top_h0, .int innerWidth_a_top_h0, .int signs_a_top_h0, .int waitingBelow_a_top_h0, .int limited_a_top_h0, .int targets_a_top_h0, .int lastBlock_a_top_h0]))] (fun v w => v = some (.int ret) ∧ zb ret ∧ w = [(h0, .inr (2, [.ref a_scanner_h0, .ref a_draft_h0, .ref a_waiting_h0, .ref a_functions_h0, .ref a_bottom_h0, .ref a_top_h0, .ref a_text_h0, .int o_0_7, .int levels_h0, .int signs_h0, .int loops_h0, .int token_h0, .int fault_h0])), (a_top_h0, .inr (0, [V_below_a_top_h0, V_above_a_top_h0, .int kind_a_top_h0, .int place_a_top_h0, .int width_a_top_h0, .int second_a_top_h0, .int o_1_6, .int o_1_7, .int innerPlace_a_top_h0, .int innerWidth_a_top_h0, .int signs_a_top_h0, .int waitingBelow_a_top_h0, .int limited_a_top_h0, .int o_1_13, .int lastBlock_a_top_h0]))]) := by
  refine Ct.mk (by decide) (Nat.le_of_ble_eq_true rfl) ?_
  intro p e s m below meth c hr hnm
  refine j_norm (pc' := 0) (lv' := [(0, .ref h0)]) (st' := []) (ws' := [(h0, .inr (2, [.ref a_scanner_h0, .ref a_draft_h0, .ref a_waiting_h0, .ref a_functions_h0, .ref a_bottom_h0, .ref a_top_h0, .ref a_text_h0, .int mode_h0, .int levels_h0, .int signs_h0, .int loops_h0, .int token_h0, .int fault_h0])), (a_top_h0, .inr (0, [V_below_a_top_h0, V_above_a_top_h0, .int kind_a_top_h0, .int place_a_top_h0, .int width_a_top_h0, .int second_a_top_h0, .int parts_a_top_h0, .int innerParts_a_top_h0, .int innerPlace_a_top_h0, .int innerWidth_a_top_h0, .int signs_a_top_h0, .int waitingBelow_a_top_h0, .int limited_a_top_h0, .int targets_a_top_h0, .int lastBlock_a_top_h0]))]) (cl' := 0) (sl' := 0) rfl rfl rfl rfl rfl rfl ?_
  unfold F_Rd_takeComma at h
  refine j_aload_n d_Rd_takeComma_0 rfl 0 rfl ?_
  refine j_get ig_Rd rfl 0 rfl 5 (by decide) rfl m_174 rfl d_Rd_takeComma_1 ?_
  refine j_get ig_Fr rfl 1 rfl 2 (by decide) rfl m_111 rfl d_Rd_takeComma_4 ?_
  refine j_bipush (v := 36) d_Rd_takeComma_7 (by decide) ?_
  refine j_icmp_ne (tgt := 61) d_Rd_takeComma_9 (by decide) (fun c5 => ?_) (fun c5 => ?_)
  · replace h := it_f c5 h
    refine j_aload_n d_Rd_takeComma_61 rfl 0 rfl ?_
    refine j_get ig_Rd rfl 0 rfl 5 (by decide) rfl m_174 rfl d_Rd_takeComma_62 ?_
    refine j_get ig_Fr rfl 1 rfl 2 (by decide) rfl m_111 rfl d_Rd_takeComma_65 ?_
    obtain ⟨r6, k8⟩ : ∃ z, (F_Rd_isCall kind_a_top_h0) = z := ⟨_, rfl⟩
    replace h := nm_at k8 h
    refine j_callS (n := 1) (As := [.int kind_a_top_h0]) (rest := []) (wr := [(h0, .inr (2, [.ref a_scanner_h0, .ref a_draft_h0, .ref a_waiting_h0, .ref a_functions_h0, .ref a_bottom_h0, .ref a_top_h0, .ref a_text_h0, .int mode_h0, .int levels_h0, .int signs_h0, .int loops_h0, .int token_h0, .int fault_h0])), (a_top_h0, .inr (0, [V_below_a_top_h0, V_above_a_top_h0, .int kind_a_top_h0, .int place_a_top_h0, .int width_a_top_h0, .int second_a_top_h0, .int parts_a_top_h0, .int innerParts_a_top_h0, .int innerPlace_a_top_h0, .int innerWidth_a_top_h0, .int signs_a_top_h0, .int waitingBelow_a_top_h0, .int limited_a_top_h0, .int targets_a_top_h0, .int lastBlock_a_top_h0]))]) (c_Rd_isCall l D cI cB cJ cS kind_a_top_h0  r6 k8) k_Rd_315 (by decide) ⟨Nat.le_of_ble_eq_true rfl, Nat.le_of_ble_eq_true rfl⟩ [] [0, 1] rfl (by decide) rfl (by decide) (by decide) rfl rfl (Nat.le_of_ble_eq_true rfl) d_Rd_takeComma_68 ⟨Nat.le_of_ble_eq_true rfl, Nat.le_of_ble_eq_true rfl⟩ (fun v w hq => ?_)
    obtain ⟨rfl, z7, rfl⟩ := hq
    refine j_norm (pc' := 71) (st' := [.int r6]) (ws' := [(h0, .inr (2, [.ref a_scanner_h0, .ref a_draft_h0, .ref a_waiting_h0, .ref a_functions_h0, .ref a_bottom_h0, .ref a_top_h0, .ref a_text_h0, .int mode_h0, .int levels_h0, .int signs_h0, .int loops_h0, .int token_h0, .int fault_h0])), (a_top_h0, .inr (0, [V_below_a_top_h0, V_above_a_top_h0, .int kind_a_top_h0, .int place_a_top_h0, .int width_a_top_h0, .int second_a_top_h0, .int parts_a_top_h0, .int innerParts_a_top_h0, .int innerPlace_a_top_h0, .int innerWidth_a_top_h0, .int signs_a_top_h0, .int waitingBelow_a_top_h0, .int limited_a_top_h0, .int targets_a_top_h0, .int lastBlock_a_top_h0]))]) (cl' := 0) (sl' := 0) rfl rfl rfl rfl rfl rfl ?_
    refine j_if_ne (tgt := 100) d_Rd_takeComma_71 (by decide) (fun c9 => ?_) (fun c9 => ?_)
    · replace h := it_f c9 h
      refine j_sub (w := [(h0, .inr (2, [.ref a_scanner_h0, .ref a_draft_h0, .ref a_waiting_h0, .ref a_functions_h0, .ref a_bottom_h0, .ref a_top_h0, .ref a_text_h0, .int mode_h0, .int levels_h0, .int signs_h0, .int loops_h0, .int token_h0, .int fault_h0])), (a_top_h0, .inr (0, [V_below_a_top_h0, V_above_a_top_h0, .int kind_a_top_h0, .int place_a_top_h0, .int width_a_top_h0, .int second_a_top_h0, .int parts_a_top_h0, .int innerParts_a_top_h0, .int innerPlace_a_top_h0, .int innerWidth_a_top_h0, .int signs_a_top_h0, .int waitingBelow_a_top_h0, .int limited_a_top_h0, .int targets_a_top_h0, .int lastBlock_a_top_h0]))]) (lv' := [(0, .ref h0)]) [0, 1] rfl (by decide) [0] rfl ?_
      exact L_Rd_takeComma_100 l D cI cB cJ cS h0 a_scanner_h0 a_draft_h0 a_waiting_h0 a_functions_h0 a_bottom_h0 a_top_h0 a_text_h0 V_below_a_top_h0 V_above_a_top_h0 mode_h0 levels_h0 signs_h0 loops_h0 token_h0 fault_h0 kind_a_top_h0 place_a_top_h0 width_a_top_h0 second_a_top_h0 parts_a_top_h0 innerParts_a_top_h0 innerPlace_a_top_h0 innerWidth_a_top_h0 signs_a_top_h0 waitingBelow_a_top_h0 limited_a_top_h0 targets_a_top_h0 lastBlock_a_top_h0 ret o_0_7 o_1_6 o_1_7 o_1_13 p e s m below meth c hr hnm  h
    · replace h := it_t c9 h
      refine j_aload_n d_Rd_takeComma_74 rfl 0 rfl ?_
      refine j_get ig_Rd rfl 0 rfl 5 (by decide) rfl m_174 rfl d_Rd_takeComma_75 ?_
      refine j_get ig_Fr rfl 1 rfl 2 (by decide) rfl m_111 rfl d_Rd_takeComma_78 ?_
      refine j_bipush (v := 18) d_Rd_takeComma_81 (by decide) ?_
      refine j_icmp_eq (tgt := 100) d_Rd_takeComma_83 (by decide) (fun c10 => ?_) (fun c10 => ?_)
      · replace h := it_t c10 h
        refine j_sub (w := [(h0, .inr (2, [.ref a_scanner_h0, .ref a_draft_h0, .ref a_waiting_h0, .ref a_functions_h0, .ref a_bottom_h0, .ref a_top_h0, .ref a_text_h0, .int mode_h0, .int levels_h0, .int signs_h0, .int loops_h0, .int token_h0, .int fault_h0])), (a_top_h0, .inr (0, [V_below_a_top_h0, V_above_a_top_h0, .int kind_a_top_h0, .int place_a_top_h0, .int width_a_top_h0, .int second_a_top_h0, .int parts_a_top_h0, .int innerParts_a_top_h0, .int innerPlace_a_top_h0, .int innerWidth_a_top_h0, .int signs_a_top_h0, .int waitingBelow_a_top_h0, .int limited_a_top_h0, .int targets_a_top_h0, .int lastBlock_a_top_h0]))]) (lv' := [(0, .ref h0)]) [0, 1] rfl (by decide) [0] rfl ?_
        exact L_Rd_takeComma_100 l D cI cB cJ cS h0 a_scanner_h0 a_draft_h0 a_waiting_h0 a_functions_h0 a_bottom_h0 a_top_h0 a_text_h0 V_below_a_top_h0 V_above_a_top_h0 mode_h0 levels_h0 signs_h0 loops_h0 token_h0 fault_h0 kind_a_top_h0 place_a_top_h0 width_a_top_h0 second_a_top_h0 parts_a_top_h0 innerParts_a_top_h0 innerPlace_a_top_h0 innerWidth_a_top_h0 signs_a_top_h0 waitingBelow_a_top_h0 limited_a_top_h0 targets_a_top_h0 lastBlock_a_top_h0 ret o_0_7 o_1_6 o_1_7 o_1_13 p e s m below meth c hr hnm  h
      · replace h := it_f c10 h
        refine j_aload_n d_Rd_takeComma_86 rfl 0 rfl ?_
        refine j_get ig_Rd rfl 0 rfl 5 (by decide) rfl m_174 rfl d_Rd_takeComma_87 ?_
        refine j_get ig_Fr rfl 1 rfl 2 (by decide) rfl m_111 rfl d_Rd_takeComma_90 ?_
        refine j_bipush (v := 19) d_Rd_takeComma_93 (by decide) ?_
        refine j_icmp_eq (tgt := 100) d_Rd_takeComma_95 (by decide) (fun c11 => ?_) (fun c11 => ?_)
        · replace h := it_t c11 h
          refine j_sub (w := [(h0, .inr (2, [.ref a_scanner_h0, .ref a_draft_h0, .ref a_waiting_h0, .ref a_functions_h0, .ref a_bottom_h0, .ref a_top_h0, .ref a_text_h0, .int mode_h0, .int levels_h0, .int signs_h0, .int loops_h0, .int token_h0, .int fault_h0])), (a_top_h0, .inr (0, [V_below_a_top_h0, V_above_a_top_h0, .int kind_a_top_h0, .int place_a_top_h0, .int width_a_top_h0, .int second_a_top_h0, .int parts_a_top_h0, .int innerParts_a_top_h0, .int innerPlace_a_top_h0, .int innerWidth_a_top_h0, .int signs_a_top_h0, .int waitingBelow_a_top_h0, .int limited_a_top_h0, .int targets_a_top_h0, .int lastBlock_a_top_h0]))]) (lv' := [(0, .ref h0)]) [0, 1] rfl (by decide) [0] rfl ?_
          exact L_Rd_takeComma_100 l D cI cB cJ cS h0 a_scanner_h0 a_draft_h0 a_waiting_h0 a_functions_h0 a_bottom_h0 a_top_h0 a_text_h0 V_below_a_top_h0 V_above_a_top_h0 mode_h0 levels_h0 signs_h0 loops_h0 token_h0 fault_h0 kind_a_top_h0 place_a_top_h0 width_a_top_h0 second_a_top_h0 parts_a_top_h0 innerParts_a_top_h0 innerPlace_a_top_h0 innerWidth_a_top_h0 signs_a_top_h0 waitingBelow_a_top_h0 limited_a_top_h0 targets_a_top_h0 lastBlock_a_top_h0 ret o_0_7 o_1_6 o_1_7 o_1_13 p e s m below meth c hr hnm  h
        · replace h := it_f c11 h
          refine j_iconst (v := 0) d_Rd_takeComma_98 (by decide) ?_
          replace h := Prod.mk.inj h
          obtain ⟨h9, h⟩ := h
          subst h9
          replace h := Prod.mk.inj h
          obtain ⟨h9, h⟩ := h
          subst h9
          replace h := Prod.mk.inj h
          obtain ⟨h9, h⟩ := h
          subst h9
          replace h := Prod.mk.inj h
          obtain ⟨h9, h⟩ := h
          subst h9
          subst h
          exact j_zret (w := [(h0, .inr (2, [.ref a_scanner_h0, .ref a_draft_h0, .ref a_waiting_h0, .ref a_functions_h0, .ref a_bottom_h0, .ref a_top_h0, .ref a_text_h0, .int mode_h0, .int levels_h0, .int signs_h0, .int loops_h0, .int token_h0, .int fault_h0])), (a_top_h0, .inr (0, [V_below_a_top_h0, V_above_a_top_h0, .int kind_a_top_h0, .int place_a_top_h0, .int width_a_top_h0, .int second_a_top_h0, .int parts_a_top_h0, .int innerParts_a_top_h0, .int innerPlace_a_top_h0, .int innerWidth_a_top_h0, .int signs_a_top_h0, .int waitingBelow_a_top_h0, .int limited_a_top_h0, .int targets_a_top_h0, .int lastBlock_a_top_h0]))]) hr (zb_n zb0) d_Rd_takeComma_99 [0, 1] rfl (by decide) ⟨rfl, zb0, rfl⟩
  · replace h := it_t c5 h
    refine j_aload_n d_Rd_takeComma_12 rfl 0 rfl ?_
    refine j_get ig_Rd rfl 0 rfl 5 (by decide) rfl m_174 rfl d_Rd_takeComma_13 ?_
    refine j_dup rfl d_Rd_takeComma_16 ?_
    refine j_get ig_Fr rfl 1 rfl 7 (by decide) rfl m_121 rfl d_Rd_takeComma_17 ?_
    refine j_iconst (v := 1) d_Rd_takeComma_20 (by decide) ?_
    refine j_iadd d_Rd_takeComma_21 ?_
    refine j_put (ws' := [(h0, .inr (2, [.ref a_scanner_h0, .ref a_draft_h0, .ref a_waiting_h0, .ref a_functions_h0, .ref a_bottom_h0, .ref a_top_h0, .ref a_text_h0, .int mode_h0, .int levels_h0, .int signs_h0, .int loops_h0, .int token_h0, .int fault_h0])), (a_top_h0, .inr (0, [V_below_a_top_h0, V_above_a_top_h0, .int kind_a_top_h0, .int place_a_top_h0, .int width_a_top_h0, .int second_a_top_h0, .int parts_a_top_h0, .int (innerParts_a_top_h0 + 1), .int innerPlace_a_top_h0, .int innerWidth_a_top_h0, .int signs_a_top_h0, .int waitingBelow_a_top_h0, .int limited_a_top_h0, .int targets_a_top_h0, .int lastBlock_a_top_h0]))]) ig_Fr tk_Fr nm_Fr rfl 1 rfl 7 (by decide) rfl m_121 rfl (tk_Fr 7 (by decide)) rfl rfl (Nat.le_of_ble_eq_true rfl) d_Rd_takeComma_22 rfl ?_
    refine j_aload_n d_Rd_takeComma_25 rfl 0 rfl ?_
    refine j_get ig_Rd rfl 0 rfl 5 (by decide) rfl m_174 rfl d_Rd_takeComma_26 ?_
    refine j_aload_n d_Rd_takeComma_29 rfl 0 rfl ?_
    refine j_get ig_Rd rfl 0 rfl 5 (by decide) rfl m_174 rfl d_Rd_takeComma_30 ?_
    refine j_get ig_Fr rfl 1 rfl 13 (by decide) rfl m_133 rfl d_Rd_takeComma_33 ?_
    refine j_if_eq (tgt := 50) d_Rd_takeComma_36 (by decide) (fun c12 => ?_) (fun c12 => ?_)
    · replace h := it_t c12 h
      refine j_iconst (v := 0) d_Rd_takeComma_50 (by decide) ?_
      refine j_put (ws' := [(h0, .inr (2, [.ref a_scanner_h0, .ref a_draft_h0, .ref a_waiting_h0, .ref a_functions_h0, .ref a_bottom_h0, .ref a_top_h0, .ref a_text_h0, .int mode_h0, .int levels_h0, .int signs_h0, .int loops_h0, .int token_h0, .int fault_h0])), (a_top_h0, .inr (0, [V_below_a_top_h0, V_above_a_top_h0, .int kind_a_top_h0, .int place_a_top_h0, .int width_a_top_h0, .int second_a_top_h0, .int parts_a_top_h0, .int (innerParts_a_top_h0 + 1), .int innerPlace_a_top_h0, .int innerWidth_a_top_h0, .int signs_a_top_h0, .int waitingBelow_a_top_h0, .int limited_a_top_h0, .int 0, .int lastBlock_a_top_h0]))]) ig_Fr tk_Fr nm_Fr rfl 1 rfl 13 (by decide) rfl m_133 rfl (tk_Fr 13 (by decide)) (zb_n zb0) (zb_fit zb0) (Nat.le_of_ble_eq_true rfl) d_Rd_takeComma_51 rfl ?_
      refine j_aload_n d_Rd_takeComma_54 rfl 0 rfl ?_
      refine j_bipush (v := 30) d_Rd_takeComma_55 (by decide) ?_
      refine j_callV (n := 1) (As := [.int 30]) (rest := []) (wr := [(a_top_h0, .inr (0, [V_below_a_top_h0, V_above_a_top_h0, .int kind_a_top_h0, .int place_a_top_h0, .int width_a_top_h0, .int second_a_top_h0, .int parts_a_top_h0, .int (innerParts_a_top_h0 + 1), .int innerPlace_a_top_h0, .int innerWidth_a_top_h0, .int signs_a_top_h0, .int waitingBelow_a_top_h0, .int limited_a_top_h0, .int 0, .int lastBlock_a_top_h0]))]) (c_Rd_goOn l D cI cB cJ cS h0 a_scanner_h0 a_draft_h0 a_waiting_h0 a_functions_h0 a_bottom_h0 a_top_h0 a_text_h0 30 mode_h0 levels_h0 signs_h0 loops_h0 token_h0 fault_h0  ) k_Rd_130 (by decide) ⟨Nat.le_of_ble_eq_true rfl, Nat.le_of_ble_eq_true rfl⟩ rfl 0 rfl [0] [1] rfl (by decide) rfl (by decide) (by decide) rfl rfl (Nat.le_of_ble_eq_true rfl) d_Rd_takeComma_57 ⟨Nat.le_of_ble_eq_true rfl, Nat.le_of_ble_eq_true rfl⟩ (fun v w hq => ?_)
      obtain ⟨rfl, _, rfl⟩ := hq
      refine j_norm (pc' := 60) (st' := [.int 1]) (ws' := [(a_top_h0, .inr (0, [V_below_a_top_h0, V_above_a_top_h0, .int kind_a_top_h0, .int place_a_top_h0, .int width_a_top_h0, .int second_a_top_h0, .int parts_a_top_h0, .int (innerParts_a_top_h0 + 1), .int innerPlace_a_top_h0, .int innerWidth_a_top_h0, .int signs_a_top_h0, .int waitingBelow_a_top_h0, .int limited_a_top_h0, .int 0, .int lastBlock_a_top_h0])), (h0, .inr (2, [.ref a_scanner_h0, .ref a_draft_h0, .ref a_waiting_h0, .ref a_functions_h0, .ref a_bottom_h0, .ref a_top_h0, .ref a_text_h0, .int 30, .int levels_h0, .int signs_h0, .int loops_h0, .int token_h0, .int fault_h0]))]) (cl' := 0) (sl' := 0) rfl rfl rfl rfl rfl rfl ?_
      replace h := Prod.mk.inj h
      obtain ⟨h9, h⟩ := h
      subst h9
      replace h := Prod.mk.inj h
      obtain ⟨h9, h⟩ := h
      subst h9
      replace h := Prod.mk.inj h
      obtain ⟨h9, h⟩ := h
      subst h9
      replace h := Prod.mk.inj h
      obtain ⟨h9, h⟩ := h
      subst h9
      subst h
      exact j_zret (w := [(h0, .inr (2, [.ref a_scanner_h0, .ref a_draft_h0, .ref a_waiting_h0, .ref a_functions_h0, .ref a_bottom_h0, .ref a_top_h0, .ref a_text_h0, .int 30, .int levels_h0, .int signs_h0, .int loops_h0, .int token_h0, .int fault_h0])), (a_top_h0, .inr (0, [V_below_a_top_h0, V_above_a_top_h0, .int kind_a_top_h0, .int place_a_top_h0, .int width_a_top_h0, .int second_a_top_h0, .int parts_a_top_h0, .int (innerParts_a_top_h0 + 1), .int innerPlace_a_top_h0, .int innerWidth_a_top_h0, .int signs_a_top_h0, .int waitingBelow_a_top_h0, .int limited_a_top_h0, .int 0, .int lastBlock_a_top_h0]))]) hr (zb_n zb1) d_Rd_takeComma_60 [1, 0] rfl (by decide) ⟨rfl, zb1, rfl⟩
    · replace h := it_f c12 h
      refine j_aload_n d_Rd_takeComma_39 rfl 0 rfl ?_
      obtain ⟨r14, k16⟩ : ∃ z, (F_Rd_hasRoomForName mode_h0 levels_h0 signs_h0 loops_h0 token_h0 fault_h0 kind_a_top_h0 place_a_top_h0 width_a_top_h0 second_a_top_h0 parts_a_top_h0 (innerParts_a_top_h0 + 1) innerPlace_a_top_h0 innerWidth_a_top_h0 signs_a_top_h0 waitingBelow_a_top_h0 limited_a_top_h0 targets_a_top_h0 lastBlock_a_top_h0) = z := ⟨_, rfl⟩
      replace h := nm_at k16 h
      refine j_callV (n := 0) (As := []) (rest := [.ref a_top_h0]) (wr := []) (c_Rd_hasRoomForName l D cI cB cJ cS h0 a_scanner_h0 a_draft_h0 a_waiting_h0 a_functions_h0 a_bottom_h0 a_top_h0 a_text_h0 V_below_a_top_h0 V_above_a_top_h0 mode_h0 levels_h0 signs_h0 loops_h0 token_h0 fault_h0 kind_a_top_h0 place_a_top_h0 width_a_top_h0 second_a_top_h0 parts_a_top_h0 (innerParts_a_top_h0 + 1) innerPlace_a_top_h0 innerWidth_a_top_h0 signs_a_top_h0 waitingBelow_a_top_h0 limited_a_top_h0 targets_a_top_h0 lastBlock_a_top_h0  r14 k16) k_Rd_247 (by decide) ⟨Nat.le_of_ble_eq_true rfl, Nat.le_of_ble_eq_true rfl⟩ rfl 0 rfl [0, 1] [] rfl (by decide) rfl (by decide) (by decide) rfl rfl (Nat.le_of_ble_eq_true rfl) d_Rd_takeComma_40 ⟨Nat.le_of_ble_eq_true rfl, Nat.le_of_ble_eq_true rfl⟩ (fun v w hq => ?_)
      obtain ⟨rfl, z15, rfl⟩ := hq
      refine j_norm (pc' := 43) (st' := [.int r14, .ref a_top_h0]) (ws' := [(h0, .inr (2, [.ref a_scanner_h0, .ref a_draft_h0, .ref a_waiting_h0, .ref a_functions_h0, .ref a_bottom_h0, .ref a_top_h0, .ref a_text_h0, .int mode_h0, .int levels_h0, .int signs_h0, .int loops_h0, .int token_h0, .int fault_h0])), (a_top_h0, .inr (0, [V_below_a_top_h0, V_above_a_top_h0, .int kind_a_top_h0, .int place_a_top_h0, .int width_a_top_h0, .int second_a_top_h0, .int parts_a_top_h0, .int (innerParts_a_top_h0 + 1), .int innerPlace_a_top_h0, .int innerWidth_a_top_h0, .int signs_a_top_h0, .int waitingBelow_a_top_h0, .int limited_a_top_h0, .int targets_a_top_h0, .int lastBlock_a_top_h0]))]) (cl' := 0) (sl' := 0) rfl rfl rfl rfl rfl rfl ?_
      refine j_if_eq (tgt := 50) d_Rd_takeComma_43 (by decide) (fun c17 => ?_) (fun c17 => ?_)
      · replace h := it_t c17 h
        refine j_iconst (v := 0) d_Rd_takeComma_50 (by decide) ?_
        refine j_put (ws' := [(h0, .inr (2, [.ref a_scanner_h0, .ref a_draft_h0, .ref a_waiting_h0, .ref a_functions_h0, .ref a_bottom_h0, .ref a_top_h0, .ref a_text_h0, .int mode_h0, .int levels_h0, .int signs_h0, .int loops_h0, .int token_h0, .int fault_h0])), (a_top_h0, .inr (0, [V_below_a_top_h0, V_above_a_top_h0, .int kind_a_top_h0, .int place_a_top_h0, .int width_a_top_h0, .int second_a_top_h0, .int parts_a_top_h0, .int (innerParts_a_top_h0 + 1), .int innerPlace_a_top_h0, .int innerWidth_a_top_h0, .int signs_a_top_h0, .int waitingBelow_a_top_h0, .int limited_a_top_h0, .int 0, .int lastBlock_a_top_h0]))]) ig_Fr tk_Fr nm_Fr rfl 1 rfl 13 (by decide) rfl m_133 rfl (tk_Fr 13 (by decide)) (zb_n zb0) (zb_fit zb0) (Nat.le_of_ble_eq_true rfl) d_Rd_takeComma_51 rfl ?_
        refine j_aload_n d_Rd_takeComma_54 rfl 0 rfl ?_
        refine j_bipush (v := 30) d_Rd_takeComma_55 (by decide) ?_
        refine j_callV (n := 1) (As := [.int 30]) (rest := []) (wr := [(a_top_h0, .inr (0, [V_below_a_top_h0, V_above_a_top_h0, .int kind_a_top_h0, .int place_a_top_h0, .int width_a_top_h0, .int second_a_top_h0, .int parts_a_top_h0, .int (innerParts_a_top_h0 + 1), .int innerPlace_a_top_h0, .int innerWidth_a_top_h0, .int signs_a_top_h0, .int waitingBelow_a_top_h0, .int limited_a_top_h0, .int 0, .int lastBlock_a_top_h0]))]) (c_Rd_goOn l D cI cB cJ cS h0 a_scanner_h0 a_draft_h0 a_waiting_h0 a_functions_h0 a_bottom_h0 a_top_h0 a_text_h0 30 mode_h0 levels_h0 signs_h0 loops_h0 token_h0 fault_h0  ) k_Rd_130 (by decide) ⟨Nat.le_of_ble_eq_true rfl, Nat.le_of_ble_eq_true rfl⟩ rfl 0 rfl [0] [1] rfl (by decide) rfl (by decide) (by decide) rfl rfl (Nat.le_of_ble_eq_true rfl) d_Rd_takeComma_57 ⟨Nat.le_of_ble_eq_true rfl, Nat.le_of_ble_eq_true rfl⟩ (fun v w hq => ?_)
        obtain ⟨rfl, _, rfl⟩ := hq
        refine j_norm (pc' := 60) (st' := [.int 1]) (ws' := [(a_top_h0, .inr (0, [V_below_a_top_h0, V_above_a_top_h0, .int kind_a_top_h0, .int place_a_top_h0, .int width_a_top_h0, .int second_a_top_h0, .int parts_a_top_h0, .int (innerParts_a_top_h0 + 1), .int innerPlace_a_top_h0, .int innerWidth_a_top_h0, .int signs_a_top_h0, .int waitingBelow_a_top_h0, .int limited_a_top_h0, .int 0, .int lastBlock_a_top_h0])), (h0, .inr (2, [.ref a_scanner_h0, .ref a_draft_h0, .ref a_waiting_h0, .ref a_functions_h0, .ref a_bottom_h0, .ref a_top_h0, .ref a_text_h0, .int 30, .int levels_h0, .int signs_h0, .int loops_h0, .int token_h0, .int fault_h0]))]) (cl' := 0) (sl' := 0) rfl rfl rfl rfl rfl rfl ?_
        replace h := Prod.mk.inj h
        obtain ⟨h9, h⟩ := h
        subst h9
        replace h := Prod.mk.inj h
        obtain ⟨h9, h⟩ := h
        subst h9
        replace h := Prod.mk.inj h
        obtain ⟨h9, h⟩ := h
        subst h9
        replace h := Prod.mk.inj h
        obtain ⟨h9, h⟩ := h
        subst h9
        subst h
        exact j_zret (w := [(h0, .inr (2, [.ref a_scanner_h0, .ref a_draft_h0, .ref a_waiting_h0, .ref a_functions_h0, .ref a_bottom_h0, .ref a_top_h0, .ref a_text_h0, .int 30, .int levels_h0, .int signs_h0, .int loops_h0, .int token_h0, .int fault_h0])), (a_top_h0, .inr (0, [V_below_a_top_h0, V_above_a_top_h0, .int kind_a_top_h0, .int place_a_top_h0, .int width_a_top_h0, .int second_a_top_h0, .int parts_a_top_h0, .int (innerParts_a_top_h0 + 1), .int innerPlace_a_top_h0, .int innerWidth_a_top_h0, .int signs_a_top_h0, .int waitingBelow_a_top_h0, .int limited_a_top_h0, .int 0, .int lastBlock_a_top_h0]))]) hr (zb_n zb1) d_Rd_takeComma_60 [1, 0] rfl (by decide) ⟨rfl, zb1, rfl⟩
      · replace h := it_f c17 h
        refine j_iconst (v := 1) d_Rd_takeComma_46 (by decide) ?_
        refine j_goto (tgt := 51) d_Rd_takeComma_47 (by decide) ?_
        refine j_put (ws' := [(h0, .inr (2, [.ref a_scanner_h0, .ref a_draft_h0, .ref a_waiting_h0, .ref a_functions_h0, .ref a_bottom_h0, .ref a_top_h0, .ref a_text_h0, .int mode_h0, .int levels_h0, .int signs_h0, .int loops_h0, .int token_h0, .int fault_h0])), (a_top_h0, .inr (0, [V_below_a_top_h0, V_above_a_top_h0, .int kind_a_top_h0, .int place_a_top_h0, .int width_a_top_h0, .int second_a_top_h0, .int parts_a_top_h0, .int (innerParts_a_top_h0 + 1), .int innerPlace_a_top_h0, .int innerWidth_a_top_h0, .int signs_a_top_h0, .int waitingBelow_a_top_h0, .int limited_a_top_h0, .int 1, .int lastBlock_a_top_h0]))]) ig_Fr tk_Fr nm_Fr rfl 1 rfl 13 (by decide) rfl m_133 rfl (tk_Fr 13 (by decide)) (zb_n zb1) (zb_fit zb1) (Nat.le_of_ble_eq_true rfl) d_Rd_takeComma_51 rfl ?_
        refine j_aload_n d_Rd_takeComma_54 rfl 0 rfl ?_
        refine j_bipush (v := 30) d_Rd_takeComma_55 (by decide) ?_
        refine j_callV (n := 1) (As := [.int 30]) (rest := []) (wr := [(a_top_h0, .inr (0, [V_below_a_top_h0, V_above_a_top_h0, .int kind_a_top_h0, .int place_a_top_h0, .int width_a_top_h0, .int second_a_top_h0, .int parts_a_top_h0, .int (innerParts_a_top_h0 + 1), .int innerPlace_a_top_h0, .int innerWidth_a_top_h0, .int signs_a_top_h0, .int waitingBelow_a_top_h0, .int limited_a_top_h0, .int 1, .int lastBlock_a_top_h0]))]) (c_Rd_goOn l D cI cB cJ cS h0 a_scanner_h0 a_draft_h0 a_waiting_h0 a_functions_h0 a_bottom_h0 a_top_h0 a_text_h0 30 mode_h0 levels_h0 signs_h0 loops_h0 token_h0 fault_h0  ) k_Rd_130 (by decide) ⟨Nat.le_of_ble_eq_true rfl, Nat.le_of_ble_eq_true rfl⟩ rfl 0 rfl [0] [1] rfl (by decide) rfl (by decide) (by decide) rfl rfl (Nat.le_of_ble_eq_true rfl) d_Rd_takeComma_57 ⟨Nat.le_of_ble_eq_true rfl, Nat.le_of_ble_eq_true rfl⟩ (fun v w hq => ?_)
        obtain ⟨rfl, _, rfl⟩ := hq
        refine j_norm (pc' := 60) (st' := [.int 1]) (ws' := [(a_top_h0, .inr (0, [V_below_a_top_h0, V_above_a_top_h0, .int kind_a_top_h0, .int place_a_top_h0, .int width_a_top_h0, .int second_a_top_h0, .int parts_a_top_h0, .int (innerParts_a_top_h0 + 1), .int innerPlace_a_top_h0, .int innerWidth_a_top_h0, .int signs_a_top_h0, .int waitingBelow_a_top_h0, .int limited_a_top_h0, .int 1, .int lastBlock_a_top_h0])), (h0, .inr (2, [.ref a_scanner_h0, .ref a_draft_h0, .ref a_waiting_h0, .ref a_functions_h0, .ref a_bottom_h0, .ref a_top_h0, .ref a_text_h0, .int 30, .int levels_h0, .int signs_h0, .int loops_h0, .int token_h0, .int fault_h0]))]) (cl' := 0) (sl' := 0) rfl rfl rfl rfl rfl rfl ?_
        replace h := Prod.mk.inj h
        obtain ⟨h9, h⟩ := h
        subst h9
        replace h := Prod.mk.inj h
        obtain ⟨h9, h⟩ := h
        subst h9
        replace h := Prod.mk.inj h
        obtain ⟨h9, h⟩ := h
        subst h9
        replace h := Prod.mk.inj h
        obtain ⟨h9, h⟩ := h
        subst h9
        subst h
        exact j_zret (w := [(h0, .inr (2, [.ref a_scanner_h0, .ref a_draft_h0, .ref a_waiting_h0, .ref a_functions_h0, .ref a_bottom_h0, .ref a_top_h0, .ref a_text_h0, .int 30, .int levels_h0, .int signs_h0, .int loops_h0, .int token_h0, .int fault_h0])), (a_top_h0, .inr (0, [V_below_a_top_h0, V_above_a_top_h0, .int kind_a_top_h0, .int place_a_top_h0, .int width_a_top_h0, .int second_a_top_h0, .int parts_a_top_h0, .int (innerParts_a_top_h0 + 1), .int innerPlace_a_top_h0, .int innerWidth_a_top_h0, .int signs_a_top_h0, .int waitingBelow_a_top_h0, .int limited_a_top_h0, .int 1, .int lastBlock_a_top_h0]))]) hr (zb_n zb1) d_Rd_takeComma_60 [1, 0] rfl (by decide) ⟨rfl, zb1, rfl⟩
noncomputable def F_Rd_endPlain (p1 : Int32) (fn : Nat) (fd : Nat) (fcf : Nat → FrC) (mode_h0 : Int32) (levels_h0 : Int32) (signs_h0 : Int32) (loops_h0 : Int32) (token_h0 : Int32) (fault_h0 : Int32) (kind_t : Int32) (place_t : Int32) (width_t : Int32) (second_t : Int32) (parts_t : Int32) (innerParts_t : Int32) (innerPlace_t : Int32) (innerWidth_t : Int32) (signs_t : Int32) (waitingBelow_t : Int32) (limited_t : Int32) (targets_t : Int32) (lastBlock_t : Int32) (count_a_draft_h0 : Int32) (n_a_cells_a_draft_h0 : Nat) (b_a_cells_a_draft_h0 : Nat → Int32) : Option ((Nat × Nat × (Nat → FrC) × Int32 × Int32 × Int32 × Int32 × Int32 × Int32 × Int32 × Int32 × Int32 × Int32 × Int32 × Int32 × Int32 × Int32 × Nat × (Nat → Int32)) × Nat × Nat) :=
  bw (F_Nd_add kind_t place_t second_t p1 width_t count_a_draft_h0 n_a_cells_a_draft_h0 b_a_cells_a_draft_h0) fun ⟨r1, r2, r3⟩ =>
  Option.bind (F_Rd_pop fn fd fcf mode_h0 levels_h0 signs_h0 loops_h0 token_h0 fault_h0 kind_t place_t width_t second_t parts_t innerParts_t innerPlace_t innerWidth_t signs_t waitingBelow_t limited_t targets_t lastBlock_t) fun ⟨r10, r11, r12, r13, r14, r15, r16, r17, r18, r19, r20, r21, r22, r23, r24, r25⟩ =>
  (some ((r10, r11, r12, r13, r14, r15, r16, r17, r18 + 1, r19, r20, r21, r22, r23, r24, r25, r1, r2, r3), 0, 0))
theorem d_Rd_endPlain_0 : decode prog_6_method_64_code 0 = .ok (.aload_n 0, 1) := by decide +kernel
theorem d_Rd_endPlain_1 : decode prog_6_method_64_code 1 = .ok (.getfield 23, 3) := by decide +kernel
theorem d_Rd_endPlain_4 : decode prog_6_method_64_code 4 = .ok (.aload_n 0, 1) := by decide +kernel
theorem d_Rd_endPlain_5 : decode prog_6_method_64_code 5 = .ok (.getfield 46, 3) := by decide +kernel
theorem d_Rd_endPlain_8 : decode prog_6_method_64_code 8 = .ok (.getfield 86, 3) := by decide +kernel
theorem d_Rd_endPlain_11 : decode prog_6_method_64_code 11 = .ok (.aload_n 0, 1) := by decide +kernel
theorem d_Rd_endPlain_12 : decode prog_6_method_64_code 12 = .ok (.getfield 46, 3) := by decide +kernel
theorem d_Rd_endPlain_15 : decode prog_6_method_64_code 15 = .ok (.getfield 227, 3) := by decide +kernel
theorem d_Rd_endPlain_18 : decode prog_6_method_64_code 18 = .ok (.aload_n 0, 1) := by decide +kernel
theorem d_Rd_endPlain_19 : decode prog_6_method_64_code 19 = .ok (.getfield 46, 3) := by decide +kernel
theorem d_Rd_endPlain_22 : decode prog_6_method_64_code 22 = .ok (.getfield 259, 3) := by decide +kernel
theorem d_Rd_endPlain_25 : decode prog_6_method_64_code 25 = .ok (.iload_n 1, 1) := by decide +kernel
theorem d_Rd_endPlain_26 : decode prog_6_method_64_code 26 = .ok (.aload_n 0, 1) := by decide +kernel
theorem d_Rd_endPlain_27 : decode prog_6_method_64_code 27 = .ok (.getfield 46, 3) := by decide +kernel
theorem d_Rd_endPlain_30 : decode prog_6_method_64_code 30 = .ok (.getfield 230, 3) := by decide +kernel
theorem d_Rd_endPlain_33 : decode prog_6_method_64_code 33 = .ok (.invokevirtual 93, 3) := by decide +kernel
theorem d_Rd_endPlain_36 : decode prog_6_method_64_code 36 = .ok (.aload_n 0, 1) := by decide +kernel
theorem d_Rd_endPlain_37 : decode prog_6_method_64_code 37 = .ok (.invokevirtual 232, 3) := by decide +kernel
theorem d_Rd_endPlain_40 : decode prog_6_method_64_code 40 = .ok (.aload_n 0, 1) := by decide +kernel
theorem d_Rd_endPlain_41 : decode prog_6_method_64_code 41 = .ok (.invokevirtual 183, 3) := by decide +kernel
theorem d_Rd_endPlain_44 : decode prog_6_method_64_code 44 = .ok (.ireturn, 1) := by decide +kernel
set_option maxHeartbeats 4000000 in
set_option maxRecDepth 100000 in
theorem c_Rd_endPlain (l : Launch) (D : va_G) (cI cB cJ cS : ClassId) (h0 : Nat) (fad : Nat → Nat) (a_scanner_h0 : Nat) (a_draft_h0 : Nat) (a_waiting_h0 : Nat) (a_functions_h0 : Nat) (a_text_h0 : Nat) (a_cells_a_draft_h0 : Nat) (p1 : Int32) (fn : Nat) (fd : Nat) (fcf : Nat → FrC) (mode_h0 : Int32) (levels_h0 : Int32) (signs_h0 : Int32) (loops_h0 : Int32) (token_h0 : Int32) (fault_h0 : Int32) (kind_t : Int32) (place_t : Int32) (width_t : Int32) (second_t : Int32) (parts_t : Int32) (innerParts_t : Int32) (innerPlace_t : Int32) (innerWidth_t : Int32) (signs_t : Int32) (waitingBelow_t : Int32) (limited_t : Int32) (targets_t : Int32) (lastBlock_t : Int32) (count_a_draft_h0 : Int32) (n_a_cells_a_draft_h0 : Nat) (b_a_cells_a_draft_h0 : Nat → Int32) (on_p : Nat) (od_p : Nat) (ocf_p : Nat → FrC) (o_1_2 : Int32) (o_1_3 : Int32) (o_1_4 : Int32) (o_1_5 : Int32) (o_1_6 : Int32) (o_1_7 : Int32) (o_1_8 : Int32) (o_1_9 : Int32) (o_1_10 : Int32) (o_1_11 : Int32) (o_1_12 : Int32) (o_1_13 : Int32) (o_1_14 : Int32) (o_2_1 : Int32) (on_nq_2_0 : Nat) (ob_nq_2_0 : Nat → Int32) (mc ms : Nat) (h : F_Rd_endPlain p1 fn fd fcf mode_h0 levels_h0 signs_h0 loops_h0 token_h0 fault_h0 kind_t place_t width_t second_t parts_t innerParts_t innerPlace_t innerWidth_t signs_t waitingBelow_t limited_t targets_t lastBlock_t count_a_draft_h0 n_a_cells_a_draft_h0 b_a_cells_a_draft_h0 = some ((on_p, od_p, ocf_p, o_1_2, o_1_3, o_1_4, o_1_5, o_1_6, o_1_7, o_1_8, o_1_9, o_1_10, o_1_11, o_1_12, o_1_13, o_1_14, o_2_1, on_nq_2_0, ob_nq_2_0), mc, ms)) : Ct l D (gT cI cB cJ cS) y_Rd_endPlain prog_6_method_64_code 2 (Option.some Jvm.ClassFile.FieldType.boolean) 3 110 mc ms [.ref h0, .int p1] ((h0, .inr (2, [.ref a_scanner_h0, .ref a_draft_h0, .ref a_waiting_h0, .ref a_functions_h0, .ref (fad 0), .ref (fad fd), .ref a_text_h0, .int mode_h0, .int levels_h0, .int signs_h0, .int loops_h0, .int token_h0, .int fault_h0])) :: ((fad fd), .inr (0, [(frB fad fd), (frA fad fn fd), .int kind_t, .int place_t, .int width_t, .int second_t, .int parts_t, .int innerParts_t, .int innerPlace_t, .int innerWidth_t, .int signs_t, .int waitingBelow_t, .int limited_t, .int targets_t, .int lastBlock_t])) :: (a_draft_h0, .inr (1, [.ref a_cells_a_draft_h0, .int count_a_draft_h0])) :: (a_cells_a_draft_h0, .inl (cI, n_a_cells_a_draft_h0, .inl b_a_cells_a_draft_h0)) :: fpo fad fn fd fcf) (fun v w => ∃ nad : Nat → Nat, ∃ nq_2_0 : Nat, v = some (.int 1) ∧ zb 1 ∧ w = ((h0, .inr (2, [.ref a_scanner_h0, .ref a_draft_h0, .ref a_waiting_h0, .ref a_functions_h0, .ref (nad 0), .ref (nad od_p), .ref a_text_h0, .int 0, .int levels_h0, .int signs_t, .int loops_h0, .int token_h0, .int fault_h0])) :: ((nad od_p), .inr (0, [(frB nad od_p), (frA nad on_p od_p), .int o_1_2, .int o_1_3, .int o_1_4, .int o_1_5, .int o_1_6, .int o_1_7, .int o_1_8, .int o_1_9, .int o_1_10, .int o_1_11, .int o_1_12, .int o_1_13, .int o_1_14])) :: (a_draft_h0, .inr (1, [.ref nq_2_0, .int o_2_1])) :: (nq_2_0, .inl (cI, on_nq_2_0, .inl ob_nq_2_0)) :: fpo nad on_p od_p ocf_p)) := by
  refine Ct.mk (by decide) (Nat.le_of_ble_eq_true rfl) ?_
  intro p e s m below meth c hr hnm
  refine j_norm (pc' := 0) (lv' := [(0, .ref h0), (1, .int p1)]) (st' := []) (ws' := ((h0, .inr (2, [.ref a_scanner_h0, .ref a_draft_h0, .ref a_waiting_h0, .ref a_functions_h0, .ref (fad 0), .ref (fad fd), .ref a_text_h0, .int mode_h0, .int levels_h0, .int signs_h0, .int loops_h0, .int token_h0, .int fault_h0])) :: ((fad fd), .inr (0, [(frB fad fd), (frA fad fn fd), .int kind_t, .int place_t, .int width_t, .int second_t, .int parts_t, .int innerParts_t, .int innerPlace_t, .int innerWidth_t, .int signs_t, .int waitingBelow_t, .int limited_t, .int targets_t, .int lastBlock_t])) :: (a_draft_h0, .inr (1, [.ref a_cells_a_draft_h0, .int count_a_draft_h0])) :: (a_cells_a_draft_h0, .inl (cI, n_a_cells_a_draft_h0, .inl b_a_cells_a_draft_h0)) :: fpo fad fn fd fcf)) (cl' := 0) (sl' := 0) rfl rfl rfl rfl rfl rfl ?_
  unfold F_Rd_endPlain at h
  have hC : 0 + mc ≤ mc := by omega
  have hS : 0 + ms ≤ ms := by omega
  refine j_aload_n d_Rd_endPlain_0 rfl 0 rfl ?_
  refine j_get ig_Rd rfl 0 rfl 1 (by decide) rfl m_170 rfl d_Rd_endPlain_1 ?_
  refine j_aload_n d_Rd_endPlain_4 rfl 0 rfl ?_
  refine j_get ig_Rd rfl 0 rfl 5 (by decide) rfl m_174 rfl d_Rd_endPlain_5 ?_
  refine j_get ig_Fr rfl 1 rfl 2 (by decide) rfl m_111 rfl d_Rd_endPlain_8 ?_
  refine j_aload_n d_Rd_endPlain_11 rfl 0 rfl ?_
  refine j_get ig_Rd rfl 0 rfl 5 (by decide) rfl m_174 rfl d_Rd_endPlain_12 ?_
  refine j_get ig_Fr rfl 1 rfl 3 (by decide) rfl m_113 rfl d_Rd_endPlain_15 ?_
  refine j_aload_n d_Rd_endPlain_18 rfl 0 rfl ?_
  refine j_get ig_Rd rfl 0 rfl 5 (by decide) rfl m_174 rfl d_Rd_endPlain_19 ?_
  refine j_get ig_Fr rfl 1 rfl 5 (by decide) rfl m_117 rfl d_Rd_endPlain_22 ?_
  refine j_iload_n d_Rd_endPlain_25 rfl 1 rfl ?_
  refine j_aload_n d_Rd_endPlain_26 rfl 0 rfl ?_
  refine j_get ig_Rd rfl 0 rfl 5 (by decide) rfl m_174 rfl d_Rd_endPlain_27 ?_
  refine j_get ig_Fr rfl 1 rfl 4 (by decide) rfl m_115 rfl d_Rd_endPlain_30 ?_
  replace h := bw_s h
  obtain ⟨⟨r1, r2, r3⟩, C5, S6, C7, S8, k9, h, e1, e2⟩ := h
  replace hC : 0 + C5 + C7 ≤ mc := by omega
  replace hS : 0 + S6 + S8 ≤ ms := by omega
  clear e1 e2
  refine j_callVg (n := 5) (As := [.int kind_t, .int place_t, .int second_t, .int p1, .int width_t]) (rest := []) (wr := ([(h0, .inr (2, [.ref a_scanner_h0, .ref a_draft_h0, .ref a_waiting_h0, .ref a_functions_h0, .ref (fad 0), .ref (fad fd), .ref a_text_h0, .int mode_h0, .int levels_h0, .int signs_h0, .int loops_h0, .int token_h0, .int fault_h0])), ((fad fd), .inr (0, [(frB fad fd), (frA fad fn fd), .int kind_t, .int place_t, .int width_t, .int second_t, .int parts_t, .int innerParts_t, .int innerPlace_t, .int innerWidth_t, .int signs_t, .int waitingBelow_t, .int limited_t, .int targets_t, .int lastBlock_t]))] ++ fpo fad fn fd fcf)) (c_Nd_add l D cI cB cJ cS a_draft_h0 a_cells_a_draft_h0 kind_t place_t second_t p1 width_t count_a_draft_h0 n_a_cells_a_draft_h0 b_a_cells_a_draft_h0  r1 r2 r3 C5 S6 k9) k_Rd_93 (by decide) ⟨Nat.le_of_ble_eq_true rfl, Nat.le_of_ble_eq_true rfl⟩ rfl 0 rfl (pk_mid (wr := [(h0, .inr (2, [.ref a_scanner_h0, .ref a_draft_h0, .ref a_waiting_h0, .ref a_functions_h0, .ref (fad 0), .ref (fad fd), .ref a_text_h0, .int mode_h0, .int levels_h0, .int signs_h0, .int loops_h0, .int token_h0, .int fault_h0])), ((fad fd), .inr (0, [(frB fad fd), (frA fad fn fd), .int kind_t, .int place_t, .int width_t, .int second_t, .int parts_t, .int innerParts_t, .int innerPlace_t, .int innerWidth_t, .int signs_t, .int waitingBelow_t, .int limited_t, .int targets_t, .int lastBlock_t]))]) (w0 := [(a_draft_h0, .inr (1, [.ref a_cells_a_draft_h0, .int count_a_draft_h0])), (a_cells_a_draft_h0, .inl (cI, n_a_cells_a_draft_h0, .inl b_a_cells_a_draft_h0))]) (pl := fpo fad fn fd fcf) [0, 1, 2, 3] 4 rfl rfl (by decide)) rfl rfl (Nat.le_of_ble_eq_true rfl) d_Rd_endPlain_33 ⟨show 0 + C5 ≤ mc by omega, show 0 + S6 ≤ ms by omega⟩ (fun v w hq => ?_)
  obtain ⟨q4, rfl, rfl⟩ := hq
  refine j_perm (ws' := ((h0, .inr (2, [.ref a_scanner_h0, .ref a_draft_h0, .ref a_waiting_h0, .ref a_functions_h0, .ref (fad 0), .ref (fad fd), .ref a_text_h0, .int mode_h0, .int levels_h0, .int signs_h0, .int loops_h0, .int token_h0, .int fault_h0])) :: ((fad fd), .inr (0, [(frB fad fd), (frA fad fn fd), .int kind_t, .int place_t, .int width_t, .int second_t, .int parts_t, .int innerParts_t, .int innerPlace_t, .int innerWidth_t, .int signs_t, .int waitingBelow_t, .int limited_t, .int targets_t, .int lastBlock_t])) :: (a_draft_h0, .inr (1, [.ref q4, .int r1])) :: (q4, .inl (cI, r2, .inl r3)) :: fpo fad fn fd fcf)) (pm_eq (a := [(h0, .inr (2, [.ref a_scanner_h0, .ref a_draft_h0, .ref a_waiting_h0, .ref a_functions_h0, .ref (fad 0), .ref (fad fd), .ref a_text_h0, .int mode_h0, .int levels_h0, .int signs_h0, .int loops_h0, .int token_h0, .int fault_h0])), ((fad fd), .inr (0, [(frB fad fd), (frA fad fn fd), .int kind_t, .int place_t, .int width_t, .int second_t, .int parts_t, .int innerParts_t, .int innerPlace_t, .int innerWidth_t, .int signs_t, .int waitingBelow_t, .int limited_t, .int targets_t, .int lastBlock_t]))]) (b := fpo fad fn fd fcf) (c := [(a_draft_h0, .inr (1, [.ref q4, .int r1])), (q4, .inl (cI, r2, .inl r3))]) rfl) ?_
  refine j_norm (pc' := 36) (st' := []) (ws' := ((h0, .inr (2, [.ref a_scanner_h0, .ref a_draft_h0, .ref a_waiting_h0, .ref a_functions_h0, .ref (fad 0), .ref (fad fd), .ref a_text_h0, .int mode_h0, .int levels_h0, .int signs_h0, .int loops_h0, .int token_h0, .int fault_h0])) :: ((fad fd), .inr (0, [(frB fad fd), (frA fad fn fd), .int kind_t, .int place_t, .int width_t, .int second_t, .int parts_t, .int innerParts_t, .int innerPlace_t, .int innerWidth_t, .int signs_t, .int waitingBelow_t, .int limited_t, .int targets_t, .int lastBlock_t])) :: (a_draft_h0, .inr (1, [.ref q4, .int r1])) :: (q4, .inl (cI, r2, .inl r3)) :: fpo fad fn fd fcf)) (cl' := 0 + C5) (sl' := 0 + S6) rfl rfl rfl rfl rfl rfl ?_
  refine j_aload_n d_Rd_endPlain_36 rfl 0 rfl ?_
  replace h := bd_s h
  obtain ⟨⟨r10, r11, r12, r13, r14, r15, r16, r17, r18, r19, r20, r21, r22, r23, r24, r25⟩, k27, h⟩ := h
  refine j_callVg (n := 0) (As := []) (rest := []) (wr := [(a_draft_h0, .inr (1, [.ref q4, .int r1])), (q4, .inl (cI, r2, .inl r3))]) (c_Rd_pop l D cI cB cJ cS h0 fad a_scanner_h0 a_draft_h0 a_waiting_h0 a_functions_h0 a_text_h0 fn fd fcf mode_h0 levels_h0 signs_h0 loops_h0 token_h0 fault_h0 kind_t place_t width_t second_t parts_t innerParts_t innerPlace_t innerWidth_t signs_t waitingBelow_t limited_t targets_t lastBlock_t  r10 r11 r12 r13 r14 r15 r16 r17 r18 r19 r20 r21 r22 r23 r24 r25 k27) k_Rd_232 (by decide) ⟨Nat.le_of_ble_eq_true rfl, Nat.le_of_ble_eq_true rfl⟩ rfl 0 rfl (pk_app (wr := [(a_draft_h0, .inr (1, [.ref q4, .int r1])), (q4, .inl (cI, r2, .inl r3))]) (w0 := [(h0, .inr (2, [.ref a_scanner_h0, .ref a_draft_h0, .ref a_waiting_h0, .ref a_functions_h0, .ref (fad 0), .ref (fad fd), .ref a_text_h0, .int mode_h0, .int levels_h0, .int signs_h0, .int loops_h0, .int token_h0, .int fault_h0])), ((fad fd), .inr (0, [(frB fad fd), (frA fad fn fd), .int kind_t, .int place_t, .int width_t, .int second_t, .int parts_t, .int innerParts_t, .int innerPlace_t, .int innerWidth_t, .int signs_t, .int waitingBelow_t, .int limited_t, .int targets_t, .int lastBlock_t]))]) (pl := fpo fad fn fd fcf) [2, 3, 0, 1] 4 rfl rfl rfl (by decide)) rfl rfl (Nat.le_of_ble_eq_true rfl) d_Rd_endPlain_37 ⟨show 0 + C5 + 0 ≤ mc by omega, show 0 + S6 + 0 ≤ ms by omega⟩ (fun v w hq => ?_)
  obtain ⟨a26, rfl, rfl⟩ := hq
  refine j_norm (pc' := 40) (st' := []) (ws' := ((a_draft_h0, .inr (1, [.ref q4, .int r1])) :: (q4, .inl (cI, r2, .inl r3)) :: (h0, .inr (2, [.ref a_scanner_h0, .ref a_draft_h0, .ref a_waiting_h0, .ref a_functions_h0, .ref (a26 0), .ref (a26 r11), .ref a_text_h0, .int mode_h0, .int levels_h0, .int signs_t, .int loops_h0, .int token_h0, .int fault_h0])) :: ((a26 r11), .inr (0, [(frB a26 r11), (frA a26 r10 r11), .int r13, .int r14, .int r15, .int r16, .int r17, .int r18, .int r19, .int r20, .int r21, .int r22, .int r23, .int r24, .int r25])) :: fpo a26 r10 r11 r12)) (cl' := 0 + C5) (sl' := 0 + S6) rfl rfl rfl rfl rfl rfl ?_
  refine j_aload_n d_Rd_endPlain_40 rfl 0 rfl ?_
  refine j_callVg (n := 0) (As := []) (rest := []) (wr := ([(a_draft_h0, .inr (1, [.ref q4, .int r1])), (q4, .inl (cI, r2, .inl r3))] ++ fpo a26 r10 r11 r12)) (c_Rd_endStatement l D cI cB cJ cS h0 a_scanner_h0 a_draft_h0 a_waiting_h0 a_functions_h0 (a26 0) (a26 r11) a_text_h0 (frB a26 r11) (frA a26 r10 r11) mode_h0 levels_h0 signs_t loops_h0 token_h0 fault_h0 r13 r14 r15 r16 r17 r18 r19 r20 r21 r22 r23 r24 r25  ) k_Rd_183 (by decide) ⟨Nat.le_of_ble_eq_true rfl, Nat.le_of_ble_eq_true rfl⟩ rfl 0 rfl (pk_mid (wr := [(a_draft_h0, .inr (1, [.ref q4, .int r1])), (q4, .inl (cI, r2, .inl r3))]) (w0 := [(h0, .inr (2, [.ref a_scanner_h0, .ref a_draft_h0, .ref a_waiting_h0, .ref a_functions_h0, .ref (a26 0), .ref (a26 r11), .ref a_text_h0, .int mode_h0, .int levels_h0, .int signs_t, .int loops_h0, .int token_h0, .int fault_h0])), ((a26 r11), .inr (0, [(frB a26 r11), (frA a26 r10 r11), .int r13, .int r14, .int r15, .int r16, .int r17, .int r18, .int r19, .int r20, .int r21, .int r22, .int r23, .int r24, .int r25]))]) (pl := fpo a26 r10 r11 r12) [0, 1, 2, 3] 4 rfl rfl (by decide)) rfl rfl (Nat.le_of_ble_eq_true rfl) d_Rd_endPlain_41 ⟨show 0 + C5 + 0 ≤ mc by omega, show 0 + S6 + 0 ≤ ms by omega⟩ (fun v w hq => ?_)
  obtain ⟨rfl, _, rfl⟩ := hq
  refine j_perm (ws' := ((a_draft_h0, .inr (1, [.ref q4, .int r1])) :: (q4, .inl (cI, r2, .inl r3)) :: (h0, .inr (2, [.ref a_scanner_h0, .ref a_draft_h0, .ref a_waiting_h0, .ref a_functions_h0, .ref (a26 0), .ref (a26 r11), .ref a_text_h0, .int 0, .int levels_h0, .int signs_t, .int loops_h0, .int token_h0, .int fault_h0])) :: ((a26 r11), .inr (0, [(frB a26 r11), (frA a26 r10 r11), .int r13, .int r14, .int r15, .int r16, .int r17, .int (r18 + 1), .int r19, .int r20, .int r21, .int r22, .int r23, .int r24, .int r25])) :: fpo a26 r10 r11 r12)) (pm_eq (a := [(a_draft_h0, .inr (1, [.ref q4, .int r1])), (q4, .inl (cI, r2, .inl r3))]) (b := fpo a26 r10 r11 r12) (c := [(h0, .inr (2, [.ref a_scanner_h0, .ref a_draft_h0, .ref a_waiting_h0, .ref a_functions_h0, .ref (a26 0), .ref (a26 r11), .ref a_text_h0, .int 0, .int levels_h0, .int signs_t, .int loops_h0, .int token_h0, .int fault_h0])), ((a26 r11), .inr (0, [(frB a26 r11), (frA a26 r10 r11), .int r13, .int r14, .int r15, .int r16, .int r17, .int (r18 + 1), .int r19, .int r20, .int r21, .int r22, .int r23, .int r24, .int r25]))]) rfl) ?_
  refine j_norm (pc' := 44) (st' := [.int 1]) (ws' := ((a_draft_h0, .inr (1, [.ref q4, .int r1])) :: (q4, .inl (cI, r2, .inl r3)) :: (h0, .inr (2, [.ref a_scanner_h0, .ref a_draft_h0, .ref a_waiting_h0, .ref a_functions_h0, .ref (a26 0), .ref (a26 r11), .ref a_text_h0, .int 0, .int levels_h0, .int signs_t, .int loops_h0, .int token_h0, .int fault_h0])) :: ((a26 r11), .inr (0, [(frB a26 r11), (frA a26 r10 r11), .int r13, .int r14, .int r15, .int r16, .int r17, .int (r18 + 1), .int r19, .int r20, .int r21, .int r22, .int r23, .int r24, .int r25])) :: fpo a26 r10 r11 r12)) (cl' := 0 + C5) (sl' := 0 + S6) rfl rfl rfl rfl rfl rfl ?_
  replace h := lf_s h
  obtain ⟨h, e1, e2⟩ := h
  replace h := Prod.mk.inj h
  obtain ⟨h9, h⟩ := h
  subst h9
  replace h := Prod.mk.inj h
  obtain ⟨h9, h⟩ := h
  subst h9
  replace h := Prod.mk.inj h
  obtain ⟨h9, h⟩ := h
  subst h9
  replace h := Prod.mk.inj h
  obtain ⟨h9, h⟩ := h
  subst h9
  replace h := Prod.mk.inj h
  obtain ⟨h9, h⟩ := h
  subst h9
  replace h := Prod.mk.inj h
  obtain ⟨h9, h⟩ := h
  subst h9
  replace h := Prod.mk.inj h
  obtain ⟨h9, h⟩ := h
  subst h9
  replace h := Prod.mk.inj h
  obtain ⟨h9, h⟩ := h
  subst h9
  replace h := Prod.mk.inj h
  obtain ⟨h9, h⟩ := h
  subst h9
  replace h := Prod.mk.inj h
  obtain ⟨h9, h⟩ := h
  subst h9
  replace h := Prod.mk.inj h
  obtain ⟨h9, h⟩ := h
  subst h9
  replace h := Prod.mk.inj h
  obtain ⟨h9, h⟩ := h
  subst h9
  replace h := Prod.mk.inj h
  obtain ⟨h9, h⟩ := h
  subst h9
  replace h := Prod.mk.inj h
  obtain ⟨h9, h⟩ := h
  subst h9
  replace h := Prod.mk.inj h
  obtain ⟨h9, h⟩ := h
  subst h9
  replace h := Prod.mk.inj h
  obtain ⟨h9, h⟩ := h
  subst h9
  replace h := Prod.mk.inj h
  obtain ⟨h9, h⟩ := h
  subst h9
  replace h := Prod.mk.inj h
  obtain ⟨h9, h⟩ := h
  subst h9
  subst h
  refine j_widen (cl' := mc) (sl' := ms) (by omega) (by omega) ?_
  refine j_subP (w := [(h0, .inr (2, [.ref a_scanner_h0, .ref a_draft_h0, .ref a_waiting_h0, .ref a_functions_h0, .ref (a26 0), .ref (a26 r11), .ref a_text_h0, .int 0, .int levels_h0, .int signs_t, .int loops_h0, .int token_h0, .int fault_h0])), ((a26 r11), .inr (0, [(frB a26 r11), (frA a26 r10 r11), .int r13, .int r14, .int r15, .int r16, .int r17, .int (r18 + 1), .int r19, .int r20, .int r21, .int r22, .int r23, .int r24, .int r25])), (a_draft_h0, .inr (1, [.ref q4, .int r1])), (q4, .inl (cI, r2, .inl r3))]) (pl := fpo a26 r10 r11 r12) (lv' := []) [2, 3, 0, 1] [] 4 rfl rfl (by decide) [] rfl ?_
  exact j_zretE hr (zb_n zb1) d_Rd_endPlain_44 ⟨a26, q4, rfl, zb1, rfl⟩
def F_Rd_takeEquals_45 (mode_h0 : Int32) (count_a_draft_h0 : Int32) (n_a_cells_a_draft_h0 : Nat) (b_a_cells_a_draft_h0 : Nat → Int32) (kind_a_top_h0 : Int32) (place_a_top_h0 : Int32) (width_a_top_h0 : Int32) (second_a_top_h0 : Int32) (start_a_scanner_h0 : Int32) (width_a_scanner_h0 : Int32) (v2_45 : Int32) (v1_45 : Int32) (t0_45 : Int32) : Option (Int32 × Int32 × Int32 × Int32 × Int32 × Int32) :=
    if kind_a_top_h0 = 20 then (if t0_45 = 0 then (some (0, mode_h0, kind_a_top_h0, place_a_top_h0, width_a_top_h0, second_a_top_h0))
      else (Option.bind (F_Nd_last 1 count_a_draft_h0 n_a_cells_a_draft_h0 b_a_cells_a_draft_h0) fun r3 =>
        if r3 = place_a_top_h0 then (some (1, 30, 21, start_a_scanner_h0, width_a_scanner_h0, place_a_top_h0))
        else (some (0, mode_h0, kind_a_top_h0, place_a_top_h0, width_a_top_h0, second_a_top_h0))))
    else (some (0, mode_h0, kind_a_top_h0, place_a_top_h0, width_a_top_h0, second_a_top_h0))
def F_Rd_takeEquals (mode_h0 : Int32) (levels_h0 : Int32) (signs_h0 : Int32) (loops_h0 : Int32) (token_h0 : Int32) (fault_h0 : Int32) (count_a_draft_h0 : Int32) (n_a_cells_a_draft_h0 : Nat) (b_a_cells_a_draft_h0 : Nat → Int32) (kind_a_top_h0 : Int32) (place_a_top_h0 : Int32) (width_a_top_h0 : Int32) (second_a_top_h0 : Int32) (parts_a_top_h0 : Int32) (innerParts_a_top_h0 : Int32) (innerPlace_a_top_h0 : Int32) (innerWidth_a_top_h0 : Int32) (signs_a_top_h0 : Int32) (waitingBelow_a_top_h0 : Int32) (limited_a_top_h0 : Int32) (targets_a_top_h0 : Int32) (lastBlock_a_top_h0 : Int32) (next_a_scanner_h0 : Int32) (kind_a_scanner_h0 : Int32) (start_a_scanner_h0 : Int32) (width_a_scanner_h0 : Int32) : Option (Int32 × Int32 × Int32 × Int32 × Int32 × Int32) :=
  Option.bind (F_Nd_last 0 count_a_draft_h0 n_a_cells_a_draft_h0 b_a_cells_a_draft_h0) fun r9 =>
  Option.bind (F_Nd_last 3 count_a_draft_h0 n_a_cells_a_draft_h0 b_a_cells_a_draft_h0) fun r11 =>
  if r9 = 32 then (F_Rd_takeEquals_45 mode_h0 count_a_draft_h0 n_a_cells_a_draft_h0 b_a_cells_a_draft_h0 kind_a_top_h0 place_a_top_h0 width_a_top_h0 second_a_top_h0 start_a_scanner_h0 width_a_scanner_h0   r11 r9 1)
  else if r9 = 33 then (if r11 < 1 then (F_Rd_takeEquals_45 mode_h0 count_a_draft_h0 n_a_cells_a_draft_h0 b_a_cells_a_draft_h0 kind_a_top_h0 place_a_top_h0 width_a_top_h0 second_a_top_h0 start_a_scanner_h0 width_a_scanner_h0   r11 r9 0)
    else if 2 < r11 then (F_Rd_takeEquals_45 mode_h0 count_a_draft_h0 n_a_cells_a_draft_h0 b_a_cells_a_draft_h0 kind_a_top_h0 place_a_top_h0 width_a_top_h0 second_a_top_h0 start_a_scanner_h0 width_a_scanner_h0   r11 r9 0)
    else (F_Rd_takeEquals_45 mode_h0 count_a_draft_h0 n_a_cells_a_draft_h0 b_a_cells_a_draft_h0 kind_a_top_h0 place_a_top_h0 width_a_top_h0 second_a_top_h0 start_a_scanner_h0 width_a_scanner_h0   r11 r9 1))
  else (F_Rd_takeEquals_45 mode_h0 count_a_draft_h0 n_a_cells_a_draft_h0 b_a_cells_a_draft_h0 kind_a_top_h0 place_a_top_h0 width_a_top_h0 second_a_top_h0 start_a_scanner_h0 width_a_scanner_h0   r11 r9 0)
theorem d_Rd_takeEquals_0 : decode prog_6_method_65_code 0 = .ok (.aload_n 0, 1) := by decide +kernel
theorem d_Rd_takeEquals_1 : decode prog_6_method_65_code 1 = .ok (.getfield 23, 3) := by decide +kernel
theorem d_Rd_takeEquals_4 : decode prog_6_method_65_code 4 = .ok (.iconst 0, 1) := by decide +kernel
theorem d_Rd_takeEquals_5 : decode prog_6_method_65_code 5 = .ok (.invokevirtual 298, 3) := by decide +kernel
theorem d_Rd_takeEquals_8 : decode prog_6_method_65_code 8 = .ok (.istore_n 1, 1) := by decide +kernel
theorem d_Rd_takeEquals_9 : decode prog_6_method_65_code 9 = .ok (.aload_n 0, 1) := by decide +kernel
theorem d_Rd_takeEquals_10 : decode prog_6_method_65_code 10 = .ok (.getfield 23, 3) := by decide +kernel
theorem d_Rd_takeEquals_13 : decode prog_6_method_65_code 13 = .ok (.iconst 3, 1) := by decide +kernel
theorem d_Rd_takeEquals_14 : decode prog_6_method_65_code 14 = .ok (.invokevirtual 298, 3) := by decide +kernel
theorem d_Rd_takeEquals_17 : decode prog_6_method_65_code 17 = .ok (.istore_n 2, 1) := by decide +kernel
theorem d_Rd_takeEquals_18 : decode prog_6_method_65_code 18 = .ok (.iload_n 1, 1) := by decide +kernel
theorem d_Rd_takeEquals_19 : decode prog_6_method_65_code 19 = .ok (.bipush 32, 2) := by decide +kernel
theorem d_Rd_takeEquals_21 : decode prog_6_method_65_code 21 = .ok (.if_icmp .eq 19, 3) := by decide +kernel
theorem d_Rd_takeEquals_24 : decode prog_6_method_65_code 24 = .ok (.iload_n 1, 1) := by decide +kernel
theorem d_Rd_takeEquals_25 : decode prog_6_method_65_code 25 = .ok (.bipush 33, 2) := by decide +kernel
theorem d_Rd_takeEquals_27 : decode prog_6_method_65_code 27 = .ok (.if_icmp .ne 17, 3) := by decide +kernel
theorem d_Rd_takeEquals_30 : decode prog_6_method_65_code 30 = .ok (.iload_n 2, 1) := by decide +kernel
theorem d_Rd_takeEquals_31 : decode prog_6_method_65_code 31 = .ok (.iconst 1, 1) := by decide +kernel
theorem d_Rd_takeEquals_32 : decode prog_6_method_65_code 32 = .ok (.if_icmp .lt 12, 3) := by decide +kernel
theorem d_Rd_takeEquals_35 : decode prog_6_method_65_code 35 = .ok (.iload_n 2, 1) := by decide +kernel
theorem d_Rd_takeEquals_36 : decode prog_6_method_65_code 36 = .ok (.iconst 2, 1) := by decide +kernel
theorem d_Rd_takeEquals_37 : decode prog_6_method_65_code 37 = .ok (.if_icmp .gt 7, 3) := by decide +kernel
theorem d_Rd_takeEquals_40 : decode prog_6_method_65_code 40 = .ok (.iconst 1, 1) := by decide +kernel
theorem d_Rd_takeEquals_41 : decode prog_6_method_65_code 41 = .ok (.goto 4, 3) := by decide +kernel
theorem d_Rd_takeEquals_44 : decode prog_6_method_65_code 44 = .ok (.iconst 0, 1) := by decide +kernel
theorem d_Rd_takeEquals_45 : decode prog_6_method_65_code 45 = .ok (.istore_n 3, 1) := by decide +kernel
theorem d_Rd_takeEquals_46 : decode prog_6_method_65_code 46 = .ok (.aload_n 0, 1) := by decide +kernel
theorem d_Rd_takeEquals_47 : decode prog_6_method_65_code 47 = .ok (.getfield 46, 3) := by decide +kernel
theorem d_Rd_takeEquals_50 : decode prog_6_method_65_code 50 = .ok (.getfield 86, 3) := by decide +kernel
theorem d_Rd_takeEquals_53 : decode prog_6_method_65_code 53 = .ok (.bipush 20, 2) := by decide +kernel
theorem d_Rd_takeEquals_55 : decode prog_6_method_65_code 55 = .ok (.if_icmp .ne 25, 3) := by decide +kernel
theorem d_Rd_takeEquals_58 : decode prog_6_method_65_code 58 = .ok (.iload_n 3, 1) := by decide +kernel
theorem d_Rd_takeEquals_59 : decode prog_6_method_65_code 59 = .ok (.ifCond .eq 21, 3) := by decide +kernel
theorem d_Rd_takeEquals_62 : decode prog_6_method_65_code 62 = .ok (.aload_n 0, 1) := by decide +kernel
theorem d_Rd_takeEquals_63 : decode prog_6_method_65_code 63 = .ok (.getfield 23, 3) := by decide +kernel
theorem d_Rd_takeEquals_66 : decode prog_6_method_65_code 66 = .ok (.iconst 1, 1) := by decide +kernel
theorem d_Rd_takeEquals_67 : decode prog_6_method_65_code 67 = .ok (.invokevirtual 298, 3) := by decide +kernel
theorem d_Rd_takeEquals_70 : decode prog_6_method_65_code 70 = .ok (.aload_n 0, 1) := by decide +kernel
theorem d_Rd_takeEquals_71 : decode prog_6_method_65_code 71 = .ok (.getfield 46, 3) := by decide +kernel
theorem d_Rd_takeEquals_74 : decode prog_6_method_65_code 74 = .ok (.getfield 227, 3) := by decide +kernel
theorem d_Rd_takeEquals_77 : decode prog_6_method_65_code 77 = .ok (.if_icmp .eq 5, 3) := by decide +kernel
theorem d_Rd_takeEquals_80 : decode prog_6_method_65_code 80 = .ok (.iconst 0, 1) := by decide +kernel
theorem d_Rd_takeEquals_81 : decode prog_6_method_65_code 81 = .ok (.ireturn, 1) := by decide +kernel
theorem d_Rd_takeEquals_82 : decode prog_6_method_65_code 82 = .ok (.aload_n 0, 1) := by decide +kernel
theorem d_Rd_takeEquals_83 : decode prog_6_method_65_code 83 = .ok (.getfield 46, 3) := by decide +kernel
theorem d_Rd_takeEquals_86 : decode prog_6_method_65_code 86 = .ok (.bipush 21, 2) := by decide +kernel
theorem d_Rd_takeEquals_88 : decode prog_6_method_65_code 88 = .ok (.putfield 86, 3) := by decide +kernel
theorem d_Rd_takeEquals_91 : decode prog_6_method_65_code 91 = .ok (.aload_n 0, 1) := by decide +kernel
theorem d_Rd_takeEquals_92 : decode prog_6_method_65_code 92 = .ok (.getfield 46, 3) := by decide +kernel
theorem d_Rd_takeEquals_95 : decode prog_6_method_65_code 95 = .ok (.aload_n 0, 1) := by decide +kernel
theorem d_Rd_takeEquals_96 : decode prog_6_method_65_code 96 = .ok (.getfield 46, 3) := by decide +kernel
theorem d_Rd_takeEquals_99 : decode prog_6_method_65_code 99 = .ok (.getfield 227, 3) := by decide +kernel
theorem d_Rd_takeEquals_102 : decode prog_6_method_65_code 102 = .ok (.putfield 259, 3) := by decide +kernel
theorem d_Rd_takeEquals_105 : decode prog_6_method_65_code 105 = .ok (.aload_n 0, 1) := by decide +kernel
theorem d_Rd_takeEquals_106 : decode prog_6_method_65_code 106 = .ok (.getfield 46, 3) := by decide +kernel
theorem d_Rd_takeEquals_109 : decode prog_6_method_65_code 109 = .ok (.aload_n 0, 1) := by decide +kernel
theorem d_Rd_takeEquals_110 : decode prog_6_method_65_code 110 = .ok (.getfield 14, 3) := by decide +kernel
theorem d_Rd_takeEquals_113 : decode prog_6_method_65_code 113 = .ok (.invokevirtual 113, 3) := by decide +kernel
theorem d_Rd_takeEquals_116 : decode prog_6_method_65_code 116 = .ok (.putfield 227, 3) := by decide +kernel
theorem d_Rd_takeEquals_119 : decode prog_6_method_65_code 119 = .ok (.aload_n 0, 1) := by decide +kernel
theorem d_Rd_takeEquals_120 : decode prog_6_method_65_code 120 = .ok (.getfield 46, 3) := by decide +kernel
theorem d_Rd_takeEquals_123 : decode prog_6_method_65_code 123 = .ok (.aload_n 0, 1) := by decide +kernel
theorem d_Rd_takeEquals_124 : decode prog_6_method_65_code 124 = .ok (.getfield 14, 3) := by decide +kernel
theorem d_Rd_takeEquals_127 : decode prog_6_method_65_code 127 = .ok (.invokevirtual 124, 3) := by decide +kernel
theorem d_Rd_takeEquals_130 : decode prog_6_method_65_code 130 = .ok (.putfield 230, 3) := by decide +kernel
theorem d_Rd_takeEquals_133 : decode prog_6_method_65_code 133 = .ok (.aload_n 0, 1) := by decide +kernel
theorem d_Rd_takeEquals_134 : decode prog_6_method_65_code 134 = .ok (.bipush 30, 2) := by decide +kernel
theorem d_Rd_takeEquals_136 : decode prog_6_method_65_code 136 = .ok (.invokevirtual 130, 3) := by decide +kernel
theorem d_Rd_takeEquals_139 : decode prog_6_method_65_code 139 = .ok (.ireturn, 1) := by decide +kernel
set_option maxHeartbeats 4000000 in
set_option maxRecDepth 100000 in
theorem L_Rd_takeEquals_45 (l : Launch) (D : va_G) (cI cB cJ cS : ClassId) (h0 : Nat) (a_scanner_h0 : Nat) (a_draft_h0 : Nat) (a_waiting_h0 : Nat) (a_functions_h0 : Nat) (a_bottom_h0 : Nat) (a_top_h0 : Nat) (a_text_h0 : Nat) (a_cells_a_draft_h0 : Nat) (V_below_a_top_h0 : Value) (V_above_a_top_h0 : Value) (a_text_a_scanner_h0 : Nat) (mode_h0 : Int32) (levels_h0 : Int32) (signs_h0 : Int32) (loops_h0 : Int32) (token_h0 : Int32) (fault_h0 : Int32) (count_a_draft_h0 : Int32) (n_a_cells_a_draft_h0 : Nat) (b_a_cells_a_draft_h0 : Nat → Int32) (kind_a_top_h0 : Int32) (place_a_top_h0 : Int32) (width_a_top_h0 : Int32) (second_a_top_h0 : Int32) (parts_a_top_h0 : Int32) (innerParts_a_top_h0 : Int32) (innerPlace_a_top_h0 : Int32) (innerWidth_a_top_h0 : Int32) (signs_a_top_h0 : Int32) (waitingBelow_a_top_h0 : Int32) (limited_a_top_h0 : Int32) (targets_a_top_h0 : Int32) (lastBlock_a_top_h0 : Int32) (next_a_scanner_h0 : Int32) (kind_a_scanner_h0 : Int32) (start_a_scanner_h0 : Int32) (width_a_scanner_h0 : Int32) (ret : Int32) (o_0_7 : Int32) (o_3_2 : Int32) (o_3_3 : Int32) (o_3_4 : Int32) (o_3_5 : Int32) (p : Program) (e : Env) (s : State) (m : MethodId) (below : List Frame) (meth : Method) (c : Code) (hr : meth.sig.returnType = (Option.some Jvm.ClassFile.FieldType.boolean)) (hnm : meth.name = y_Rd_takeEquals.name) : ∀ (v2_45 : Int32) (v1_45 : Int32) (t0_45 : Int32) (hz_t0_45 : zb t0_45), F_Rd_takeEquals_45 mode_h0 count_a_draft_h0 n_a_cells_a_draft_h0 b_a_cells_a_draft_h0 kind_a_top_h0 place_a_top_h0 width_a_top_h0 second_a_top_h0 start_a_scanner_h0 width_a_scanner_h0   v2_45 v1_45 t0_45 = some (ret, o_0_7, o_3_2, o_3_3, o_3_4, o_3_5) → J (KxOf p l e { frames := 2, cells := 0, slots := 0, locals := 43 } s m [.ref h0].toArray below meth c D (gT cI cB cJ cS) [(h0, .inr (2, [.ref a_scanner_h0, .ref a_draft_h0, .ref a_waiting_h0, .ref a_functions_h0, .ref a_bottom_h0, .ref a_top_h0, .ref a_text_h0, .int mode_h0, .int levels_h0, .int signs_h0, .int loops_h0, .int token_h0, .int fault_h0])), (a_draft_h0, .inr (1, [.ref a_cells_a_draft_h0, .int count_a_draft_h0])), (a_cells_a_draft_h0, .inl (cI, n_a_cells_a_draft_h0, .inl b_a_cells_a_draft_h0)), (a_top_h0, .inr (0, [V_below_a_top_h0, V_above_a_top_h0, .int kind_a_top_h0, .int place_a_top_h0, .int width_a_top_h0, .int second_a_top_h0, .int parts_a_top_h0, .int innerParts_a_top_h0, .int innerPlace_a_top_h0, .int innerWidth_a_top_h0, .int signs_a_top_h0, .int waitingBelow_a_top_h0, .int limited_a_top_h0, .int targets_a_top_h0, .int lastBlock_a_top_h0])), (a_scanner_h0, .inr (4, [.ref a_text_a_scanner_h0, .int next_a_scanner_h0, .int kind_a_scanner_h0, .int start_a_scanner_h0, .int width_a_scanner_h0]))] (fun v w => v = some (.int ret) ∧ zb ret ∧ w = [(h0, .inr (2, [.ref a_scanner_h0, .ref a_draft_h0, .ref a_waiting_h0, .ref a_functions_h0, .ref a_bottom_h0, .ref a_top_h0, .ref a_text_h0, .int o_0_7, .int levels_h0, .int signs_h0, .int loops_h0, .int token_h0, .int fault_h0])), (a_draft_h0, .inr (1, [.ref a_cells_a_draft_h0, .int count_a_draft_h0])), (a_cells_a_draft_h0, .inl (cI, n_a_cells_a_draft_h0, .inl b_a_cells_a_draft_h0)), (a_top_h0, .inr (0, [V_below_a_top_h0, V_above_a_top_h0, .int o_3_2, .int o_3_3, .int o_3_4, .int o_3_5, .int parts_a_top_h0, .int innerParts_a_top_h0, .int innerPlace_a_top_h0, .int innerWidth_a_top_h0, .int signs_a_top_h0, .int waitingBelow_a_top_h0, .int limited_a_top_h0, .int targets_a_top_h0, .int lastBlock_a_top_h0])), (a_scanner_h0, .inr (4, [.ref a_text_a_scanner_h0, .int next_a_scanner_h0, .int kind_a_scanner_h0, .int start_a_scanner_h0, .int width_a_scanner_h0]))]) 0 0) prog_6_method_65_code 4 R_Rd 45 [(2, .int v2_45), (1, .int v1_45), (0, .ref h0)] [.int t0_45] [(h0, .inr (2, [.ref a_scanner_h0, .ref a_draft_h0, .ref a_waiting_h0, .ref a_functions_h0, .ref a_bottom_h0, .ref a_top_h0, .ref a_text_h0, .int mode_h0, .int levels_h0, .int signs_h0, .int loops_h0, .int token_h0, .int fault_h0])), (a_top_h0, .inr (0, [V_below_a_top_h0, V_above_a_top_h0, .int kind_a_top_h0, .int place_a_top_h0, .int width_a_top_h0, .int second_a_top_h0, .int parts_a_top_h0, .int innerParts_a_top_h0, .int innerPlace_a_top_h0, .int innerWidth_a_top_h0, .int signs_a_top_h0, .int waitingBelow_a_top_h0, .int limited_a_top_h0, .int targets_a_top_h0, .int lastBlock_a_top_h0])), (a_scanner_h0, .inr (4, [.ref a_text_a_scanner_h0, .int next_a_scanner_h0, .int kind_a_scanner_h0, .int start_a_scanner_h0, .int width_a_scanner_h0])), (a_draft_h0, .inr (1, [.ref a_cells_a_draft_h0, .int count_a_draft_h0])), (a_cells_a_draft_h0, .inl (cI, n_a_cells_a_draft_h0, .inl b_a_cells_a_draft_h0))] 0 0 := by
  intro v2_45 v1_45 t0_45 hz_t0_45 h
  unfold F_Rd_takeEquals_45 at h
  refine j_istore_n (lv' := [(3, .int t0_45), (2, .int v2_45), (1, .int v1_45), (0, .ref h0)]) d_Rd_takeEquals_45 rfl (by decide) rfl ?_
  refine j_aload_n d_Rd_takeEquals_46 rfl 3 rfl ?_
  refine j_get ig_Rd rfl 0 rfl 5 (by decide) rfl m_174 rfl d_Rd_takeEquals_47 ?_
  refine j_get ig_Fr rfl 1 rfl 2 (by decide) rfl m_111 rfl d_Rd_takeEquals_50 ?_
  refine j_bipush (v := 20) d_Rd_takeEquals_53 (by decide) ?_
  refine j_icmp_ne (tgt := 80) d_Rd_takeEquals_55 (by decide) (fun c1 => ?_) (fun c1 => ?_)
  · replace h := it_f c1 h
    refine j_iconst (v := 0) d_Rd_takeEquals_80 (by decide) ?_
    replace h := Option.some.inj h
    replace h := Prod.mk.inj h
    obtain ⟨h9, h⟩ := h
    subst h9
    replace h := Prod.mk.inj h
    obtain ⟨h9, h⟩ := h
    subst h9
    replace h := Prod.mk.inj h
    obtain ⟨h9, h⟩ := h
    subst h9
    replace h := Prod.mk.inj h
    obtain ⟨h9, h⟩ := h
    subst h9
    replace h := Prod.mk.inj h
    obtain ⟨h9, h⟩ := h
    subst h9
    subst h
    exact j_zret (w := [(h0, .inr (2, [.ref a_scanner_h0, .ref a_draft_h0, .ref a_waiting_h0, .ref a_functions_h0, .ref a_bottom_h0, .ref a_top_h0, .ref a_text_h0, .int mode_h0, .int levels_h0, .int signs_h0, .int loops_h0, .int token_h0, .int fault_h0])), (a_draft_h0, .inr (1, [.ref a_cells_a_draft_h0, .int count_a_draft_h0])), (a_cells_a_draft_h0, .inl (cI, n_a_cells_a_draft_h0, .inl b_a_cells_a_draft_h0)), (a_top_h0, .inr (0, [V_below_a_top_h0, V_above_a_top_h0, .int kind_a_top_h0, .int place_a_top_h0, .int width_a_top_h0, .int second_a_top_h0, .int parts_a_top_h0, .int innerParts_a_top_h0, .int innerPlace_a_top_h0, .int innerWidth_a_top_h0, .int signs_a_top_h0, .int waitingBelow_a_top_h0, .int limited_a_top_h0, .int targets_a_top_h0, .int lastBlock_a_top_h0])), (a_scanner_h0, .inr (4, [.ref a_text_a_scanner_h0, .int next_a_scanner_h0, .int kind_a_scanner_h0, .int start_a_scanner_h0, .int width_a_scanner_h0]))]) hr (zb_n zb0) d_Rd_takeEquals_81 [0, 3, 4, 1, 2] rfl (by decide) ⟨rfl, zb0, rfl⟩
  · replace h := it_t c1 h
    refine j_iload_n d_Rd_takeEquals_58 rfl 0 rfl ?_
    refine j_if_eq (tgt := 80) d_Rd_takeEquals_59 (by decide) (fun c2 => ?_) (fun c2 => ?_)
    · replace h := it_t c2 h
      refine j_iconst (v := 0) d_Rd_takeEquals_80 (by decide) ?_
      replace h := Option.some.inj h
      replace h := Prod.mk.inj h
      obtain ⟨h9, h⟩ := h
      subst h9
      replace h := Prod.mk.inj h
      obtain ⟨h9, h⟩ := h
      subst h9
      replace h := Prod.mk.inj h
      obtain ⟨h9, h⟩ := h
      subst h9
      replace h := Prod.mk.inj h
      obtain ⟨h9, h⟩ := h
      subst h9
      replace h := Prod.mk.inj h
      obtain ⟨h9, h⟩ := h
      subst h9
      subst h
      exact j_zret (w := [(h0, .inr (2, [.ref a_scanner_h0, .ref a_draft_h0, .ref a_waiting_h0, .ref a_functions_h0, .ref a_bottom_h0, .ref a_top_h0, .ref a_text_h0, .int mode_h0, .int levels_h0, .int signs_h0, .int loops_h0, .int token_h0, .int fault_h0])), (a_draft_h0, .inr (1, [.ref a_cells_a_draft_h0, .int count_a_draft_h0])), (a_cells_a_draft_h0, .inl (cI, n_a_cells_a_draft_h0, .inl b_a_cells_a_draft_h0)), (a_top_h0, .inr (0, [V_below_a_top_h0, V_above_a_top_h0, .int kind_a_top_h0, .int place_a_top_h0, .int width_a_top_h0, .int second_a_top_h0, .int parts_a_top_h0, .int innerParts_a_top_h0, .int innerPlace_a_top_h0, .int innerWidth_a_top_h0, .int signs_a_top_h0, .int waitingBelow_a_top_h0, .int limited_a_top_h0, .int targets_a_top_h0, .int lastBlock_a_top_h0])), (a_scanner_h0, .inr (4, [.ref a_text_a_scanner_h0, .int next_a_scanner_h0, .int kind_a_scanner_h0, .int start_a_scanner_h0, .int width_a_scanner_h0]))]) hr (zb_n zb0) d_Rd_takeEquals_81 [0, 3, 4, 1, 2] rfl (by decide) ⟨rfl, zb0, rfl⟩
    · replace h := it_f c2 h
      refine j_aload_n d_Rd_takeEquals_62 rfl 3 rfl ?_
      refine j_get ig_Rd rfl 0 rfl 1 (by decide) rfl m_170 rfl d_Rd_takeEquals_63 ?_
      refine j_iconst (v := 1) d_Rd_takeEquals_66 (by decide) ?_
      replace h := bd_s h
      obtain ⟨r3, k4, h⟩ := h
      refine j_callV (n := 1) (As := [.int 1]) (rest := []) (wr := [(h0, .inr (2, [.ref a_scanner_h0, .ref a_draft_h0, .ref a_waiting_h0, .ref a_functions_h0, .ref a_bottom_h0, .ref a_top_h0, .ref a_text_h0, .int mode_h0, .int levels_h0, .int signs_h0, .int loops_h0, .int token_h0, .int fault_h0])), (a_top_h0, .inr (0, [V_below_a_top_h0, V_above_a_top_h0, .int kind_a_top_h0, .int place_a_top_h0, .int width_a_top_h0, .int second_a_top_h0, .int parts_a_top_h0, .int innerParts_a_top_h0, .int innerPlace_a_top_h0, .int innerWidth_a_top_h0, .int signs_a_top_h0, .int waitingBelow_a_top_h0, .int limited_a_top_h0, .int targets_a_top_h0, .int lastBlock_a_top_h0])), (a_scanner_h0, .inr (4, [.ref a_text_a_scanner_h0, .int next_a_scanner_h0, .int kind_a_scanner_h0, .int start_a_scanner_h0, .int width_a_scanner_h0]))]) (c_Nd_last l D cI cB cJ cS a_draft_h0 a_cells_a_draft_h0 1 count_a_draft_h0 n_a_cells_a_draft_h0 b_a_cells_a_draft_h0  r3 k4) k_Rd_298 (by decide) ⟨Nat.le_of_ble_eq_true rfl, Nat.le_of_ble_eq_true rfl⟩ rfl 0 rfl [3, 4] [0, 1, 2] rfl (by decide) rfl (by decide) (by decide) rfl rfl (Nat.le_of_ble_eq_true rfl) d_Rd_takeEquals_67 ⟨Nat.le_of_ble_eq_true rfl, Nat.le_of_ble_eq_true rfl⟩ (fun v w hq => ?_)
      obtain ⟨rfl, rfl⟩ := hq
      refine j_norm (pc' := 70) (st' := [.int r3]) (ws' := [(h0, .inr (2, [.ref a_scanner_h0, .ref a_draft_h0, .ref a_waiting_h0, .ref a_functions_h0, .ref a_bottom_h0, .ref a_top_h0, .ref a_text_h0, .int mode_h0, .int levels_h0, .int signs_h0, .int loops_h0, .int token_h0, .int fault_h0])), (a_top_h0, .inr (0, [V_below_a_top_h0, V_above_a_top_h0, .int kind_a_top_h0, .int place_a_top_h0, .int width_a_top_h0, .int second_a_top_h0, .int parts_a_top_h0, .int innerParts_a_top_h0, .int innerPlace_a_top_h0, .int innerWidth_a_top_h0, .int signs_a_top_h0, .int waitingBelow_a_top_h0, .int limited_a_top_h0, .int targets_a_top_h0, .int lastBlock_a_top_h0])), (a_scanner_h0, .inr (4, [.ref a_text_a_scanner_h0, .int next_a_scanner_h0, .int kind_a_scanner_h0, .int start_a_scanner_h0, .int width_a_scanner_h0])), (a_draft_h0, .inr (1, [.ref a_cells_a_draft_h0, .int count_a_draft_h0])), (a_cells_a_draft_h0, .inl (cI, n_a_cells_a_draft_h0, .inl b_a_cells_a_draft_h0))]) (cl' := 0) (sl' := 0) rfl rfl rfl rfl rfl rfl ?_
      refine j_aload_n d_Rd_takeEquals_70 rfl 3 rfl ?_
      refine j_get ig_Rd rfl 0 rfl 5 (by decide) rfl m_174 rfl d_Rd_takeEquals_71 ?_
      refine j_get ig_Fr rfl 1 rfl 3 (by decide) rfl m_113 rfl d_Rd_takeEquals_74 ?_
      refine j_icmp_eq (tgt := 82) d_Rd_takeEquals_77 (by decide) (fun c5 => ?_) (fun c5 => ?_)
      · replace h := it_t c5 h
        refine j_aload_n d_Rd_takeEquals_82 rfl 3 rfl ?_
        refine j_get ig_Rd rfl 0 rfl 5 (by decide) rfl m_174 rfl d_Rd_takeEquals_83 ?_
        refine j_bipush (v := 21) d_Rd_takeEquals_86 (by decide) ?_
        refine j_put (ws' := [(h0, .inr (2, [.ref a_scanner_h0, .ref a_draft_h0, .ref a_waiting_h0, .ref a_functions_h0, .ref a_bottom_h0, .ref a_top_h0, .ref a_text_h0, .int mode_h0, .int levels_h0, .int signs_h0, .int loops_h0, .int token_h0, .int fault_h0])), (a_top_h0, .inr (0, [V_below_a_top_h0, V_above_a_top_h0, .int 21, .int place_a_top_h0, .int width_a_top_h0, .int second_a_top_h0, .int parts_a_top_h0, .int innerParts_a_top_h0, .int innerPlace_a_top_h0, .int innerWidth_a_top_h0, .int signs_a_top_h0, .int waitingBelow_a_top_h0, .int limited_a_top_h0, .int targets_a_top_h0, .int lastBlock_a_top_h0])), (a_scanner_h0, .inr (4, [.ref a_text_a_scanner_h0, .int next_a_scanner_h0, .int kind_a_scanner_h0, .int start_a_scanner_h0, .int width_a_scanner_h0])), (a_draft_h0, .inr (1, [.ref a_cells_a_draft_h0, .int count_a_draft_h0])), (a_cells_a_draft_h0, .inl (cI, n_a_cells_a_draft_h0, .inl b_a_cells_a_draft_h0))]) ig_Fr tk_Fr nm_Fr rfl 1 rfl 2 (by decide) rfl m_111 rfl (tk_Fr 2 (by decide)) rfl rfl (Nat.le_of_ble_eq_true rfl) d_Rd_takeEquals_88 rfl ?_
        refine j_aload_n d_Rd_takeEquals_91 rfl 3 rfl ?_
        refine j_get ig_Rd rfl 0 rfl 5 (by decide) rfl m_174 rfl d_Rd_takeEquals_92 ?_
        refine j_aload_n d_Rd_takeEquals_95 rfl 3 rfl ?_
        refine j_get ig_Rd rfl 0 rfl 5 (by decide) rfl m_174 rfl d_Rd_takeEquals_96 ?_
        refine j_get ig_Fr rfl 1 rfl 3 (by decide) rfl m_113 rfl d_Rd_takeEquals_99 ?_
        refine j_put (ws' := [(h0, .inr (2, [.ref a_scanner_h0, .ref a_draft_h0, .ref a_waiting_h0, .ref a_functions_h0, .ref a_bottom_h0, .ref a_top_h0, .ref a_text_h0, .int mode_h0, .int levels_h0, .int signs_h0, .int loops_h0, .int token_h0, .int fault_h0])), (a_top_h0, .inr (0, [V_below_a_top_h0, V_above_a_top_h0, .int 21, .int place_a_top_h0, .int width_a_top_h0, .int place_a_top_h0, .int parts_a_top_h0, .int innerParts_a_top_h0, .int innerPlace_a_top_h0, .int innerWidth_a_top_h0, .int signs_a_top_h0, .int waitingBelow_a_top_h0, .int limited_a_top_h0, .int targets_a_top_h0, .int lastBlock_a_top_h0])), (a_scanner_h0, .inr (4, [.ref a_text_a_scanner_h0, .int next_a_scanner_h0, .int kind_a_scanner_h0, .int start_a_scanner_h0, .int width_a_scanner_h0])), (a_draft_h0, .inr (1, [.ref a_cells_a_draft_h0, .int count_a_draft_h0])), (a_cells_a_draft_h0, .inl (cI, n_a_cells_a_draft_h0, .inl b_a_cells_a_draft_h0))]) ig_Fr tk_Fr nm_Fr rfl 1 rfl 5 (by decide) rfl m_117 rfl (tk_Fr 5 (by decide)) rfl rfl (Nat.le_of_ble_eq_true rfl) d_Rd_takeEquals_102 rfl ?_
        refine j_aload_n d_Rd_takeEquals_105 rfl 3 rfl ?_
        refine j_get ig_Rd rfl 0 rfl 5 (by decide) rfl m_174 rfl d_Rd_takeEquals_106 ?_
        refine j_aload_n d_Rd_takeEquals_109 rfl 3 rfl ?_
        refine j_get ig_Rd rfl 0 rfl 0 (by decide) rfl m_169 rfl d_Rd_takeEquals_110 ?_
        refine j_callV (n := 0) (As := []) (rest := [.ref a_top_h0]) (wr := [(h0, .inr (2, [.ref a_scanner_h0, .ref a_draft_h0, .ref a_waiting_h0, .ref a_functions_h0, .ref a_bottom_h0, .ref a_top_h0, .ref a_text_h0, .int mode_h0, .int levels_h0, .int signs_h0, .int loops_h0, .int token_h0, .int fault_h0])), (a_top_h0, .inr (0, [V_below_a_top_h0, V_above_a_top_h0, .int 21, .int place_a_top_h0, .int width_a_top_h0, .int place_a_top_h0, .int parts_a_top_h0, .int innerParts_a_top_h0, .int innerPlace_a_top_h0, .int innerWidth_a_top_h0, .int signs_a_top_h0, .int waitingBelow_a_top_h0, .int limited_a_top_h0, .int targets_a_top_h0, .int lastBlock_a_top_h0])), (a_draft_h0, .inr (1, [.ref a_cells_a_draft_h0, .int count_a_draft_h0])), (a_cells_a_draft_h0, .inl (cI, n_a_cells_a_draft_h0, .inl b_a_cells_a_draft_h0))]) (c_Sc_start l D cI cB cJ cS a_scanner_h0 a_text_a_scanner_h0 next_a_scanner_h0 kind_a_scanner_h0 start_a_scanner_h0 width_a_scanner_h0  ) k_Rd_113 (by decide) ⟨Nat.le_of_ble_eq_true rfl, Nat.le_of_ble_eq_true rfl⟩ rfl 0 rfl [2] [0, 1, 3, 4] rfl (by decide) rfl (by decide) (by decide) rfl rfl (Nat.le_of_ble_eq_true rfl) d_Rd_takeEquals_113 ⟨Nat.le_of_ble_eq_true rfl, Nat.le_of_ble_eq_true rfl⟩ (fun v w hq => ?_)
        obtain ⟨rfl, rfl⟩ := hq
        refine j_norm (pc' := 116) (st' := [.int start_a_scanner_h0, .ref a_top_h0]) (ws' := [(h0, .inr (2, [.ref a_scanner_h0, .ref a_draft_h0, .ref a_waiting_h0, .ref a_functions_h0, .ref a_bottom_h0, .ref a_top_h0, .ref a_text_h0, .int mode_h0, .int levels_h0, .int signs_h0, .int loops_h0, .int token_h0, .int fault_h0])), (a_top_h0, .inr (0, [V_below_a_top_h0, V_above_a_top_h0, .int 21, .int place_a_top_h0, .int width_a_top_h0, .int place_a_top_h0, .int parts_a_top_h0, .int innerParts_a_top_h0, .int innerPlace_a_top_h0, .int innerWidth_a_top_h0, .int signs_a_top_h0, .int waitingBelow_a_top_h0, .int limited_a_top_h0, .int targets_a_top_h0, .int lastBlock_a_top_h0])), (a_draft_h0, .inr (1, [.ref a_cells_a_draft_h0, .int count_a_draft_h0])), (a_cells_a_draft_h0, .inl (cI, n_a_cells_a_draft_h0, .inl b_a_cells_a_draft_h0)), (a_scanner_h0, .inr (4, [.ref a_text_a_scanner_h0, .int next_a_scanner_h0, .int kind_a_scanner_h0, .int start_a_scanner_h0, .int width_a_scanner_h0]))]) (cl' := 0) (sl' := 0) rfl rfl rfl rfl rfl rfl ?_
        refine j_put (ws' := [(h0, .inr (2, [.ref a_scanner_h0, .ref a_draft_h0, .ref a_waiting_h0, .ref a_functions_h0, .ref a_bottom_h0, .ref a_top_h0, .ref a_text_h0, .int mode_h0, .int levels_h0, .int signs_h0, .int loops_h0, .int token_h0, .int fault_h0])), (a_top_h0, .inr (0, [V_below_a_top_h0, V_above_a_top_h0, .int 21, .int start_a_scanner_h0, .int width_a_top_h0, .int place_a_top_h0, .int parts_a_top_h0, .int innerParts_a_top_h0, .int innerPlace_a_top_h0, .int innerWidth_a_top_h0, .int signs_a_top_h0, .int waitingBelow_a_top_h0, .int limited_a_top_h0, .int targets_a_top_h0, .int lastBlock_a_top_h0])), (a_draft_h0, .inr (1, [.ref a_cells_a_draft_h0, .int count_a_draft_h0])), (a_cells_a_draft_h0, .inl (cI, n_a_cells_a_draft_h0, .inl b_a_cells_a_draft_h0)), (a_scanner_h0, .inr (4, [.ref a_text_a_scanner_h0, .int next_a_scanner_h0, .int kind_a_scanner_h0, .int start_a_scanner_h0, .int width_a_scanner_h0]))]) ig_Fr tk_Fr nm_Fr rfl 1 rfl 3 (by decide) rfl m_113 rfl (tk_Fr 3 (by decide)) rfl rfl (Nat.le_of_ble_eq_true rfl) d_Rd_takeEquals_116 rfl ?_
        refine j_aload_n d_Rd_takeEquals_119 rfl 3 rfl ?_
        refine j_get ig_Rd rfl 0 rfl 5 (by decide) rfl m_174 rfl d_Rd_takeEquals_120 ?_
        refine j_aload_n d_Rd_takeEquals_123 rfl 3 rfl ?_
        refine j_get ig_Rd rfl 0 rfl 0 (by decide) rfl m_169 rfl d_Rd_takeEquals_124 ?_
        refine j_callV (n := 0) (As := []) (rest := [.ref a_top_h0]) (wr := [(h0, .inr (2, [.ref a_scanner_h0, .ref a_draft_h0, .ref a_waiting_h0, .ref a_functions_h0, .ref a_bottom_h0, .ref a_top_h0, .ref a_text_h0, .int mode_h0, .int levels_h0, .int signs_h0, .int loops_h0, .int token_h0, .int fault_h0])), (a_top_h0, .inr (0, [V_below_a_top_h0, V_above_a_top_h0, .int 21, .int start_a_scanner_h0, .int width_a_top_h0, .int place_a_top_h0, .int parts_a_top_h0, .int innerParts_a_top_h0, .int innerPlace_a_top_h0, .int innerWidth_a_top_h0, .int signs_a_top_h0, .int waitingBelow_a_top_h0, .int limited_a_top_h0, .int targets_a_top_h0, .int lastBlock_a_top_h0])), (a_draft_h0, .inr (1, [.ref a_cells_a_draft_h0, .int count_a_draft_h0])), (a_cells_a_draft_h0, .inl (cI, n_a_cells_a_draft_h0, .inl b_a_cells_a_draft_h0))]) (c_Sc_width l D cI cB cJ cS a_scanner_h0 a_text_a_scanner_h0 next_a_scanner_h0 kind_a_scanner_h0 start_a_scanner_h0 width_a_scanner_h0  ) k_Rd_124 (by decide) ⟨Nat.le_of_ble_eq_true rfl, Nat.le_of_ble_eq_true rfl⟩ rfl 0 rfl [4] [0, 1, 2, 3] rfl (by decide) rfl (by decide) (by decide) rfl rfl (Nat.le_of_ble_eq_true rfl) d_Rd_takeEquals_127 ⟨Nat.le_of_ble_eq_true rfl, Nat.le_of_ble_eq_true rfl⟩ (fun v w hq => ?_)
        obtain ⟨rfl, rfl⟩ := hq
        refine j_norm (pc' := 130) (st' := [.int width_a_scanner_h0, .ref a_top_h0]) (ws' := [(h0, .inr (2, [.ref a_scanner_h0, .ref a_draft_h0, .ref a_waiting_h0, .ref a_functions_h0, .ref a_bottom_h0, .ref a_top_h0, .ref a_text_h0, .int mode_h0, .int levels_h0, .int signs_h0, .int loops_h0, .int token_h0, .int fault_h0])), (a_top_h0, .inr (0, [V_below_a_top_h0, V_above_a_top_h0, .int 21, .int start_a_scanner_h0, .int width_a_top_h0, .int place_a_top_h0, .int parts_a_top_h0, .int innerParts_a_top_h0, .int innerPlace_a_top_h0, .int innerWidth_a_top_h0, .int signs_a_top_h0, .int waitingBelow_a_top_h0, .int limited_a_top_h0, .int targets_a_top_h0, .int lastBlock_a_top_h0])), (a_draft_h0, .inr (1, [.ref a_cells_a_draft_h0, .int count_a_draft_h0])), (a_cells_a_draft_h0, .inl (cI, n_a_cells_a_draft_h0, .inl b_a_cells_a_draft_h0)), (a_scanner_h0, .inr (4, [.ref a_text_a_scanner_h0, .int next_a_scanner_h0, .int kind_a_scanner_h0, .int start_a_scanner_h0, .int width_a_scanner_h0]))]) (cl' := 0) (sl' := 0) rfl rfl rfl rfl rfl rfl ?_
        refine j_put (ws' := [(h0, .inr (2, [.ref a_scanner_h0, .ref a_draft_h0, .ref a_waiting_h0, .ref a_functions_h0, .ref a_bottom_h0, .ref a_top_h0, .ref a_text_h0, .int mode_h0, .int levels_h0, .int signs_h0, .int loops_h0, .int token_h0, .int fault_h0])), (a_top_h0, .inr (0, [V_below_a_top_h0, V_above_a_top_h0, .int 21, .int start_a_scanner_h0, .int width_a_scanner_h0, .int place_a_top_h0, .int parts_a_top_h0, .int innerParts_a_top_h0, .int innerPlace_a_top_h0, .int innerWidth_a_top_h0, .int signs_a_top_h0, .int waitingBelow_a_top_h0, .int limited_a_top_h0, .int targets_a_top_h0, .int lastBlock_a_top_h0])), (a_draft_h0, .inr (1, [.ref a_cells_a_draft_h0, .int count_a_draft_h0])), (a_cells_a_draft_h0, .inl (cI, n_a_cells_a_draft_h0, .inl b_a_cells_a_draft_h0)), (a_scanner_h0, .inr (4, [.ref a_text_a_scanner_h0, .int next_a_scanner_h0, .int kind_a_scanner_h0, .int start_a_scanner_h0, .int width_a_scanner_h0]))]) ig_Fr tk_Fr nm_Fr rfl 1 rfl 4 (by decide) rfl m_115 rfl (tk_Fr 4 (by decide)) rfl rfl (Nat.le_of_ble_eq_true rfl) d_Rd_takeEquals_130 rfl ?_
        refine j_aload_n d_Rd_takeEquals_133 rfl 3 rfl ?_
        refine j_bipush (v := 30) d_Rd_takeEquals_134 (by decide) ?_
        refine j_callV (n := 1) (As := [.int 30]) (rest := []) (wr := [(a_top_h0, .inr (0, [V_below_a_top_h0, V_above_a_top_h0, .int 21, .int start_a_scanner_h0, .int width_a_scanner_h0, .int place_a_top_h0, .int parts_a_top_h0, .int innerParts_a_top_h0, .int innerPlace_a_top_h0, .int innerWidth_a_top_h0, .int signs_a_top_h0, .int waitingBelow_a_top_h0, .int limited_a_top_h0, .int targets_a_top_h0, .int lastBlock_a_top_h0])), (a_draft_h0, .inr (1, [.ref a_cells_a_draft_h0, .int count_a_draft_h0])), (a_cells_a_draft_h0, .inl (cI, n_a_cells_a_draft_h0, .inl b_a_cells_a_draft_h0)), (a_scanner_h0, .inr (4, [.ref a_text_a_scanner_h0, .int next_a_scanner_h0, .int kind_a_scanner_h0, .int start_a_scanner_h0, .int width_a_scanner_h0]))]) (c_Rd_goOn l D cI cB cJ cS h0 a_scanner_h0 a_draft_h0 a_waiting_h0 a_functions_h0 a_bottom_h0 a_top_h0 a_text_h0 30 mode_h0 levels_h0 signs_h0 loops_h0 token_h0 fault_h0  ) k_Rd_130 (by decide) ⟨Nat.le_of_ble_eq_true rfl, Nat.le_of_ble_eq_true rfl⟩ rfl 0 rfl [0] [1, 2, 3, 4] rfl (by decide) rfl (by decide) (by decide) rfl rfl (Nat.le_of_ble_eq_true rfl) d_Rd_takeEquals_136 ⟨Nat.le_of_ble_eq_true rfl, Nat.le_of_ble_eq_true rfl⟩ (fun v w hq => ?_)
        obtain ⟨rfl, _, rfl⟩ := hq
        refine j_norm (pc' := 139) (st' := [.int 1]) (ws' := [(a_top_h0, .inr (0, [V_below_a_top_h0, V_above_a_top_h0, .int 21, .int start_a_scanner_h0, .int width_a_scanner_h0, .int place_a_top_h0, .int parts_a_top_h0, .int innerParts_a_top_h0, .int innerPlace_a_top_h0, .int innerWidth_a_top_h0, .int signs_a_top_h0, .int waitingBelow_a_top_h0, .int limited_a_top_h0, .int targets_a_top_h0, .int lastBlock_a_top_h0])), (a_draft_h0, .inr (1, [.ref a_cells_a_draft_h0, .int count_a_draft_h0])), (a_cells_a_draft_h0, .inl (cI, n_a_cells_a_draft_h0, .inl b_a_cells_a_draft_h0)), (a_scanner_h0, .inr (4, [.ref a_text_a_scanner_h0, .int next_a_scanner_h0, .int kind_a_scanner_h0, .int start_a_scanner_h0, .int width_a_scanner_h0])), (h0, .inr (2, [.ref a_scanner_h0, .ref a_draft_h0, .ref a_waiting_h0, .ref a_functions_h0, .ref a_bottom_h0, .ref a_top_h0, .ref a_text_h0, .int 30, .int levels_h0, .int signs_h0, .int loops_h0, .int token_h0, .int fault_h0]))]) (cl' := 0) (sl' := 0) rfl rfl rfl rfl rfl rfl ?_
        replace h := Option.some.inj h
        replace h := Prod.mk.inj h
        obtain ⟨h9, h⟩ := h
        subst h9
        replace h := Prod.mk.inj h
        obtain ⟨h9, h⟩ := h
        subst h9
        replace h := Prod.mk.inj h
        obtain ⟨h9, h⟩ := h
        subst h9
        replace h := Prod.mk.inj h
        obtain ⟨h9, h⟩ := h
        subst h9
        replace h := Prod.mk.inj h
        obtain ⟨h9, h⟩ := h
        subst h9
        subst h
        exact j_zret (w := [(h0, .inr (2, [.ref a_scanner_h0, .ref a_draft_h0, .ref a_waiting_h0, .ref a_functions_h0, .ref a_bottom_h0, .ref a_top_h0, .ref a_text_h0, .int 30, .int levels_h0, .int signs_h0, .int loops_h0, .int token_h0, .int fault_h0])), (a_draft_h0, .inr (1, [.ref a_cells_a_draft_h0, .int count_a_draft_h0])), (a_cells_a_draft_h0, .inl (cI, n_a_cells_a_draft_h0, .inl b_a_cells_a_draft_h0)), (a_top_h0, .inr (0, [V_below_a_top_h0, V_above_a_top_h0, .int 21, .int start_a_scanner_h0, .int width_a_scanner_h0, .int place_a_top_h0, .int parts_a_top_h0, .int innerParts_a_top_h0, .int innerPlace_a_top_h0, .int innerWidth_a_top_h0, .int signs_a_top_h0, .int waitingBelow_a_top_h0, .int limited_a_top_h0, .int targets_a_top_h0, .int lastBlock_a_top_h0])), (a_scanner_h0, .inr (4, [.ref a_text_a_scanner_h0, .int next_a_scanner_h0, .int kind_a_scanner_h0, .int start_a_scanner_h0, .int width_a_scanner_h0]))]) hr (zb_n zb1) d_Rd_takeEquals_139 [4, 1, 2, 0, 3] rfl (by decide) ⟨rfl, zb1, rfl⟩
      · replace h := it_f c5 h
        refine j_iconst (v := 0) d_Rd_takeEquals_80 (by decide) ?_
        replace h := Option.some.inj h
        replace h := Prod.mk.inj h
        obtain ⟨h9, h⟩ := h
        subst h9
        replace h := Prod.mk.inj h
        obtain ⟨h9, h⟩ := h
        subst h9
        replace h := Prod.mk.inj h
        obtain ⟨h9, h⟩ := h
        subst h9
        replace h := Prod.mk.inj h
        obtain ⟨h9, h⟩ := h
        subst h9
        replace h := Prod.mk.inj h
        obtain ⟨h9, h⟩ := h
        subst h9
        subst h
        exact j_zret (w := [(h0, .inr (2, [.ref a_scanner_h0, .ref a_draft_h0, .ref a_waiting_h0, .ref a_functions_h0, .ref a_bottom_h0, .ref a_top_h0, .ref a_text_h0, .int mode_h0, .int levels_h0, .int signs_h0, .int loops_h0, .int token_h0, .int fault_h0])), (a_draft_h0, .inr (1, [.ref a_cells_a_draft_h0, .int count_a_draft_h0])), (a_cells_a_draft_h0, .inl (cI, n_a_cells_a_draft_h0, .inl b_a_cells_a_draft_h0)), (a_top_h0, .inr (0, [V_below_a_top_h0, V_above_a_top_h0, .int kind_a_top_h0, .int place_a_top_h0, .int width_a_top_h0, .int second_a_top_h0, .int parts_a_top_h0, .int innerParts_a_top_h0, .int innerPlace_a_top_h0, .int innerWidth_a_top_h0, .int signs_a_top_h0, .int waitingBelow_a_top_h0, .int limited_a_top_h0, .int targets_a_top_h0, .int lastBlock_a_top_h0])), (a_scanner_h0, .inr (4, [.ref a_text_a_scanner_h0, .int next_a_scanner_h0, .int kind_a_scanner_h0, .int start_a_scanner_h0, .int width_a_scanner_h0]))]) hr (zb_n zb0) d_Rd_takeEquals_81 [0, 3, 4, 1, 2] rfl (by decide) ⟨rfl, zb0, rfl⟩
set_option maxHeartbeats 4000000 in
set_option maxRecDepth 100000 in
theorem c_Rd_takeEquals (l : Launch) (D : va_G) (cI cB cJ cS : ClassId) (h0 : Nat) (a_scanner_h0 : Nat) (a_draft_h0 : Nat) (a_waiting_h0 : Nat) (a_functions_h0 : Nat) (a_bottom_h0 : Nat) (a_top_h0 : Nat) (a_text_h0 : Nat) (a_cells_a_draft_h0 : Nat) (V_below_a_top_h0 : Value) (V_above_a_top_h0 : Value) (a_text_a_scanner_h0 : Nat) (mode_h0 : Int32) (levels_h0 : Int32) (signs_h0 : Int32) (loops_h0 : Int32) (token_h0 : Int32) (fault_h0 : Int32) (count_a_draft_h0 : Int32) (n_a_cells_a_draft_h0 : Nat) (b_a_cells_a_draft_h0 : Nat → Int32) (kind_a_top_h0 : Int32) (place_a_top_h0 : Int32) (width_a_top_h0 : Int32) (second_a_top_h0 : Int32) (parts_a_top_h0 : Int32) (innerParts_a_top_h0 : Int32) (innerPlace_a_top_h0 : Int32) (innerWidth_a_top_h0 : Int32) (signs_a_top_h0 : Int32) (waitingBelow_a_top_h0 : Int32) (limited_a_top_h0 : Int32) (targets_a_top_h0 : Int32) (lastBlock_a_top_h0 : Int32) (next_a_scanner_h0 : Int32) (kind_a_scanner_h0 : Int32) (start_a_scanner_h0 : Int32) (width_a_scanner_h0 : Int32) (ret : Int32) (o_0_7 : Int32) (o_3_2 : Int32) (o_3_3 : Int32) (o_3_4 : Int32) (o_3_5 : Int32) (h : F_Rd_takeEquals mode_h0 levels_h0 signs_h0 loops_h0 token_h0 fault_h0 count_a_draft_h0 n_a_cells_a_draft_h0 b_a_cells_a_draft_h0 kind_a_top_h0 place_a_top_h0 width_a_top_h0 second_a_top_h0 parts_a_top_h0 innerParts_a_top_h0 innerPlace_a_top_h0 innerWidth_a_top_h0 signs_a_top_h0 waitingBelow_a_top_h0 limited_a_top_h0 targets_a_top_h0 lastBlock_a_top_h0 next_a_scanner_h0 kind_a_scanner_h0 start_a_scanner_h0 width_a_scanner_h0 = some (ret, o_0_7, o_3_2, o_3_3, o_3_4, o_3_5)) : Ct l D (gT cI cB cJ cS) y_Rd_takeEquals prog_6_method_65_code 4 (Option.some Jvm.ClassFile.FieldType.boolean) 2 43 0 0 [.ref h0] [(h0, .inr (2, [.ref a_scanner_h0, .ref a_draft_h0, .ref a_waiting_h0, .ref a_functions_h0, .ref a_bottom_h0, .ref a_top_h0, .ref a_text_h0, .int mode_h0, .int levels_h0, .int signs_h0, .int loops_h0, .int token_h0, .int fault_h0])), (a_draft_h0, .inr (1, [.ref a_cells_a_draft_h0, .int count_a_draft_h0])), (a_cells_a_draft_h0, .inl (cI, n_a_cells_a_draft_h0, .inl b_a_cells_a_draft_h0)), (a_top_h0, .inr (0, [V_below_a_top_h0, V_above_a_top_h0, .int kind_a_top_h0, .int place_a_top_h0, .int width_a_top_h0, .int second_a_top_h0, .int parts_a_top_h0, .int innerParts_a_top_h0, .int innerPlace_a_top_h0, .int innerWidth_a_top_h0, .int signs_a_top_h0, .int waitingBelow_a_top_h0, .int limited_a_top_h0, .int targets_a_top_h0, .int lastBlock_a_top_h0])), (a_scanner_h0, .inr (4, [.ref a_text_a_scanner_h0, .int next_a_scanner_h0, .int kind_a_scanner_h0, .int start_a_scanner_h0, .int width_a_scanner_h0]))] (fun v w => v = some (.int ret) ∧ zb ret ∧ w = [(h0, .inr (2, [.ref a_scanner_h0, .ref a_draft_h0, .ref a_waiting_h0, .ref a_functions_h0, .ref a_bottom_h0, .ref a_top_h0, .ref a_text_h0, .int o_0_7, .int levels_h0, .int signs_h0, .int loops_h0, .int token_h0, .int fault_h0])), (a_draft_h0, .inr (1, [.ref a_cells_a_draft_h0, .int count_a_draft_h0])), (a_cells_a_draft_h0, .inl (cI, n_a_cells_a_draft_h0, .inl b_a_cells_a_draft_h0)), (a_top_h0, .inr (0, [V_below_a_top_h0, V_above_a_top_h0, .int o_3_2, .int o_3_3, .int o_3_4, .int o_3_5, .int parts_a_top_h0, .int innerParts_a_top_h0, .int innerPlace_a_top_h0, .int innerWidth_a_top_h0, .int signs_a_top_h0, .int waitingBelow_a_top_h0, .int limited_a_top_h0, .int targets_a_top_h0, .int lastBlock_a_top_h0])), (a_scanner_h0, .inr (4, [.ref a_text_a_scanner_h0, .int next_a_scanner_h0, .int kind_a_scanner_h0, .int start_a_scanner_h0, .int width_a_scanner_h0]))]) := by
  refine Ct.mk (by decide) (Nat.le_of_ble_eq_true rfl) ?_
  intro p e s m below meth c hr hnm
  refine j_norm (pc' := 0) (lv' := [(0, .ref h0)]) (st' := []) (ws' := [(h0, .inr (2, [.ref a_scanner_h0, .ref a_draft_h0, .ref a_waiting_h0, .ref a_functions_h0, .ref a_bottom_h0, .ref a_top_h0, .ref a_text_h0, .int mode_h0, .int levels_h0, .int signs_h0, .int loops_h0, .int token_h0, .int fault_h0])), (a_draft_h0, .inr (1, [.ref a_cells_a_draft_h0, .int count_a_draft_h0])), (a_cells_a_draft_h0, .inl (cI, n_a_cells_a_draft_h0, .inl b_a_cells_a_draft_h0)), (a_top_h0, .inr (0, [V_below_a_top_h0, V_above_a_top_h0, .int kind_a_top_h0, .int place_a_top_h0, .int width_a_top_h0, .int second_a_top_h0, .int parts_a_top_h0, .int innerParts_a_top_h0, .int innerPlace_a_top_h0, .int innerWidth_a_top_h0, .int signs_a_top_h0, .int waitingBelow_a_top_h0, .int limited_a_top_h0, .int targets_a_top_h0, .int lastBlock_a_top_h0])), (a_scanner_h0, .inr (4, [.ref a_text_a_scanner_h0, .int next_a_scanner_h0, .int kind_a_scanner_h0, .int start_a_scanner_h0, .int width_a_scanner_h0]))]) (cl' := 0) (sl' := 0) rfl rfl rfl rfl rfl rfl ?_
  unfold F_Rd_takeEquals at h
  refine j_aload_n d_Rd_takeEquals_0 rfl 0 rfl ?_
  refine j_get ig_Rd rfl 0 rfl 1 (by decide) rfl m_170 rfl d_Rd_takeEquals_1 ?_
  refine j_iconst (v := 0) d_Rd_takeEquals_4 (by decide) ?_
  replace h := bd_s h
  obtain ⟨r9, k10, h⟩ := h
  refine j_callV (n := 1) (As := [.int 0]) (rest := []) (wr := [(h0, .inr (2, [.ref a_scanner_h0, .ref a_draft_h0, .ref a_waiting_h0, .ref a_functions_h0, .ref a_bottom_h0, .ref a_top_h0, .ref a_text_h0, .int mode_h0, .int levels_h0, .int signs_h0, .int loops_h0, .int token_h0, .int fault_h0])), (a_top_h0, .inr (0, [V_below_a_top_h0, V_above_a_top_h0, .int kind_a_top_h0, .int place_a_top_h0, .int width_a_top_h0, .int second_a_top_h0, .int parts_a_top_h0, .int innerParts_a_top_h0, .int innerPlace_a_top_h0, .int innerWidth_a_top_h0, .int signs_a_top_h0, .int waitingBelow_a_top_h0, .int limited_a_top_h0, .int targets_a_top_h0, .int lastBlock_a_top_h0])), (a_scanner_h0, .inr (4, [.ref a_text_a_scanner_h0, .int next_a_scanner_h0, .int kind_a_scanner_h0, .int start_a_scanner_h0, .int width_a_scanner_h0]))]) (c_Nd_last l D cI cB cJ cS a_draft_h0 a_cells_a_draft_h0 0 count_a_draft_h0 n_a_cells_a_draft_h0 b_a_cells_a_draft_h0  r9 k10) k_Rd_298 (by decide) ⟨Nat.le_of_ble_eq_true rfl, Nat.le_of_ble_eq_true rfl⟩ rfl 0 rfl [1, 2] [0, 3, 4] rfl (by decide) rfl (by decide) (by decide) rfl rfl (Nat.le_of_ble_eq_true rfl) d_Rd_takeEquals_5 ⟨Nat.le_of_ble_eq_true rfl, Nat.le_of_ble_eq_true rfl⟩ (fun v w hq => ?_)
  obtain ⟨rfl, rfl⟩ := hq
  refine j_norm (pc' := 8) (st' := [.int r9]) (ws' := [(h0, .inr (2, [.ref a_scanner_h0, .ref a_draft_h0, .ref a_waiting_h0, .ref a_functions_h0, .ref a_bottom_h0, .ref a_top_h0, .ref a_text_h0, .int mode_h0, .int levels_h0, .int signs_h0, .int loops_h0, .int token_h0, .int fault_h0])), (a_top_h0, .inr (0, [V_below_a_top_h0, V_above_a_top_h0, .int kind_a_top_h0, .int place_a_top_h0, .int width_a_top_h0, .int second_a_top_h0, .int parts_a_top_h0, .int innerParts_a_top_h0, .int innerPlace_a_top_h0, .int innerWidth_a_top_h0, .int signs_a_top_h0, .int waitingBelow_a_top_h0, .int limited_a_top_h0, .int targets_a_top_h0, .int lastBlock_a_top_h0])), (a_scanner_h0, .inr (4, [.ref a_text_a_scanner_h0, .int next_a_scanner_h0, .int kind_a_scanner_h0, .int start_a_scanner_h0, .int width_a_scanner_h0])), (a_draft_h0, .inr (1, [.ref a_cells_a_draft_h0, .int count_a_draft_h0])), (a_cells_a_draft_h0, .inl (cI, n_a_cells_a_draft_h0, .inl b_a_cells_a_draft_h0))]) (cl' := 0) (sl' := 0) rfl rfl rfl rfl rfl rfl ?_
  refine j_istore_n (lv' := [(1, .int r9), (0, .ref h0)]) d_Rd_takeEquals_8 rfl (by decide) rfl ?_
  refine j_aload_n d_Rd_takeEquals_9 rfl 1 rfl ?_
  refine j_get ig_Rd rfl 0 rfl 1 (by decide) rfl m_170 rfl d_Rd_takeEquals_10 ?_
  refine j_iconst (v := 3) d_Rd_takeEquals_13 (by decide) ?_
  replace h := bd_s h
  obtain ⟨r11, k12, h⟩ := h
  refine j_callV (n := 1) (As := [.int 3]) (rest := []) (wr := [(h0, .inr (2, [.ref a_scanner_h0, .ref a_draft_h0, .ref a_waiting_h0, .ref a_functions_h0, .ref a_bottom_h0, .ref a_top_h0, .ref a_text_h0, .int mode_h0, .int levels_h0, .int signs_h0, .int loops_h0, .int token_h0, .int fault_h0])), (a_top_h0, .inr (0, [V_below_a_top_h0, V_above_a_top_h0, .int kind_a_top_h0, .int place_a_top_h0, .int width_a_top_h0, .int second_a_top_h0, .int parts_a_top_h0, .int innerParts_a_top_h0, .int innerPlace_a_top_h0, .int innerWidth_a_top_h0, .int signs_a_top_h0, .int waitingBelow_a_top_h0, .int limited_a_top_h0, .int targets_a_top_h0, .int lastBlock_a_top_h0])), (a_scanner_h0, .inr (4, [.ref a_text_a_scanner_h0, .int next_a_scanner_h0, .int kind_a_scanner_h0, .int start_a_scanner_h0, .int width_a_scanner_h0]))]) (c_Nd_last l D cI cB cJ cS a_draft_h0 a_cells_a_draft_h0 3 count_a_draft_h0 n_a_cells_a_draft_h0 b_a_cells_a_draft_h0  r11 k12) k_Rd_298 (by decide) ⟨Nat.le_of_ble_eq_true rfl, Nat.le_of_ble_eq_true rfl⟩ rfl 0 rfl [3, 4] [0, 1, 2] rfl (by decide) rfl (by decide) (by decide) rfl rfl (Nat.le_of_ble_eq_true rfl) d_Rd_takeEquals_14 ⟨Nat.le_of_ble_eq_true rfl, Nat.le_of_ble_eq_true rfl⟩ (fun v w hq => ?_)
  obtain ⟨rfl, rfl⟩ := hq
  refine j_norm (pc' := 17) (st' := [.int r11]) (ws' := [(h0, .inr (2, [.ref a_scanner_h0, .ref a_draft_h0, .ref a_waiting_h0, .ref a_functions_h0, .ref a_bottom_h0, .ref a_top_h0, .ref a_text_h0, .int mode_h0, .int levels_h0, .int signs_h0, .int loops_h0, .int token_h0, .int fault_h0])), (a_top_h0, .inr (0, [V_below_a_top_h0, V_above_a_top_h0, .int kind_a_top_h0, .int place_a_top_h0, .int width_a_top_h0, .int second_a_top_h0, .int parts_a_top_h0, .int innerParts_a_top_h0, .int innerPlace_a_top_h0, .int innerWidth_a_top_h0, .int signs_a_top_h0, .int waitingBelow_a_top_h0, .int limited_a_top_h0, .int targets_a_top_h0, .int lastBlock_a_top_h0])), (a_scanner_h0, .inr (4, [.ref a_text_a_scanner_h0, .int next_a_scanner_h0, .int kind_a_scanner_h0, .int start_a_scanner_h0, .int width_a_scanner_h0])), (a_draft_h0, .inr (1, [.ref a_cells_a_draft_h0, .int count_a_draft_h0])), (a_cells_a_draft_h0, .inl (cI, n_a_cells_a_draft_h0, .inl b_a_cells_a_draft_h0))]) (cl' := 0) (sl' := 0) rfl rfl rfl rfl rfl rfl ?_
  refine j_istore_n (lv' := [(2, .int r11), (1, .int r9), (0, .ref h0)]) d_Rd_takeEquals_17 rfl (by decide) rfl ?_
  refine j_iload_n d_Rd_takeEquals_18 rfl 1 rfl ?_
  refine j_bipush (v := 32) d_Rd_takeEquals_19 (by decide) ?_
  refine j_icmp_eq (tgt := 40) d_Rd_takeEquals_21 (by decide) (fun c13 => ?_) (fun c13 => ?_)
  · replace h := it_t c13 h
    refine j_iconst (v := 1) d_Rd_takeEquals_40 (by decide) ?_
    refine j_goto (tgt := 45) d_Rd_takeEquals_41 (by decide) ?_
    refine j_sub (w := [(h0, .inr (2, [.ref a_scanner_h0, .ref a_draft_h0, .ref a_waiting_h0, .ref a_functions_h0, .ref a_bottom_h0, .ref a_top_h0, .ref a_text_h0, .int mode_h0, .int levels_h0, .int signs_h0, .int loops_h0, .int token_h0, .int fault_h0])), (a_top_h0, .inr (0, [V_below_a_top_h0, V_above_a_top_h0, .int kind_a_top_h0, .int place_a_top_h0, .int width_a_top_h0, .int second_a_top_h0, .int parts_a_top_h0, .int innerParts_a_top_h0, .int innerPlace_a_top_h0, .int innerWidth_a_top_h0, .int signs_a_top_h0, .int waitingBelow_a_top_h0, .int limited_a_top_h0, .int targets_a_top_h0, .int lastBlock_a_top_h0])), (a_scanner_h0, .inr (4, [.ref a_text_a_scanner_h0, .int next_a_scanner_h0, .int kind_a_scanner_h0, .int start_a_scanner_h0, .int width_a_scanner_h0])), (a_draft_h0, .inr (1, [.ref a_cells_a_draft_h0, .int count_a_draft_h0])), (a_cells_a_draft_h0, .inl (cI, n_a_cells_a_draft_h0, .inl b_a_cells_a_draft_h0))]) (lv' := [(2, .int r11), (1, .int r9), (0, .ref h0)]) [0, 1, 2, 3, 4] rfl (by decide) [0, 1, 2] rfl ?_
    exact L_Rd_takeEquals_45 l D cI cB cJ cS h0 a_scanner_h0 a_draft_h0 a_waiting_h0 a_functions_h0 a_bottom_h0 a_top_h0 a_text_h0 a_cells_a_draft_h0 V_below_a_top_h0 V_above_a_top_h0 a_text_a_scanner_h0 mode_h0 levels_h0 signs_h0 loops_h0 token_h0 fault_h0 count_a_draft_h0 n_a_cells_a_draft_h0 b_a_cells_a_draft_h0 kind_a_top_h0 place_a_top_h0 width_a_top_h0 second_a_top_h0 parts_a_top_h0 innerParts_a_top_h0 innerPlace_a_top_h0 innerWidth_a_top_h0 signs_a_top_h0 waitingBelow_a_top_h0 limited_a_top_h0 targets_a_top_h0 lastBlock_a_top_h0 next_a_scanner_h0 kind_a_scanner_h0 start_a_scanner_h0 width_a_scanner_h0 ret o_0_7 o_3_2 o_3_3 o_3_4 o_3_5 p e s m below meth c hr hnm r11 r9 1 zb1 h
  · replace h := it_f c13 h
    refine j_iload_n d_Rd_takeEquals_24 rfl 1 rfl ?_
    refine j_bipush (v := 33) d_Rd_takeEquals_25 (by decide) ?_
    refine j_icmp_ne (tgt := 44) d_Rd_takeEquals_27 (by decide) (fun c14 => ?_) (fun c14 => ?_)
    · replace h := it_f c14 h
      refine j_iconst (v := 0) d_Rd_takeEquals_44 (by decide) ?_
      refine j_sub (w := [(h0, .inr (2, [.ref a_scanner_h0, .ref a_draft_h0, .ref a_waiting_h0, .ref a_functions_h0, .ref a_bottom_h0, .ref a_top_h0, .ref a_text_h0, .int mode_h0, .int levels_h0, .int signs_h0, .int loops_h0, .int token_h0, .int fault_h0])), (a_top_h0, .inr (0, [V_below_a_top_h0, V_above_a_top_h0, .int kind_a_top_h0, .int place_a_top_h0, .int width_a_top_h0, .int second_a_top_h0, .int parts_a_top_h0, .int innerParts_a_top_h0, .int innerPlace_a_top_h0, .int innerWidth_a_top_h0, .int signs_a_top_h0, .int waitingBelow_a_top_h0, .int limited_a_top_h0, .int targets_a_top_h0, .int lastBlock_a_top_h0])), (a_scanner_h0, .inr (4, [.ref a_text_a_scanner_h0, .int next_a_scanner_h0, .int kind_a_scanner_h0, .int start_a_scanner_h0, .int width_a_scanner_h0])), (a_draft_h0, .inr (1, [.ref a_cells_a_draft_h0, .int count_a_draft_h0])), (a_cells_a_draft_h0, .inl (cI, n_a_cells_a_draft_h0, .inl b_a_cells_a_draft_h0))]) (lv' := [(2, .int r11), (1, .int r9), (0, .ref h0)]) [0, 1, 2, 3, 4] rfl (by decide) [0, 1, 2] rfl ?_
      exact L_Rd_takeEquals_45 l D cI cB cJ cS h0 a_scanner_h0 a_draft_h0 a_waiting_h0 a_functions_h0 a_bottom_h0 a_top_h0 a_text_h0 a_cells_a_draft_h0 V_below_a_top_h0 V_above_a_top_h0 a_text_a_scanner_h0 mode_h0 levels_h0 signs_h0 loops_h0 token_h0 fault_h0 count_a_draft_h0 n_a_cells_a_draft_h0 b_a_cells_a_draft_h0 kind_a_top_h0 place_a_top_h0 width_a_top_h0 second_a_top_h0 parts_a_top_h0 innerParts_a_top_h0 innerPlace_a_top_h0 innerWidth_a_top_h0 signs_a_top_h0 waitingBelow_a_top_h0 limited_a_top_h0 targets_a_top_h0 lastBlock_a_top_h0 next_a_scanner_h0 kind_a_scanner_h0 start_a_scanner_h0 width_a_scanner_h0 ret o_0_7 o_3_2 o_3_3 o_3_4 o_3_5 p e s m below meth c hr hnm r11 r9 0 zb0 h
    · replace h := it_t c14 h
      refine j_iload_n d_Rd_takeEquals_30 rfl 0 rfl ?_
      refine j_iconst (v := 1) d_Rd_takeEquals_31 (by decide) ?_
      refine j_icmp_lt (tgt := 44) d_Rd_takeEquals_32 (by decide) (fun c15 => ?_) (fun c15 => ?_)
      · replace h := it_t c15 h
        refine j_iconst (v := 0) d_Rd_takeEquals_44 (by decide) ?_
        refine j_sub (w := [(h0, .inr (2, [.ref a_scanner_h0, .ref a_draft_h0, .ref a_waiting_h0, .ref a_functions_h0, .ref a_bottom_h0, .ref a_top_h0, .ref a_text_h0, .int mode_h0, .int levels_h0, .int signs_h0, .int loops_h0, .int token_h0, .int fault_h0])), (a_top_h0, .inr (0, [V_below_a_top_h0, V_above_a_top_h0, .int kind_a_top_h0, .int place_a_top_h0, .int width_a_top_h0, .int second_a_top_h0, .int parts_a_top_h0, .int innerParts_a_top_h0, .int innerPlace_a_top_h0, .int innerWidth_a_top_h0, .int signs_a_top_h0, .int waitingBelow_a_top_h0, .int limited_a_top_h0, .int targets_a_top_h0, .int lastBlock_a_top_h0])), (a_scanner_h0, .inr (4, [.ref a_text_a_scanner_h0, .int next_a_scanner_h0, .int kind_a_scanner_h0, .int start_a_scanner_h0, .int width_a_scanner_h0])), (a_draft_h0, .inr (1, [.ref a_cells_a_draft_h0, .int count_a_draft_h0])), (a_cells_a_draft_h0, .inl (cI, n_a_cells_a_draft_h0, .inl b_a_cells_a_draft_h0))]) (lv' := [(2, .int r11), (1, .int r9), (0, .ref h0)]) [0, 1, 2, 3, 4] rfl (by decide) [0, 1, 2] rfl ?_
        exact L_Rd_takeEquals_45 l D cI cB cJ cS h0 a_scanner_h0 a_draft_h0 a_waiting_h0 a_functions_h0 a_bottom_h0 a_top_h0 a_text_h0 a_cells_a_draft_h0 V_below_a_top_h0 V_above_a_top_h0 a_text_a_scanner_h0 mode_h0 levels_h0 signs_h0 loops_h0 token_h0 fault_h0 count_a_draft_h0 n_a_cells_a_draft_h0 b_a_cells_a_draft_h0 kind_a_top_h0 place_a_top_h0 width_a_top_h0 second_a_top_h0 parts_a_top_h0 innerParts_a_top_h0 innerPlace_a_top_h0 innerWidth_a_top_h0 signs_a_top_h0 waitingBelow_a_top_h0 limited_a_top_h0 targets_a_top_h0 lastBlock_a_top_h0 next_a_scanner_h0 kind_a_scanner_h0 start_a_scanner_h0 width_a_scanner_h0 ret o_0_7 o_3_2 o_3_3 o_3_4 o_3_5 p e s m below meth c hr hnm r11 r9 0 zb0 h
      · replace h := it_f c15 h
        refine j_iload_n d_Rd_takeEquals_35 rfl 0 rfl ?_
        refine j_iconst (v := 2) d_Rd_takeEquals_36 (by decide) ?_
        refine j_icmp_gt (tgt := 44) d_Rd_takeEquals_37 (by decide) (fun c16 => ?_) (fun c16 => ?_)
        · replace h := it_t c16 h
          refine j_iconst (v := 0) d_Rd_takeEquals_44 (by decide) ?_
          refine j_sub (w := [(h0, .inr (2, [.ref a_scanner_h0, .ref a_draft_h0, .ref a_waiting_h0, .ref a_functions_h0, .ref a_bottom_h0, .ref a_top_h0, .ref a_text_h0, .int mode_h0, .int levels_h0, .int signs_h0, .int loops_h0, .int token_h0, .int fault_h0])), (a_top_h0, .inr (0, [V_below_a_top_h0, V_above_a_top_h0, .int kind_a_top_h0, .int place_a_top_h0, .int width_a_top_h0, .int second_a_top_h0, .int parts_a_top_h0, .int innerParts_a_top_h0, .int innerPlace_a_top_h0, .int innerWidth_a_top_h0, .int signs_a_top_h0, .int waitingBelow_a_top_h0, .int limited_a_top_h0, .int targets_a_top_h0, .int lastBlock_a_top_h0])), (a_scanner_h0, .inr (4, [.ref a_text_a_scanner_h0, .int next_a_scanner_h0, .int kind_a_scanner_h0, .int start_a_scanner_h0, .int width_a_scanner_h0])), (a_draft_h0, .inr (1, [.ref a_cells_a_draft_h0, .int count_a_draft_h0])), (a_cells_a_draft_h0, .inl (cI, n_a_cells_a_draft_h0, .inl b_a_cells_a_draft_h0))]) (lv' := [(2, .int r11), (1, .int r9), (0, .ref h0)]) [0, 1, 2, 3, 4] rfl (by decide) [0, 1, 2] rfl ?_
          exact L_Rd_takeEquals_45 l D cI cB cJ cS h0 a_scanner_h0 a_draft_h0 a_waiting_h0 a_functions_h0 a_bottom_h0 a_top_h0 a_text_h0 a_cells_a_draft_h0 V_below_a_top_h0 V_above_a_top_h0 a_text_a_scanner_h0 mode_h0 levels_h0 signs_h0 loops_h0 token_h0 fault_h0 count_a_draft_h0 n_a_cells_a_draft_h0 b_a_cells_a_draft_h0 kind_a_top_h0 place_a_top_h0 width_a_top_h0 second_a_top_h0 parts_a_top_h0 innerParts_a_top_h0 innerPlace_a_top_h0 innerWidth_a_top_h0 signs_a_top_h0 waitingBelow_a_top_h0 limited_a_top_h0 targets_a_top_h0 lastBlock_a_top_h0 next_a_scanner_h0 kind_a_scanner_h0 start_a_scanner_h0 width_a_scanner_h0 ret o_0_7 o_3_2 o_3_3 o_3_4 o_3_5 p e s m below meth c hr hnm r11 r9 0 zb0 h
        · replace h := it_f c16 h
          refine j_iconst (v := 1) d_Rd_takeEquals_40 (by decide) ?_
          refine j_goto (tgt := 45) d_Rd_takeEquals_41 (by decide) ?_
          refine j_sub (w := [(h0, .inr (2, [.ref a_scanner_h0, .ref a_draft_h0, .ref a_waiting_h0, .ref a_functions_h0, .ref a_bottom_h0, .ref a_top_h0, .ref a_text_h0, .int mode_h0, .int levels_h0, .int signs_h0, .int loops_h0, .int token_h0, .int fault_h0])), (a_top_h0, .inr (0, [V_below_a_top_h0, V_above_a_top_h0, .int kind_a_top_h0, .int place_a_top_h0, .int width_a_top_h0, .int second_a_top_h0, .int parts_a_top_h0, .int innerParts_a_top_h0, .int innerPlace_a_top_h0, .int innerWidth_a_top_h0, .int signs_a_top_h0, .int waitingBelow_a_top_h0, .int limited_a_top_h0, .int targets_a_top_h0, .int lastBlock_a_top_h0])), (a_scanner_h0, .inr (4, [.ref a_text_a_scanner_h0, .int next_a_scanner_h0, .int kind_a_scanner_h0, .int start_a_scanner_h0, .int width_a_scanner_h0])), (a_draft_h0, .inr (1, [.ref a_cells_a_draft_h0, .int count_a_draft_h0])), (a_cells_a_draft_h0, .inl (cI, n_a_cells_a_draft_h0, .inl b_a_cells_a_draft_h0))]) (lv' := [(2, .int r11), (1, .int r9), (0, .ref h0)]) [0, 1, 2, 3, 4] rfl (by decide) [0, 1, 2] rfl ?_
          exact L_Rd_takeEquals_45 l D cI cB cJ cS h0 a_scanner_h0 a_draft_h0 a_waiting_h0 a_functions_h0 a_bottom_h0 a_top_h0 a_text_h0 a_cells_a_draft_h0 V_below_a_top_h0 V_above_a_top_h0 a_text_a_scanner_h0 mode_h0 levels_h0 signs_h0 loops_h0 token_h0 fault_h0 count_a_draft_h0 n_a_cells_a_draft_h0 b_a_cells_a_draft_h0 kind_a_top_h0 place_a_top_h0 width_a_top_h0 second_a_top_h0 parts_a_top_h0 innerParts_a_top_h0 innerPlace_a_top_h0 innerWidth_a_top_h0 signs_a_top_h0 waitingBelow_a_top_h0 limited_a_top_h0 targets_a_top_h0 lastBlock_a_top_h0 next_a_scanner_h0 kind_a_scanner_h0 start_a_scanner_h0 width_a_scanner_h0 ret o_0_7 o_3_2 o_3_3 o_3_4 o_3_5 p e s m below meth c hr hnm r11 r9 1 zb1 h
def F_Rd_closeItem (fn : Nat) (fd : Nat) (fcf : Nat → FrC) (mode_h0 : Int32) (levels_h0 : Int32) (signs_h0 : Int32) (loops_h0 : Int32) (token_h0 : Int32) (fault_h0 : Int32) (kind_t : Int32) (place_t : Int32) (width_t : Int32) (second_t : Int32) (parts_t : Int32) (innerParts_t : Int32) (innerPlace_t : Int32) (innerWidth_t : Int32) (signs_t : Int32) (waitingBelow_t : Int32) (limited_t : Int32) (targets_t : Int32) (lastBlock_t : Int32) : Option (Nat × Nat × (Nat → FrC) × Int32 × Int32 × Int32 × Int32 × Int32 × Int32 × Int32 × Int32 × Int32 × Int32 × Int32 × Int32 × Int32) :=
  Option.bind (F_Rd_pop fn fd fcf mode_h0 (levels_h0 - 1) signs_h0 loops_h0 token_h0 fault_h0 kind_t place_t width_t second_t parts_t innerParts_t innerPlace_t innerWidth_t signs_t waitingBelow_t limited_t targets_t lastBlock_t) fun ⟨r1, r2, r3, r4, r5, r6, r7, r8, r9, r10, r11, r12, r13, r14, r15, r16⟩ =>
  (some (r1, r2, r3, r4, r5, r6, r7, r8, r9, r10, r11, r12, r13, r14, r15, r16))
theorem d_Rd_closeItem_0 : decode prog_6_method_67_code 0 = .ok (.aload_n 0, 1) := by decide +kernel
theorem d_Rd_closeItem_1 : decode prog_6_method_67_code 1 = .ok (.dup, 1) := by decide +kernel
theorem d_Rd_closeItem_2 : decode prog_6_method_67_code 2 = .ok (.getfield 60, 3) := by decide +kernel
theorem d_Rd_closeItem_5 : decode prog_6_method_67_code 5 = .ok (.iconst 1, 1) := by decide +kernel
theorem d_Rd_closeItem_6 : decode prog_6_method_67_code 6 = .ok (.isub, 1) := by decide +kernel
theorem d_Rd_closeItem_7 : decode prog_6_method_67_code 7 = .ok (.putfield 60, 3) := by decide +kernel
theorem d_Rd_closeItem_10 : decode prog_6_method_67_code 10 = .ok (.aload_n 0, 1) := by decide +kernel
theorem d_Rd_closeItem_11 : decode prog_6_method_67_code 11 = .ok (.invokevirtual 232, 3) := by decide +kernel
theorem d_Rd_closeItem_14 : decode prog_6_method_67_code 14 = .ok (.aload_n 0, 1) := by decide +kernel
theorem d_Rd_closeItem_15 : decode prog_6_method_67_code 15 = .ok (.invokevirtual 157, 3) := by decide +kernel
theorem d_Rd_closeItem_18 : decode prog_6_method_67_code 18 = .ok (.ireturn, 1) := by decide +kernel
set_option maxHeartbeats 4000000 in
set_option maxRecDepth 100000 in
theorem c_Rd_closeItem (l : Launch) (D : va_G) (cI cB cJ cS : ClassId) (h0 : Nat) (fad : Nat → Nat) (a_scanner_h0 : Nat) (a_draft_h0 : Nat) (a_waiting_h0 : Nat) (a_functions_h0 : Nat) (a_text_h0 : Nat) (fn : Nat) (fd : Nat) (fcf : Nat → FrC) (mode_h0 : Int32) (levels_h0 : Int32) (signs_h0 : Int32) (loops_h0 : Int32) (token_h0 : Int32) (fault_h0 : Int32) (kind_t : Int32) (place_t : Int32) (width_t : Int32) (second_t : Int32) (parts_t : Int32) (innerParts_t : Int32) (innerPlace_t : Int32) (innerWidth_t : Int32) (signs_t : Int32) (waitingBelow_t : Int32) (limited_t : Int32) (targets_t : Int32) (lastBlock_t : Int32) (on_p : Nat) (od_p : Nat) (ocf_p : Nat → FrC) (o_1_2 : Int32) (o_1_3 : Int32) (o_1_4 : Int32) (o_1_5 : Int32) (o_1_6 : Int32) (o_1_7 : Int32) (o_1_8 : Int32) (o_1_9 : Int32) (o_1_10 : Int32) (o_1_11 : Int32) (o_1_12 : Int32) (o_1_13 : Int32) (o_1_14 : Int32) (h : F_Rd_closeItem fn fd fcf mode_h0 levels_h0 signs_h0 loops_h0 token_h0 fault_h0 kind_t place_t width_t second_t parts_t innerParts_t innerPlace_t innerWidth_t signs_t waitingBelow_t limited_t targets_t lastBlock_t = some (on_p, od_p, ocf_p, o_1_2, o_1_3, o_1_4, o_1_5, o_1_6, o_1_7, o_1_8, o_1_9, o_1_10, o_1_11, o_1_12, o_1_13, o_1_14)) : Ct l D (gT cI cB cJ cS) y_Rd_closeItem prog_6_method_67_code 1 (Option.some Jvm.ClassFile.FieldType.boolean) 1 20 0 0 [.ref h0] ((h0, .inr (2, [.ref a_scanner_h0, .ref a_draft_h0, .ref a_waiting_h0, .ref a_functions_h0, .ref (fad 0), .ref (fad fd), .ref a_text_h0, .int mode_h0, .int levels_h0, .int signs_h0, .int loops_h0, .int token_h0, .int fault_h0])) :: ((fad fd), .inr (0, [(frB fad fd), (frA fad fn fd), .int kind_t, .int place_t, .int width_t, .int second_t, .int parts_t, .int innerParts_t, .int innerPlace_t, .int innerWidth_t, .int signs_t, .int waitingBelow_t, .int limited_t, .int targets_t, .int lastBlock_t])) :: fpo fad fn fd fcf) (fun v w => ∃ nad : Nat → Nat, v = some (.int 1) ∧ zb 1 ∧ w = ((h0, .inr (2, [.ref a_scanner_h0, .ref a_draft_h0, .ref a_waiting_h0, .ref a_functions_h0, .ref (nad 0), .ref (nad od_p), .ref a_text_h0, .int 34, .int ((levels_h0 - 1) - signs_t), .int 0, .int loops_h0, .int token_h0, .int fault_h0])) :: ((nad od_p), .inr (0, [(frB nad od_p), (frA nad on_p od_p), .int o_1_2, .int o_1_3, .int o_1_4, .int o_1_5, .int o_1_6, .int o_1_7, .int o_1_8, .int o_1_9, .int o_1_10, .int o_1_11, .int o_1_12, .int o_1_13, .int o_1_14])) :: fpo nad on_p od_p ocf_p)) := by
  refine Ct.mk (by decide) (Nat.le_of_ble_eq_true rfl) ?_
  intro p e s m below meth c hr hnm
  refine j_norm (pc' := 0) (lv' := [(0, .ref h0)]) (st' := []) (ws' := ((h0, .inr (2, [.ref a_scanner_h0, .ref a_draft_h0, .ref a_waiting_h0, .ref a_functions_h0, .ref (fad 0), .ref (fad fd), .ref a_text_h0, .int mode_h0, .int levels_h0, .int signs_h0, .int loops_h0, .int token_h0, .int fault_h0])) :: ((fad fd), .inr (0, [(frB fad fd), (frA fad fn fd), .int kind_t, .int place_t, .int width_t, .int second_t, .int parts_t, .int innerParts_t, .int innerPlace_t, .int innerWidth_t, .int signs_t, .int waitingBelow_t, .int limited_t, .int targets_t, .int lastBlock_t])) :: fpo fad fn fd fcf)) (cl' := 0) (sl' := 0) rfl rfl rfl rfl rfl rfl ?_
  unfold F_Rd_closeItem at h
  refine j_aload_n d_Rd_closeItem_0 rfl 0 rfl ?_
  refine j_dup rfl d_Rd_closeItem_1 ?_
  refine j_get ig_Rd rfl 0 rfl 8 (by decide) rfl m_177 rfl d_Rd_closeItem_2 ?_
  refine j_iconst (v := 1) d_Rd_closeItem_5 (by decide) ?_
  refine j_isub d_Rd_closeItem_6 ?_
  refine j_put (ws' := ((h0, .inr (2, [.ref a_scanner_h0, .ref a_draft_h0, .ref a_waiting_h0, .ref a_functions_h0, .ref (fad 0), .ref (fad fd), .ref a_text_h0, .int mode_h0, .int (levels_h0 - 1), .int signs_h0, .int loops_h0, .int token_h0, .int fault_h0])) :: ((fad fd), .inr (0, [(frB fad fd), (frA fad fn fd), .int kind_t, .int place_t, .int width_t, .int second_t, .int parts_t, .int innerParts_t, .int innerPlace_t, .int innerWidth_t, .int signs_t, .int waitingBelow_t, .int limited_t, .int targets_t, .int lastBlock_t])) :: fpo fad fn fd fcf)) ig_Rd tk_Rd nm_Rd rfl 0 rfl 8 (by decide) rfl m_177 rfl (tk_Rd 8 (by decide)) rfl rfl (Nat.le_of_ble_eq_true rfl) d_Rd_closeItem_7 rfl ?_
  refine j_aload_n d_Rd_closeItem_10 rfl 0 rfl ?_
  replace h := bd_s h
  obtain ⟨⟨r1, r2, r3, r4, r5, r6, r7, r8, r9, r10, r11, r12, r13, r14, r15, r16⟩, k18, h⟩ := h
  refine j_callVg (n := 0) (As := []) (rest := []) (wr := []) (c_Rd_pop l D cI cB cJ cS h0 fad a_scanner_h0 a_draft_h0 a_waiting_h0 a_functions_h0 a_text_h0 fn fd fcf mode_h0 (levels_h0 - 1) signs_h0 loops_h0 token_h0 fault_h0 kind_t place_t width_t second_t parts_t innerParts_t innerPlace_t innerWidth_t signs_t waitingBelow_t limited_t targets_t lastBlock_t  r1 r2 r3 r4 r5 r6 r7 r8 r9 r10 r11 r12 r13 r14 r15 r16 k18) k_Rd_232 (by decide) ⟨Nat.le_of_ble_eq_true rfl, Nat.le_of_ble_eq_true rfl⟩ rfl 0 rfl (pk_app (wr := []) (w0 := [(h0, .inr (2, [.ref a_scanner_h0, .ref a_draft_h0, .ref a_waiting_h0, .ref a_functions_h0, .ref (fad 0), .ref (fad fd), .ref a_text_h0, .int mode_h0, .int (levels_h0 - 1), .int signs_h0, .int loops_h0, .int token_h0, .int fault_h0])), ((fad fd), .inr (0, [(frB fad fd), (frA fad fn fd), .int kind_t, .int place_t, .int width_t, .int second_t, .int parts_t, .int innerParts_t, .int innerPlace_t, .int innerWidth_t, .int signs_t, .int waitingBelow_t, .int limited_t, .int targets_t, .int lastBlock_t]))]) (pl := fpo fad fn fd fcf) [0, 1] 2 rfl rfl rfl (by decide)) rfl rfl (Nat.le_of_ble_eq_true rfl) d_Rd_closeItem_11 ⟨Nat.le_of_ble_eq_true rfl, Nat.le_of_ble_eq_true rfl⟩ (fun v w hq => ?_)
  obtain ⟨a17, rfl, rfl⟩ := hq
  refine j_norm (pc' := 14) (st' := []) (ws' := ((h0, .inr (2, [.ref a_scanner_h0, .ref a_draft_h0, .ref a_waiting_h0, .ref a_functions_h0, .ref (a17 0), .ref (a17 r2), .ref a_text_h0, .int mode_h0, .int (levels_h0 - 1), .int signs_t, .int loops_h0, .int token_h0, .int fault_h0])) :: ((a17 r2), .inr (0, [(frB a17 r2), (frA a17 r1 r2), .int r4, .int r5, .int r6, .int r7, .int r8, .int r9, .int r10, .int r11, .int r12, .int r13, .int r14, .int r15, .int r16])) :: fpo a17 r1 r2 r3)) (cl' := 0) (sl' := 0) rfl rfl rfl rfl rfl rfl ?_
  refine j_aload_n d_Rd_closeItem_14 rfl 0 rfl ?_
  refine j_callVg (n := 0) (As := []) (rest := []) (wr := ([((a17 r2), .inr (0, [(frB a17 r2), (frA a17 r1 r2), .int r4, .int r5, .int r6, .int r7, .int r8, .int r9, .int r10, .int r11, .int r12, .int r13, .int r14, .int r15, .int r16]))] ++ fpo a17 r1 r2 r3)) (c_Rd_endItem l D cI cB cJ cS h0 a_scanner_h0 a_draft_h0 a_waiting_h0 a_functions_h0 (a17 0) (a17 r2) a_text_h0 mode_h0 (levels_h0 - 1) signs_t loops_h0 token_h0 fault_h0  ) k_Rd_157 (by decide) ⟨Nat.le_of_ble_eq_true rfl, Nat.le_of_ble_eq_true rfl⟩ rfl 0 rfl (pk_mid (wr := [((a17 r2), .inr (0, [(frB a17 r2), (frA a17 r1 r2), .int r4, .int r5, .int r6, .int r7, .int r8, .int r9, .int r10, .int r11, .int r12, .int r13, .int r14, .int r15, .int r16]))]) (w0 := [(h0, .inr (2, [.ref a_scanner_h0, .ref a_draft_h0, .ref a_waiting_h0, .ref a_functions_h0, .ref (a17 0), .ref (a17 r2), .ref a_text_h0, .int mode_h0, .int (levels_h0 - 1), .int signs_t, .int loops_h0, .int token_h0, .int fault_h0]))]) (pl := fpo a17 r1 r2 r3) [1, 0] 2 rfl rfl (by decide)) rfl rfl (Nat.le_of_ble_eq_true rfl) d_Rd_closeItem_15 ⟨Nat.le_of_ble_eq_true rfl, Nat.le_of_ble_eq_true rfl⟩ (fun v w hq => ?_)
  obtain ⟨rfl, _, rfl⟩ := hq
  refine j_perm (ws' := (((a17 r2), .inr (0, [(frB a17 r2), (frA a17 r1 r2), .int r4, .int r5, .int r6, .int r7, .int r8, .int r9, .int r10, .int r11, .int r12, .int r13, .int r14, .int r15, .int r16])) :: (h0, .inr (2, [.ref a_scanner_h0, .ref a_draft_h0, .ref a_waiting_h0, .ref a_functions_h0, .ref (a17 0), .ref (a17 r2), .ref a_text_h0, .int 34, .int ((levels_h0 - 1) - signs_t), .int 0, .int loops_h0, .int token_h0, .int fault_h0])) :: fpo a17 r1 r2 r3)) (pm_eq (a := [((a17 r2), .inr (0, [(frB a17 r2), (frA a17 r1 r2), .int r4, .int r5, .int r6, .int r7, .int r8, .int r9, .int r10, .int r11, .int r12, .int r13, .int r14, .int r15, .int r16]))]) (b := fpo a17 r1 r2 r3) (c := [(h0, .inr (2, [.ref a_scanner_h0, .ref a_draft_h0, .ref a_waiting_h0, .ref a_functions_h0, .ref (a17 0), .ref (a17 r2), .ref a_text_h0, .int 34, .int ((levels_h0 - 1) - signs_t), .int 0, .int loops_h0, .int token_h0, .int fault_h0]))]) rfl) ?_
  refine j_norm (pc' := 18) (st' := [.int 1]) (ws' := (((a17 r2), .inr (0, [(frB a17 r2), (frA a17 r1 r2), .int r4, .int r5, .int r6, .int r7, .int r8, .int r9, .int r10, .int r11, .int r12, .int r13, .int r14, .int r15, .int r16])) :: (h0, .inr (2, [.ref a_scanner_h0, .ref a_draft_h0, .ref a_waiting_h0, .ref a_functions_h0, .ref (a17 0), .ref (a17 r2), .ref a_text_h0, .int 34, .int ((levels_h0 - 1) - signs_t), .int 0, .int loops_h0, .int token_h0, .int fault_h0])) :: fpo a17 r1 r2 r3)) (cl' := 0) (sl' := 0) rfl rfl rfl rfl rfl rfl ?_
  replace h := Option.some.inj h
  replace h := Prod.mk.inj h
  obtain ⟨h9, h⟩ := h
  subst h9
  replace h := Prod.mk.inj h
  obtain ⟨h9, h⟩ := h
  subst h9
  replace h := Prod.mk.inj h
  obtain ⟨h9, h⟩ := h
  subst h9
  replace h := Prod.mk.inj h
  obtain ⟨h9, h⟩ := h
  subst h9
  replace h := Prod.mk.inj h
  obtain ⟨h9, h⟩ := h
  subst h9
  replace h := Prod.mk.inj h
  obtain ⟨h9, h⟩ := h
  subst h9
  replace h := Prod.mk.inj h
  obtain ⟨h9, h⟩ := h
  subst h9
  replace h := Prod.mk.inj h
  obtain ⟨h9, h⟩ := h
  subst h9
  replace h := Prod.mk.inj h
  obtain ⟨h9, h⟩ := h
  subst h9
  replace h := Prod.mk.inj h
  obtain ⟨h9, h⟩ := h
  subst h9
  replace h := Prod.mk.inj h
  obtain ⟨h9, h⟩ := h
  subst h9
  replace h := Prod.mk.inj h
  obtain ⟨h9, h⟩ := h
  subst h9
  replace h := Prod.mk.inj h
  obtain ⟨h9, h⟩ := h
  subst h9
  replace h := Prod.mk.inj h
  obtain ⟨h9, h⟩ := h
  subst h9
  replace h := Prod.mk.inj h
  obtain ⟨h9, h⟩ := h
  subst h9
  subst h
  refine j_subP (w := [(h0, .inr (2, [.ref a_scanner_h0, .ref a_draft_h0, .ref a_waiting_h0, .ref a_functions_h0, .ref (a17 0), .ref (a17 r2), .ref a_text_h0, .int 34, .int ((levels_h0 - 1) - signs_t), .int 0, .int loops_h0, .int token_h0, .int fault_h0])), ((a17 r2), .inr (0, [(frB a17 r2), (frA a17 r1 r2), .int r4, .int r5, .int r6, .int r7, .int r8, .int r9, .int r10, .int r11, .int r12, .int r13, .int r14, .int r15, .int r16]))]) (pl := fpo a17 r1 r2 r3) (lv' := []) [1, 0] [] 2 rfl rfl (by decide) [] rfl ?_
  exact j_zretE hr (zb_n zb1) d_Rd_closeItem_18 ⟨a17, rfl, zb1, rfl⟩
noncomputable def F_Rd_closeCall_17 (mode_h0 : Int32) (levels_h0 : Int32) (signs_h0 : Int32) (loops_h0 : Int32) (token_h0 : Int32) (fault_h0 : Int32) (kind_t : Int32) (place_t : Int32) (width_t : Int32) (second_t : Int32) (parts_t : Int32) (innerParts_t : Int32) (innerPlace_t : Int32) (innerWidth_t : Int32) (signs_t : Int32) (waitingBelow_t : Int32) (limited_t : Int32) (targets_t : Int32) (lastBlock_t : Int32) (count_a_draft_h0 : Int32) (n_a_cells_a_draft_h0 : Nat) (b_a_cells_a_draft_h0 : Nat → Int32) (t0_17 : Int32) (n9_17 : Nat) (d9_17 : Nat) (c9_17 : Nat → FrC) : Option ((Nat × Nat × (Nat → FrC) × Int32 × Int32 × Int32 × Int32 × Int32 × Int32 × Int32 × Int32 × Int32 × Int32 × Int32 × Int32 × Int32 × Int32 × Int32 × Nat × (Nat → Int32)) × Nat × Nat) :=
    bw (F_Nd_add 33 place_t second_t parts_t width_t count_a_draft_h0 n_a_cells_a_draft_h0 b_a_cells_a_draft_h0) fun ⟨r1, r2, r3⟩ =>
    Option.bind (F_Rd_closeItem n9_17 d9_17 c9_17 mode_h0 levels_h0 signs_h0 loops_h0 token_h0 fault_h0 kind_t place_t width_t second_t parts_t innerParts_t innerPlace_t innerWidth_t signs_t waitingBelow_t limited_t targets_t lastBlock_t) fun ⟨r10, r11, r12, r13, r14, r15, r16, r17, r18, r19, r20, r21, r22, r23, r24, r25⟩ =>
    if t0_17 = 0 then (some ((r10, r11, r12, 34, r13, r14, r15, r16, r17, r18, r19, r20, r21, r22, r23, r24, r25, r1, r2, r3), 0, 0))
    else (some ((r10, r11, r12, 25, r13, r14, r15, r16, r17, r18, r19, r20, r21, r22, r23, r24, r25, r1, r2, r3), 0, 0))
noncomputable def F_Rd_closeCall (fn : Nat) (fd : Nat) (fcf : Nat → FrC) (mode_h0 : Int32) (levels_h0 : Int32) (signs_h0 : Int32) (loops_h0 : Int32) (token_h0 : Int32) (fault_h0 : Int32) (kind_t : Int32) (place_t : Int32) (width_t : Int32) (second_t : Int32) (parts_t : Int32) (innerParts_t : Int32) (innerPlace_t : Int32) (innerWidth_t : Int32) (signs_t : Int32) (waitingBelow_t : Int32) (limited_t : Int32) (targets_t : Int32) (lastBlock_t : Int32) (count_a_draft_h0 : Int32) (n_a_cells_a_draft_h0 : Nat) (b_a_cells_a_draft_h0 : Nat → Int32) : Option ((Nat × Nat × (Nat → FrC) × Int32 × Int32 × Int32 × Int32 × Int32 × Int32 × Int32 × Int32 × Int32 × Int32 × Int32 × Int32 × Int32 × Int32 × Int32 × Nat × (Nat → Int32)) × Nat × Nat) :=
  if kind_t = 52 then (F_Rd_closeCall_17 mode_h0 levels_h0 signs_h0 loops_h0 token_h0 fault_h0 kind_t place_t width_t second_t parts_t innerParts_t innerPlace_t innerWidth_t signs_t waitingBelow_t limited_t targets_t lastBlock_t count_a_draft_h0 n_a_cells_a_draft_h0 b_a_cells_a_draft_h0   1 fn fd fcf)
  else (F_Rd_closeCall_17 mode_h0 levels_h0 signs_h0 loops_h0 token_h0 fault_h0 kind_t place_t width_t second_t parts_t innerParts_t innerPlace_t innerWidth_t signs_t waitingBelow_t limited_t targets_t lastBlock_t count_a_draft_h0 n_a_cells_a_draft_h0 b_a_cells_a_draft_h0   0 fn fd fcf)
theorem d_Rd_closeCall_0 : decode prog_6_method_68_code 0 = .ok (.aload_n 0, 1) := by decide +kernel
theorem d_Rd_closeCall_1 : decode prog_6_method_68_code 1 = .ok (.getfield 46, 3) := by decide +kernel
theorem d_Rd_closeCall_4 : decode prog_6_method_68_code 4 = .ok (.getfield 86, 3) := by decide +kernel
theorem d_Rd_closeCall_7 : decode prog_6_method_68_code 7 = .ok (.bipush 52, 2) := by decide +kernel
theorem d_Rd_closeCall_9 : decode prog_6_method_68_code 9 = .ok (.if_icmp .ne 7, 3) := by decide +kernel
theorem d_Rd_closeCall_12 : decode prog_6_method_68_code 12 = .ok (.iconst 1, 1) := by decide +kernel
theorem d_Rd_closeCall_13 : decode prog_6_method_68_code 13 = .ok (.goto 4, 3) := by decide +kernel
theorem d_Rd_closeCall_16 : decode prog_6_method_68_code 16 = .ok (.iconst 0, 1) := by decide +kernel
theorem d_Rd_closeCall_17 : decode prog_6_method_68_code 17 = .ok (.istore_n 1, 1) := by decide +kernel
theorem d_Rd_closeCall_18 : decode prog_6_method_68_code 18 = .ok (.aload_n 0, 1) := by decide +kernel
theorem d_Rd_closeCall_19 : decode prog_6_method_68_code 19 = .ok (.getfield 23, 3) := by decide +kernel
theorem d_Rd_closeCall_22 : decode prog_6_method_68_code 22 = .ok (.bipush 33, 2) := by decide +kernel
theorem d_Rd_closeCall_24 : decode prog_6_method_68_code 24 = .ok (.aload_n 0, 1) := by decide +kernel
theorem d_Rd_closeCall_25 : decode prog_6_method_68_code 25 = .ok (.getfield 46, 3) := by decide +kernel
theorem d_Rd_closeCall_28 : decode prog_6_method_68_code 28 = .ok (.getfield 227, 3) := by decide +kernel
theorem d_Rd_closeCall_31 : decode prog_6_method_68_code 31 = .ok (.aload_n 0, 1) := by decide +kernel
theorem d_Rd_closeCall_32 : decode prog_6_method_68_code 32 = .ok (.getfield 46, 3) := by decide +kernel
theorem d_Rd_closeCall_35 : decode prog_6_method_68_code 35 = .ok (.getfield 259, 3) := by decide +kernel
theorem d_Rd_closeCall_38 : decode prog_6_method_68_code 38 = .ok (.aload_n 0, 1) := by decide +kernel
theorem d_Rd_closeCall_39 : decode prog_6_method_68_code 39 = .ok (.getfield 46, 3) := by decide +kernel
theorem d_Rd_closeCall_42 : decode prog_6_method_68_code 42 = .ok (.getfield 224, 3) := by decide +kernel
theorem d_Rd_closeCall_45 : decode prog_6_method_68_code 45 = .ok (.aload_n 0, 1) := by decide +kernel
theorem d_Rd_closeCall_46 : decode prog_6_method_68_code 46 = .ok (.getfield 46, 3) := by decide +kernel
theorem d_Rd_closeCall_49 : decode prog_6_method_68_code 49 = .ok (.getfield 230, 3) := by decide +kernel
theorem d_Rd_closeCall_52 : decode prog_6_method_68_code 52 = .ok (.invokevirtual 93, 3) := by decide +kernel
theorem d_Rd_closeCall_55 : decode prog_6_method_68_code 55 = .ok (.aload_n 0, 1) := by decide +kernel
theorem d_Rd_closeCall_56 : decode prog_6_method_68_code 56 = .ok (.invokevirtual 378, 3) := by decide +kernel
theorem d_Rd_closeCall_59 : decode prog_6_method_68_code 59 = .ok (.pop, 1) := by decide +kernel
theorem d_Rd_closeCall_60 : decode prog_6_method_68_code 60 = .ok (.aload_n 0, 1) := by decide +kernel
theorem d_Rd_closeCall_61 : decode prog_6_method_68_code 61 = .ok (.iload_n 1, 1) := by decide +kernel
theorem d_Rd_closeCall_62 : decode prog_6_method_68_code 62 = .ok (.ifCond .eq 8, 3) := by decide +kernel
theorem d_Rd_closeCall_65 : decode prog_6_method_68_code 65 = .ok (.bipush 25, 2) := by decide +kernel
theorem d_Rd_closeCall_67 : decode prog_6_method_68_code 67 = .ok (.goto 5, 3) := by decide +kernel
theorem d_Rd_closeCall_70 : decode prog_6_method_68_code 70 = .ok (.bipush 34, 2) := by decide +kernel
theorem d_Rd_closeCall_72 : decode prog_6_method_68_code 72 = .ok (.invokevirtual 130, 3) := by decide +kernel
theorem d_Rd_closeCall_75 : decode prog_6_method_68_code 75 = .ok (.ireturn, 1) := by decide +kernel
set_option maxHeartbeats 4000000 in
set_option maxRecDepth 100000 in
theorem L_Rd_closeCall_17 (l : Launch) (D : va_G) (cI cB cJ cS : ClassId) (h0 : Nat) (fad : Nat → Nat) (a_scanner_h0 : Nat) (a_draft_h0 : Nat) (a_waiting_h0 : Nat) (a_functions_h0 : Nat) (a_text_h0 : Nat) (a_cells_a_draft_h0 : Nat) (fn : Nat) (fd : Nat) (fcf : Nat → FrC) (mode_h0 : Int32) (levels_h0 : Int32) (signs_h0 : Int32) (loops_h0 : Int32) (token_h0 : Int32) (fault_h0 : Int32) (kind_t : Int32) (place_t : Int32) (width_t : Int32) (second_t : Int32) (parts_t : Int32) (innerParts_t : Int32) (innerPlace_t : Int32) (innerWidth_t : Int32) (signs_t : Int32) (waitingBelow_t : Int32) (limited_t : Int32) (targets_t : Int32) (lastBlock_t : Int32) (count_a_draft_h0 : Int32) (n_a_cells_a_draft_h0 : Nat) (b_a_cells_a_draft_h0 : Nat → Int32) (on_p : Nat) (od_p : Nat) (ocf_p : Nat → FrC) (o_0_7 : Int32) (o_1_2 : Int32) (o_1_3 : Int32) (o_1_4 : Int32) (o_1_5 : Int32) (o_1_6 : Int32) (o_1_7 : Int32) (o_1_8 : Int32) (o_1_9 : Int32) (o_1_10 : Int32) (o_1_11 : Int32) (o_1_12 : Int32) (o_1_13 : Int32) (o_1_14 : Int32) (o_2_1 : Int32) (on_nq_2_0 : Nat) (ob_nq_2_0 : Nat → Int32) (mc ms : Nat) (p : Program) (e : Env) (s : State) (m : MethodId) (below : List Frame) (meth : Method) (c : Code) (hr : meth.sig.returnType = (Option.some Jvm.ClassFile.FieldType.boolean)) (hnm : meth.name = y_Rd_closeCall.name) : ∀ (a9_17 : Nat → Nat) (t0_17 : Int32) (n9_17 : Nat) (d9_17 : Nat) (c9_17 : Nat → FrC) (hz_t0_17 : zb t0_17) (cl_17 sl_17 C_17 S_17 : Nat), F_Rd_closeCall_17 mode_h0 levels_h0 signs_h0 loops_h0 token_h0 fault_h0 kind_t place_t width_t second_t parts_t innerParts_t innerPlace_t innerWidth_t signs_t waitingBelow_t limited_t targets_t lastBlock_t count_a_draft_h0 n_a_cells_a_draft_h0 b_a_cells_a_draft_h0   t0_17 n9_17 d9_17 c9_17 = some ((on_p, od_p, ocf_p, o_0_7, o_1_2, o_1_3, o_1_4, o_1_5, o_1_6, o_1_7, o_1_8, o_1_9, o_1_10, o_1_11, o_1_12, o_1_13, o_1_14, o_2_1, on_nq_2_0, ob_nq_2_0), C_17, S_17) → cl_17 + C_17 ≤ mc → sl_17 + S_17 ≤ ms → J (KxOf p l e { frames := 3, cells := mc, slots := ms, locals := 110 } s m [.ref h0].toArray below meth c D (gT cI cB cJ cS) ((h0, .inr (2, [.ref a_scanner_h0, .ref a_draft_h0, .ref a_waiting_h0, .ref a_functions_h0, .ref (fad 0), .ref (fad fd), .ref a_text_h0, .int mode_h0, .int levels_h0, .int signs_h0, .int loops_h0, .int token_h0, .int fault_h0])) :: ((fad fd), .inr (0, [(frB fad fd), (frA fad fn fd), .int kind_t, .int place_t, .int width_t, .int second_t, .int parts_t, .int innerParts_t, .int innerPlace_t, .int innerWidth_t, .int signs_t, .int waitingBelow_t, .int limited_t, .int targets_t, .int lastBlock_t])) :: (a_draft_h0, .inr (1, [.ref a_cells_a_draft_h0, .int count_a_draft_h0])) :: (a_cells_a_draft_h0, .inl (cI, n_a_cells_a_draft_h0, .inl b_a_cells_a_draft_h0)) :: fpo fad fn fd fcf) (fun v w => ∃ nad : Nat → Nat, ∃ nq_2_0 : Nat, v = some (.int 1) ∧ zb 1 ∧ w = ((h0, .inr (2, [.ref a_scanner_h0, .ref a_draft_h0, .ref a_waiting_h0, .ref a_functions_h0, .ref (nad 0), .ref (nad od_p), .ref a_text_h0, .int o_0_7, .int ((levels_h0 - 1) - signs_t), .int 0, .int loops_h0, .int token_h0, .int fault_h0])) :: ((nad od_p), .inr (0, [(frB nad od_p), (frA nad on_p od_p), .int o_1_2, .int o_1_3, .int o_1_4, .int o_1_5, .int o_1_6, .int o_1_7, .int o_1_8, .int o_1_9, .int o_1_10, .int o_1_11, .int o_1_12, .int o_1_13, .int o_1_14])) :: (a_draft_h0, .inr (1, [.ref nq_2_0, .int o_2_1])) :: (nq_2_0, .inl (cI, on_nq_2_0, .inl ob_nq_2_0)) :: fpo nad on_p od_p ocf_p)) mc ms) prog_6_method_68_code 2 R_Rd 17 [(0, .ref h0)] [.int t0_17] ((h0, .inr (2, [.ref a_scanner_h0, .ref a_draft_h0, .ref a_waiting_h0, .ref a_functions_h0, .ref (a9_17 0), .ref (a9_17 d9_17), .ref a_text_h0, .int mode_h0, .int levels_h0, .int signs_h0, .int loops_h0, .int token_h0, .int fault_h0])) :: ((a9_17 d9_17), .inr (0, [(frB a9_17 d9_17), (frA a9_17 n9_17 d9_17), .int kind_t, .int place_t, .int width_t, .int second_t, .int parts_t, .int innerParts_t, .int innerPlace_t, .int innerWidth_t, .int signs_t, .int waitingBelow_t, .int limited_t, .int targets_t, .int lastBlock_t])) :: (a_draft_h0, .inr (1, [.ref a_cells_a_draft_h0, .int count_a_draft_h0])) :: (a_cells_a_draft_h0, .inl (cI, n_a_cells_a_draft_h0, .inl b_a_cells_a_draft_h0)) :: fpo a9_17 n9_17 d9_17 c9_17) cl_17 sl_17 := by
  intro a9_17 t0_17 n9_17 d9_17 c9_17 hz_t0_17 cl_17 sl_17 C_17 S_17 h hC hS
  unfold F_Rd_closeCall_17 at h
  refine j_istore_n (lv' := [(1, .int t0_17), (0, .ref h0)]) d_Rd_closeCall_17 rfl (by decide) rfl ?_
  refine j_aload_n d_Rd_closeCall_18 rfl 1 rfl ?_
  refine j_get ig_Rd rfl 0 rfl 1 (by decide) rfl m_170 rfl d_Rd_closeCall_19 ?_
  refine j_bipush (v := 33) d_Rd_closeCall_22 (by decide) ?_
  refine j_aload_n d_Rd_closeCall_24 rfl 1 rfl ?_
  refine j_get ig_Rd rfl 0 rfl 5 (by decide) rfl m_174 rfl d_Rd_closeCall_25 ?_
  refine j_get ig_Fr rfl 1 rfl 3 (by decide) rfl m_113 rfl d_Rd_closeCall_28 ?_
  refine j_aload_n d_Rd_closeCall_31 rfl 1 rfl ?_
  refine j_get ig_Rd rfl 0 rfl 5 (by decide) rfl m_174 rfl d_Rd_closeCall_32 ?_
  refine j_get ig_Fr rfl 1 rfl 5 (by decide) rfl m_117 rfl d_Rd_closeCall_35 ?_
  refine j_aload_n d_Rd_closeCall_38 rfl 1 rfl ?_
  refine j_get ig_Rd rfl 0 rfl 5 (by decide) rfl m_174 rfl d_Rd_closeCall_39 ?_
  refine j_get ig_Fr rfl 1 rfl 6 (by decide) rfl m_119 rfl d_Rd_closeCall_42 ?_
  refine j_aload_n d_Rd_closeCall_45 rfl 1 rfl ?_
  refine j_get ig_Rd rfl 0 rfl 5 (by decide) rfl m_174 rfl d_Rd_closeCall_46 ?_
  refine j_get ig_Fr rfl 1 rfl 4 (by decide) rfl m_115 rfl d_Rd_closeCall_49 ?_
  replace h := bw_s h
  obtain ⟨⟨r1, r2, r3⟩, C5, S6, C7, S8, k9, h, e1, e2⟩ := h
  replace hC : cl_17 + C5 + C7 ≤ mc := by omega
  replace hS : sl_17 + S6 + S8 ≤ ms := by omega
  clear e1 e2
  refine j_callVg (n := 5) (As := [.int 33, .int place_t, .int second_t, .int parts_t, .int width_t]) (rest := []) (wr := ([(h0, .inr (2, [.ref a_scanner_h0, .ref a_draft_h0, .ref a_waiting_h0, .ref a_functions_h0, .ref (a9_17 0), .ref (a9_17 d9_17), .ref a_text_h0, .int mode_h0, .int levels_h0, .int signs_h0, .int loops_h0, .int token_h0, .int fault_h0])), ((a9_17 d9_17), .inr (0, [(frB a9_17 d9_17), (frA a9_17 n9_17 d9_17), .int kind_t, .int place_t, .int width_t, .int second_t, .int parts_t, .int innerParts_t, .int innerPlace_t, .int innerWidth_t, .int signs_t, .int waitingBelow_t, .int limited_t, .int targets_t, .int lastBlock_t]))] ++ fpo a9_17 n9_17 d9_17 c9_17)) (c_Nd_add l D cI cB cJ cS a_draft_h0 a_cells_a_draft_h0 33 place_t second_t parts_t width_t count_a_draft_h0 n_a_cells_a_draft_h0 b_a_cells_a_draft_h0  r1 r2 r3 C5 S6 k9) k_Rd_93 (by decide) ⟨Nat.le_of_ble_eq_true rfl, Nat.le_of_ble_eq_true rfl⟩ rfl 0 rfl (pk_mid (wr := [(h0, .inr (2, [.ref a_scanner_h0, .ref a_draft_h0, .ref a_waiting_h0, .ref a_functions_h0, .ref (a9_17 0), .ref (a9_17 d9_17), .ref a_text_h0, .int mode_h0, .int levels_h0, .int signs_h0, .int loops_h0, .int token_h0, .int fault_h0])), ((a9_17 d9_17), .inr (0, [(frB a9_17 d9_17), (frA a9_17 n9_17 d9_17), .int kind_t, .int place_t, .int width_t, .int second_t, .int parts_t, .int innerParts_t, .int innerPlace_t, .int innerWidth_t, .int signs_t, .int waitingBelow_t, .int limited_t, .int targets_t, .int lastBlock_t]))]) (w0 := [(a_draft_h0, .inr (1, [.ref a_cells_a_draft_h0, .int count_a_draft_h0])), (a_cells_a_draft_h0, .inl (cI, n_a_cells_a_draft_h0, .inl b_a_cells_a_draft_h0))]) (pl := fpo a9_17 n9_17 d9_17 c9_17) [0, 1, 2, 3] 4 rfl rfl (by decide)) rfl rfl (Nat.le_of_ble_eq_true rfl) d_Rd_closeCall_52 ⟨show cl_17 + C5 ≤ mc by omega, show sl_17 + S6 ≤ ms by omega⟩ (fun v w hq => ?_)
  obtain ⟨q4, rfl, rfl⟩ := hq
  refine j_perm (ws' := ((h0, .inr (2, [.ref a_scanner_h0, .ref a_draft_h0, .ref a_waiting_h0, .ref a_functions_h0, .ref (a9_17 0), .ref (a9_17 d9_17), .ref a_text_h0, .int mode_h0, .int levels_h0, .int signs_h0, .int loops_h0, .int token_h0, .int fault_h0])) :: ((a9_17 d9_17), .inr (0, [(frB a9_17 d9_17), (frA a9_17 n9_17 d9_17), .int kind_t, .int place_t, .int width_t, .int second_t, .int parts_t, .int innerParts_t, .int innerPlace_t, .int innerWidth_t, .int signs_t, .int waitingBelow_t, .int limited_t, .int targets_t, .int lastBlock_t])) :: (a_draft_h0, .inr (1, [.ref q4, .int r1])) :: (q4, .inl (cI, r2, .inl r3)) :: fpo a9_17 n9_17 d9_17 c9_17)) (pm_eq (a := [(h0, .inr (2, [.ref a_scanner_h0, .ref a_draft_h0, .ref a_waiting_h0, .ref a_functions_h0, .ref (a9_17 0), .ref (a9_17 d9_17), .ref a_text_h0, .int mode_h0, .int levels_h0, .int signs_h0, .int loops_h0, .int token_h0, .int fault_h0])), ((a9_17 d9_17), .inr (0, [(frB a9_17 d9_17), (frA a9_17 n9_17 d9_17), .int kind_t, .int place_t, .int width_t, .int second_t, .int parts_t, .int innerParts_t, .int innerPlace_t, .int innerWidth_t, .int signs_t, .int waitingBelow_t, .int limited_t, .int targets_t, .int lastBlock_t]))]) (b := fpo a9_17 n9_17 d9_17 c9_17) (c := [(a_draft_h0, .inr (1, [.ref q4, .int r1])), (q4, .inl (cI, r2, .inl r3))]) rfl) ?_
  refine j_norm (pc' := 55) (st' := []) (ws' := ((h0, .inr (2, [.ref a_scanner_h0, .ref a_draft_h0, .ref a_waiting_h0, .ref a_functions_h0, .ref (a9_17 0), .ref (a9_17 d9_17), .ref a_text_h0, .int mode_h0, .int levels_h0, .int signs_h0, .int loops_h0, .int token_h0, .int fault_h0])) :: ((a9_17 d9_17), .inr (0, [(frB a9_17 d9_17), (frA a9_17 n9_17 d9_17), .int kind_t, .int place_t, .int width_t, .int second_t, .int parts_t, .int innerParts_t, .int innerPlace_t, .int innerWidth_t, .int signs_t, .int waitingBelow_t, .int limited_t, .int targets_t, .int lastBlock_t])) :: (a_draft_h0, .inr (1, [.ref q4, .int r1])) :: (q4, .inl (cI, r2, .inl r3)) :: fpo a9_17 n9_17 d9_17 c9_17)) (cl' := cl_17 + C5) (sl' := sl_17 + S6) rfl rfl rfl rfl rfl rfl ?_
  refine j_aload_n d_Rd_closeCall_55 rfl 1 rfl ?_
  replace h := bd_s h
  obtain ⟨⟨r10, r11, r12, r13, r14, r15, r16, r17, r18, r19, r20, r21, r22, r23, r24, r25⟩, k27, h⟩ := h
  refine j_callVg (n := 0) (As := []) (rest := []) (wr := [(a_draft_h0, .inr (1, [.ref q4, .int r1])), (q4, .inl (cI, r2, .inl r3))]) (c_Rd_closeItem l D cI cB cJ cS h0 a9_17 a_scanner_h0 a_draft_h0 a_waiting_h0 a_functions_h0 a_text_h0 n9_17 d9_17 c9_17 mode_h0 levels_h0 signs_h0 loops_h0 token_h0 fault_h0 kind_t place_t width_t second_t parts_t innerParts_t innerPlace_t innerWidth_t signs_t waitingBelow_t limited_t targets_t lastBlock_t  r10 r11 r12 r13 r14 r15 r16 r17 r18 r19 r20 r21 r22 r23 r24 r25 k27) k_Rd_378 (by decide) ⟨Nat.le_of_ble_eq_true rfl, Nat.le_of_ble_eq_true rfl⟩ rfl 0 rfl (pk_app (wr := [(a_draft_h0, .inr (1, [.ref q4, .int r1])), (q4, .inl (cI, r2, .inl r3))]) (w0 := [(h0, .inr (2, [.ref a_scanner_h0, .ref a_draft_h0, .ref a_waiting_h0, .ref a_functions_h0, .ref (a9_17 0), .ref (a9_17 d9_17), .ref a_text_h0, .int mode_h0, .int levels_h0, .int signs_h0, .int loops_h0, .int token_h0, .int fault_h0])), ((a9_17 d9_17), .inr (0, [(frB a9_17 d9_17), (frA a9_17 n9_17 d9_17), .int kind_t, .int place_t, .int width_t, .int second_t, .int parts_t, .int innerParts_t, .int innerPlace_t, .int innerWidth_t, .int signs_t, .int waitingBelow_t, .int limited_t, .int targets_t, .int lastBlock_t]))]) (pl := fpo a9_17 n9_17 d9_17 c9_17) [2, 3, 0, 1] 4 rfl rfl rfl (by decide)) rfl rfl (Nat.le_of_ble_eq_true rfl) d_Rd_closeCall_56 ⟨show cl_17 + C5 + 0 ≤ mc by omega, show sl_17 + S6 + 0 ≤ ms by omega⟩ (fun v w hq => ?_)
  obtain ⟨a26, rfl, _, rfl⟩ := hq
  refine j_norm (pc' := 59) (st' := [.int 1]) (ws' := ((a_draft_h0, .inr (1, [.ref q4, .int r1])) :: (q4, .inl (cI, r2, .inl r3)) :: (h0, .inr (2, [.ref a_scanner_h0, .ref a_draft_h0, .ref a_waiting_h0, .ref a_functions_h0, .ref (a26 0), .ref (a26 r11), .ref a_text_h0, .int 34, .int ((levels_h0 - 1) - signs_t), .int 0, .int loops_h0, .int token_h0, .int fault_h0])) :: ((a26 r11), .inr (0, [(frB a26 r11), (frA a26 r10 r11), .int r13, .int r14, .int r15, .int r16, .int r17, .int r18, .int r19, .int r20, .int r21, .int r22, .int r23, .int r24, .int r25])) :: fpo a26 r10 r11 r12)) (cl' := cl_17 + C5) (sl' := sl_17 + S6) rfl rfl rfl rfl rfl rfl ?_
  refine j_pop rfl d_Rd_closeCall_59 ?_
  refine j_aload_n d_Rd_closeCall_60 rfl 1 rfl ?_
  refine j_iload_n d_Rd_closeCall_61 rfl 0 rfl ?_
  refine j_if_eq (tgt := 70) d_Rd_closeCall_62 (by decide) (fun c28 => ?_) (fun c28 => ?_)
  · replace h := it_t c28 h
    refine j_bipush (v := 34) d_Rd_closeCall_70 (by decide) ?_
    refine j_callVg (n := 1) (As := [.int 34]) (rest := []) (wr := ([(a_draft_h0, .inr (1, [.ref q4, .int r1])), (q4, .inl (cI, r2, .inl r3)), ((a26 r11), .inr (0, [(frB a26 r11), (frA a26 r10 r11), .int r13, .int r14, .int r15, .int r16, .int r17, .int r18, .int r19, .int r20, .int r21, .int r22, .int r23, .int r24, .int r25]))] ++ fpo a26 r10 r11 r12)) (c_Rd_goOn l D cI cB cJ cS h0 a_scanner_h0 a_draft_h0 a_waiting_h0 a_functions_h0 (a26 0) (a26 r11) a_text_h0 34 34 ((levels_h0 - 1) - signs_t) 0 loops_h0 token_h0 fault_h0  ) k_Rd_130 (by decide) ⟨Nat.le_of_ble_eq_true rfl, Nat.le_of_ble_eq_true rfl⟩ rfl 0 rfl (pk_mid (wr := [(a_draft_h0, .inr (1, [.ref q4, .int r1])), (q4, .inl (cI, r2, .inl r3)), ((a26 r11), .inr (0, [(frB a26 r11), (frA a26 r10 r11), .int r13, .int r14, .int r15, .int r16, .int r17, .int r18, .int r19, .int r20, .int r21, .int r22, .int r23, .int r24, .int r25]))]) (w0 := [(h0, .inr (2, [.ref a_scanner_h0, .ref a_draft_h0, .ref a_waiting_h0, .ref a_functions_h0, .ref (a26 0), .ref (a26 r11), .ref a_text_h0, .int 34, .int ((levels_h0 - 1) - signs_t), .int 0, .int loops_h0, .int token_h0, .int fault_h0]))]) (pl := fpo a26 r10 r11 r12) [0, 1, 3, 2] 4 rfl rfl (by decide)) rfl rfl (Nat.le_of_ble_eq_true rfl) d_Rd_closeCall_72 ⟨show cl_17 + C5 + 0 ≤ mc by omega, show sl_17 + S6 + 0 ≤ ms by omega⟩ (fun v w hq => ?_)
    obtain ⟨rfl, _, rfl⟩ := hq
    refine j_perm (ws' := ((a_draft_h0, .inr (1, [.ref q4, .int r1])) :: (q4, .inl (cI, r2, .inl r3)) :: ((a26 r11), .inr (0, [(frB a26 r11), (frA a26 r10 r11), .int r13, .int r14, .int r15, .int r16, .int r17, .int r18, .int r19, .int r20, .int r21, .int r22, .int r23, .int r24, .int r25])) :: (h0, .inr (2, [.ref a_scanner_h0, .ref a_draft_h0, .ref a_waiting_h0, .ref a_functions_h0, .ref (a26 0), .ref (a26 r11), .ref a_text_h0, .int 34, .int ((levels_h0 - 1) - signs_t), .int 0, .int loops_h0, .int token_h0, .int fault_h0])) :: fpo a26 r10 r11 r12)) (pm_eq (a := [(a_draft_h0, .inr (1, [.ref q4, .int r1])), (q4, .inl (cI, r2, .inl r3)), ((a26 r11), .inr (0, [(frB a26 r11), (frA a26 r10 r11), .int r13, .int r14, .int r15, .int r16, .int r17, .int r18, .int r19, .int r20, .int r21, .int r22, .int r23, .int r24, .int r25]))]) (b := fpo a26 r10 r11 r12) (c := [(h0, .inr (2, [.ref a_scanner_h0, .ref a_draft_h0, .ref a_waiting_h0, .ref a_functions_h0, .ref (a26 0), .ref (a26 r11), .ref a_text_h0, .int 34, .int ((levels_h0 - 1) - signs_t), .int 0, .int loops_h0, .int token_h0, .int fault_h0]))]) rfl) ?_
    refine j_norm (pc' := 75) (st' := [.int 1]) (ws' := ((a_draft_h0, .inr (1, [.ref q4, .int r1])) :: (q4, .inl (cI, r2, .inl r3)) :: ((a26 r11), .inr (0, [(frB a26 r11), (frA a26 r10 r11), .int r13, .int r14, .int r15, .int r16, .int r17, .int r18, .int r19, .int r20, .int r21, .int r22, .int r23, .int r24, .int r25])) :: (h0, .inr (2, [.ref a_scanner_h0, .ref a_draft_h0, .ref a_waiting_h0, .ref a_functions_h0, .ref (a26 0), .ref (a26 r11), .ref a_text_h0, .int 34, .int ((levels_h0 - 1) - signs_t), .int 0, .int loops_h0, .int token_h0, .int fault_h0])) :: fpo a26 r10 r11 r12)) (cl' := cl_17 + C5) (sl' := sl_17 + S6) rfl rfl rfl rfl rfl rfl ?_
    replace h := lf_s h
    obtain ⟨h, e1, e2⟩ := h
    replace h := Prod.mk.inj h
    obtain ⟨h9, h⟩ := h
    subst h9
    replace h := Prod.mk.inj h
    obtain ⟨h9, h⟩ := h
    subst h9
    replace h := Prod.mk.inj h
    obtain ⟨h9, h⟩ := h
    subst h9
    replace h := Prod.mk.inj h
    obtain ⟨h9, h⟩ := h
    subst h9
    replace h := Prod.mk.inj h
    obtain ⟨h9, h⟩ := h
    subst h9
    replace h := Prod.mk.inj h
    obtain ⟨h9, h⟩ := h
    subst h9
    replace h := Prod.mk.inj h
    obtain ⟨h9, h⟩ := h
    subst h9
    replace h := Prod.mk.inj h
    obtain ⟨h9, h⟩ := h
    subst h9
    replace h := Prod.mk.inj h
    obtain ⟨h9, h⟩ := h
    subst h9
    replace h := Prod.mk.inj h
    obtain ⟨h9, h⟩ := h
    subst h9
    replace h := Prod.mk.inj h
    obtain ⟨h9, h⟩ := h
    subst h9
    replace h := Prod.mk.inj h
    obtain ⟨h9, h⟩ := h
    subst h9
    replace h := Prod.mk.inj h
    obtain ⟨h9, h⟩ := h
    subst h9
    replace h := Prod.mk.inj h
    obtain ⟨h9, h⟩ := h
    subst h9
    replace h := Prod.mk.inj h
    obtain ⟨h9, h⟩ := h
    subst h9
    replace h := Prod.mk.inj h
    obtain ⟨h9, h⟩ := h
    subst h9
    replace h := Prod.mk.inj h
    obtain ⟨h9, h⟩ := h
    subst h9
    replace h := Prod.mk.inj h
    obtain ⟨h9, h⟩ := h
    subst h9
    replace h := Prod.mk.inj h
    obtain ⟨h9, h⟩ := h
    subst h9
    subst h
    refine j_widen (cl' := mc) (sl' := ms) (by omega) (by omega) ?_
    refine j_subP (w := [(h0, .inr (2, [.ref a_scanner_h0, .ref a_draft_h0, .ref a_waiting_h0, .ref a_functions_h0, .ref (a26 0), .ref (a26 r11), .ref a_text_h0, .int 34, .int ((levels_h0 - 1) - signs_t), .int 0, .int loops_h0, .int token_h0, .int fault_h0])), ((a26 r11), .inr (0, [(frB a26 r11), (frA a26 r10 r11), .int r13, .int r14, .int r15, .int r16, .int r17, .int r18, .int r19, .int r20, .int r21, .int r22, .int r23, .int r24, .int r25])), (a_draft_h0, .inr (1, [.ref q4, .int r1])), (q4, .inl (cI, r2, .inl r3))]) (pl := fpo a26 r10 r11 r12) (lv' := []) [3, 2, 0, 1] [] 4 rfl rfl (by decide) [] rfl ?_
    exact j_zretE hr (zb_n zb1) d_Rd_closeCall_75 ⟨a26, q4, rfl, zb1, rfl⟩
  · replace h := it_f c28 h
    refine j_bipush (v := 25) d_Rd_closeCall_65 (by decide) ?_
    refine j_goto (tgt := 72) d_Rd_closeCall_67 (by decide) ?_
    refine j_callVg (n := 1) (As := [.int 25]) (rest := []) (wr := ([(a_draft_h0, .inr (1, [.ref q4, .int r1])), (q4, .inl (cI, r2, .inl r3)), ((a26 r11), .inr (0, [(frB a26 r11), (frA a26 r10 r11), .int r13, .int r14, .int r15, .int r16, .int r17, .int r18, .int r19, .int r20, .int r21, .int r22, .int r23, .int r24, .int r25]))] ++ fpo a26 r10 r11 r12)) (c_Rd_goOn l D cI cB cJ cS h0 a_scanner_h0 a_draft_h0 a_waiting_h0 a_functions_h0 (a26 0) (a26 r11) a_text_h0 25 34 ((levels_h0 - 1) - signs_t) 0 loops_h0 token_h0 fault_h0  ) k_Rd_130 (by decide) ⟨Nat.le_of_ble_eq_true rfl, Nat.le_of_ble_eq_true rfl⟩ rfl 0 rfl (pk_mid (wr := [(a_draft_h0, .inr (1, [.ref q4, .int r1])), (q4, .inl (cI, r2, .inl r3)), ((a26 r11), .inr (0, [(frB a26 r11), (frA a26 r10 r11), .int r13, .int r14, .int r15, .int r16, .int r17, .int r18, .int r19, .int r20, .int r21, .int r22, .int r23, .int r24, .int r25]))]) (w0 := [(h0, .inr (2, [.ref a_scanner_h0, .ref a_draft_h0, .ref a_waiting_h0, .ref a_functions_h0, .ref (a26 0), .ref (a26 r11), .ref a_text_h0, .int 34, .int ((levels_h0 - 1) - signs_t), .int 0, .int loops_h0, .int token_h0, .int fault_h0]))]) (pl := fpo a26 r10 r11 r12) [0, 1, 3, 2] 4 rfl rfl (by decide)) rfl rfl (Nat.le_of_ble_eq_true rfl) d_Rd_closeCall_72 ⟨show cl_17 + C5 + 0 ≤ mc by omega, show sl_17 + S6 + 0 ≤ ms by omega⟩ (fun v w hq => ?_)
    obtain ⟨rfl, _, rfl⟩ := hq
    refine j_perm (ws' := ((a_draft_h0, .inr (1, [.ref q4, .int r1])) :: (q4, .inl (cI, r2, .inl r3)) :: ((a26 r11), .inr (0, [(frB a26 r11), (frA a26 r10 r11), .int r13, .int r14, .int r15, .int r16, .int r17, .int r18, .int r19, .int r20, .int r21, .int r22, .int r23, .int r24, .int r25])) :: (h0, .inr (2, [.ref a_scanner_h0, .ref a_draft_h0, .ref a_waiting_h0, .ref a_functions_h0, .ref (a26 0), .ref (a26 r11), .ref a_text_h0, .int 25, .int ((levels_h0 - 1) - signs_t), .int 0, .int loops_h0, .int token_h0, .int fault_h0])) :: fpo a26 r10 r11 r12)) (pm_eq (a := [(a_draft_h0, .inr (1, [.ref q4, .int r1])), (q4, .inl (cI, r2, .inl r3)), ((a26 r11), .inr (0, [(frB a26 r11), (frA a26 r10 r11), .int r13, .int r14, .int r15, .int r16, .int r17, .int r18, .int r19, .int r20, .int r21, .int r22, .int r23, .int r24, .int r25]))]) (b := fpo a26 r10 r11 r12) (c := [(h0, .inr (2, [.ref a_scanner_h0, .ref a_draft_h0, .ref a_waiting_h0, .ref a_functions_h0, .ref (a26 0), .ref (a26 r11), .ref a_text_h0, .int 25, .int ((levels_h0 - 1) - signs_t), .int 0, .int loops_h0, .int token_h0, .int fault_h0]))]) rfl) ?_
    refine j_norm (pc' := 75) (st' := [.int 1]) (ws' := ((a_draft_h0, .inr (1, [.ref q4, .int r1])) :: (q4, .inl (cI, r2, .inl r3)) :: ((a26 r11), .inr (0, [(frB a26 r11), (frA a26 r10 r11), .int r13, .int r14, .int r15, .int r16, .int r17, .int r18, .int r19, .int r20, .int r21, .int r22, .int r23, .int r24, .int r25])) :: (h0, .inr (2, [.ref a_scanner_h0, .ref a_draft_h0, .ref a_waiting_h0, .ref a_functions_h0, .ref (a26 0), .ref (a26 r11), .ref a_text_h0, .int 25, .int ((levels_h0 - 1) - signs_t), .int 0, .int loops_h0, .int token_h0, .int fault_h0])) :: fpo a26 r10 r11 r12)) (cl' := cl_17 + C5) (sl' := sl_17 + S6) rfl rfl rfl rfl rfl rfl ?_
    replace h := lf_s h
    obtain ⟨h, e1, e2⟩ := h
    replace h := Prod.mk.inj h
    obtain ⟨h9, h⟩ := h
    subst h9
    replace h := Prod.mk.inj h
    obtain ⟨h9, h⟩ := h
    subst h9
    replace h := Prod.mk.inj h
    obtain ⟨h9, h⟩ := h
    subst h9
    replace h := Prod.mk.inj h
    obtain ⟨h9, h⟩ := h
    subst h9
    replace h := Prod.mk.inj h
    obtain ⟨h9, h⟩ := h
    subst h9
    replace h := Prod.mk.inj h
    obtain ⟨h9, h⟩ := h
    subst h9
    replace h := Prod.mk.inj h
    obtain ⟨h9, h⟩ := h
    subst h9
    replace h := Prod.mk.inj h
    obtain ⟨h9, h⟩ := h
    subst h9
    replace h := Prod.mk.inj h
    obtain ⟨h9, h⟩ := h
    subst h9
    replace h := Prod.mk.inj h
    obtain ⟨h9, h⟩ := h
    subst h9
    replace h := Prod.mk.inj h
    obtain ⟨h9, h⟩ := h
    subst h9
    replace h := Prod.mk.inj h
    obtain ⟨h9, h⟩ := h
    subst h9
    replace h := Prod.mk.inj h
    obtain ⟨h9, h⟩ := h
    subst h9
    replace h := Prod.mk.inj h
    obtain ⟨h9, h⟩ := h
    subst h9
    replace h := Prod.mk.inj h
    obtain ⟨h9, h⟩ := h
    subst h9
    replace h := Prod.mk.inj h
    obtain ⟨h9, h⟩ := h
    subst h9
    replace h := Prod.mk.inj h
    obtain ⟨h9, h⟩ := h
    subst h9
    replace h := Prod.mk.inj h
    obtain ⟨h9, h⟩ := h
    subst h9
    replace h := Prod.mk.inj h
    obtain ⟨h9, h⟩ := h
    subst h9
    subst h
    refine j_widen (cl' := mc) (sl' := ms) (by omega) (by omega) ?_
    refine j_subP (w := [(h0, .inr (2, [.ref a_scanner_h0, .ref a_draft_h0, .ref a_waiting_h0, .ref a_functions_h0, .ref (a26 0), .ref (a26 r11), .ref a_text_h0, .int 25, .int ((levels_h0 - 1) - signs_t), .int 0, .int loops_h0, .int token_h0, .int fault_h0])), ((a26 r11), .inr (0, [(frB a26 r11), (frA a26 r10 r11), .int r13, .int r14, .int r15, .int r16, .int r17, .int r18, .int r19, .int r20, .int r21, .int r22, .int r23, .int r24, .int r25])), (a_draft_h0, .inr (1, [.ref q4, .int r1])), (q4, .inl (cI, r2, .inl r3))]) (pl := fpo a26 r10 r11 r12) (lv' := []) [3, 2, 0, 1] [] 4 rfl rfl (by decide) [] rfl ?_
    exact j_zretE hr (zb_n zb1) d_Rd_closeCall_75 ⟨a26, q4, rfl, zb1, rfl⟩
set_option maxHeartbeats 4000000 in
set_option maxRecDepth 100000 in
theorem c_Rd_closeCall (l : Launch) (D : va_G) (cI cB cJ cS : ClassId) (h0 : Nat) (fad : Nat → Nat) (a_scanner_h0 : Nat) (a_draft_h0 : Nat) (a_waiting_h0 : Nat) (a_functions_h0 : Nat) (a_text_h0 : Nat) (a_cells_a_draft_h0 : Nat) (fn : Nat) (fd : Nat) (fcf : Nat → FrC) (mode_h0 : Int32) (levels_h0 : Int32) (signs_h0 : Int32) (loops_h0 : Int32) (token_h0 : Int32) (fault_h0 : Int32) (kind_t : Int32) (place_t : Int32) (width_t : Int32) (second_t : Int32) (parts_t : Int32) (innerParts_t : Int32) (innerPlace_t : Int32) (innerWidth_t : Int32) (signs_t : Int32) (waitingBelow_t : Int32) (limited_t : Int32) (targets_t : Int32) (lastBlock_t : Int32) (count_a_draft_h0 : Int32) (n_a_cells_a_draft_h0 : Nat) (b_a_cells_a_draft_h0 : Nat → Int32) (on_p : Nat) (od_p : Nat) (ocf_p : Nat → FrC) (o_0_7 : Int32) (o_1_2 : Int32) (o_1_3 : Int32) (o_1_4 : Int32) (o_1_5 : Int32) (o_1_6 : Int32) (o_1_7 : Int32) (o_1_8 : Int32) (o_1_9 : Int32) (o_1_10 : Int32) (o_1_11 : Int32) (o_1_12 : Int32) (o_1_13 : Int32) (o_1_14 : Int32) (o_2_1 : Int32) (on_nq_2_0 : Nat) (ob_nq_2_0 : Nat → Int32) (mc ms : Nat) (h : F_Rd_closeCall fn fd fcf mode_h0 levels_h0 signs_h0 loops_h0 token_h0 fault_h0 kind_t place_t width_t second_t parts_t innerParts_t innerPlace_t innerWidth_t signs_t waitingBelow_t limited_t targets_t lastBlock_t count_a_draft_h0 n_a_cells_a_draft_h0 b_a_cells_a_draft_h0 = some ((on_p, od_p, ocf_p, o_0_7, o_1_2, o_1_3, o_1_4, o_1_5, o_1_6, o_1_7, o_1_8, o_1_9, o_1_10, o_1_11, o_1_12, o_1_13, o_1_14, o_2_1, on_nq_2_0, ob_nq_2_0), mc, ms)) : Ct l D (gT cI cB cJ cS) y_Rd_closeCall prog_6_method_68_code 2 (Option.some Jvm.ClassFile.FieldType.boolean) 3 110 mc ms [.ref h0] ((h0, .inr (2, [.ref a_scanner_h0, .ref a_draft_h0, .ref a_waiting_h0, .ref a_functions_h0, .ref (fad 0), .ref (fad fd), .ref a_text_h0, .int mode_h0, .int levels_h0, .int signs_h0, .int loops_h0, .int token_h0, .int fault_h0])) :: ((fad fd), .inr (0, [(frB fad fd), (frA fad fn fd), .int kind_t, .int place_t, .int width_t, .int second_t, .int parts_t, .int innerParts_t, .int innerPlace_t, .int innerWidth_t, .int signs_t, .int waitingBelow_t, .int limited_t, .int targets_t, .int lastBlock_t])) :: (a_draft_h0, .inr (1, [.ref a_cells_a_draft_h0, .int count_a_draft_h0])) :: (a_cells_a_draft_h0, .inl (cI, n_a_cells_a_draft_h0, .inl b_a_cells_a_draft_h0)) :: fpo fad fn fd fcf) (fun v w => ∃ nad : Nat → Nat, ∃ nq_2_0 : Nat, v = some (.int 1) ∧ zb 1 ∧ w = ((h0, .inr (2, [.ref a_scanner_h0, .ref a_draft_h0, .ref a_waiting_h0, .ref a_functions_h0, .ref (nad 0), .ref (nad od_p), .ref a_text_h0, .int o_0_7, .int ((levels_h0 - 1) - signs_t), .int 0, .int loops_h0, .int token_h0, .int fault_h0])) :: ((nad od_p), .inr (0, [(frB nad od_p), (frA nad on_p od_p), .int o_1_2, .int o_1_3, .int o_1_4, .int o_1_5, .int o_1_6, .int o_1_7, .int o_1_8, .int o_1_9, .int o_1_10, .int o_1_11, .int o_1_12, .int o_1_13, .int o_1_14])) :: (a_draft_h0, .inr (1, [.ref nq_2_0, .int o_2_1])) :: (nq_2_0, .inl (cI, on_nq_2_0, .inl ob_nq_2_0)) :: fpo nad on_p od_p ocf_p)) := by
  refine Ct.mk (by decide) (Nat.le_of_ble_eq_true rfl) ?_
  intro p e s m below meth c hr hnm
  refine j_norm (pc' := 0) (lv' := [(0, .ref h0)]) (st' := []) (ws' := ((h0, .inr (2, [.ref a_scanner_h0, .ref a_draft_h0, .ref a_waiting_h0, .ref a_functions_h0, .ref (fad 0), .ref (fad fd), .ref a_text_h0, .int mode_h0, .int levels_h0, .int signs_h0, .int loops_h0, .int token_h0, .int fault_h0])) :: ((fad fd), .inr (0, [(frB fad fd), (frA fad fn fd), .int kind_t, .int place_t, .int width_t, .int second_t, .int parts_t, .int innerParts_t, .int innerPlace_t, .int innerWidth_t, .int signs_t, .int waitingBelow_t, .int limited_t, .int targets_t, .int lastBlock_t])) :: (a_draft_h0, .inr (1, [.ref a_cells_a_draft_h0, .int count_a_draft_h0])) :: (a_cells_a_draft_h0, .inl (cI, n_a_cells_a_draft_h0, .inl b_a_cells_a_draft_h0)) :: fpo fad fn fd fcf)) (cl' := 0) (sl' := 0) rfl rfl rfl rfl rfl rfl ?_
  unfold F_Rd_closeCall at h
  have hC : 0 + mc ≤ mc := by omega
  have hS : 0 + ms ≤ ms := by omega
  refine j_aload_n d_Rd_closeCall_0 rfl 0 rfl ?_
  refine j_get ig_Rd rfl 0 rfl 5 (by decide) rfl m_174 rfl d_Rd_closeCall_1 ?_
  refine j_get ig_Fr rfl 1 rfl 2 (by decide) rfl m_111 rfl d_Rd_closeCall_4 ?_
  refine j_bipush (v := 52) d_Rd_closeCall_7 (by decide) ?_
  refine j_icmp_ne (tgt := 16) d_Rd_closeCall_9 (by decide) (fun c31 => ?_) (fun c31 => ?_)
  · replace h := it_f c31 h
    refine j_iconst (v := 0) d_Rd_closeCall_16 (by decide) ?_
    refine j_subP (w := [(h0, .inr (2, [.ref a_scanner_h0, .ref a_draft_h0, .ref a_waiting_h0, .ref a_functions_h0, .ref (fad 0), .ref (fad fd), .ref a_text_h0, .int mode_h0, .int levels_h0, .int signs_h0, .int loops_h0, .int token_h0, .int fault_h0])), ((fad fd), .inr (0, [(frB fad fd), (frA fad fn fd), .int kind_t, .int place_t, .int width_t, .int second_t, .int parts_t, .int innerParts_t, .int innerPlace_t, .int innerWidth_t, .int signs_t, .int waitingBelow_t, .int limited_t, .int targets_t, .int lastBlock_t])), (a_draft_h0, .inr (1, [.ref a_cells_a_draft_h0, .int count_a_draft_h0])), (a_cells_a_draft_h0, .inl (cI, n_a_cells_a_draft_h0, .inl b_a_cells_a_draft_h0))]) (pl := fpo fad fn fd fcf) (lv' := [(0, .ref h0)]) [0, 1, 2, 3] [] 4 rfl rfl (by decide) [0] rfl ?_
    exact L_Rd_closeCall_17 l D cI cB cJ cS h0 fad a_scanner_h0 a_draft_h0 a_waiting_h0 a_functions_h0 a_text_h0 a_cells_a_draft_h0 fn fd fcf mode_h0 levels_h0 signs_h0 loops_h0 token_h0 fault_h0 kind_t place_t width_t second_t parts_t innerParts_t innerPlace_t innerWidth_t signs_t waitingBelow_t limited_t targets_t lastBlock_t count_a_draft_h0 n_a_cells_a_draft_h0 b_a_cells_a_draft_h0 on_p od_p ocf_p o_0_7 o_1_2 o_1_3 o_1_4 o_1_5 o_1_6 o_1_7 o_1_8 o_1_9 o_1_10 o_1_11 o_1_12 o_1_13 o_1_14 o_2_1 on_nq_2_0 ob_nq_2_0 mc ms p e s m below meth c hr hnm fad 0 fn fd fcf zb0 0 0 mc ms h hC hS
  · replace h := it_t c31 h
    refine j_iconst (v := 1) d_Rd_closeCall_12 (by decide) ?_
    refine j_goto (tgt := 17) d_Rd_closeCall_13 (by decide) ?_
    refine j_subP (w := [(h0, .inr (2, [.ref a_scanner_h0, .ref a_draft_h0, .ref a_waiting_h0, .ref a_functions_h0, .ref (fad 0), .ref (fad fd), .ref a_text_h0, .int mode_h0, .int levels_h0, .int signs_h0, .int loops_h0, .int token_h0, .int fault_h0])), ((fad fd), .inr (0, [(frB fad fd), (frA fad fn fd), .int kind_t, .int place_t, .int width_t, .int second_t, .int parts_t, .int innerParts_t, .int innerPlace_t, .int innerWidth_t, .int signs_t, .int waitingBelow_t, .int limited_t, .int targets_t, .int lastBlock_t])), (a_draft_h0, .inr (1, [.ref a_cells_a_draft_h0, .int count_a_draft_h0])), (a_cells_a_draft_h0, .inl (cI, n_a_cells_a_draft_h0, .inl b_a_cells_a_draft_h0))]) (pl := fpo fad fn fd fcf) (lv' := [(0, .ref h0)]) [0, 1, 2, 3] [] 4 rfl rfl (by decide) [0] rfl ?_
    exact L_Rd_closeCall_17 l D cI cB cJ cS h0 fad a_scanner_h0 a_draft_h0 a_waiting_h0 a_functions_h0 a_text_h0 a_cells_a_draft_h0 fn fd fcf mode_h0 levels_h0 signs_h0 loops_h0 token_h0 fault_h0 kind_t place_t width_t second_t parts_t innerParts_t innerPlace_t innerWidth_t signs_t waitingBelow_t limited_t targets_t lastBlock_t count_a_draft_h0 n_a_cells_a_draft_h0 b_a_cells_a_draft_h0 on_p od_p ocf_p o_0_7 o_1_2 o_1_3 o_1_4 o_1_5 o_1_6 o_1_7 o_1_8 o_1_9 o_1_10 o_1_11 o_1_12 o_1_13 o_1_14 o_2_1 on_nq_2_0 ob_nq_2_0 mc ms p e s m below meth c hr hnm fad 1 fn fd fcf zb1 0 0 mc ms h hC hS
