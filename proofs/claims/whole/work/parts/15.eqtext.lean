noncomputable def F_Wr_trailOfFunction_40 (p1 : Int32) (indent_h0 : Int32) (fits_h0 : Int32) (count_a_tree_h0 : Int32) (n_a_cells_a_tree_h0 : Nat) (b_a_cells_a_tree_h0 : Nat → Int32) (size_a_form_h0 : Int32) (n_a_bytes_a_form_h0 : Nat) (b_a_bytes_a_form_h0 : Nat → Int32) (size_a_source_h0 : Int32) (n_a_bytes_a_source_h0 : Nat) (b_a_bytes_a_source_h0 : Nat → Int32) (v3_40 : Int32) (t0_40 : Nat) : Option ((Int32 × Int32 × Nat × (Nat → Int32)) × Nat × Nat) :=
    bw (F_Wr_put t0_40 indent_h0 fits_h0 size_a_form_h0 n_a_bytes_a_form_h0 b_a_bytes_a_form_h0) fun ⟨r1, r2, r3, r4⟩ =>
    bw (F_Wr_putToken p1 indent_h0 r1 count_a_tree_h0 n_a_cells_a_tree_h0 b_a_cells_a_tree_h0 size_a_source_h0 n_a_bytes_a_source_h0 b_a_bytes_a_source_h0 r2 r3 r4) fun ⟨r11, r12, r13, r14⟩ =>
    bw (F_Wr_put 30 indent_h0 r11 r12 r13 r14) fun ⟨r21, r22, r23, r24⟩ =>
    (some ((r21, r22, r23, r24), 0, 0))
noncomputable def F_Wr_trailOfFunction (p1 : Int32) (p2 : Int32) (indent_h0 : Int32) (fits_h0 : Int32) (count_a_tree_h0 : Int32) (n_a_cells_a_tree_h0 : Nat) (b_a_cells_a_tree_h0 : Nat → Int32) (size_a_form_h0 : Int32) (n_a_bytes_a_form_h0 : Nat) (b_a_bytes_a_form_h0 : Nat → Int32) (size_a_source_h0 : Int32) (n_a_bytes_a_source_h0 : Nat) (b_a_bytes_a_source_h0 : Nat → Int32) : Option ((Int32 × Int32 × Nat × (Nat → Int32)) × Nat × Nat) :=
  if p2 = (p1 + 1) then (Option.bind (F_Nd_get p2 3 count_a_tree_h0 n_a_cells_a_tree_h0 b_a_cells_a_tree_h0) fun r45 =>
    if r45 ≤ 1 then (if r45 = 1 then (F_Wr_trailOfFunction_40 p1 indent_h0 fits_h0 count_a_tree_h0 n_a_cells_a_tree_h0 b_a_cells_a_tree_h0 size_a_form_h0 n_a_bytes_a_form_h0 b_a_bytes_a_form_h0 size_a_source_h0 n_a_bytes_a_source_h0 b_a_bytes_a_source_h0   r45 24)
      else (F_Wr_trailOfFunction_40 p1 indent_h0 fits_h0 count_a_tree_h0 n_a_cells_a_tree_h0 b_a_cells_a_tree_h0 size_a_form_h0 n_a_bytes_a_form_h0 b_a_bytes_a_form_h0 size_a_source_h0 n_a_bytes_a_source_h0 b_a_bytes_a_source_h0   r45 16))
    else (F_Wr_trailOfFunction_40 p1 indent_h0 fits_h0 count_a_tree_h0 n_a_cells_a_tree_h0 b_a_cells_a_tree_h0 size_a_form_h0 n_a_bytes_a_form_h0 b_a_bytes_a_form_h0 size_a_source_h0 n_a_bytes_a_source_h0 b_a_bytes_a_source_h0   r45 37))
  else (Option.bind (F_Wr_kind p2 indent_h0 fits_h0 count_a_tree_h0 n_a_cells_a_tree_h0 b_a_cells_a_tree_h0) fun r32 =>
    if r32 = 2 then (bw (F_Wr_put 38 indent_h0 fits_h0 size_a_form_h0 n_a_bytes_a_form_h0 b_a_bytes_a_form_h0) fun ⟨r35, r36, r37, r38⟩ =>
      (some ((r35, r36, r37, r38), 0, 0)))
    else (some ((fits_h0, size_a_form_h0, n_a_bytes_a_form_h0, b_a_bytes_a_form_h0), 0, 0)))
theorem d_Wr_trailOfFunction_0 : decode prog_10_method_16_code 0 = .ok (.iload_n 2, 1) := by decide +kernel
theorem d_Wr_trailOfFunction_1 : decode prog_10_method_16_code 1 = .ok (.iload_n 1, 1) := by decide +kernel
theorem d_Wr_trailOfFunction_2 : decode prog_10_method_16_code 2 = .ok (.iconst 1, 1) := by decide +kernel
theorem d_Wr_trailOfFunction_3 : decode prog_10_method_16_code 3 = .ok (.iadd, 1) := by decide +kernel
theorem d_Wr_trailOfFunction_4 : decode prog_10_method_16_code 4 = .ok (.if_icmp .ne 53, 3) := by decide +kernel
theorem d_Wr_trailOfFunction_7 : decode prog_10_method_16_code 7 = .ok (.aload_n 0, 1) := by decide +kernel
theorem d_Wr_trailOfFunction_8 : decode prog_10_method_16_code 8 = .ok (.getfield 10, 3) := by decide +kernel
theorem d_Wr_trailOfFunction_11 : decode prog_10_method_16_code 11 = .ok (.iload_n 2, 1) := by decide +kernel
theorem d_Wr_trailOfFunction_12 : decode prog_10_method_16_code 12 = .ok (.iconst 3, 1) := by decide +kernel
theorem d_Wr_trailOfFunction_13 : decode prog_10_method_16_code 13 = .ok (.invokevirtual 52, 3) := by decide +kernel
theorem d_Wr_trailOfFunction_16 : decode prog_10_method_16_code 16 = .ok (.istore_n 3, 1) := by decide +kernel
theorem d_Wr_trailOfFunction_17 : decode prog_10_method_16_code 17 = .ok (.aload_n 0, 1) := by decide +kernel
theorem d_Wr_trailOfFunction_18 : decode prog_10_method_16_code 18 = .ok (.iload_n 3, 1) := by decide +kernel
theorem d_Wr_trailOfFunction_19 : decode prog_10_method_16_code 19 = .ok (.iconst 1, 1) := by decide +kernel
theorem d_Wr_trailOfFunction_20 : decode prog_10_method_16_code 20 = .ok (.if_icmp .le 8, 3) := by decide +kernel
theorem d_Wr_trailOfFunction_23 : decode prog_10_method_16_code 23 = .ok (.ldc 168, 2) := by decide +kernel
theorem d_Wr_trailOfFunction_25 : decode prog_10_method_16_code 25 = .ok (.goto 15, 3) := by decide +kernel
theorem d_Wr_trailOfFunction_28 : decode prog_10_method_16_code 28 = .ok (.iload_n 3, 1) := by decide +kernel
theorem d_Wr_trailOfFunction_29 : decode prog_10_method_16_code 29 = .ok (.iconst 1, 1) := by decide +kernel
theorem d_Wr_trailOfFunction_30 : decode prog_10_method_16_code 30 = .ok (.if_icmp .ne 8, 3) := by decide +kernel
theorem d_Wr_trailOfFunction_33 : decode prog_10_method_16_code 33 = .ok (.ldc 127, 2) := by decide +kernel
theorem d_Wr_trailOfFunction_35 : decode prog_10_method_16_code 35 = .ok (.goto 5, 3) := by decide +kernel
theorem d_Wr_trailOfFunction_38 : decode prog_10_method_16_code 38 = .ok (.ldc 110, 2) := by decide +kernel
theorem d_Wr_trailOfFunction_40 : decode prog_10_method_16_code 40 = .ok (.invokevirtual 77, 3) := by decide +kernel
theorem d_Wr_trailOfFunction_43 : decode prog_10_method_16_code 43 = .ok (.aload_n 0, 1) := by decide +kernel
theorem d_Wr_trailOfFunction_44 : decode prog_10_method_16_code 44 = .ok (.iload_n 1, 1) := by decide +kernel
theorem d_Wr_trailOfFunction_45 : decode prog_10_method_16_code 45 = .ok (.invokevirtual 152, 3) := by decide +kernel
theorem d_Wr_trailOfFunction_48 : decode prog_10_method_16_code 48 = .ok (.aload_n 0, 1) := by decide +kernel
theorem d_Wr_trailOfFunction_49 : decode prog_10_method_16_code 49 = .ok (.ldc 92, 2) := by decide +kernel
theorem d_Wr_trailOfFunction_51 : decode prog_10_method_16_code 51 = .ok (.invokevirtual 77, 3) := by decide +kernel
theorem d_Wr_trailOfFunction_54 : decode prog_10_method_16_code 54 = .ok (.goto 18, 3) := by decide +kernel
theorem d_Wr_trailOfFunction_57 : decode prog_10_method_16_code 57 = .ok (.aload_n 0, 1) := by decide +kernel
theorem d_Wr_trailOfFunction_58 : decode prog_10_method_16_code 58 = .ok (.iload_n 2, 1) := by decide +kernel
theorem d_Wr_trailOfFunction_59 : decode prog_10_method_16_code 59 = .ok (.invokevirtual 105, 3) := by decide +kernel
theorem d_Wr_trailOfFunction_62 : decode prog_10_method_16_code 62 = .ok (.iconst 2, 1) := by decide +kernel
theorem d_Wr_trailOfFunction_63 : decode prog_10_method_16_code 63 = .ok (.if_icmp .ne 9, 3) := by decide +kernel
theorem d_Wr_trailOfFunction_66 : decode prog_10_method_16_code 66 = .ok (.aload_n 0, 1) := by decide +kernel
theorem d_Wr_trailOfFunction_67 : decode prog_10_method_16_code 67 = .ok (.ldc 170, 2) := by decide +kernel
theorem d_Wr_trailOfFunction_69 : decode prog_10_method_16_code 69 = .ok (.invokevirtual 77, 3) := by decide +kernel
theorem d_Wr_trailOfFunction_72 : decode prog_10_method_16_code 72 = .ok (.return_, 1) := by decide +kernel
set_option maxHeartbeats 4000000 in
set_option maxRecDepth 100000 in
theorem L_Wr_trailOfFunction_40 (l : Launch) (D : va_G) (cI cB cJ cS : ClassId) (h0 : Nat) (a_tree_h0 : Nat) (a_source_h0 : Nat) (a_form_h0 : Nat) (a_cells_a_tree_h0 : Nat) (a_bytes_a_form_h0 : Nat) (a_bytes_a_source_h0 : Nat) (p1 : Int32) (p2 : Int32) (indent_h0 : Int32) (fits_h0 : Int32) (count_a_tree_h0 : Int32) (n_a_cells_a_tree_h0 : Nat) (b_a_cells_a_tree_h0 : Nat → Int32) (size_a_form_h0 : Int32) (n_a_bytes_a_form_h0 : Nat) (b_a_bytes_a_form_h0 : Nat → Int32) (size_a_source_h0 : Int32) (n_a_bytes_a_source_h0 : Nat) (b_a_bytes_a_source_h0 : Nat → Int32) (o_0_4 : Int32) (o_3_1 : Int32) (on_nq_3_0 : Nat) (ob_nq_3_0 : Nat → Int32) (mc ms : Nat) (p : Program) (e : Env) (s : State) (m : MethodId) (below : List Frame) (meth : Method) (c : Code) (hr : meth.sig.returnType = (Option.none : Option Jvm.ClassFile.FieldType)) (hnm : meth.name = y_Wr_trailOfFunction.name) : ∀ (v3_40 : Int32) (t0_40 : Nat) (cl_40 sl_40 C_40 S_40 : Nat), F_Wr_trailOfFunction_40 p1 indent_h0 fits_h0 count_a_tree_h0 n_a_cells_a_tree_h0 b_a_cells_a_tree_h0 size_a_form_h0 n_a_bytes_a_form_h0 b_a_bytes_a_form_h0 size_a_source_h0 n_a_bytes_a_source_h0 b_a_bytes_a_source_h0   v3_40 t0_40 = some ((o_0_4, o_3_1, on_nq_3_0, ob_nq_3_0), C_40, S_40) → cl_40 + C_40 ≤ mc → sl_40 + S_40 ≤ ms → J (KxOf p l e { frames := 5, cells := mc, slots := ms, locals := 127 } s m [.ref h0, .int p1, .int p2].toArray below meth c D (gT cI cB cJ cS) [(h0, .inr (6, [.ref a_tree_h0, .ref a_source_h0, .ref a_form_h0, .int indent_h0, .int fits_h0])), (a_tree_h0, .inr (1, [.ref a_cells_a_tree_h0, .int count_a_tree_h0])), (a_cells_a_tree_h0, .inl (cI, n_a_cells_a_tree_h0, .inl b_a_cells_a_tree_h0)), (a_form_h0, .inr (3, [.ref a_bytes_a_form_h0, .int size_a_form_h0])), (a_bytes_a_form_h0, .inl (cB, n_a_bytes_a_form_h0, .inl b_a_bytes_a_form_h0)), (a_source_h0, .inr (3, [.ref a_bytes_a_source_h0, .int size_a_source_h0])), (a_bytes_a_source_h0, .inl (cB, n_a_bytes_a_source_h0, .inl b_a_bytes_a_source_h0))] (fun v w => ∃ nq_3_0 : Nat, v = none ∧ w = [(h0, .inr (6, [.ref a_tree_h0, .ref a_source_h0, .ref a_form_h0, .int indent_h0, .int o_0_4])), (a_tree_h0, .inr (1, [.ref a_cells_a_tree_h0, .int count_a_tree_h0])), (a_cells_a_tree_h0, .inl (cI, n_a_cells_a_tree_h0, .inl b_a_cells_a_tree_h0)), (a_form_h0, .inr (3, [.ref nq_3_0, .int o_3_1])), (a_source_h0, .inr (3, [.ref a_bytes_a_source_h0, .int size_a_source_h0])), (a_bytes_a_source_h0, .inl (cB, n_a_bytes_a_source_h0, .inl b_a_bytes_a_source_h0)), (nq_3_0, .inl (cB, on_nq_3_0, .inl ob_nq_3_0))]) mc ms) prog_10_method_16_code 4 R_Wr 40 [(3, .int v3_40), (0, .ref h0), (1, .int p1), (2, .int p2)] [.ref (sA D t0_40), .ref h0] [(h0, .inr (6, [.ref a_tree_h0, .ref a_source_h0, .ref a_form_h0, .int indent_h0, .int fits_h0])), (a_form_h0, .inr (3, [.ref a_bytes_a_form_h0, .int size_a_form_h0])), (a_bytes_a_form_h0, .inl (cB, n_a_bytes_a_form_h0, .inl b_a_bytes_a_form_h0)), (a_source_h0, .inr (3, [.ref a_bytes_a_source_h0, .int size_a_source_h0])), (a_bytes_a_source_h0, .inl (cB, n_a_bytes_a_source_h0, .inl b_a_bytes_a_source_h0)), (a_tree_h0, .inr (1, [.ref a_cells_a_tree_h0, .int count_a_tree_h0])), (a_cells_a_tree_h0, .inl (cI, n_a_cells_a_tree_h0, .inl b_a_cells_a_tree_h0))] cl_40 sl_40 := by
  intro v3_40 t0_40 cl_40 sl_40 C_40 S_40 h hC hS
  unfold F_Wr_trailOfFunction_40 at h
  replace h := bw_s h
  obtain ⟨⟨r1, r2, r3, r4⟩, C6, S7, C8, S9, k10, h, e1, e2⟩ := h
  replace hC : cl_40 + C6 + C8 ≤ mc := by omega
  replace hS : sl_40 + S7 + S9 ≤ ms := by omega
  clear e1 e2
  refine j_callV (n := 1) (As := [.ref (sA D t0_40)]) (rest := []) (wr := [(a_source_h0, .inr (3, [.ref a_bytes_a_source_h0, .int size_a_source_h0])), (a_bytes_a_source_h0, .inl (cB, n_a_bytes_a_source_h0, .inl b_a_bytes_a_source_h0)), (a_tree_h0, .inr (1, [.ref a_cells_a_tree_h0, .int count_a_tree_h0])), (a_cells_a_tree_h0, .inl (cI, n_a_cells_a_tree_h0, .inl b_a_cells_a_tree_h0))]) (c_Wr_put l D cI cB cJ cS h0 a_tree_h0 a_source_h0 a_form_h0 a_bytes_a_form_h0 t0_40 indent_h0 fits_h0 size_a_form_h0 n_a_bytes_a_form_h0 b_a_bytes_a_form_h0  r1 r2 r3 r4 C6 S7 k10) k_Wr_77 (by decide) ⟨Nat.le_of_ble_eq_true rfl, Nat.le_of_ble_eq_true rfl⟩ rfl 0 rfl [0, 1, 2] [3, 4, 5, 6] rfl (by decide) rfl (by decide) (by decide) rfl rfl (Nat.le_of_ble_eq_true rfl) d_Wr_trailOfFunction_40 ⟨show cl_40 + C6 ≤ mc by omega, show sl_40 + S7 ≤ ms by omega⟩ (fun v w hq => ?_)
  obtain ⟨q5, rfl, rfl⟩ := hq
  refine j_norm (pc' := 43) (st' := []) (ws' := [(a_source_h0, .inr (3, [.ref a_bytes_a_source_h0, .int size_a_source_h0])), (a_bytes_a_source_h0, .inl (cB, n_a_bytes_a_source_h0, .inl b_a_bytes_a_source_h0)), (a_tree_h0, .inr (1, [.ref a_cells_a_tree_h0, .int count_a_tree_h0])), (a_cells_a_tree_h0, .inl (cI, n_a_cells_a_tree_h0, .inl b_a_cells_a_tree_h0)), (h0, .inr (6, [.ref a_tree_h0, .ref a_source_h0, .ref a_form_h0, .int indent_h0, .int r1])), (a_form_h0, .inr (3, [.ref q5, .int r2])), (q5, .inl (cB, r3, .inl r4))]) (cl' := cl_40 + C6) (sl' := sl_40 + S7) rfl rfl rfl rfl rfl rfl ?_
  refine j_aload_n d_Wr_trailOfFunction_43 rfl 1 rfl ?_
  refine j_iload_n d_Wr_trailOfFunction_44 rfl 2 rfl ?_
  replace h := bw_s h
  obtain ⟨⟨r11, r12, r13, r14⟩, C16, S17, C18, S19, k20, h, e1, e2⟩ := h
  replace hC : cl_40 + C6 + C16 + C18 ≤ mc := by omega
  replace hS : sl_40 + S7 + S17 + S19 ≤ ms := by omega
  clear e1 e2
  refine j_callV (n := 1) (As := [.int p1]) (rest := []) (wr := []) (c_Wr_putToken l D cI cB cJ cS h0 a_tree_h0 a_source_h0 a_form_h0 a_cells_a_tree_h0 a_bytes_a_source_h0 q5 p1 indent_h0 r1 count_a_tree_h0 n_a_cells_a_tree_h0 b_a_cells_a_tree_h0 size_a_source_h0 n_a_bytes_a_source_h0 b_a_bytes_a_source_h0 r2 r3 r4  r11 r12 r13 r14 C16 S17 k20) k_Wr_152 (by decide) ⟨Nat.le_of_ble_eq_true rfl, Nat.le_of_ble_eq_true rfl⟩ rfl 0 rfl [4, 2, 3, 0, 1, 5, 6] [] rfl (by decide) rfl (by decide) (by decide) rfl rfl (Nat.le_of_ble_eq_true rfl) d_Wr_trailOfFunction_45 ⟨show cl_40 + C6 + C16 ≤ mc by omega, show sl_40 + S7 + S17 ≤ ms by omega⟩ (fun v w hq => ?_)
  obtain ⟨q15, rfl, rfl⟩ := hq
  refine j_norm (pc' := 48) (st' := []) (ws' := [(h0, .inr (6, [.ref a_tree_h0, .ref a_source_h0, .ref a_form_h0, .int indent_h0, .int r11])), (a_tree_h0, .inr (1, [.ref a_cells_a_tree_h0, .int count_a_tree_h0])), (a_cells_a_tree_h0, .inl (cI, n_a_cells_a_tree_h0, .inl b_a_cells_a_tree_h0)), (a_source_h0, .inr (3, [.ref a_bytes_a_source_h0, .int size_a_source_h0])), (a_bytes_a_source_h0, .inl (cB, n_a_bytes_a_source_h0, .inl b_a_bytes_a_source_h0)), (a_form_h0, .inr (3, [.ref q15, .int r12])), (q15, .inl (cB, r13, .inl r14))]) (cl' := cl_40 + C6 + C16) (sl' := sl_40 + S7 + S17) rfl rfl rfl rfl rfl rfl ?_
  refine j_aload_n d_Wr_trailOfFunction_48 rfl 1 rfl ?_
  refine j_ldcS (i := 30) rfl d_Wr_trailOfFunction_49 ?_
  replace h := bw_s h
  obtain ⟨⟨r21, r22, r23, r24⟩, C26, S27, C28, S29, k30, h, e1, e2⟩ := h
  replace hC : cl_40 + C6 + C16 + C26 + C28 ≤ mc := by omega
  replace hS : sl_40 + S7 + S17 + S27 + S29 ≤ ms := by omega
  clear e1 e2
  refine j_callV (n := 1) (As := [.ref (sA D 30)]) (rest := []) (wr := [(a_tree_h0, .inr (1, [.ref a_cells_a_tree_h0, .int count_a_tree_h0])), (a_cells_a_tree_h0, .inl (cI, n_a_cells_a_tree_h0, .inl b_a_cells_a_tree_h0)), (a_source_h0, .inr (3, [.ref a_bytes_a_source_h0, .int size_a_source_h0])), (a_bytes_a_source_h0, .inl (cB, n_a_bytes_a_source_h0, .inl b_a_bytes_a_source_h0))]) (c_Wr_put l D cI cB cJ cS h0 a_tree_h0 a_source_h0 a_form_h0 q15 30 indent_h0 r11 r12 r13 r14  r21 r22 r23 r24 C26 S27 k30) k_Wr_77 (by decide) ⟨Nat.le_of_ble_eq_true rfl, Nat.le_of_ble_eq_true rfl⟩ rfl 0 rfl [0, 5, 6] [1, 2, 3, 4] rfl (by decide) rfl (by decide) (by decide) rfl rfl (Nat.le_of_ble_eq_true rfl) d_Wr_trailOfFunction_51 ⟨show cl_40 + C6 + C16 + C26 ≤ mc by omega, show sl_40 + S7 + S17 + S27 ≤ ms by omega⟩ (fun v w hq => ?_)
  obtain ⟨q25, rfl, rfl⟩ := hq
  refine j_norm (pc' := 54) (st' := []) (ws' := [(a_tree_h0, .inr (1, [.ref a_cells_a_tree_h0, .int count_a_tree_h0])), (a_cells_a_tree_h0, .inl (cI, n_a_cells_a_tree_h0, .inl b_a_cells_a_tree_h0)), (a_source_h0, .inr (3, [.ref a_bytes_a_source_h0, .int size_a_source_h0])), (a_bytes_a_source_h0, .inl (cB, n_a_bytes_a_source_h0, .inl b_a_bytes_a_source_h0)), (h0, .inr (6, [.ref a_tree_h0, .ref a_source_h0, .ref a_form_h0, .int indent_h0, .int r21])), (a_form_h0, .inr (3, [.ref q25, .int r22])), (q25, .inl (cB, r23, .inl r24))]) (cl' := cl_40 + C6 + C16 + C26) (sl' := sl_40 + S7 + S17 + S27) rfl rfl rfl rfl rfl rfl ?_
  refine j_goto (tgt := 72) d_Wr_trailOfFunction_54 (by decide) ?_
  replace h := lf_s h
  obtain ⟨h, e1, e2⟩ := h
  replace h := Prod.mk.inj h
  obtain ⟨h9, h⟩ := h
  subst h9
  replace h := Prod.mk.inj h
  obtain ⟨h9, h⟩ := h
  subst h9
  replace h := Prod.mk.inj h
  obtain ⟨h9, h⟩ := h
  subst h9
  subst h
  refine j_widen (cl' := mc) (sl' := ms) (by omega) (by omega) ?_
  exact j_vret (w := [(h0, .inr (6, [.ref a_tree_h0, .ref a_source_h0, .ref a_form_h0, .int indent_h0, .int r21])), (a_tree_h0, .inr (1, [.ref a_cells_a_tree_h0, .int count_a_tree_h0])), (a_cells_a_tree_h0, .inl (cI, n_a_cells_a_tree_h0, .inl b_a_cells_a_tree_h0)), (a_form_h0, .inr (3, [.ref q25, .int r22])), (a_source_h0, .inr (3, [.ref a_bytes_a_source_h0, .int size_a_source_h0])), (a_bytes_a_source_h0, .inl (cB, n_a_bytes_a_source_h0, .inl b_a_bytes_a_source_h0)), (q25, .inl (cB, r23, .inl r24))]) hr d_Wr_trailOfFunction_72 [4, 0, 1, 5, 2, 3, 6] rfl (by decide) ⟨q25, rfl, rfl⟩
set_option maxHeartbeats 4000000 in
set_option maxRecDepth 100000 in
theorem c_Wr_trailOfFunction (l : Launch) (D : va_G) (cI cB cJ cS : ClassId) (h0 : Nat) (a_tree_h0 : Nat) (a_source_h0 : Nat) (a_form_h0 : Nat) (a_cells_a_tree_h0 : Nat) (a_bytes_a_form_h0 : Nat) (a_bytes_a_source_h0 : Nat) (p1 : Int32) (p2 : Int32) (indent_h0 : Int32) (fits_h0 : Int32) (count_a_tree_h0 : Int32) (n_a_cells_a_tree_h0 : Nat) (b_a_cells_a_tree_h0 : Nat → Int32) (size_a_form_h0 : Int32) (n_a_bytes_a_form_h0 : Nat) (b_a_bytes_a_form_h0 : Nat → Int32) (size_a_source_h0 : Int32) (n_a_bytes_a_source_h0 : Nat) (b_a_bytes_a_source_h0 : Nat → Int32) (o_0_4 : Int32) (o_3_1 : Int32) (on_nq_3_0 : Nat) (ob_nq_3_0 : Nat → Int32) (mc ms : Nat) (h : F_Wr_trailOfFunction p1 p2 indent_h0 fits_h0 count_a_tree_h0 n_a_cells_a_tree_h0 b_a_cells_a_tree_h0 size_a_form_h0 n_a_bytes_a_form_h0 b_a_bytes_a_form_h0 size_a_source_h0 n_a_bytes_a_source_h0 b_a_bytes_a_source_h0 = some ((o_0_4, o_3_1, on_nq_3_0, ob_nq_3_0), mc, ms)) : Ct l D (gT cI cB cJ cS) y_Wr_trailOfFunction prog_10_method_16_code 4 (Option.none : Option Jvm.ClassFile.FieldType) 5 127 mc ms [.ref h0, .int p1, .int p2] [(h0, .inr (6, [.ref a_tree_h0, .ref a_source_h0, .ref a_form_h0, .int indent_h0, .int fits_h0])), (a_tree_h0, .inr (1, [.ref a_cells_a_tree_h0, .int count_a_tree_h0])), (a_cells_a_tree_h0, .inl (cI, n_a_cells_a_tree_h0, .inl b_a_cells_a_tree_h0)), (a_form_h0, .inr (3, [.ref a_bytes_a_form_h0, .int size_a_form_h0])), (a_bytes_a_form_h0, .inl (cB, n_a_bytes_a_form_h0, .inl b_a_bytes_a_form_h0)), (a_source_h0, .inr (3, [.ref a_bytes_a_source_h0, .int size_a_source_h0])), (a_bytes_a_source_h0, .inl (cB, n_a_bytes_a_source_h0, .inl b_a_bytes_a_source_h0))] (fun v w => ∃ nq_3_0 : Nat, v = none ∧ w = [(h0, .inr (6, [.ref a_tree_h0, .ref a_source_h0, .ref a_form_h0, .int indent_h0, .int o_0_4])), (a_tree_h0, .inr (1, [.ref a_cells_a_tree_h0, .int count_a_tree_h0])), (a_cells_a_tree_h0, .inl (cI, n_a_cells_a_tree_h0, .inl b_a_cells_a_tree_h0)), (a_form_h0, .inr (3, [.ref nq_3_0, .int o_3_1])), (a_source_h0, .inr (3, [.ref a_bytes_a_source_h0, .int size_a_source_h0])), (a_bytes_a_source_h0, .inl (cB, n_a_bytes_a_source_h0, .inl b_a_bytes_a_source_h0)), (nq_3_0, .inl (cB, on_nq_3_0, .inl ob_nq_3_0))]) := by
  refine Ct.mk (by decide) (Nat.le_of_ble_eq_true rfl) ?_
  intro p e s m below meth c hr hnm
  refine j_norm (pc' := 0) (lv' := [(0, .ref h0), (1, .int p1), (2, .int p2)]) (st' := []) (ws' := [(h0, .inr (6, [.ref a_tree_h0, .ref a_source_h0, .ref a_form_h0, .int indent_h0, .int fits_h0])), (a_tree_h0, .inr (1, [.ref a_cells_a_tree_h0, .int count_a_tree_h0])), (a_cells_a_tree_h0, .inl (cI, n_a_cells_a_tree_h0, .inl b_a_cells_a_tree_h0)), (a_form_h0, .inr (3, [.ref a_bytes_a_form_h0, .int size_a_form_h0])), (a_bytes_a_form_h0, .inl (cB, n_a_bytes_a_form_h0, .inl b_a_bytes_a_form_h0)), (a_source_h0, .inr (3, [.ref a_bytes_a_source_h0, .int size_a_source_h0])), (a_bytes_a_source_h0, .inl (cB, n_a_bytes_a_source_h0, .inl b_a_bytes_a_source_h0))]) (cl' := 0) (sl' := 0) rfl rfl rfl rfl rfl rfl ?_
  unfold F_Wr_trailOfFunction at h
  have hC : 0 + mc ≤ mc := by omega
  have hS : 0 + ms ≤ ms := by omega
  refine j_iload_n d_Wr_trailOfFunction_0 rfl 2 rfl ?_
  refine j_iload_n d_Wr_trailOfFunction_1 rfl 1 rfl ?_
  refine j_iconst (v := 1) d_Wr_trailOfFunction_2 (by decide) ?_
  refine j_iadd d_Wr_trailOfFunction_3 ?_
  refine j_icmp_ne (tgt := 57) d_Wr_trailOfFunction_4 (by decide) (fun c31 => ?_) (fun c31 => ?_)
  · replace h := it_f c31 h
    refine j_aload_n d_Wr_trailOfFunction_57 rfl 0 rfl ?_
    refine j_iload_n d_Wr_trailOfFunction_58 rfl 2 rfl ?_
    replace h := bd_s h
    obtain ⟨r32, k33, h⟩ := h
    refine j_callV (n := 1) (As := [.int p2]) (rest := []) (wr := [(a_form_h0, .inr (3, [.ref a_bytes_a_form_h0, .int size_a_form_h0])), (a_bytes_a_form_h0, .inl (cB, n_a_bytes_a_form_h0, .inl b_a_bytes_a_form_h0)), (a_source_h0, .inr (3, [.ref a_bytes_a_source_h0, .int size_a_source_h0])), (a_bytes_a_source_h0, .inl (cB, n_a_bytes_a_source_h0, .inl b_a_bytes_a_source_h0))]) (c_Wr_kind l D cI cB cJ cS h0 a_tree_h0 a_source_h0 a_form_h0 a_cells_a_tree_h0 p2 indent_h0 fits_h0 count_a_tree_h0 n_a_cells_a_tree_h0 b_a_cells_a_tree_h0  r32 k33) k_Wr_105 (by decide) ⟨Nat.le_of_ble_eq_true rfl, Nat.le_of_ble_eq_true rfl⟩ rfl 0 rfl [0, 1, 2] [3, 4, 5, 6] rfl (by decide) rfl (by decide) (by decide) rfl rfl (Nat.le_of_ble_eq_true rfl) d_Wr_trailOfFunction_59 ⟨show 0 + 0 ≤ mc by omega, show 0 + 0 ≤ ms by omega⟩ (fun v w hq => ?_)
    obtain ⟨rfl, rfl⟩ := hq
    refine j_norm (pc' := 62) (st' := [.int r32]) (ws' := [(a_form_h0, .inr (3, [.ref a_bytes_a_form_h0, .int size_a_form_h0])), (a_bytes_a_form_h0, .inl (cB, n_a_bytes_a_form_h0, .inl b_a_bytes_a_form_h0)), (a_source_h0, .inr (3, [.ref a_bytes_a_source_h0, .int size_a_source_h0])), (a_bytes_a_source_h0, .inl (cB, n_a_bytes_a_source_h0, .inl b_a_bytes_a_source_h0)), (h0, .inr (6, [.ref a_tree_h0, .ref a_source_h0, .ref a_form_h0, .int indent_h0, .int fits_h0])), (a_tree_h0, .inr (1, [.ref a_cells_a_tree_h0, .int count_a_tree_h0])), (a_cells_a_tree_h0, .inl (cI, n_a_cells_a_tree_h0, .inl b_a_cells_a_tree_h0))]) (cl' := 0) (sl' := 0) rfl rfl rfl rfl rfl rfl ?_
    refine j_iconst (v := 2) d_Wr_trailOfFunction_62 (by decide) ?_
    refine j_icmp_ne (tgt := 72) d_Wr_trailOfFunction_63 (by decide) (fun c34 => ?_) (fun c34 => ?_)
    · replace h := it_f c34 h
      replace h := lf_s h
      obtain ⟨h, e1, e2⟩ := h
      replace h := Prod.mk.inj h
      obtain ⟨h9, h⟩ := h
      subst h9
      replace h := Prod.mk.inj h
      obtain ⟨h9, h⟩ := h
      subst h9
      replace h := Prod.mk.inj h
      obtain ⟨h9, h⟩ := h
      subst h9
      subst h
      refine j_widen (cl' := mc) (sl' := ms) (by omega) (by omega) ?_
      exact j_vret (w := [(h0, .inr (6, [.ref a_tree_h0, .ref a_source_h0, .ref a_form_h0, .int indent_h0, .int fits_h0])), (a_tree_h0, .inr (1, [.ref a_cells_a_tree_h0, .int count_a_tree_h0])), (a_cells_a_tree_h0, .inl (cI, n_a_cells_a_tree_h0, .inl b_a_cells_a_tree_h0)), (a_form_h0, .inr (3, [.ref a_bytes_a_form_h0, .int size_a_form_h0])), (a_source_h0, .inr (3, [.ref a_bytes_a_source_h0, .int size_a_source_h0])), (a_bytes_a_source_h0, .inl (cB, n_a_bytes_a_source_h0, .inl b_a_bytes_a_source_h0)), (a_bytes_a_form_h0, .inl (cB, n_a_bytes_a_form_h0, .inl b_a_bytes_a_form_h0))]) hr d_Wr_trailOfFunction_72 [4, 5, 6, 0, 2, 3, 1] rfl (by decide) ⟨a_bytes_a_form_h0, rfl, rfl⟩
    · replace h := it_t c34 h
      refine j_aload_n d_Wr_trailOfFunction_66 rfl 0 rfl ?_
      refine j_ldcS (i := 38) rfl d_Wr_trailOfFunction_67 ?_
      replace h := bw_s h
      obtain ⟨⟨r35, r36, r37, r38⟩, C40, S41, C42, S43, k44, h, e1, e2⟩ := h
      replace hC : 0 + C40 + C42 ≤ mc := by omega
      replace hS : 0 + S41 + S43 ≤ ms := by omega
      clear e1 e2
      refine j_callV (n := 1) (As := [.ref (sA D 38)]) (rest := []) (wr := [(a_source_h0, .inr (3, [.ref a_bytes_a_source_h0, .int size_a_source_h0])), (a_bytes_a_source_h0, .inl (cB, n_a_bytes_a_source_h0, .inl b_a_bytes_a_source_h0)), (a_tree_h0, .inr (1, [.ref a_cells_a_tree_h0, .int count_a_tree_h0])), (a_cells_a_tree_h0, .inl (cI, n_a_cells_a_tree_h0, .inl b_a_cells_a_tree_h0))]) (c_Wr_put l D cI cB cJ cS h0 a_tree_h0 a_source_h0 a_form_h0 a_bytes_a_form_h0 38 indent_h0 fits_h0 size_a_form_h0 n_a_bytes_a_form_h0 b_a_bytes_a_form_h0  r35 r36 r37 r38 C40 S41 k44) k_Wr_77 (by decide) ⟨Nat.le_of_ble_eq_true rfl, Nat.le_of_ble_eq_true rfl⟩ rfl 0 rfl [4, 0, 1] [2, 3, 5, 6] rfl (by decide) rfl (by decide) (by decide) rfl rfl (Nat.le_of_ble_eq_true rfl) d_Wr_trailOfFunction_69 ⟨show 0 + C40 ≤ mc by omega, show 0 + S41 ≤ ms by omega⟩ (fun v w hq => ?_)
      obtain ⟨q39, rfl, rfl⟩ := hq
      refine j_norm (pc' := 72) (st' := []) (ws' := [(a_source_h0, .inr (3, [.ref a_bytes_a_source_h0, .int size_a_source_h0])), (a_bytes_a_source_h0, .inl (cB, n_a_bytes_a_source_h0, .inl b_a_bytes_a_source_h0)), (a_tree_h0, .inr (1, [.ref a_cells_a_tree_h0, .int count_a_tree_h0])), (a_cells_a_tree_h0, .inl (cI, n_a_cells_a_tree_h0, .inl b_a_cells_a_tree_h0)), (h0, .inr (6, [.ref a_tree_h0, .ref a_source_h0, .ref a_form_h0, .int indent_h0, .int r35])), (a_form_h0, .inr (3, [.ref q39, .int r36])), (q39, .inl (cB, r37, .inl r38))]) (cl' := 0 + C40) (sl' := 0 + S41) rfl rfl rfl rfl rfl rfl ?_
      replace h := lf_s h
      obtain ⟨h, e1, e2⟩ := h
      replace h := Prod.mk.inj h
      obtain ⟨h9, h⟩ := h
      subst h9
      replace h := Prod.mk.inj h
      obtain ⟨h9, h⟩ := h
      subst h9
      replace h := Prod.mk.inj h
      obtain ⟨h9, h⟩ := h
      subst h9
      subst h
      refine j_widen (cl' := mc) (sl' := ms) (by omega) (by omega) ?_
      exact j_vret (w := [(h0, .inr (6, [.ref a_tree_h0, .ref a_source_h0, .ref a_form_h0, .int indent_h0, .int r35])), (a_tree_h0, .inr (1, [.ref a_cells_a_tree_h0, .int count_a_tree_h0])), (a_cells_a_tree_h0, .inl (cI, n_a_cells_a_tree_h0, .inl b_a_cells_a_tree_h0)), (a_form_h0, .inr (3, [.ref q39, .int r36])), (a_source_h0, .inr (3, [.ref a_bytes_a_source_h0, .int size_a_source_h0])), (a_bytes_a_source_h0, .inl (cB, n_a_bytes_a_source_h0, .inl b_a_bytes_a_source_h0)), (q39, .inl (cB, r37, .inl r38))]) hr d_Wr_trailOfFunction_72 [4, 2, 3, 5, 0, 1, 6] rfl (by decide) ⟨q39, rfl, rfl⟩
  · replace h := it_t c31 h
    refine j_aload_n d_Wr_trailOfFunction_7 rfl 0 rfl ?_
    refine j_get ig_Wr rfl 0 rfl 0 (by decide) rfl m_219 rfl d_Wr_trailOfFunction_8 ?_
    refine j_iload_n d_Wr_trailOfFunction_11 rfl 2 rfl ?_
    refine j_iconst (v := 3) d_Wr_trailOfFunction_12 (by decide) ?_
    replace h := bd_s h
    obtain ⟨r45, k46, h⟩ := h
    refine j_callV (n := 2) (As := [.int p2, .int 3]) (rest := []) (wr := [(h0, .inr (6, [.ref a_tree_h0, .ref a_source_h0, .ref a_form_h0, .int indent_h0, .int fits_h0])), (a_form_h0, .inr (3, [.ref a_bytes_a_form_h0, .int size_a_form_h0])), (a_bytes_a_form_h0, .inl (cB, n_a_bytes_a_form_h0, .inl b_a_bytes_a_form_h0)), (a_source_h0, .inr (3, [.ref a_bytes_a_source_h0, .int size_a_source_h0])), (a_bytes_a_source_h0, .inl (cB, n_a_bytes_a_source_h0, .inl b_a_bytes_a_source_h0))]) (c_Nd_get l D cI cB cJ cS a_tree_h0 a_cells_a_tree_h0 p2 3 count_a_tree_h0 n_a_cells_a_tree_h0 b_a_cells_a_tree_h0  r45 k46) k_Wr_52 (by decide) ⟨Nat.le_of_ble_eq_true rfl, Nat.le_of_ble_eq_true rfl⟩ rfl 0 rfl [1, 2] [0, 3, 4, 5, 6] rfl (by decide) rfl (by decide) (by decide) rfl rfl (Nat.le_of_ble_eq_true rfl) d_Wr_trailOfFunction_13 ⟨show 0 + 0 ≤ mc by omega, show 0 + 0 ≤ ms by omega⟩ (fun v w hq => ?_)
    obtain ⟨rfl, rfl⟩ := hq
    refine j_norm (pc' := 16) (st' := [.int r45]) (ws' := [(h0, .inr (6, [.ref a_tree_h0, .ref a_source_h0, .ref a_form_h0, .int indent_h0, .int fits_h0])), (a_form_h0, .inr (3, [.ref a_bytes_a_form_h0, .int size_a_form_h0])), (a_bytes_a_form_h0, .inl (cB, n_a_bytes_a_form_h0, .inl b_a_bytes_a_form_h0)), (a_source_h0, .inr (3, [.ref a_bytes_a_source_h0, .int size_a_source_h0])), (a_bytes_a_source_h0, .inl (cB, n_a_bytes_a_source_h0, .inl b_a_bytes_a_source_h0)), (a_tree_h0, .inr (1, [.ref a_cells_a_tree_h0, .int count_a_tree_h0])), (a_cells_a_tree_h0, .inl (cI, n_a_cells_a_tree_h0, .inl b_a_cells_a_tree_h0))]) (cl' := 0) (sl' := 0) rfl rfl rfl rfl rfl rfl ?_
    refine j_istore_n (lv' := [(3, .int r45), (0, .ref h0), (1, .int p1), (2, .int p2)]) d_Wr_trailOfFunction_16 rfl (by decide) rfl ?_
    refine j_aload_n d_Wr_trailOfFunction_17 rfl 1 rfl ?_
    refine j_iload_n d_Wr_trailOfFunction_18 rfl 0 rfl ?_
    refine j_iconst (v := 1) d_Wr_trailOfFunction_19 (by decide) ?_
    refine j_icmp_le (tgt := 28) d_Wr_trailOfFunction_20 (by decide) (fun c47 => ?_) (fun c47 => ?_)
    · replace h := it_t c47 h
      refine j_iload_n d_Wr_trailOfFunction_28 rfl 0 rfl ?_
      refine j_iconst (v := 1) d_Wr_trailOfFunction_29 (by decide) ?_
      refine j_icmp_ne (tgt := 38) d_Wr_trailOfFunction_30 (by decide) (fun c48 => ?_) (fun c48 => ?_)
      · replace h := it_f c48 h
        refine j_ldcS (i := 16) rfl d_Wr_trailOfFunction_38 ?_
        refine j_sub (w := [(h0, .inr (6, [.ref a_tree_h0, .ref a_source_h0, .ref a_form_h0, .int indent_h0, .int fits_h0])), (a_form_h0, .inr (3, [.ref a_bytes_a_form_h0, .int size_a_form_h0])), (a_bytes_a_form_h0, .inl (cB, n_a_bytes_a_form_h0, .inl b_a_bytes_a_form_h0)), (a_source_h0, .inr (3, [.ref a_bytes_a_source_h0, .int size_a_source_h0])), (a_bytes_a_source_h0, .inl (cB, n_a_bytes_a_source_h0, .inl b_a_bytes_a_source_h0)), (a_tree_h0, .inr (1, [.ref a_cells_a_tree_h0, .int count_a_tree_h0])), (a_cells_a_tree_h0, .inl (cI, n_a_cells_a_tree_h0, .inl b_a_cells_a_tree_h0))]) (lv' := [(3, .int r45), (0, .ref h0), (1, .int p1), (2, .int p2)]) [0, 1, 2, 3, 4, 5, 6] rfl (by decide) [0, 1, 2, 3] rfl ?_
        exact L_Wr_trailOfFunction_40 l D cI cB cJ cS h0 a_tree_h0 a_source_h0 a_form_h0 a_cells_a_tree_h0 a_bytes_a_form_h0 a_bytes_a_source_h0 p1 p2 indent_h0 fits_h0 count_a_tree_h0 n_a_cells_a_tree_h0 b_a_cells_a_tree_h0 size_a_form_h0 n_a_bytes_a_form_h0 b_a_bytes_a_form_h0 size_a_source_h0 n_a_bytes_a_source_h0 b_a_bytes_a_source_h0 o_0_4 o_3_1 on_nq_3_0 ob_nq_3_0 mc ms p e s m below meth c hr hnm r45 16 0 0 mc ms h hC hS
      · replace h := it_t c48 h
        refine j_ldcS (i := 24) rfl d_Wr_trailOfFunction_33 ?_
        refine j_goto (tgt := 40) d_Wr_trailOfFunction_35 (by decide) ?_
        refine j_sub (w := [(h0, .inr (6, [.ref a_tree_h0, .ref a_source_h0, .ref a_form_h0, .int indent_h0, .int fits_h0])), (a_form_h0, .inr (3, [.ref a_bytes_a_form_h0, .int size_a_form_h0])), (a_bytes_a_form_h0, .inl (cB, n_a_bytes_a_form_h0, .inl b_a_bytes_a_form_h0)), (a_source_h0, .inr (3, [.ref a_bytes_a_source_h0, .int size_a_source_h0])), (a_bytes_a_source_h0, .inl (cB, n_a_bytes_a_source_h0, .inl b_a_bytes_a_source_h0)), (a_tree_h0, .inr (1, [.ref a_cells_a_tree_h0, .int count_a_tree_h0])), (a_cells_a_tree_h0, .inl (cI, n_a_cells_a_tree_h0, .inl b_a_cells_a_tree_h0))]) (lv' := [(3, .int r45), (0, .ref h0), (1, .int p1), (2, .int p2)]) [0, 1, 2, 3, 4, 5, 6] rfl (by decide) [0, 1, 2, 3] rfl ?_
        exact L_Wr_trailOfFunction_40 l D cI cB cJ cS h0 a_tree_h0 a_source_h0 a_form_h0 a_cells_a_tree_h0 a_bytes_a_form_h0 a_bytes_a_source_h0 p1 p2 indent_h0 fits_h0 count_a_tree_h0 n_a_cells_a_tree_h0 b_a_cells_a_tree_h0 size_a_form_h0 n_a_bytes_a_form_h0 b_a_bytes_a_form_h0 size_a_source_h0 n_a_bytes_a_source_h0 b_a_bytes_a_source_h0 o_0_4 o_3_1 on_nq_3_0 ob_nq_3_0 mc ms p e s m below meth c hr hnm r45 24 0 0 mc ms h hC hS
    · replace h := it_f c47 h
      refine j_ldcS (i := 37) rfl d_Wr_trailOfFunction_23 ?_
      refine j_goto (tgt := 40) d_Wr_trailOfFunction_25 (by decide) ?_
      refine j_sub (w := [(h0, .inr (6, [.ref a_tree_h0, .ref a_source_h0, .ref a_form_h0, .int indent_h0, .int fits_h0])), (a_form_h0, .inr (3, [.ref a_bytes_a_form_h0, .int size_a_form_h0])), (a_bytes_a_form_h0, .inl (cB, n_a_bytes_a_form_h0, .inl b_a_bytes_a_form_h0)), (a_source_h0, .inr (3, [.ref a_bytes_a_source_h0, .int size_a_source_h0])), (a_bytes_a_source_h0, .inl (cB, n_a_bytes_a_source_h0, .inl b_a_bytes_a_source_h0)), (a_tree_h0, .inr (1, [.ref a_cells_a_tree_h0, .int count_a_tree_h0])), (a_cells_a_tree_h0, .inl (cI, n_a_cells_a_tree_h0, .inl b_a_cells_a_tree_h0))]) (lv' := [(3, .int r45), (0, .ref h0), (1, .int p1), (2, .int p2)]) [0, 1, 2, 3, 4, 5, 6] rfl (by decide) [0, 1, 2, 3] rfl ?_
      exact L_Wr_trailOfFunction_40 l D cI cB cJ cS h0 a_tree_h0 a_source_h0 a_form_h0 a_cells_a_tree_h0 a_bytes_a_form_h0 a_bytes_a_source_h0 p1 p2 indent_h0 fits_h0 count_a_tree_h0 n_a_cells_a_tree_h0 b_a_cells_a_tree_h0 size_a_form_h0 n_a_bytes_a_form_h0 b_a_bytes_a_form_h0 size_a_source_h0 n_a_bytes_a_source_h0 b_a_bytes_a_source_h0 o_0_4 o_3_1 on_nq_3_0 ob_nq_3_0 mc ms p e s m below meth c hr hnm r45 37 0 0 mc ms h hC hS
def F_Wr_rank (p1 : Int32) (indent_h0 : Int32) (fits_h0 : Int32) (count_a_tree_h0 : Int32) (n_a_cells_a_tree_h0 : Nat) (b_a_cells_a_tree_h0 : Nat → Int32) (size_a_source_h0 : Int32) (n_a_bytes_a_source_h0 : Nat) (b_a_bytes_a_source_h0 : Nat → Int32) : Option (Int32) :=
  Option.bind (F_Wr_kind p1 indent_h0 fits_h0 count_a_tree_h0 n_a_cells_a_tree_h0 b_a_cells_a_tree_h0) fun r1 =>
  if r1 = 38 then (some 9)
  else if r1 = 39 then (some 7)
  else if r1 = 40 then (Option.bind (F_Nd_tokenPlace p1 count_a_tree_h0 n_a_cells_a_tree_h0 b_a_cells_a_tree_h0) fun r6 =>
    Option.bind (F_Rw_at r6 size_a_source_h0 n_a_bytes_a_source_h0 b_a_bytes_a_source_h0) fun r8 =>
    Option.bind (F_Rw_at (r6 + 1) size_a_source_h0 n_a_bytes_a_source_h0 b_a_bytes_a_source_h0) fun r10 =>
    nm (F_Sc_signs r8 r10) fun r12 =>
    nm (F_Rk_of r12) fun r14 =>
    (some r14))
  else if r1 = 41 then (some 4)
  else (some 10)
theorem d_Wr_rank_0 : decode prog_10_method_17_code 0 = .ok (.aload_n 0, 1) := by decide +kernel
theorem d_Wr_rank_1 : decode prog_10_method_17_code 1 = .ok (.iload_n 1, 1) := by decide +kernel
theorem d_Wr_rank_2 : decode prog_10_method_17_code 2 = .ok (.invokevirtual 105, 3) := by decide +kernel
theorem d_Wr_rank_5 : decode prog_10_method_17_code 5 = .ok (.tableswitch 73 38 41 #[70, 67, 31, 65], 31) := by decide +kernel
theorem d_Wr_rank_36 : decode prog_10_method_17_code 36 = .ok (.aload_n 0, 1) := by decide +kernel
theorem d_Wr_rank_37 : decode prog_10_method_17_code 37 = .ok (.getfield 10, 3) := by decide +kernel
theorem d_Wr_rank_40 : decode prog_10_method_17_code 40 = .ok (.iload_n 1, 1) := by decide +kernel
theorem d_Wr_rank_41 : decode prog_10_method_17_code 41 = .ok (.invokevirtual 69, 3) := by decide +kernel
theorem d_Wr_rank_44 : decode prog_10_method_17_code 44 = .ok (.istore_n 2, 1) := by decide +kernel
theorem d_Wr_rank_45 : decode prog_10_method_17_code 45 = .ok (.aload_n 0, 1) := by decide +kernel
theorem d_Wr_rank_46 : decode prog_10_method_17_code 46 = .ok (.getfield 19, 3) := by decide +kernel
theorem d_Wr_rank_49 : decode prog_10_method_17_code 49 = .ok (.iload_n 2, 1) := by decide +kernel
theorem d_Wr_rank_50 : decode prog_10_method_17_code 50 = .ok (.invokevirtual 72, 3) := by decide +kernel
theorem d_Wr_rank_53 : decode prog_10_method_17_code 53 = .ok (.aload_n 0, 1) := by decide +kernel
theorem d_Wr_rank_54 : decode prog_10_method_17_code 54 = .ok (.getfield 19, 3) := by decide +kernel
theorem d_Wr_rank_57 : decode prog_10_method_17_code 57 = .ok (.iload_n 2, 1) := by decide +kernel
theorem d_Wr_rank_58 : decode prog_10_method_17_code 58 = .ok (.iconst 1, 1) := by decide +kernel
theorem d_Wr_rank_59 : decode prog_10_method_17_code 59 = .ok (.iadd, 1) := by decide +kernel
theorem d_Wr_rank_60 : decode prog_10_method_17_code 60 = .ok (.invokevirtual 72, 3) := by decide +kernel
theorem d_Wr_rank_63 : decode prog_10_method_17_code 63 = .ok (.invokestatic 172, 3) := by decide +kernel
theorem d_Wr_rank_66 : decode prog_10_method_17_code 66 = .ok (.invokestatic 177, 3) := by decide +kernel
theorem d_Wr_rank_69 : decode prog_10_method_17_code 69 = .ok (.ireturn, 1) := by decide +kernel
theorem d_Wr_rank_70 : decode prog_10_method_17_code 70 = .ok (.iconst 4, 1) := by decide +kernel
theorem d_Wr_rank_71 : decode prog_10_method_17_code 71 = .ok (.ireturn, 1) := by decide +kernel
theorem d_Wr_rank_72 : decode prog_10_method_17_code 72 = .ok (.bipush 7, 2) := by decide +kernel
theorem d_Wr_rank_74 : decode prog_10_method_17_code 74 = .ok (.ireturn, 1) := by decide +kernel
theorem d_Wr_rank_75 : decode prog_10_method_17_code 75 = .ok (.bipush 9, 2) := by decide +kernel
theorem d_Wr_rank_77 : decode prog_10_method_17_code 77 = .ok (.ireturn, 1) := by decide +kernel
theorem d_Wr_rank_78 : decode prog_10_method_17_code 78 = .ok (.bipush 10, 2) := by decide +kernel
theorem d_Wr_rank_80 : decode prog_10_method_17_code 80 = .ok (.ireturn, 1) := by decide +kernel
set_option maxHeartbeats 4000000 in
set_option maxRecDepth 100000 in
theorem c_Wr_rank (l : Launch) (D : va_G) (cI cB cJ cS : ClassId) (h0 : Nat) (a_tree_h0 : Nat) (a_source_h0 : Nat) (a_form_h0 : Nat) (a_cells_a_tree_h0 : Nat) (a_bytes_a_source_h0 : Nat) (p1 : Int32) (indent_h0 : Int32) (fits_h0 : Int32) (count_a_tree_h0 : Int32) (n_a_cells_a_tree_h0 : Nat) (b_a_cells_a_tree_h0 : Nat → Int32) (size_a_source_h0 : Int32) (n_a_bytes_a_source_h0 : Nat) (b_a_bytes_a_source_h0 : Nat → Int32) (ret : Int32) (h : F_Wr_rank p1 indent_h0 fits_h0 count_a_tree_h0 n_a_cells_a_tree_h0 b_a_cells_a_tree_h0 size_a_source_h0 n_a_bytes_a_source_h0 b_a_bytes_a_source_h0 = some ret) : Ct l D (gT cI cB cJ cS) y_Wr_rank prog_10_method_17_code 3 (Option.some Jvm.ClassFile.FieldType.int) 2 43 0 0 [.ref h0, .int p1] [(h0, .inr (6, [.ref a_tree_h0, .ref a_source_h0, .ref a_form_h0, .int indent_h0, .int fits_h0])), (a_tree_h0, .inr (1, [.ref a_cells_a_tree_h0, .int count_a_tree_h0])), (a_cells_a_tree_h0, .inl (cI, n_a_cells_a_tree_h0, .inl b_a_cells_a_tree_h0)), (a_source_h0, .inr (3, [.ref a_bytes_a_source_h0, .int size_a_source_h0])), (a_bytes_a_source_h0, .inl (cB, n_a_bytes_a_source_h0, .inl b_a_bytes_a_source_h0))] (fun v w => v = some (.int ret) ∧ w = [(h0, .inr (6, [.ref a_tree_h0, .ref a_source_h0, .ref a_form_h0, .int indent_h0, .int fits_h0])), (a_tree_h0, .inr (1, [.ref a_cells_a_tree_h0, .int count_a_tree_h0])), (a_cells_a_tree_h0, .inl (cI, n_a_cells_a_tree_h0, .inl b_a_cells_a_tree_h0)), (a_source_h0, .inr (3, [.ref a_bytes_a_source_h0, .int size_a_source_h0])), (a_bytes_a_source_h0, .inl (cB, n_a_bytes_a_source_h0, .inl b_a_bytes_a_source_h0))]) := by
  refine Ct.mk (by decide) (Nat.le_of_ble_eq_true rfl) ?_
  intro p e s m below meth c hr hnm
  refine j_norm (pc' := 0) (lv' := [(0, .ref h0), (1, .int p1)]) (st' := []) (ws' := [(h0, .inr (6, [.ref a_tree_h0, .ref a_source_h0, .ref a_form_h0, .int indent_h0, .int fits_h0])), (a_tree_h0, .inr (1, [.ref a_cells_a_tree_h0, .int count_a_tree_h0])), (a_cells_a_tree_h0, .inl (cI, n_a_cells_a_tree_h0, .inl b_a_cells_a_tree_h0)), (a_source_h0, .inr (3, [.ref a_bytes_a_source_h0, .int size_a_source_h0])), (a_bytes_a_source_h0, .inl (cB, n_a_bytes_a_source_h0, .inl b_a_bytes_a_source_h0))]) (cl' := 0) (sl' := 0) rfl rfl rfl rfl rfl rfl ?_
  unfold F_Wr_rank at h
  refine j_aload_n d_Wr_rank_0 rfl 0 rfl ?_
  refine j_iload_n d_Wr_rank_1 rfl 1 rfl ?_
  replace h := bd_s h
  obtain ⟨r1, k2, h⟩ := h
  refine j_callV (n := 1) (As := [.int p1]) (rest := []) (wr := [(a_source_h0, .inr (3, [.ref a_bytes_a_source_h0, .int size_a_source_h0])), (a_bytes_a_source_h0, .inl (cB, n_a_bytes_a_source_h0, .inl b_a_bytes_a_source_h0))]) (c_Wr_kind l D cI cB cJ cS h0 a_tree_h0 a_source_h0 a_form_h0 a_cells_a_tree_h0 p1 indent_h0 fits_h0 count_a_tree_h0 n_a_cells_a_tree_h0 b_a_cells_a_tree_h0  r1 k2) k_Wr_105 (by decide) ⟨Nat.le_of_ble_eq_true rfl, Nat.le_of_ble_eq_true rfl⟩ rfl 0 rfl [0, 1, 2] [3, 4] rfl (by decide) rfl (by decide) (by decide) rfl rfl (Nat.le_of_ble_eq_true rfl) d_Wr_rank_2 ⟨Nat.le_of_ble_eq_true rfl, Nat.le_of_ble_eq_true rfl⟩ (fun v w hq => ?_)
  obtain ⟨rfl, rfl⟩ := hq
  refine j_norm (pc' := 5) (st' := [.int r1]) (ws' := [(a_source_h0, .inr (3, [.ref a_bytes_a_source_h0, .int size_a_source_h0])), (a_bytes_a_source_h0, .inl (cB, n_a_bytes_a_source_h0, .inl b_a_bytes_a_source_h0)), (h0, .inr (6, [.ref a_tree_h0, .ref a_source_h0, .ref a_form_h0, .int indent_h0, .int fits_h0])), (a_tree_h0, .inr (1, [.ref a_cells_a_tree_h0, .int count_a_tree_h0])), (a_cells_a_tree_h0, .inl (cI, n_a_cells_a_tree_h0, .inl b_a_cells_a_tree_h0))]) (cl' := 0) (sl' := 0) rfl rfl rfl rfl rfl rfl ?_
  by_cases c3 : r1 = 38
  · replace h := it_t c3 h
    refine j_tabIn (tgt := 75) (off := 70) d_Wr_rank_5 38 c3 (by decide) (by decide) (by decide) (by decide) ?_
    refine j_bipush (v := 9) d_Wr_rank_75 (by decide) ?_
    replace h := Option.some.inj h
    subst h
    exact j_iret (w := [(h0, .inr (6, [.ref a_tree_h0, .ref a_source_h0, .ref a_form_h0, .int indent_h0, .int fits_h0])), (a_tree_h0, .inr (1, [.ref a_cells_a_tree_h0, .int count_a_tree_h0])), (a_cells_a_tree_h0, .inl (cI, n_a_cells_a_tree_h0, .inl b_a_cells_a_tree_h0)), (a_source_h0, .inr (3, [.ref a_bytes_a_source_h0, .int size_a_source_h0])), (a_bytes_a_source_h0, .inl (cB, n_a_bytes_a_source_h0, .inl b_a_bytes_a_source_h0))]) hr d_Wr_rank_77 [2, 3, 4, 0, 1] rfl (by decide) ⟨rfl, rfl⟩
  · replace h := it_f c3 h
    by_cases c4 : r1 = 39
    · replace h := it_t c4 h
      refine j_tabIn (tgt := 72) (off := 67) d_Wr_rank_5 39 c4 (by decide) (by decide) (by decide) (by decide) ?_
      refine j_bipush (v := 7) d_Wr_rank_72 (by decide) ?_
      replace h := Option.some.inj h
      subst h
      exact j_iret (w := [(h0, .inr (6, [.ref a_tree_h0, .ref a_source_h0, .ref a_form_h0, .int indent_h0, .int fits_h0])), (a_tree_h0, .inr (1, [.ref a_cells_a_tree_h0, .int count_a_tree_h0])), (a_cells_a_tree_h0, .inl (cI, n_a_cells_a_tree_h0, .inl b_a_cells_a_tree_h0)), (a_source_h0, .inr (3, [.ref a_bytes_a_source_h0, .int size_a_source_h0])), (a_bytes_a_source_h0, .inl (cB, n_a_bytes_a_source_h0, .inl b_a_bytes_a_source_h0))]) hr d_Wr_rank_74 [2, 3, 4, 0, 1] rfl (by decide) ⟨rfl, rfl⟩
    · replace h := it_f c4 h
      by_cases c5 : r1 = 40
      · replace h := it_t c5 h
        refine j_tabIn (tgt := 36) (off := 31) d_Wr_rank_5 40 c5 (by decide) (by decide) (by decide) (by decide) ?_
        refine j_aload_n d_Wr_rank_36 rfl 0 rfl ?_
        refine j_get ig_Wr rfl 2 rfl 0 (by decide) rfl m_219 rfl d_Wr_rank_37 ?_
        refine j_iload_n d_Wr_rank_40 rfl 1 rfl ?_
        replace h := bd_s h
        obtain ⟨r6, k7, h⟩ := h
        refine j_callV (n := 1) (As := [.int p1]) (rest := []) (wr := [(a_source_h0, .inr (3, [.ref a_bytes_a_source_h0, .int size_a_source_h0])), (a_bytes_a_source_h0, .inl (cB, n_a_bytes_a_source_h0, .inl b_a_bytes_a_source_h0)), (h0, .inr (6, [.ref a_tree_h0, .ref a_source_h0, .ref a_form_h0, .int indent_h0, .int fits_h0]))]) (c_Nd_tokenPlace l D cI cB cJ cS a_tree_h0 a_cells_a_tree_h0 p1 count_a_tree_h0 n_a_cells_a_tree_h0 b_a_cells_a_tree_h0  r6 k7) k_Wr_69 (by decide) ⟨Nat.le_of_ble_eq_true rfl, Nat.le_of_ble_eq_true rfl⟩ rfl 0 rfl [3, 4] [0, 1, 2] rfl (by decide) rfl (by decide) (by decide) rfl rfl (Nat.le_of_ble_eq_true rfl) d_Wr_rank_41 ⟨Nat.le_of_ble_eq_true rfl, Nat.le_of_ble_eq_true rfl⟩ (fun v w hq => ?_)
        obtain ⟨rfl, rfl⟩ := hq
        refine j_norm (pc' := 44) (st' := [.int r6]) (ws' := [(a_source_h0, .inr (3, [.ref a_bytes_a_source_h0, .int size_a_source_h0])), (a_bytes_a_source_h0, .inl (cB, n_a_bytes_a_source_h0, .inl b_a_bytes_a_source_h0)), (h0, .inr (6, [.ref a_tree_h0, .ref a_source_h0, .ref a_form_h0, .int indent_h0, .int fits_h0])), (a_tree_h0, .inr (1, [.ref a_cells_a_tree_h0, .int count_a_tree_h0])), (a_cells_a_tree_h0, .inl (cI, n_a_cells_a_tree_h0, .inl b_a_cells_a_tree_h0))]) (cl' := 0) (sl' := 0) rfl rfl rfl rfl rfl rfl ?_
        refine j_istore_n (lv' := [(2, .int r6), (0, .ref h0), (1, .int p1)]) d_Wr_rank_44 rfl (by decide) rfl ?_
        refine j_aload_n d_Wr_rank_45 rfl 1 rfl ?_
        refine j_get ig_Wr rfl 2 rfl 1 (by decide) rfl m_220 rfl d_Wr_rank_46 ?_
        refine j_iload_n d_Wr_rank_49 rfl 0 rfl ?_
        replace h := bd_s h
        obtain ⟨r8, k9, h⟩ := h
        refine j_callV (n := 1) (As := [.int r6]) (rest := []) (wr := [(h0, .inr (6, [.ref a_tree_h0, .ref a_source_h0, .ref a_form_h0, .int indent_h0, .int fits_h0])), (a_tree_h0, .inr (1, [.ref a_cells_a_tree_h0, .int count_a_tree_h0])), (a_cells_a_tree_h0, .inl (cI, n_a_cells_a_tree_h0, .inl b_a_cells_a_tree_h0))]) (c_Rw_at l D cI cB cJ cS a_source_h0 a_bytes_a_source_h0 r6 size_a_source_h0 n_a_bytes_a_source_h0 b_a_bytes_a_source_h0  r8 k9) k_Wr_72 (by decide) ⟨Nat.le_of_ble_eq_true rfl, Nat.le_of_ble_eq_true rfl⟩ rfl 0 rfl [0, 1] [2, 3, 4] rfl (by decide) rfl (by decide) (by decide) rfl rfl (Nat.le_of_ble_eq_true rfl) d_Wr_rank_50 ⟨Nat.le_of_ble_eq_true rfl, Nat.le_of_ble_eq_true rfl⟩ (fun v w hq => ?_)
        obtain ⟨rfl, rfl⟩ := hq
        refine j_norm (pc' := 53) (st' := [.int r8]) (ws' := [(h0, .inr (6, [.ref a_tree_h0, .ref a_source_h0, .ref a_form_h0, .int indent_h0, .int fits_h0])), (a_tree_h0, .inr (1, [.ref a_cells_a_tree_h0, .int count_a_tree_h0])), (a_cells_a_tree_h0, .inl (cI, n_a_cells_a_tree_h0, .inl b_a_cells_a_tree_h0)), (a_source_h0, .inr (3, [.ref a_bytes_a_source_h0, .int size_a_source_h0])), (a_bytes_a_source_h0, .inl (cB, n_a_bytes_a_source_h0, .inl b_a_bytes_a_source_h0))]) (cl' := 0) (sl' := 0) rfl rfl rfl rfl rfl rfl ?_
        refine j_aload_n d_Wr_rank_53 rfl 1 rfl ?_
        refine j_get ig_Wr rfl 0 rfl 1 (by decide) rfl m_220 rfl d_Wr_rank_54 ?_
        refine j_iload_n d_Wr_rank_57 rfl 0 rfl ?_
        refine j_iconst (v := 1) d_Wr_rank_58 (by decide) ?_
        refine j_iadd d_Wr_rank_59 ?_
        replace h := bd_s h
        obtain ⟨r10, k11, h⟩ := h
        refine j_callV (n := 1) (As := [.int (r6 + 1)]) (rest := [.int r8]) (wr := [(h0, .inr (6, [.ref a_tree_h0, .ref a_source_h0, .ref a_form_h0, .int indent_h0, .int fits_h0])), (a_tree_h0, .inr (1, [.ref a_cells_a_tree_h0, .int count_a_tree_h0])), (a_cells_a_tree_h0, .inl (cI, n_a_cells_a_tree_h0, .inl b_a_cells_a_tree_h0))]) (c_Rw_at l D cI cB cJ cS a_source_h0 a_bytes_a_source_h0 (r6 + 1) size_a_source_h0 n_a_bytes_a_source_h0 b_a_bytes_a_source_h0  r10 k11) k_Wr_72 (by decide) ⟨Nat.le_of_ble_eq_true rfl, Nat.le_of_ble_eq_true rfl⟩ rfl 0 rfl [3, 4] [0, 1, 2] rfl (by decide) rfl (by decide) (by decide) rfl rfl (Nat.le_of_ble_eq_true rfl) d_Wr_rank_60 ⟨Nat.le_of_ble_eq_true rfl, Nat.le_of_ble_eq_true rfl⟩ (fun v w hq => ?_)
        obtain ⟨rfl, rfl⟩ := hq
        refine j_norm (pc' := 63) (st' := [.int r10, .int r8]) (ws' := [(h0, .inr (6, [.ref a_tree_h0, .ref a_source_h0, .ref a_form_h0, .int indent_h0, .int fits_h0])), (a_tree_h0, .inr (1, [.ref a_cells_a_tree_h0, .int count_a_tree_h0])), (a_cells_a_tree_h0, .inl (cI, n_a_cells_a_tree_h0, .inl b_a_cells_a_tree_h0)), (a_source_h0, .inr (3, [.ref a_bytes_a_source_h0, .int size_a_source_h0])), (a_bytes_a_source_h0, .inl (cB, n_a_bytes_a_source_h0, .inl b_a_bytes_a_source_h0))]) (cl' := 0) (sl' := 0) rfl rfl rfl rfl rfl rfl ?_
        obtain ⟨r12, k13⟩ : ∃ z, (F_Sc_signs r8 r10) = z := ⟨_, rfl⟩
        replace h := nm_at k13 h
        refine j_callS (n := 2) (As := [.int r8, .int r10]) (rest := []) (wr := [(h0, .inr (6, [.ref a_tree_h0, .ref a_source_h0, .ref a_form_h0, .int indent_h0, .int fits_h0])), (a_tree_h0, .inr (1, [.ref a_cells_a_tree_h0, .int count_a_tree_h0])), (a_cells_a_tree_h0, .inl (cI, n_a_cells_a_tree_h0, .inl b_a_cells_a_tree_h0)), (a_source_h0, .inr (3, [.ref a_bytes_a_source_h0, .int size_a_source_h0])), (a_bytes_a_source_h0, .inl (cB, n_a_bytes_a_source_h0, .inl b_a_bytes_a_source_h0))]) (c_Sc_signs l D cI cB cJ cS r8 r10  r12 k13) k_Wr_172 (by decide) ⟨Nat.le_of_ble_eq_true rfl, Nat.le_of_ble_eq_true rfl⟩ [] [0, 1, 2, 3, 4] rfl (by decide) rfl (by decide) (by decide) rfl rfl (Nat.le_of_ble_eq_true rfl) d_Wr_rank_63 ⟨Nat.le_of_ble_eq_true rfl, Nat.le_of_ble_eq_true rfl⟩ (fun v w hq => ?_)
        obtain ⟨rfl, rfl⟩ := hq
        refine j_norm (pc' := 66) (st' := [.int r12]) (ws' := [(h0, .inr (6, [.ref a_tree_h0, .ref a_source_h0, .ref a_form_h0, .int indent_h0, .int fits_h0])), (a_tree_h0, .inr (1, [.ref a_cells_a_tree_h0, .int count_a_tree_h0])), (a_cells_a_tree_h0, .inl (cI, n_a_cells_a_tree_h0, .inl b_a_cells_a_tree_h0)), (a_source_h0, .inr (3, [.ref a_bytes_a_source_h0, .int size_a_source_h0])), (a_bytes_a_source_h0, .inl (cB, n_a_bytes_a_source_h0, .inl b_a_bytes_a_source_h0))]) (cl' := 0) (sl' := 0) rfl rfl rfl rfl rfl rfl ?_
        obtain ⟨r14, k15⟩ : ∃ z, (F_Rk_of r12) = z := ⟨_, rfl⟩
        replace h := nm_at k15 h
        refine j_callS (n := 1) (As := [.int r12]) (rest := []) (wr := [(h0, .inr (6, [.ref a_tree_h0, .ref a_source_h0, .ref a_form_h0, .int indent_h0, .int fits_h0])), (a_tree_h0, .inr (1, [.ref a_cells_a_tree_h0, .int count_a_tree_h0])), (a_cells_a_tree_h0, .inl (cI, n_a_cells_a_tree_h0, .inl b_a_cells_a_tree_h0)), (a_source_h0, .inr (3, [.ref a_bytes_a_source_h0, .int size_a_source_h0])), (a_bytes_a_source_h0, .inl (cB, n_a_bytes_a_source_h0, .inl b_a_bytes_a_source_h0))]) (c_Rk_of l D cI cB cJ cS r12  r14 k15) k_Wr_177 (by decide) ⟨Nat.le_of_ble_eq_true rfl, Nat.le_of_ble_eq_true rfl⟩ [] [0, 1, 2, 3, 4] rfl (by decide) rfl (by decide) (by decide) rfl rfl (Nat.le_of_ble_eq_true rfl) d_Wr_rank_66 ⟨Nat.le_of_ble_eq_true rfl, Nat.le_of_ble_eq_true rfl⟩ (fun v w hq => ?_)
        obtain ⟨rfl, rfl⟩ := hq
        refine j_norm (pc' := 69) (st' := [.int r14]) (ws' := [(h0, .inr (6, [.ref a_tree_h0, .ref a_source_h0, .ref a_form_h0, .int indent_h0, .int fits_h0])), (a_tree_h0, .inr (1, [.ref a_cells_a_tree_h0, .int count_a_tree_h0])), (a_cells_a_tree_h0, .inl (cI, n_a_cells_a_tree_h0, .inl b_a_cells_a_tree_h0)), (a_source_h0, .inr (3, [.ref a_bytes_a_source_h0, .int size_a_source_h0])), (a_bytes_a_source_h0, .inl (cB, n_a_bytes_a_source_h0, .inl b_a_bytes_a_source_h0))]) (cl' := 0) (sl' := 0) rfl rfl rfl rfl rfl rfl ?_
        replace h := Option.some.inj h
        subst h
        exact j_iret (w := [(h0, .inr (6, [.ref a_tree_h0, .ref a_source_h0, .ref a_form_h0, .int indent_h0, .int fits_h0])), (a_tree_h0, .inr (1, [.ref a_cells_a_tree_h0, .int count_a_tree_h0])), (a_cells_a_tree_h0, .inl (cI, n_a_cells_a_tree_h0, .inl b_a_cells_a_tree_h0)), (a_source_h0, .inr (3, [.ref a_bytes_a_source_h0, .int size_a_source_h0])), (a_bytes_a_source_h0, .inl (cB, n_a_bytes_a_source_h0, .inl b_a_bytes_a_source_h0))]) hr d_Wr_rank_69 [0, 1, 2, 3, 4] rfl (by decide) ⟨rfl, rfl⟩
      · replace h := it_f c5 h
        by_cases c16 : r1 = 41
        · replace h := it_t c16 h
          refine j_tabIn (tgt := 70) (off := 65) d_Wr_rank_5 41 c16 (by decide) (by decide) (by decide) (by decide) ?_
          refine j_iconst (v := 4) d_Wr_rank_70 (by decide) ?_
          replace h := Option.some.inj h
          subst h
          exact j_iret (w := [(h0, .inr (6, [.ref a_tree_h0, .ref a_source_h0, .ref a_form_h0, .int indent_h0, .int fits_h0])), (a_tree_h0, .inr (1, [.ref a_cells_a_tree_h0, .int count_a_tree_h0])), (a_cells_a_tree_h0, .inl (cI, n_a_cells_a_tree_h0, .inl b_a_cells_a_tree_h0)), (a_source_h0, .inr (3, [.ref a_bytes_a_source_h0, .int size_a_source_h0])), (a_bytes_a_source_h0, .inl (cB, n_a_bytes_a_source_h0, .inl b_a_bytes_a_source_h0))]) hr d_Wr_rank_71 [2, 3, 4, 0, 1] rfl (by decide) ⟨rfl, rfl⟩
        · replace h := it_f c16 h
          refine j_tabOut (tgt := 78) d_Wr_rank_5 (by have := lv_neT c3 (by decide : (38 : Int32).toInt = 38); have := lv_neT c4 (by decide : (39 : Int32).toInt = 39); have := lv_neT c5 (by decide : (40 : Int32).toInt = 40); have := lv_neT c16 (by decide : (41 : Int32).toInt = 41); omega) (by decide) ?_
          refine j_bipush (v := 10) d_Wr_rank_78 (by decide) ?_
          replace h := Option.some.inj h
          subst h
          exact j_iret (w := [(h0, .inr (6, [.ref a_tree_h0, .ref a_source_h0, .ref a_form_h0, .int indent_h0, .int fits_h0])), (a_tree_h0, .inr (1, [.ref a_cells_a_tree_h0, .int count_a_tree_h0])), (a_cells_a_tree_h0, .inl (cI, n_a_cells_a_tree_h0, .inl b_a_cells_a_tree_h0)), (a_source_h0, .inr (3, [.ref a_bytes_a_source_h0, .int size_a_source_h0])), (a_bytes_a_source_h0, .inl (cB, n_a_bytes_a_source_h0, .inl b_a_bytes_a_source_h0))]) hr d_Wr_rank_80 [2, 3, 4, 0, 1] rfl (by decide) ⟨rfl, rfl⟩
def F_Wr_isPowerSign (p1 : Int32) (p2 : Int32) (indent_h0 : Int32) (fits_h0 : Int32) (count_a_tree_h0 : Int32) (n_a_cells_a_tree_h0 : Nat) (b_a_cells_a_tree_h0 : Nat → Int32) (size_a_source_h0 : Int32) (n_a_bytes_a_source_h0 : Nat) (b_a_bytes_a_source_h0 : Nat → Int32) : Option (Int32) :=
  Option.bind (F_Wr_rank p1 indent_h0 fits_h0 count_a_tree_h0 n_a_cells_a_tree_h0 b_a_cells_a_tree_h0 size_a_source_h0 n_a_bytes_a_source_h0 b_a_bytes_a_source_h0) fun r1 =>
  if r1 = 8 then (Option.bind (F_Wr_kind p2 indent_h0 fits_h0 count_a_tree_h0 n_a_cells_a_tree_h0 b_a_cells_a_tree_h0) fun r4 =>
    if r4 = 39 then (Option.bind (F_Nd_tokenPlace p2 count_a_tree_h0 n_a_cells_a_tree_h0 b_a_cells_a_tree_h0) fun r7 =>
      Option.bind (F_Rw_at r7 size_a_source_h0 n_a_bytes_a_source_h0 b_a_bytes_a_source_h0) fun r9 =>
      if r9 = 45 then (Option.bind (F_Wr_rank (p2 + 1) indent_h0 fits_h0 count_a_tree_h0 n_a_cells_a_tree_h0 b_a_cells_a_tree_h0 size_a_source_h0 n_a_bytes_a_source_h0 b_a_bytes_a_source_h0) fun r12 =>
        if r12 < 9 then (some 0)
        else (some 1))
      else (some 0))
    else (some 0))
  else (some 0)
theorem d_Wr_isPowerSign_0 : decode prog_10_method_19_code 0 = .ok (.aload_n 0, 1) := by decide +kernel
theorem d_Wr_isPowerSign_1 : decode prog_10_method_19_code 1 = .ok (.iload_n 1, 1) := by decide +kernel
theorem d_Wr_isPowerSign_2 : decode prog_10_method_19_code 2 = .ok (.invokevirtual 145, 3) := by decide +kernel
theorem d_Wr_isPowerSign_5 : decode prog_10_method_19_code 5 = .ok (.bipush 8, 2) := by decide +kernel
theorem d_Wr_isPowerSign_7 : decode prog_10_method_19_code 7 = .ok (.if_icmp .ne 49, 3) := by decide +kernel
theorem d_Wr_isPowerSign_10 : decode prog_10_method_19_code 10 = .ok (.aload_n 0, 1) := by decide +kernel
theorem d_Wr_isPowerSign_11 : decode prog_10_method_19_code 11 = .ok (.iload_n 2, 1) := by decide +kernel
theorem d_Wr_isPowerSign_12 : decode prog_10_method_19_code 12 = .ok (.invokevirtual 105, 3) := by decide +kernel
theorem d_Wr_isPowerSign_15 : decode prog_10_method_19_code 15 = .ok (.bipush 39, 2) := by decide +kernel
theorem d_Wr_isPowerSign_17 : decode prog_10_method_19_code 17 = .ok (.if_icmp .ne 39, 3) := by decide +kernel
theorem d_Wr_isPowerSign_20 : decode prog_10_method_19_code 20 = .ok (.aload_n 0, 1) := by decide +kernel
theorem d_Wr_isPowerSign_21 : decode prog_10_method_19_code 21 = .ok (.getfield 19, 3) := by decide +kernel
theorem d_Wr_isPowerSign_24 : decode prog_10_method_19_code 24 = .ok (.aload_n 0, 1) := by decide +kernel
theorem d_Wr_isPowerSign_25 : decode prog_10_method_19_code 25 = .ok (.getfield 10, 3) := by decide +kernel
theorem d_Wr_isPowerSign_28 : decode prog_10_method_19_code 28 = .ok (.iload_n 2, 1) := by decide +kernel
theorem d_Wr_isPowerSign_29 : decode prog_10_method_19_code 29 = .ok (.invokevirtual 69, 3) := by decide +kernel
theorem d_Wr_isPowerSign_32 : decode prog_10_method_19_code 32 = .ok (.invokevirtual 72, 3) := by decide +kernel
theorem d_Wr_isPowerSign_35 : decode prog_10_method_19_code 35 = .ok (.bipush 45, 2) := by decide +kernel
theorem d_Wr_isPowerSign_37 : decode prog_10_method_19_code 37 = .ok (.if_icmp .ne 19, 3) := by decide +kernel
theorem d_Wr_isPowerSign_40 : decode prog_10_method_19_code 40 = .ok (.aload_n 0, 1) := by decide +kernel
theorem d_Wr_isPowerSign_41 : decode prog_10_method_19_code 41 = .ok (.iload_n 2, 1) := by decide +kernel
theorem d_Wr_isPowerSign_42 : decode prog_10_method_19_code 42 = .ok (.iconst 1, 1) := by decide +kernel
theorem d_Wr_isPowerSign_43 : decode prog_10_method_19_code 43 = .ok (.iadd, 1) := by decide +kernel
theorem d_Wr_isPowerSign_44 : decode prog_10_method_19_code 44 = .ok (.invokevirtual 145, 3) := by decide +kernel
theorem d_Wr_isPowerSign_47 : decode prog_10_method_19_code 47 = .ok (.bipush 9, 2) := by decide +kernel
theorem d_Wr_isPowerSign_49 : decode prog_10_method_19_code 49 = .ok (.if_icmp .lt 7, 3) := by decide +kernel
theorem d_Wr_isPowerSign_52 : decode prog_10_method_19_code 52 = .ok (.iconst 1, 1) := by decide +kernel
theorem d_Wr_isPowerSign_53 : decode prog_10_method_19_code 53 = .ok (.goto 4, 3) := by decide +kernel
theorem d_Wr_isPowerSign_56 : decode prog_10_method_19_code 56 = .ok (.iconst 0, 1) := by decide +kernel
theorem d_Wr_isPowerSign_57 : decode prog_10_method_19_code 57 = .ok (.ireturn, 1) := by decide +kernel
set_option maxHeartbeats 4000000 in
set_option maxRecDepth 100000 in
theorem c_Wr_isPowerSign (l : Launch) (D : va_G) (cI cB cJ cS : ClassId) (h0 : Nat) (a_tree_h0 : Nat) (a_source_h0 : Nat) (a_form_h0 : Nat) (a_cells_a_tree_h0 : Nat) (a_bytes_a_source_h0 : Nat) (p1 : Int32) (p2 : Int32) (indent_h0 : Int32) (fits_h0 : Int32) (count_a_tree_h0 : Int32) (n_a_cells_a_tree_h0 : Nat) (b_a_cells_a_tree_h0 : Nat → Int32) (size_a_source_h0 : Int32) (n_a_bytes_a_source_h0 : Nat) (b_a_bytes_a_source_h0 : Nat → Int32) (ret : Int32) (h : F_Wr_isPowerSign p1 p2 indent_h0 fits_h0 count_a_tree_h0 n_a_cells_a_tree_h0 b_a_cells_a_tree_h0 size_a_source_h0 n_a_bytes_a_source_h0 b_a_bytes_a_source_h0 = some ret) : Ct l D (gT cI cB cJ cS) y_Wr_isPowerSign prog_10_method_19_code 3 (Option.some Jvm.ClassFile.FieldType.boolean) 3 65 0 0 [.ref h0, .int p1, .int p2] [(h0, .inr (6, [.ref a_tree_h0, .ref a_source_h0, .ref a_form_h0, .int indent_h0, .int fits_h0])), (a_tree_h0, .inr (1, [.ref a_cells_a_tree_h0, .int count_a_tree_h0])), (a_cells_a_tree_h0, .inl (cI, n_a_cells_a_tree_h0, .inl b_a_cells_a_tree_h0)), (a_source_h0, .inr (3, [.ref a_bytes_a_source_h0, .int size_a_source_h0])), (a_bytes_a_source_h0, .inl (cB, n_a_bytes_a_source_h0, .inl b_a_bytes_a_source_h0))] (fun v w => v = some (.int ret) ∧ zb ret ∧ w = [(h0, .inr (6, [.ref a_tree_h0, .ref a_source_h0, .ref a_form_h0, .int indent_h0, .int fits_h0])), (a_tree_h0, .inr (1, [.ref a_cells_a_tree_h0, .int count_a_tree_h0])), (a_cells_a_tree_h0, .inl (cI, n_a_cells_a_tree_h0, .inl b_a_cells_a_tree_h0)), (a_source_h0, .inr (3, [.ref a_bytes_a_source_h0, .int size_a_source_h0])), (a_bytes_a_source_h0, .inl (cB, n_a_bytes_a_source_h0, .inl b_a_bytes_a_source_h0))]) := by
  refine Ct.mk (by decide) (Nat.le_of_ble_eq_true rfl) ?_
  intro p e s m below meth c hr hnm
  refine j_norm (pc' := 0) (lv' := [(0, .ref h0), (1, .int p1), (2, .int p2)]) (st' := []) (ws' := [(h0, .inr (6, [.ref a_tree_h0, .ref a_source_h0, .ref a_form_h0, .int indent_h0, .int fits_h0])), (a_tree_h0, .inr (1, [.ref a_cells_a_tree_h0, .int count_a_tree_h0])), (a_cells_a_tree_h0, .inl (cI, n_a_cells_a_tree_h0, .inl b_a_cells_a_tree_h0)), (a_source_h0, .inr (3, [.ref a_bytes_a_source_h0, .int size_a_source_h0])), (a_bytes_a_source_h0, .inl (cB, n_a_bytes_a_source_h0, .inl b_a_bytes_a_source_h0))]) (cl' := 0) (sl' := 0) rfl rfl rfl rfl rfl rfl ?_
  unfold F_Wr_isPowerSign at h
  refine j_aload_n d_Wr_isPowerSign_0 rfl 0 rfl ?_
  refine j_iload_n d_Wr_isPowerSign_1 rfl 1 rfl ?_
  replace h := bd_s h
  obtain ⟨r1, k2, h⟩ := h
  refine j_callV (n := 1) (As := [.int p1]) (rest := []) (wr := []) (c_Wr_rank l D cI cB cJ cS h0 a_tree_h0 a_source_h0 a_form_h0 a_cells_a_tree_h0 a_bytes_a_source_h0 p1 indent_h0 fits_h0 count_a_tree_h0 n_a_cells_a_tree_h0 b_a_cells_a_tree_h0 size_a_source_h0 n_a_bytes_a_source_h0 b_a_bytes_a_source_h0  r1 k2) k_Wr_145 (by decide) ⟨Nat.le_of_ble_eq_true rfl, Nat.le_of_ble_eq_true rfl⟩ rfl 0 rfl [0, 1, 2, 3, 4] [] rfl (by decide) rfl (by decide) (by decide) rfl rfl (Nat.le_of_ble_eq_true rfl) d_Wr_isPowerSign_2 ⟨Nat.le_of_ble_eq_true rfl, Nat.le_of_ble_eq_true rfl⟩ (fun v w hq => ?_)
  obtain ⟨rfl, rfl⟩ := hq
  refine j_norm (pc' := 5) (st' := [.int r1]) (ws' := [(h0, .inr (6, [.ref a_tree_h0, .ref a_source_h0, .ref a_form_h0, .int indent_h0, .int fits_h0])), (a_tree_h0, .inr (1, [.ref a_cells_a_tree_h0, .int count_a_tree_h0])), (a_cells_a_tree_h0, .inl (cI, n_a_cells_a_tree_h0, .inl b_a_cells_a_tree_h0)), (a_source_h0, .inr (3, [.ref a_bytes_a_source_h0, .int size_a_source_h0])), (a_bytes_a_source_h0, .inl (cB, n_a_bytes_a_source_h0, .inl b_a_bytes_a_source_h0))]) (cl' := 0) (sl' := 0) rfl rfl rfl rfl rfl rfl ?_
  refine j_bipush (v := 8) d_Wr_isPowerSign_5 (by decide) ?_
  refine j_icmp_ne (tgt := 56) d_Wr_isPowerSign_7 (by decide) (fun c3 => ?_) (fun c3 => ?_)
  · replace h := it_f c3 h
    refine j_iconst (v := 0) d_Wr_isPowerSign_56 (by decide) ?_
    replace h := Option.some.inj h
    subst h
    exact j_zret (w := [(h0, .inr (6, [.ref a_tree_h0, .ref a_source_h0, .ref a_form_h0, .int indent_h0, .int fits_h0])), (a_tree_h0, .inr (1, [.ref a_cells_a_tree_h0, .int count_a_tree_h0])), (a_cells_a_tree_h0, .inl (cI, n_a_cells_a_tree_h0, .inl b_a_cells_a_tree_h0)), (a_source_h0, .inr (3, [.ref a_bytes_a_source_h0, .int size_a_source_h0])), (a_bytes_a_source_h0, .inl (cB, n_a_bytes_a_source_h0, .inl b_a_bytes_a_source_h0))]) hr (zb_n zb0) d_Wr_isPowerSign_57 [0, 1, 2, 3, 4] rfl (by decide) ⟨rfl, zb0, rfl⟩
  · replace h := it_t c3 h
    refine j_aload_n d_Wr_isPowerSign_10 rfl 0 rfl ?_
    refine j_iload_n d_Wr_isPowerSign_11 rfl 2 rfl ?_
    replace h := bd_s h
    obtain ⟨r4, k5, h⟩ := h
    refine j_callV (n := 1) (As := [.int p2]) (rest := []) (wr := [(a_source_h0, .inr (3, [.ref a_bytes_a_source_h0, .int size_a_source_h0])), (a_bytes_a_source_h0, .inl (cB, n_a_bytes_a_source_h0, .inl b_a_bytes_a_source_h0))]) (c_Wr_kind l D cI cB cJ cS h0 a_tree_h0 a_source_h0 a_form_h0 a_cells_a_tree_h0 p2 indent_h0 fits_h0 count_a_tree_h0 n_a_cells_a_tree_h0 b_a_cells_a_tree_h0  r4 k5) k_Wr_105 (by decide) ⟨Nat.le_of_ble_eq_true rfl, Nat.le_of_ble_eq_true rfl⟩ rfl 0 rfl [0, 1, 2] [3, 4] rfl (by decide) rfl (by decide) (by decide) rfl rfl (Nat.le_of_ble_eq_true rfl) d_Wr_isPowerSign_12 ⟨Nat.le_of_ble_eq_true rfl, Nat.le_of_ble_eq_true rfl⟩ (fun v w hq => ?_)
    obtain ⟨rfl, rfl⟩ := hq
    refine j_norm (pc' := 15) (st' := [.int r4]) (ws' := [(a_source_h0, .inr (3, [.ref a_bytes_a_source_h0, .int size_a_source_h0])), (a_bytes_a_source_h0, .inl (cB, n_a_bytes_a_source_h0, .inl b_a_bytes_a_source_h0)), (h0, .inr (6, [.ref a_tree_h0, .ref a_source_h0, .ref a_form_h0, .int indent_h0, .int fits_h0])), (a_tree_h0, .inr (1, [.ref a_cells_a_tree_h0, .int count_a_tree_h0])), (a_cells_a_tree_h0, .inl (cI, n_a_cells_a_tree_h0, .inl b_a_cells_a_tree_h0))]) (cl' := 0) (sl' := 0) rfl rfl rfl rfl rfl rfl ?_
    refine j_bipush (v := 39) d_Wr_isPowerSign_15 (by decide) ?_
    refine j_icmp_ne (tgt := 56) d_Wr_isPowerSign_17 (by decide) (fun c6 => ?_) (fun c6 => ?_)
    · replace h := it_f c6 h
      refine j_iconst (v := 0) d_Wr_isPowerSign_56 (by decide) ?_
      replace h := Option.some.inj h
      subst h
      exact j_zret (w := [(h0, .inr (6, [.ref a_tree_h0, .ref a_source_h0, .ref a_form_h0, .int indent_h0, .int fits_h0])), (a_tree_h0, .inr (1, [.ref a_cells_a_tree_h0, .int count_a_tree_h0])), (a_cells_a_tree_h0, .inl (cI, n_a_cells_a_tree_h0, .inl b_a_cells_a_tree_h0)), (a_source_h0, .inr (3, [.ref a_bytes_a_source_h0, .int size_a_source_h0])), (a_bytes_a_source_h0, .inl (cB, n_a_bytes_a_source_h0, .inl b_a_bytes_a_source_h0))]) hr (zb_n zb0) d_Wr_isPowerSign_57 [2, 3, 4, 0, 1] rfl (by decide) ⟨rfl, zb0, rfl⟩
    · replace h := it_t c6 h
      refine j_aload_n d_Wr_isPowerSign_20 rfl 0 rfl ?_
      refine j_get ig_Wr rfl 2 rfl 1 (by decide) rfl m_220 rfl d_Wr_isPowerSign_21 ?_
      refine j_aload_n d_Wr_isPowerSign_24 rfl 0 rfl ?_
      refine j_get ig_Wr rfl 2 rfl 0 (by decide) rfl m_219 rfl d_Wr_isPowerSign_25 ?_
      refine j_iload_n d_Wr_isPowerSign_28 rfl 2 rfl ?_
      replace h := bd_s h
      obtain ⟨r7, k8, h⟩ := h
      refine j_callV (n := 1) (As := [.int p2]) (rest := [.ref a_source_h0]) (wr := [(a_source_h0, .inr (3, [.ref a_bytes_a_source_h0, .int size_a_source_h0])), (a_bytes_a_source_h0, .inl (cB, n_a_bytes_a_source_h0, .inl b_a_bytes_a_source_h0)), (h0, .inr (6, [.ref a_tree_h0, .ref a_source_h0, .ref a_form_h0, .int indent_h0, .int fits_h0]))]) (c_Nd_tokenPlace l D cI cB cJ cS a_tree_h0 a_cells_a_tree_h0 p2 count_a_tree_h0 n_a_cells_a_tree_h0 b_a_cells_a_tree_h0  r7 k8) k_Wr_69 (by decide) ⟨Nat.le_of_ble_eq_true rfl, Nat.le_of_ble_eq_true rfl⟩ rfl 0 rfl [3, 4] [0, 1, 2] rfl (by decide) rfl (by decide) (by decide) rfl rfl (Nat.le_of_ble_eq_true rfl) d_Wr_isPowerSign_29 ⟨Nat.le_of_ble_eq_true rfl, Nat.le_of_ble_eq_true rfl⟩ (fun v w hq => ?_)
      obtain ⟨rfl, rfl⟩ := hq
      refine j_norm (pc' := 32) (st' := [.int r7, .ref a_source_h0]) (ws' := [(a_source_h0, .inr (3, [.ref a_bytes_a_source_h0, .int size_a_source_h0])), (a_bytes_a_source_h0, .inl (cB, n_a_bytes_a_source_h0, .inl b_a_bytes_a_source_h0)), (h0, .inr (6, [.ref a_tree_h0, .ref a_source_h0, .ref a_form_h0, .int indent_h0, .int fits_h0])), (a_tree_h0, .inr (1, [.ref a_cells_a_tree_h0, .int count_a_tree_h0])), (a_cells_a_tree_h0, .inl (cI, n_a_cells_a_tree_h0, .inl b_a_cells_a_tree_h0))]) (cl' := 0) (sl' := 0) rfl rfl rfl rfl rfl rfl ?_
      replace h := bd_s h
      obtain ⟨r9, k10, h⟩ := h
      refine j_callV (n := 1) (As := [.int r7]) (rest := []) (wr := [(h0, .inr (6, [.ref a_tree_h0, .ref a_source_h0, .ref a_form_h0, .int indent_h0, .int fits_h0])), (a_tree_h0, .inr (1, [.ref a_cells_a_tree_h0, .int count_a_tree_h0])), (a_cells_a_tree_h0, .inl (cI, n_a_cells_a_tree_h0, .inl b_a_cells_a_tree_h0))]) (c_Rw_at l D cI cB cJ cS a_source_h0 a_bytes_a_source_h0 r7 size_a_source_h0 n_a_bytes_a_source_h0 b_a_bytes_a_source_h0  r9 k10) k_Wr_72 (by decide) ⟨Nat.le_of_ble_eq_true rfl, Nat.le_of_ble_eq_true rfl⟩ rfl 0 rfl [0, 1] [2, 3, 4] rfl (by decide) rfl (by decide) (by decide) rfl rfl (Nat.le_of_ble_eq_true rfl) d_Wr_isPowerSign_32 ⟨Nat.le_of_ble_eq_true rfl, Nat.le_of_ble_eq_true rfl⟩ (fun v w hq => ?_)
      obtain ⟨rfl, rfl⟩ := hq
      refine j_norm (pc' := 35) (st' := [.int r9]) (ws' := [(h0, .inr (6, [.ref a_tree_h0, .ref a_source_h0, .ref a_form_h0, .int indent_h0, .int fits_h0])), (a_tree_h0, .inr (1, [.ref a_cells_a_tree_h0, .int count_a_tree_h0])), (a_cells_a_tree_h0, .inl (cI, n_a_cells_a_tree_h0, .inl b_a_cells_a_tree_h0)), (a_source_h0, .inr (3, [.ref a_bytes_a_source_h0, .int size_a_source_h0])), (a_bytes_a_source_h0, .inl (cB, n_a_bytes_a_source_h0, .inl b_a_bytes_a_source_h0))]) (cl' := 0) (sl' := 0) rfl rfl rfl rfl rfl rfl ?_
      refine j_bipush (v := 45) d_Wr_isPowerSign_35 (by decide) ?_
      refine j_icmp_ne (tgt := 56) d_Wr_isPowerSign_37 (by decide) (fun c11 => ?_) (fun c11 => ?_)
      · replace h := it_f c11 h
        refine j_iconst (v := 0) d_Wr_isPowerSign_56 (by decide) ?_
        replace h := Option.some.inj h
        subst h
        exact j_zret (w := [(h0, .inr (6, [.ref a_tree_h0, .ref a_source_h0, .ref a_form_h0, .int indent_h0, .int fits_h0])), (a_tree_h0, .inr (1, [.ref a_cells_a_tree_h0, .int count_a_tree_h0])), (a_cells_a_tree_h0, .inl (cI, n_a_cells_a_tree_h0, .inl b_a_cells_a_tree_h0)), (a_source_h0, .inr (3, [.ref a_bytes_a_source_h0, .int size_a_source_h0])), (a_bytes_a_source_h0, .inl (cB, n_a_bytes_a_source_h0, .inl b_a_bytes_a_source_h0))]) hr (zb_n zb0) d_Wr_isPowerSign_57 [0, 1, 2, 3, 4] rfl (by decide) ⟨rfl, zb0, rfl⟩
      · replace h := it_t c11 h
        refine j_aload_n d_Wr_isPowerSign_40 rfl 0 rfl ?_
        refine j_iload_n d_Wr_isPowerSign_41 rfl 2 rfl ?_
        refine j_iconst (v := 1) d_Wr_isPowerSign_42 (by decide) ?_
        refine j_iadd d_Wr_isPowerSign_43 ?_
        replace h := bd_s h
        obtain ⟨r12, k13, h⟩ := h
        refine j_callV (n := 1) (As := [.int (p2 + 1)]) (rest := []) (wr := []) (c_Wr_rank l D cI cB cJ cS h0 a_tree_h0 a_source_h0 a_form_h0 a_cells_a_tree_h0 a_bytes_a_source_h0 (p2 + 1) indent_h0 fits_h0 count_a_tree_h0 n_a_cells_a_tree_h0 b_a_cells_a_tree_h0 size_a_source_h0 n_a_bytes_a_source_h0 b_a_bytes_a_source_h0  r12 k13) k_Wr_145 (by decide) ⟨Nat.le_of_ble_eq_true rfl, Nat.le_of_ble_eq_true rfl⟩ rfl 0 rfl [0, 1, 2, 3, 4] [] rfl (by decide) rfl (by decide) (by decide) rfl rfl (Nat.le_of_ble_eq_true rfl) d_Wr_isPowerSign_44 ⟨Nat.le_of_ble_eq_true rfl, Nat.le_of_ble_eq_true rfl⟩ (fun v w hq => ?_)
        obtain ⟨rfl, rfl⟩ := hq
        refine j_norm (pc' := 47) (st' := [.int r12]) (ws' := [(h0, .inr (6, [.ref a_tree_h0, .ref a_source_h0, .ref a_form_h0, .int indent_h0, .int fits_h0])), (a_tree_h0, .inr (1, [.ref a_cells_a_tree_h0, .int count_a_tree_h0])), (a_cells_a_tree_h0, .inl (cI, n_a_cells_a_tree_h0, .inl b_a_cells_a_tree_h0)), (a_source_h0, .inr (3, [.ref a_bytes_a_source_h0, .int size_a_source_h0])), (a_bytes_a_source_h0, .inl (cB, n_a_bytes_a_source_h0, .inl b_a_bytes_a_source_h0))]) (cl' := 0) (sl' := 0) rfl rfl rfl rfl rfl rfl ?_
        refine j_bipush (v := 9) d_Wr_isPowerSign_47 (by decide) ?_
        refine j_icmp_lt (tgt := 56) d_Wr_isPowerSign_49 (by decide) (fun c14 => ?_) (fun c14 => ?_)
        · replace h := it_t c14 h
          refine j_iconst (v := 0) d_Wr_isPowerSign_56 (by decide) ?_
          replace h := Option.some.inj h
          subst h
          exact j_zret (w := [(h0, .inr (6, [.ref a_tree_h0, .ref a_source_h0, .ref a_form_h0, .int indent_h0, .int fits_h0])), (a_tree_h0, .inr (1, [.ref a_cells_a_tree_h0, .int count_a_tree_h0])), (a_cells_a_tree_h0, .inl (cI, n_a_cells_a_tree_h0, .inl b_a_cells_a_tree_h0)), (a_source_h0, .inr (3, [.ref a_bytes_a_source_h0, .int size_a_source_h0])), (a_bytes_a_source_h0, .inl (cB, n_a_bytes_a_source_h0, .inl b_a_bytes_a_source_h0))]) hr (zb_n zb0) d_Wr_isPowerSign_57 [0, 1, 2, 3, 4] rfl (by decide) ⟨rfl, zb0, rfl⟩
        · replace h := it_f c14 h
          refine j_iconst (v := 1) d_Wr_isPowerSign_52 (by decide) ?_
          refine j_goto (tgt := 57) d_Wr_isPowerSign_53 (by decide) ?_
          replace h := Option.some.inj h
          subst h
          exact j_zret (w := [(h0, .inr (6, [.ref a_tree_h0, .ref a_source_h0, .ref a_form_h0, .int indent_h0, .int fits_h0])), (a_tree_h0, .inr (1, [.ref a_cells_a_tree_h0, .int count_a_tree_h0])), (a_cells_a_tree_h0, .inl (cI, n_a_cells_a_tree_h0, .inl b_a_cells_a_tree_h0)), (a_source_h0, .inr (3, [.ref a_bytes_a_source_h0, .int size_a_source_h0])), (a_bytes_a_source_h0, .inl (cB, n_a_bytes_a_source_h0, .inl b_a_bytes_a_source_h0))]) hr (zb_n zb1) d_Wr_isPowerSign_57 [0, 1, 2, 3, 4] rfl (by decide) ⟨rfl, zb1, rfl⟩
def F_Sc_wordOrName (next_h0 : Int32) (kind_h0 : Int32) (start_h0 : Int32) (width_h0 : Int32) (size_a_text_h0 : Int32) (n_a_bytes_a_text_h0 : Nat) (b_a_bytes_a_text_h0 : Nat → Int32) : Option (Int32) :=
  Option.bind (F_Sc_is 0 next_h0 kind_h0 start_h0 width_h0 size_a_text_h0 n_a_bytes_a_text_h0 b_a_bytes_a_text_h0) fun r1 =>
  if r1 = 0 then (Option.bind (F_Sc_is 1 next_h0 kind_h0 start_h0 width_h0 size_a_text_h0 n_a_bytes_a_text_h0 b_a_bytes_a_text_h0) fun r5 =>
    if r5 = 0 then (Option.bind (F_Sc_is 2 next_h0 kind_h0 start_h0 width_h0 size_a_text_h0 n_a_bytes_a_text_h0 b_a_bytes_a_text_h0) fun r9 =>
      if r9 = 0 then (Option.bind (F_Sc_is 3 next_h0 kind_h0 start_h0 width_h0 size_a_text_h0 n_a_bytes_a_text_h0 b_a_bytes_a_text_h0) fun r13 =>
        if r13 = 0 then (Option.bind (F_Sc_is 4 next_h0 kind_h0 start_h0 width_h0 size_a_text_h0 n_a_bytes_a_text_h0 b_a_bytes_a_text_h0) fun r17 =>
          if r17 = 0 then (Option.bind (F_Sc_is 5 next_h0 kind_h0 start_h0 width_h0 size_a_text_h0 n_a_bytes_a_text_h0 b_a_bytes_a_text_h0) fun r21 =>
            if r21 = 0 then (Option.bind (F_Sc_is 6 next_h0 kind_h0 start_h0 width_h0 size_a_text_h0 n_a_bytes_a_text_h0 b_a_bytes_a_text_h0) fun r25 =>
              if r25 = 0 then (Option.bind (F_Sc_is 7 next_h0 kind_h0 start_h0 width_h0 size_a_text_h0 n_a_bytes_a_text_h0 b_a_bytes_a_text_h0) fun r29 =>
                if r29 = 0 then (Option.bind (F_Sc_is 8 next_h0 kind_h0 start_h0 width_h0 size_a_text_h0 n_a_bytes_a_text_h0 b_a_bytes_a_text_h0) fun r33 =>
                  if r33 = 0 then (Option.bind (F_Sc_is 9 next_h0 kind_h0 start_h0 width_h0 size_a_text_h0 n_a_bytes_a_text_h0 b_a_bytes_a_text_h0) fun r37 =>
                    if r37 = 0 then (Option.bind (F_Sc_is 10 next_h0 kind_h0 start_h0 width_h0 size_a_text_h0 n_a_bytes_a_text_h0 b_a_bytes_a_text_h0) fun r41 =>
                      if r41 = 0 then (Option.bind (F_Sc_is 11 next_h0 kind_h0 start_h0 width_h0 size_a_text_h0 n_a_bytes_a_text_h0 b_a_bytes_a_text_h0) fun r45 =>
                        if r45 = 0 then (Option.bind (F_Sc_is 12 next_h0 kind_h0 start_h0 width_h0 size_a_text_h0 n_a_bytes_a_text_h0 b_a_bytes_a_text_h0) fun r49 =>
                          if r49 = 0 then (Option.bind (F_Sc_is 13 next_h0 kind_h0 start_h0 width_h0 size_a_text_h0 n_a_bytes_a_text_h0 b_a_bytes_a_text_h0) fun r53 =>
                            if r53 = 0 then (some 2)
                            else (some 18))
                          else (some 17))
                        else (some 16))
                      else (some 15))
                    else (some 14))
                  else (some 13))
                else (some 12))
              else (some 11))
            else (some 10))
          else (some 9))
        else (some 8))
      else (some 7))
    else (some 6))
  else (some 5)
theorem d_Sc_wordOrName_0 : decode prog_8_method_13_code 0 = .ok (.aload_n 0, 1) := by decide +kernel
theorem d_Sc_wordOrName_1 : decode prog_8_method_13_code 1 = .ok (.ldc 65, 2) := by decide +kernel
theorem d_Sc_wordOrName_3 : decode prog_8_method_13_code 3 = .ok (.invokevirtual 67, 3) := by decide +kernel
theorem d_Sc_wordOrName_6 : decode prog_8_method_13_code 6 = .ok (.ifCond .eq 7, 3) := by decide +kernel
theorem d_Sc_wordOrName_9 : decode prog_8_method_13_code 9 = .ok (.iconst 5, 1) := by decide +kernel
theorem d_Sc_wordOrName_10 : decode prog_8_method_13_code 10 = .ok (.goto 186, 3) := by decide +kernel
theorem d_Sc_wordOrName_13 : decode prog_8_method_13_code 13 = .ok (.aload_n 0, 1) := by decide +kernel
theorem d_Sc_wordOrName_14 : decode prog_8_method_13_code 14 = .ok (.ldc 71, 2) := by decide +kernel
theorem d_Sc_wordOrName_16 : decode prog_8_method_13_code 16 = .ok (.invokevirtual 67, 3) := by decide +kernel
theorem d_Sc_wordOrName_19 : decode prog_8_method_13_code 19 = .ok (.ifCond .eq 8, 3) := by decide +kernel
theorem d_Sc_wordOrName_22 : decode prog_8_method_13_code 22 = .ok (.bipush 6, 2) := by decide +kernel
theorem d_Sc_wordOrName_24 : decode prog_8_method_13_code 24 = .ok (.goto 172, 3) := by decide +kernel
theorem d_Sc_wordOrName_27 : decode prog_8_method_13_code 27 = .ok (.aload_n 0, 1) := by decide +kernel
theorem d_Sc_wordOrName_28 : decode prog_8_method_13_code 28 = .ok (.ldc 73, 2) := by decide +kernel
theorem d_Sc_wordOrName_30 : decode prog_8_method_13_code 30 = .ok (.invokevirtual 67, 3) := by decide +kernel
theorem d_Sc_wordOrName_33 : decode prog_8_method_13_code 33 = .ok (.ifCond .eq 8, 3) := by decide +kernel
theorem d_Sc_wordOrName_36 : decode prog_8_method_13_code 36 = .ok (.bipush 7, 2) := by decide +kernel
theorem d_Sc_wordOrName_38 : decode prog_8_method_13_code 38 = .ok (.goto 158, 3) := by decide +kernel
theorem d_Sc_wordOrName_41 : decode prog_8_method_13_code 41 = .ok (.aload_n 0, 1) := by decide +kernel
theorem d_Sc_wordOrName_42 : decode prog_8_method_13_code 42 = .ok (.ldc 75, 2) := by decide +kernel
theorem d_Sc_wordOrName_44 : decode prog_8_method_13_code 44 = .ok (.invokevirtual 67, 3) := by decide +kernel
theorem d_Sc_wordOrName_47 : decode prog_8_method_13_code 47 = .ok (.ifCond .eq 8, 3) := by decide +kernel
theorem d_Sc_wordOrName_50 : decode prog_8_method_13_code 50 = .ok (.bipush 8, 2) := by decide +kernel
theorem d_Sc_wordOrName_52 : decode prog_8_method_13_code 52 = .ok (.goto 144, 3) := by decide +kernel
theorem d_Sc_wordOrName_55 : decode prog_8_method_13_code 55 = .ok (.aload_n 0, 1) := by decide +kernel
theorem d_Sc_wordOrName_56 : decode prog_8_method_13_code 56 = .ok (.ldc 77, 2) := by decide +kernel
theorem d_Sc_wordOrName_58 : decode prog_8_method_13_code 58 = .ok (.invokevirtual 67, 3) := by decide +kernel
theorem d_Sc_wordOrName_61 : decode prog_8_method_13_code 61 = .ok (.ifCond .eq 8, 3) := by decide +kernel
theorem d_Sc_wordOrName_64 : decode prog_8_method_13_code 64 = .ok (.bipush 9, 2) := by decide +kernel
theorem d_Sc_wordOrName_66 : decode prog_8_method_13_code 66 = .ok (.goto 130, 3) := by decide +kernel
theorem d_Sc_wordOrName_69 : decode prog_8_method_13_code 69 = .ok (.aload_n 0, 1) := by decide +kernel
theorem d_Sc_wordOrName_70 : decode prog_8_method_13_code 70 = .ok (.ldc 79, 2) := by decide +kernel
theorem d_Sc_wordOrName_72 : decode prog_8_method_13_code 72 = .ok (.invokevirtual 67, 3) := by decide +kernel
theorem d_Sc_wordOrName_75 : decode prog_8_method_13_code 75 = .ok (.ifCond .eq 8, 3) := by decide +kernel
theorem d_Sc_wordOrName_78 : decode prog_8_method_13_code 78 = .ok (.bipush 10, 2) := by decide +kernel
theorem d_Sc_wordOrName_80 : decode prog_8_method_13_code 80 = .ok (.goto 116, 3) := by decide +kernel
theorem d_Sc_wordOrName_83 : decode prog_8_method_13_code 83 = .ok (.aload_n 0, 1) := by decide +kernel
theorem d_Sc_wordOrName_84 : decode prog_8_method_13_code 84 = .ok (.ldc 81, 2) := by decide +kernel
theorem d_Sc_wordOrName_86 : decode prog_8_method_13_code 86 = .ok (.invokevirtual 67, 3) := by decide +kernel
theorem d_Sc_wordOrName_89 : decode prog_8_method_13_code 89 = .ok (.ifCond .eq 8, 3) := by decide +kernel
theorem d_Sc_wordOrName_92 : decode prog_8_method_13_code 92 = .ok (.bipush 11, 2) := by decide +kernel
theorem d_Sc_wordOrName_94 : decode prog_8_method_13_code 94 = .ok (.goto 102, 3) := by decide +kernel
theorem d_Sc_wordOrName_97 : decode prog_8_method_13_code 97 = .ok (.aload_n 0, 1) := by decide +kernel
theorem d_Sc_wordOrName_98 : decode prog_8_method_13_code 98 = .ok (.ldc 83, 2) := by decide +kernel
theorem d_Sc_wordOrName_100 : decode prog_8_method_13_code 100 = .ok (.invokevirtual 67, 3) := by decide +kernel
theorem d_Sc_wordOrName_103 : decode prog_8_method_13_code 103 = .ok (.ifCond .eq 8, 3) := by decide +kernel
theorem d_Sc_wordOrName_106 : decode prog_8_method_13_code 106 = .ok (.bipush 12, 2) := by decide +kernel
theorem d_Sc_wordOrName_108 : decode prog_8_method_13_code 108 = .ok (.goto 88, 3) := by decide +kernel
theorem d_Sc_wordOrName_111 : decode prog_8_method_13_code 111 = .ok (.aload_n 0, 1) := by decide +kernel
theorem d_Sc_wordOrName_112 : decode prog_8_method_13_code 112 = .ok (.ldc 85, 2) := by decide +kernel
theorem d_Sc_wordOrName_114 : decode prog_8_method_13_code 114 = .ok (.invokevirtual 67, 3) := by decide +kernel
theorem d_Sc_wordOrName_117 : decode prog_8_method_13_code 117 = .ok (.ifCond .eq 8, 3) := by decide +kernel
theorem d_Sc_wordOrName_120 : decode prog_8_method_13_code 120 = .ok (.bipush 13, 2) := by decide +kernel
theorem d_Sc_wordOrName_122 : decode prog_8_method_13_code 122 = .ok (.goto 74, 3) := by decide +kernel
theorem d_Sc_wordOrName_125 : decode prog_8_method_13_code 125 = .ok (.aload_n 0, 1) := by decide +kernel
theorem d_Sc_wordOrName_126 : decode prog_8_method_13_code 126 = .ok (.ldc 87, 2) := by decide +kernel
theorem d_Sc_wordOrName_128 : decode prog_8_method_13_code 128 = .ok (.invokevirtual 67, 3) := by decide +kernel
theorem d_Sc_wordOrName_131 : decode prog_8_method_13_code 131 = .ok (.ifCond .eq 8, 3) := by decide +kernel
theorem d_Sc_wordOrName_134 : decode prog_8_method_13_code 134 = .ok (.bipush 14, 2) := by decide +kernel
theorem d_Sc_wordOrName_136 : decode prog_8_method_13_code 136 = .ok (.goto 60, 3) := by decide +kernel
theorem d_Sc_wordOrName_139 : decode prog_8_method_13_code 139 = .ok (.aload_n 0, 1) := by decide +kernel
theorem d_Sc_wordOrName_140 : decode prog_8_method_13_code 140 = .ok (.ldc 89, 2) := by decide +kernel
theorem d_Sc_wordOrName_142 : decode prog_8_method_13_code 142 = .ok (.invokevirtual 67, 3) := by decide +kernel
theorem d_Sc_wordOrName_145 : decode prog_8_method_13_code 145 = .ok (.ifCond .eq 8, 3) := by decide +kernel
theorem d_Sc_wordOrName_148 : decode prog_8_method_13_code 148 = .ok (.bipush 15, 2) := by decide +kernel
theorem d_Sc_wordOrName_150 : decode prog_8_method_13_code 150 = .ok (.goto 46, 3) := by decide +kernel
theorem d_Sc_wordOrName_153 : decode prog_8_method_13_code 153 = .ok (.aload_n 0, 1) := by decide +kernel
theorem d_Sc_wordOrName_154 : decode prog_8_method_13_code 154 = .ok (.ldc 91, 2) := by decide +kernel
theorem d_Sc_wordOrName_156 : decode prog_8_method_13_code 156 = .ok (.invokevirtual 67, 3) := by decide +kernel
theorem d_Sc_wordOrName_159 : decode prog_8_method_13_code 159 = .ok (.ifCond .eq 8, 3) := by decide +kernel
theorem d_Sc_wordOrName_162 : decode prog_8_method_13_code 162 = .ok (.bipush 16, 2) := by decide +kernel
theorem d_Sc_wordOrName_164 : decode prog_8_method_13_code 164 = .ok (.goto 32, 3) := by decide +kernel
theorem d_Sc_wordOrName_167 : decode prog_8_method_13_code 167 = .ok (.aload_n 0, 1) := by decide +kernel
theorem d_Sc_wordOrName_168 : decode prog_8_method_13_code 168 = .ok (.ldc 93, 2) := by decide +kernel
theorem d_Sc_wordOrName_170 : decode prog_8_method_13_code 170 = .ok (.invokevirtual 67, 3) := by decide +kernel
theorem d_Sc_wordOrName_173 : decode prog_8_method_13_code 173 = .ok (.ifCond .eq 8, 3) := by decide +kernel
theorem d_Sc_wordOrName_176 : decode prog_8_method_13_code 176 = .ok (.bipush 17, 2) := by decide +kernel
theorem d_Sc_wordOrName_178 : decode prog_8_method_13_code 178 = .ok (.goto 18, 3) := by decide +kernel
theorem d_Sc_wordOrName_181 : decode prog_8_method_13_code 181 = .ok (.aload_n 0, 1) := by decide +kernel
theorem d_Sc_wordOrName_182 : decode prog_8_method_13_code 182 = .ok (.ldc 95, 2) := by decide +kernel
theorem d_Sc_wordOrName_184 : decode prog_8_method_13_code 184 = .ok (.invokevirtual 67, 3) := by decide +kernel
theorem d_Sc_wordOrName_187 : decode prog_8_method_13_code 187 = .ok (.ifCond .eq 8, 3) := by decide +kernel
theorem d_Sc_wordOrName_190 : decode prog_8_method_13_code 190 = .ok (.bipush 18, 2) := by decide +kernel
theorem d_Sc_wordOrName_192 : decode prog_8_method_13_code 192 = .ok (.goto 4, 3) := by decide +kernel
theorem d_Sc_wordOrName_195 : decode prog_8_method_13_code 195 = .ok (.iconst 2, 1) := by decide +kernel
theorem d_Sc_wordOrName_196 : decode prog_8_method_13_code 196 = .ok (.ireturn, 1) := by decide +kernel
set_option maxHeartbeats 4000000 in
set_option maxRecDepth 100000 in
theorem c_Sc_wordOrName (l : Launch) (D : va_G) (cI cB cJ cS : ClassId) (h0 : Nat) (a_text_h0 : Nat) (a_bytes_a_text_h0 : Nat) (next_h0 : Int32) (kind_h0 : Int32) (start_h0 : Int32) (width_h0 : Int32) (size_a_text_h0 : Int32) (n_a_bytes_a_text_h0 : Nat) (b_a_bytes_a_text_h0 : Nat → Int32) (ret : Int32) (h : F_Sc_wordOrName next_h0 kind_h0 start_h0 width_h0 size_a_text_h0 n_a_bytes_a_text_h0 b_a_bytes_a_text_h0 = some ret) : Ct l D (gT cI cB cJ cS) y_Sc_wordOrName prog_8_method_13_code 1 (Option.some Jvm.ClassFile.FieldType.int) 5 107 0 0 [.ref h0] [(h0, .inr (4, [.ref a_text_h0, .int next_h0, .int kind_h0, .int start_h0, .int width_h0])), (a_text_h0, .inr (3, [.ref a_bytes_a_text_h0, .int size_a_text_h0])), (a_bytes_a_text_h0, .inl (cB, n_a_bytes_a_text_h0, .inl b_a_bytes_a_text_h0))] (fun v w => v = some (.int ret) ∧ w = [(h0, .inr (4, [.ref a_text_h0, .int next_h0, .int kind_h0, .int start_h0, .int width_h0])), (a_text_h0, .inr (3, [.ref a_bytes_a_text_h0, .int size_a_text_h0])), (a_bytes_a_text_h0, .inl (cB, n_a_bytes_a_text_h0, .inl b_a_bytes_a_text_h0))]) := by
  refine Ct.mk (by decide) (Nat.le_of_ble_eq_true rfl) ?_
  intro p e s m below meth c hr hnm
  refine j_norm (pc' := 0) (lv' := [(0, .ref h0)]) (st' := []) (ws' := [(h0, .inr (4, [.ref a_text_h0, .int next_h0, .int kind_h0, .int start_h0, .int width_h0])), (a_text_h0, .inr (3, [.ref a_bytes_a_text_h0, .int size_a_text_h0])), (a_bytes_a_text_h0, .inl (cB, n_a_bytes_a_text_h0, .inl b_a_bytes_a_text_h0))]) (cl' := 0) (sl' := 0) rfl rfl rfl rfl rfl rfl ?_
  unfold F_Sc_wordOrName at h
  refine j_aload_n d_Sc_wordOrName_0 rfl 0 rfl ?_
  refine j_ldcS (i := 0) rfl d_Sc_wordOrName_1 ?_
  replace h := bd_s h
  obtain ⟨r1, k3, h⟩ := h
  refine j_callV (n := 1) (As := [.ref (sA D 0)]) (rest := []) (wr := []) (c_Sc_is l D cI cB cJ cS h0 a_text_h0 a_bytes_a_text_h0 0 next_h0 kind_h0 start_h0 width_h0 size_a_text_h0 n_a_bytes_a_text_h0 b_a_bytes_a_text_h0  r1 k3) k_Sc_67 (by decide) ⟨Nat.le_of_ble_eq_true rfl, Nat.le_of_ble_eq_true rfl⟩ rfl 0 rfl [0, 1, 2] [] rfl (by decide) rfl (by decide) (by decide) rfl rfl (Nat.le_of_ble_eq_true rfl) d_Sc_wordOrName_3 ⟨Nat.le_of_ble_eq_true rfl, Nat.le_of_ble_eq_true rfl⟩ (fun v w hq => ?_)
  obtain ⟨rfl, z2, rfl⟩ := hq
  refine j_norm (pc' := 6) (st' := [.int r1]) (ws' := [(h0, .inr (4, [.ref a_text_h0, .int next_h0, .int kind_h0, .int start_h0, .int width_h0])), (a_text_h0, .inr (3, [.ref a_bytes_a_text_h0, .int size_a_text_h0])), (a_bytes_a_text_h0, .inl (cB, n_a_bytes_a_text_h0, .inl b_a_bytes_a_text_h0))]) (cl' := 0) (sl' := 0) rfl rfl rfl rfl rfl rfl ?_
  refine j_if_eq (tgt := 13) d_Sc_wordOrName_6 (by decide) (fun c4 => ?_) (fun c4 => ?_)
  · replace h := it_t c4 h
    refine j_aload_n d_Sc_wordOrName_13 rfl 0 rfl ?_
    refine j_ldcS (i := 1) rfl d_Sc_wordOrName_14 ?_
    replace h := bd_s h
    obtain ⟨r5, k7, h⟩ := h
    refine j_callV (n := 1) (As := [.ref (sA D 1)]) (rest := []) (wr := []) (c_Sc_is l D cI cB cJ cS h0 a_text_h0 a_bytes_a_text_h0 1 next_h0 kind_h0 start_h0 width_h0 size_a_text_h0 n_a_bytes_a_text_h0 b_a_bytes_a_text_h0  r5 k7) k_Sc_67 (by decide) ⟨Nat.le_of_ble_eq_true rfl, Nat.le_of_ble_eq_true rfl⟩ rfl 0 rfl [0, 1, 2] [] rfl (by decide) rfl (by decide) (by decide) rfl rfl (Nat.le_of_ble_eq_true rfl) d_Sc_wordOrName_16 ⟨Nat.le_of_ble_eq_true rfl, Nat.le_of_ble_eq_true rfl⟩ (fun v w hq => ?_)
    obtain ⟨rfl, z6, rfl⟩ := hq
    refine j_norm (pc' := 19) (st' := [.int r5]) (ws' := [(h0, .inr (4, [.ref a_text_h0, .int next_h0, .int kind_h0, .int start_h0, .int width_h0])), (a_text_h0, .inr (3, [.ref a_bytes_a_text_h0, .int size_a_text_h0])), (a_bytes_a_text_h0, .inl (cB, n_a_bytes_a_text_h0, .inl b_a_bytes_a_text_h0))]) (cl' := 0) (sl' := 0) rfl rfl rfl rfl rfl rfl ?_
    refine j_if_eq (tgt := 27) d_Sc_wordOrName_19 (by decide) (fun c8 => ?_) (fun c8 => ?_)
    · replace h := it_t c8 h
      refine j_aload_n d_Sc_wordOrName_27 rfl 0 rfl ?_
      refine j_ldcS (i := 2) rfl d_Sc_wordOrName_28 ?_
      replace h := bd_s h
      obtain ⟨r9, k11, h⟩ := h
      refine j_callV (n := 1) (As := [.ref (sA D 2)]) (rest := []) (wr := []) (c_Sc_is l D cI cB cJ cS h0 a_text_h0 a_bytes_a_text_h0 2 next_h0 kind_h0 start_h0 width_h0 size_a_text_h0 n_a_bytes_a_text_h0 b_a_bytes_a_text_h0  r9 k11) k_Sc_67 (by decide) ⟨Nat.le_of_ble_eq_true rfl, Nat.le_of_ble_eq_true rfl⟩ rfl 0 rfl [0, 1, 2] [] rfl (by decide) rfl (by decide) (by decide) rfl rfl (Nat.le_of_ble_eq_true rfl) d_Sc_wordOrName_30 ⟨Nat.le_of_ble_eq_true rfl, Nat.le_of_ble_eq_true rfl⟩ (fun v w hq => ?_)
      obtain ⟨rfl, z10, rfl⟩ := hq
      refine j_norm (pc' := 33) (st' := [.int r9]) (ws' := [(h0, .inr (4, [.ref a_text_h0, .int next_h0, .int kind_h0, .int start_h0, .int width_h0])), (a_text_h0, .inr (3, [.ref a_bytes_a_text_h0, .int size_a_text_h0])), (a_bytes_a_text_h0, .inl (cB, n_a_bytes_a_text_h0, .inl b_a_bytes_a_text_h0))]) (cl' := 0) (sl' := 0) rfl rfl rfl rfl rfl rfl ?_
      refine j_if_eq (tgt := 41) d_Sc_wordOrName_33 (by decide) (fun c12 => ?_) (fun c12 => ?_)
      · replace h := it_t c12 h
        refine j_aload_n d_Sc_wordOrName_41 rfl 0 rfl ?_
        refine j_ldcS (i := 3) rfl d_Sc_wordOrName_42 ?_
        replace h := bd_s h
        obtain ⟨r13, k15, h⟩ := h
        refine j_callV (n := 1) (As := [.ref (sA D 3)]) (rest := []) (wr := []) (c_Sc_is l D cI cB cJ cS h0 a_text_h0 a_bytes_a_text_h0 3 next_h0 kind_h0 start_h0 width_h0 size_a_text_h0 n_a_bytes_a_text_h0 b_a_bytes_a_text_h0  r13 k15) k_Sc_67 (by decide) ⟨Nat.le_of_ble_eq_true rfl, Nat.le_of_ble_eq_true rfl⟩ rfl 0 rfl [0, 1, 2] [] rfl (by decide) rfl (by decide) (by decide) rfl rfl (Nat.le_of_ble_eq_true rfl) d_Sc_wordOrName_44 ⟨Nat.le_of_ble_eq_true rfl, Nat.le_of_ble_eq_true rfl⟩ (fun v w hq => ?_)
        obtain ⟨rfl, z14, rfl⟩ := hq
        refine j_norm (pc' := 47) (st' := [.int r13]) (ws' := [(h0, .inr (4, [.ref a_text_h0, .int next_h0, .int kind_h0, .int start_h0, .int width_h0])), (a_text_h0, .inr (3, [.ref a_bytes_a_text_h0, .int size_a_text_h0])), (a_bytes_a_text_h0, .inl (cB, n_a_bytes_a_text_h0, .inl b_a_bytes_a_text_h0))]) (cl' := 0) (sl' := 0) rfl rfl rfl rfl rfl rfl ?_
        refine j_if_eq (tgt := 55) d_Sc_wordOrName_47 (by decide) (fun c16 => ?_) (fun c16 => ?_)
        · replace h := it_t c16 h
          refine j_aload_n d_Sc_wordOrName_55 rfl 0 rfl ?_
          refine j_ldcS (i := 4) rfl d_Sc_wordOrName_56 ?_
          replace h := bd_s h
          obtain ⟨r17, k19, h⟩ := h
          refine j_callV (n := 1) (As := [.ref (sA D 4)]) (rest := []) (wr := []) (c_Sc_is l D cI cB cJ cS h0 a_text_h0 a_bytes_a_text_h0 4 next_h0 kind_h0 start_h0 width_h0 size_a_text_h0 n_a_bytes_a_text_h0 b_a_bytes_a_text_h0  r17 k19) k_Sc_67 (by decide) ⟨Nat.le_of_ble_eq_true rfl, Nat.le_of_ble_eq_true rfl⟩ rfl 0 rfl [0, 1, 2] [] rfl (by decide) rfl (by decide) (by decide) rfl rfl (Nat.le_of_ble_eq_true rfl) d_Sc_wordOrName_58 ⟨Nat.le_of_ble_eq_true rfl, Nat.le_of_ble_eq_true rfl⟩ (fun v w hq => ?_)
          obtain ⟨rfl, z18, rfl⟩ := hq
          refine j_norm (pc' := 61) (st' := [.int r17]) (ws' := [(h0, .inr (4, [.ref a_text_h0, .int next_h0, .int kind_h0, .int start_h0, .int width_h0])), (a_text_h0, .inr (3, [.ref a_bytes_a_text_h0, .int size_a_text_h0])), (a_bytes_a_text_h0, .inl (cB, n_a_bytes_a_text_h0, .inl b_a_bytes_a_text_h0))]) (cl' := 0) (sl' := 0) rfl rfl rfl rfl rfl rfl ?_
          refine j_if_eq (tgt := 69) d_Sc_wordOrName_61 (by decide) (fun c20 => ?_) (fun c20 => ?_)
          · replace h := it_t c20 h
            refine j_aload_n d_Sc_wordOrName_69 rfl 0 rfl ?_
            refine j_ldcS (i := 5) rfl d_Sc_wordOrName_70 ?_
            replace h := bd_s h
            obtain ⟨r21, k23, h⟩ := h
            refine j_callV (n := 1) (As := [.ref (sA D 5)]) (rest := []) (wr := []) (c_Sc_is l D cI cB cJ cS h0 a_text_h0 a_bytes_a_text_h0 5 next_h0 kind_h0 start_h0 width_h0 size_a_text_h0 n_a_bytes_a_text_h0 b_a_bytes_a_text_h0  r21 k23) k_Sc_67 (by decide) ⟨Nat.le_of_ble_eq_true rfl, Nat.le_of_ble_eq_true rfl⟩ rfl 0 rfl [0, 1, 2] [] rfl (by decide) rfl (by decide) (by decide) rfl rfl (Nat.le_of_ble_eq_true rfl) d_Sc_wordOrName_72 ⟨Nat.le_of_ble_eq_true rfl, Nat.le_of_ble_eq_true rfl⟩ (fun v w hq => ?_)
            obtain ⟨rfl, z22, rfl⟩ := hq
            refine j_norm (pc' := 75) (st' := [.int r21]) (ws' := [(h0, .inr (4, [.ref a_text_h0, .int next_h0, .int kind_h0, .int start_h0, .int width_h0])), (a_text_h0, .inr (3, [.ref a_bytes_a_text_h0, .int size_a_text_h0])), (a_bytes_a_text_h0, .inl (cB, n_a_bytes_a_text_h0, .inl b_a_bytes_a_text_h0))]) (cl' := 0) (sl' := 0) rfl rfl rfl rfl rfl rfl ?_
            refine j_if_eq (tgt := 83) d_Sc_wordOrName_75 (by decide) (fun c24 => ?_) (fun c24 => ?_)
            · replace h := it_t c24 h
              refine j_aload_n d_Sc_wordOrName_83 rfl 0 rfl ?_
              refine j_ldcS (i := 6) rfl d_Sc_wordOrName_84 ?_
              replace h := bd_s h
              obtain ⟨r25, k27, h⟩ := h
              refine j_callV (n := 1) (As := [.ref (sA D 6)]) (rest := []) (wr := []) (c_Sc_is l D cI cB cJ cS h0 a_text_h0 a_bytes_a_text_h0 6 next_h0 kind_h0 start_h0 width_h0 size_a_text_h0 n_a_bytes_a_text_h0 b_a_bytes_a_text_h0  r25 k27) k_Sc_67 (by decide) ⟨Nat.le_of_ble_eq_true rfl, Nat.le_of_ble_eq_true rfl⟩ rfl 0 rfl [0, 1, 2] [] rfl (by decide) rfl (by decide) (by decide) rfl rfl (Nat.le_of_ble_eq_true rfl) d_Sc_wordOrName_86 ⟨Nat.le_of_ble_eq_true rfl, Nat.le_of_ble_eq_true rfl⟩ (fun v w hq => ?_)
              obtain ⟨rfl, z26, rfl⟩ := hq
              refine j_norm (pc' := 89) (st' := [.int r25]) (ws' := [(h0, .inr (4, [.ref a_text_h0, .int next_h0, .int kind_h0, .int start_h0, .int width_h0])), (a_text_h0, .inr (3, [.ref a_bytes_a_text_h0, .int size_a_text_h0])), (a_bytes_a_text_h0, .inl (cB, n_a_bytes_a_text_h0, .inl b_a_bytes_a_text_h0))]) (cl' := 0) (sl' := 0) rfl rfl rfl rfl rfl rfl ?_
              refine j_if_eq (tgt := 97) d_Sc_wordOrName_89 (by decide) (fun c28 => ?_) (fun c28 => ?_)
              · replace h := it_t c28 h
                refine j_aload_n d_Sc_wordOrName_97 rfl 0 rfl ?_
                refine j_ldcS (i := 7) rfl d_Sc_wordOrName_98 ?_
                replace h := bd_s h
                obtain ⟨r29, k31, h⟩ := h
                refine j_callV (n := 1) (As := [.ref (sA D 7)]) (rest := []) (wr := []) (c_Sc_is l D cI cB cJ cS h0 a_text_h0 a_bytes_a_text_h0 7 next_h0 kind_h0 start_h0 width_h0 size_a_text_h0 n_a_bytes_a_text_h0 b_a_bytes_a_text_h0  r29 k31) k_Sc_67 (by decide) ⟨Nat.le_of_ble_eq_true rfl, Nat.le_of_ble_eq_true rfl⟩ rfl 0 rfl [0, 1, 2] [] rfl (by decide) rfl (by decide) (by decide) rfl rfl (Nat.le_of_ble_eq_true rfl) d_Sc_wordOrName_100 ⟨Nat.le_of_ble_eq_true rfl, Nat.le_of_ble_eq_true rfl⟩ (fun v w hq => ?_)
                obtain ⟨rfl, z30, rfl⟩ := hq
                refine j_norm (pc' := 103) (st' := [.int r29]) (ws' := [(h0, .inr (4, [.ref a_text_h0, .int next_h0, .int kind_h0, .int start_h0, .int width_h0])), (a_text_h0, .inr (3, [.ref a_bytes_a_text_h0, .int size_a_text_h0])), (a_bytes_a_text_h0, .inl (cB, n_a_bytes_a_text_h0, .inl b_a_bytes_a_text_h0))]) (cl' := 0) (sl' := 0) rfl rfl rfl rfl rfl rfl ?_
                refine j_if_eq (tgt := 111) d_Sc_wordOrName_103 (by decide) (fun c32 => ?_) (fun c32 => ?_)
                · replace h := it_t c32 h
                  refine j_aload_n d_Sc_wordOrName_111 rfl 0 rfl ?_
                  refine j_ldcS (i := 8) rfl d_Sc_wordOrName_112 ?_
                  replace h := bd_s h
                  obtain ⟨r33, k35, h⟩ := h
                  refine j_callV (n := 1) (As := [.ref (sA D 8)]) (rest := []) (wr := []) (c_Sc_is l D cI cB cJ cS h0 a_text_h0 a_bytes_a_text_h0 8 next_h0 kind_h0 start_h0 width_h0 size_a_text_h0 n_a_bytes_a_text_h0 b_a_bytes_a_text_h0  r33 k35) k_Sc_67 (by decide) ⟨Nat.le_of_ble_eq_true rfl, Nat.le_of_ble_eq_true rfl⟩ rfl 0 rfl [0, 1, 2] [] rfl (by decide) rfl (by decide) (by decide) rfl rfl (Nat.le_of_ble_eq_true rfl) d_Sc_wordOrName_114 ⟨Nat.le_of_ble_eq_true rfl, Nat.le_of_ble_eq_true rfl⟩ (fun v w hq => ?_)
                  obtain ⟨rfl, z34, rfl⟩ := hq
                  refine j_norm (pc' := 117) (st' := [.int r33]) (ws' := [(h0, .inr (4, [.ref a_text_h0, .int next_h0, .int kind_h0, .int start_h0, .int width_h0])), (a_text_h0, .inr (3, [.ref a_bytes_a_text_h0, .int size_a_text_h0])), (a_bytes_a_text_h0, .inl (cB, n_a_bytes_a_text_h0, .inl b_a_bytes_a_text_h0))]) (cl' := 0) (sl' := 0) rfl rfl rfl rfl rfl rfl ?_
                  refine j_if_eq (tgt := 125) d_Sc_wordOrName_117 (by decide) (fun c36 => ?_) (fun c36 => ?_)
                  · replace h := it_t c36 h
                    refine j_aload_n d_Sc_wordOrName_125 rfl 0 rfl ?_
                    refine j_ldcS (i := 9) rfl d_Sc_wordOrName_126 ?_
                    replace h := bd_s h
                    obtain ⟨r37, k39, h⟩ := h
                    refine j_callV (n := 1) (As := [.ref (sA D 9)]) (rest := []) (wr := []) (c_Sc_is l D cI cB cJ cS h0 a_text_h0 a_bytes_a_text_h0 9 next_h0 kind_h0 start_h0 width_h0 size_a_text_h0 n_a_bytes_a_text_h0 b_a_bytes_a_text_h0  r37 k39) k_Sc_67 (by decide) ⟨Nat.le_of_ble_eq_true rfl, Nat.le_of_ble_eq_true rfl⟩ rfl 0 rfl [0, 1, 2] [] rfl (by decide) rfl (by decide) (by decide) rfl rfl (Nat.le_of_ble_eq_true rfl) d_Sc_wordOrName_128 ⟨Nat.le_of_ble_eq_true rfl, Nat.le_of_ble_eq_true rfl⟩ (fun v w hq => ?_)
                    obtain ⟨rfl, z38, rfl⟩ := hq
                    refine j_norm (pc' := 131) (st' := [.int r37]) (ws' := [(h0, .inr (4, [.ref a_text_h0, .int next_h0, .int kind_h0, .int start_h0, .int width_h0])), (a_text_h0, .inr (3, [.ref a_bytes_a_text_h0, .int size_a_text_h0])), (a_bytes_a_text_h0, .inl (cB, n_a_bytes_a_text_h0, .inl b_a_bytes_a_text_h0))]) (cl' := 0) (sl' := 0) rfl rfl rfl rfl rfl rfl ?_
                    refine j_if_eq (tgt := 139) d_Sc_wordOrName_131 (by decide) (fun c40 => ?_) (fun c40 => ?_)
                    · replace h := it_t c40 h
                      refine j_aload_n d_Sc_wordOrName_139 rfl 0 rfl ?_
                      refine j_ldcS (i := 10) rfl d_Sc_wordOrName_140 ?_
                      replace h := bd_s h
                      obtain ⟨r41, k43, h⟩ := h
                      refine j_callV (n := 1) (As := [.ref (sA D 10)]) (rest := []) (wr := []) (c_Sc_is l D cI cB cJ cS h0 a_text_h0 a_bytes_a_text_h0 10 next_h0 kind_h0 start_h0 width_h0 size_a_text_h0 n_a_bytes_a_text_h0 b_a_bytes_a_text_h0  r41 k43) k_Sc_67 (by decide) ⟨Nat.le_of_ble_eq_true rfl, Nat.le_of_ble_eq_true rfl⟩ rfl 0 rfl [0, 1, 2] [] rfl (by decide) rfl (by decide) (by decide) rfl rfl (Nat.le_of_ble_eq_true rfl) d_Sc_wordOrName_142 ⟨Nat.le_of_ble_eq_true rfl, Nat.le_of_ble_eq_true rfl⟩ (fun v w hq => ?_)
                      obtain ⟨rfl, z42, rfl⟩ := hq
                      refine j_norm (pc' := 145) (st' := [.int r41]) (ws' := [(h0, .inr (4, [.ref a_text_h0, .int next_h0, .int kind_h0, .int start_h0, .int width_h0])), (a_text_h0, .inr (3, [.ref a_bytes_a_text_h0, .int size_a_text_h0])), (a_bytes_a_text_h0, .inl (cB, n_a_bytes_a_text_h0, .inl b_a_bytes_a_text_h0))]) (cl' := 0) (sl' := 0) rfl rfl rfl rfl rfl rfl ?_
                      refine j_if_eq (tgt := 153) d_Sc_wordOrName_145 (by decide) (fun c44 => ?_) (fun c44 => ?_)
                      · replace h := it_t c44 h
                        refine j_aload_n d_Sc_wordOrName_153 rfl 0 rfl ?_
                        refine j_ldcS (i := 11) rfl d_Sc_wordOrName_154 ?_
                        replace h := bd_s h
                        obtain ⟨r45, k47, h⟩ := h
                        refine j_callV (n := 1) (As := [.ref (sA D 11)]) (rest := []) (wr := []) (c_Sc_is l D cI cB cJ cS h0 a_text_h0 a_bytes_a_text_h0 11 next_h0 kind_h0 start_h0 width_h0 size_a_text_h0 n_a_bytes_a_text_h0 b_a_bytes_a_text_h0  r45 k47) k_Sc_67 (by decide) ⟨Nat.le_of_ble_eq_true rfl, Nat.le_of_ble_eq_true rfl⟩ rfl 0 rfl [0, 1, 2] [] rfl (by decide) rfl (by decide) (by decide) rfl rfl (Nat.le_of_ble_eq_true rfl) d_Sc_wordOrName_156 ⟨Nat.le_of_ble_eq_true rfl, Nat.le_of_ble_eq_true rfl⟩ (fun v w hq => ?_)
                        obtain ⟨rfl, z46, rfl⟩ := hq
                        refine j_norm (pc' := 159) (st' := [.int r45]) (ws' := [(h0, .inr (4, [.ref a_text_h0, .int next_h0, .int kind_h0, .int start_h0, .int width_h0])), (a_text_h0, .inr (3, [.ref a_bytes_a_text_h0, .int size_a_text_h0])), (a_bytes_a_text_h0, .inl (cB, n_a_bytes_a_text_h0, .inl b_a_bytes_a_text_h0))]) (cl' := 0) (sl' := 0) rfl rfl rfl rfl rfl rfl ?_
                        refine j_if_eq (tgt := 167) d_Sc_wordOrName_159 (by decide) (fun c48 => ?_) (fun c48 => ?_)
                        · replace h := it_t c48 h
                          refine j_aload_n d_Sc_wordOrName_167 rfl 0 rfl ?_
                          refine j_ldcS (i := 12) rfl d_Sc_wordOrName_168 ?_
                          replace h := bd_s h
                          obtain ⟨r49, k51, h⟩ := h
                          refine j_callV (n := 1) (As := [.ref (sA D 12)]) (rest := []) (wr := []) (c_Sc_is l D cI cB cJ cS h0 a_text_h0 a_bytes_a_text_h0 12 next_h0 kind_h0 start_h0 width_h0 size_a_text_h0 n_a_bytes_a_text_h0 b_a_bytes_a_text_h0  r49 k51) k_Sc_67 (by decide) ⟨Nat.le_of_ble_eq_true rfl, Nat.le_of_ble_eq_true rfl⟩ rfl 0 rfl [0, 1, 2] [] rfl (by decide) rfl (by decide) (by decide) rfl rfl (Nat.le_of_ble_eq_true rfl) d_Sc_wordOrName_170 ⟨Nat.le_of_ble_eq_true rfl, Nat.le_of_ble_eq_true rfl⟩ (fun v w hq => ?_)
                          obtain ⟨rfl, z50, rfl⟩ := hq
                          refine j_norm (pc' := 173) (st' := [.int r49]) (ws' := [(h0, .inr (4, [.ref a_text_h0, .int next_h0, .int kind_h0, .int start_h0, .int width_h0])), (a_text_h0, .inr (3, [.ref a_bytes_a_text_h0, .int size_a_text_h0])), (a_bytes_a_text_h0, .inl (cB, n_a_bytes_a_text_h0, .inl b_a_bytes_a_text_h0))]) (cl' := 0) (sl' := 0) rfl rfl rfl rfl rfl rfl ?_
                          refine j_if_eq (tgt := 181) d_Sc_wordOrName_173 (by decide) (fun c52 => ?_) (fun c52 => ?_)
                          · replace h := it_t c52 h
                            refine j_aload_n d_Sc_wordOrName_181 rfl 0 rfl ?_
                            refine j_ldcS (i := 13) rfl d_Sc_wordOrName_182 ?_
                            replace h := bd_s h
                            obtain ⟨r53, k55, h⟩ := h
                            refine j_callV (n := 1) (As := [.ref (sA D 13)]) (rest := []) (wr := []) (c_Sc_is l D cI cB cJ cS h0 a_text_h0 a_bytes_a_text_h0 13 next_h0 kind_h0 start_h0 width_h0 size_a_text_h0 n_a_bytes_a_text_h0 b_a_bytes_a_text_h0  r53 k55) k_Sc_67 (by decide) ⟨Nat.le_of_ble_eq_true rfl, Nat.le_of_ble_eq_true rfl⟩ rfl 0 rfl [0, 1, 2] [] rfl (by decide) rfl (by decide) (by decide) rfl rfl (Nat.le_of_ble_eq_true rfl) d_Sc_wordOrName_184 ⟨Nat.le_of_ble_eq_true rfl, Nat.le_of_ble_eq_true rfl⟩ (fun v w hq => ?_)
                            obtain ⟨rfl, z54, rfl⟩ := hq
                            refine j_norm (pc' := 187) (st' := [.int r53]) (ws' := [(h0, .inr (4, [.ref a_text_h0, .int next_h0, .int kind_h0, .int start_h0, .int width_h0])), (a_text_h0, .inr (3, [.ref a_bytes_a_text_h0, .int size_a_text_h0])), (a_bytes_a_text_h0, .inl (cB, n_a_bytes_a_text_h0, .inl b_a_bytes_a_text_h0))]) (cl' := 0) (sl' := 0) rfl rfl rfl rfl rfl rfl ?_
                            refine j_if_eq (tgt := 195) d_Sc_wordOrName_187 (by decide) (fun c56 => ?_) (fun c56 => ?_)
                            · replace h := it_t c56 h
                              refine j_iconst (v := 2) d_Sc_wordOrName_195 (by decide) ?_
                              replace h := Option.some.inj h
                              subst h
                              exact j_iret (w := [(h0, .inr (4, [.ref a_text_h0, .int next_h0, .int kind_h0, .int start_h0, .int width_h0])), (a_text_h0, .inr (3, [.ref a_bytes_a_text_h0, .int size_a_text_h0])), (a_bytes_a_text_h0, .inl (cB, n_a_bytes_a_text_h0, .inl b_a_bytes_a_text_h0))]) hr d_Sc_wordOrName_196 [0, 1, 2] rfl (by decide) ⟨rfl, rfl⟩
                            · replace h := it_f c56 h
                              refine j_bipush (v := 18) d_Sc_wordOrName_190 (by decide) ?_
                              refine j_goto (tgt := 196) d_Sc_wordOrName_192 (by decide) ?_
                              replace h := Option.some.inj h
                              subst h
                              exact j_iret (w := [(h0, .inr (4, [.ref a_text_h0, .int next_h0, .int kind_h0, .int start_h0, .int width_h0])), (a_text_h0, .inr (3, [.ref a_bytes_a_text_h0, .int size_a_text_h0])), (a_bytes_a_text_h0, .inl (cB, n_a_bytes_a_text_h0, .inl b_a_bytes_a_text_h0))]) hr d_Sc_wordOrName_196 [0, 1, 2] rfl (by decide) ⟨rfl, rfl⟩
                          · replace h := it_f c52 h
                            refine j_bipush (v := 17) d_Sc_wordOrName_176 (by decide) ?_
                            refine j_goto (tgt := 196) d_Sc_wordOrName_178 (by decide) ?_
                            replace h := Option.some.inj h
                            subst h
                            exact j_iret (w := [(h0, .inr (4, [.ref a_text_h0, .int next_h0, .int kind_h0, .int start_h0, .int width_h0])), (a_text_h0, .inr (3, [.ref a_bytes_a_text_h0, .int size_a_text_h0])), (a_bytes_a_text_h0, .inl (cB, n_a_bytes_a_text_h0, .inl b_a_bytes_a_text_h0))]) hr d_Sc_wordOrName_196 [0, 1, 2] rfl (by decide) ⟨rfl, rfl⟩
                        · replace h := it_f c48 h
                          refine j_bipush (v := 16) d_Sc_wordOrName_162 (by decide) ?_
                          refine j_goto (tgt := 196) d_Sc_wordOrName_164 (by decide) ?_
                          replace h := Option.some.inj h
                          subst h
                          exact j_iret (w := [(h0, .inr (4, [.ref a_text_h0, .int next_h0, .int kind_h0, .int start_h0, .int width_h0])), (a_text_h0, .inr (3, [.ref a_bytes_a_text_h0, .int size_a_text_h0])), (a_bytes_a_text_h0, .inl (cB, n_a_bytes_a_text_h0, .inl b_a_bytes_a_text_h0))]) hr d_Sc_wordOrName_196 [0, 1, 2] rfl (by decide) ⟨rfl, rfl⟩
                      · replace h := it_f c44 h
                        refine j_bipush (v := 15) d_Sc_wordOrName_148 (by decide) ?_
                        refine j_goto (tgt := 196) d_Sc_wordOrName_150 (by decide) ?_
                        replace h := Option.some.inj h
                        subst h
                        exact j_iret (w := [(h0, .inr (4, [.ref a_text_h0, .int next_h0, .int kind_h0, .int start_h0, .int width_h0])), (a_text_h0, .inr (3, [.ref a_bytes_a_text_h0, .int size_a_text_h0])), (a_bytes_a_text_h0, .inl (cB, n_a_bytes_a_text_h0, .inl b_a_bytes_a_text_h0))]) hr d_Sc_wordOrName_196 [0, 1, 2] rfl (by decide) ⟨rfl, rfl⟩
                    · replace h := it_f c40 h
                      refine j_bipush (v := 14) d_Sc_wordOrName_134 (by decide) ?_
                      refine j_goto (tgt := 196) d_Sc_wordOrName_136 (by decide) ?_
                      replace h := Option.some.inj h
                      subst h
                      exact j_iret (w := [(h0, .inr (4, [.ref a_text_h0, .int next_h0, .int kind_h0, .int start_h0, .int width_h0])), (a_text_h0, .inr (3, [.ref a_bytes_a_text_h0, .int size_a_text_h0])), (a_bytes_a_text_h0, .inl (cB, n_a_bytes_a_text_h0, .inl b_a_bytes_a_text_h0))]) hr d_Sc_wordOrName_196 [0, 1, 2] rfl (by decide) ⟨rfl, rfl⟩
                  · replace h := it_f c36 h
                    refine j_bipush (v := 13) d_Sc_wordOrName_120 (by decide) ?_
                    refine j_goto (tgt := 196) d_Sc_wordOrName_122 (by decide) ?_
                    replace h := Option.some.inj h
                    subst h
                    exact j_iret (w := [(h0, .inr (4, [.ref a_text_h0, .int next_h0, .int kind_h0, .int start_h0, .int width_h0])), (a_text_h0, .inr (3, [.ref a_bytes_a_text_h0, .int size_a_text_h0])), (a_bytes_a_text_h0, .inl (cB, n_a_bytes_a_text_h0, .inl b_a_bytes_a_text_h0))]) hr d_Sc_wordOrName_196 [0, 1, 2] rfl (by decide) ⟨rfl, rfl⟩
                · replace h := it_f c32 h
                  refine j_bipush (v := 12) d_Sc_wordOrName_106 (by decide) ?_
                  refine j_goto (tgt := 196) d_Sc_wordOrName_108 (by decide) ?_
                  replace h := Option.some.inj h
                  subst h
                  exact j_iret (w := [(h0, .inr (4, [.ref a_text_h0, .int next_h0, .int kind_h0, .int start_h0, .int width_h0])), (a_text_h0, .inr (3, [.ref a_bytes_a_text_h0, .int size_a_text_h0])), (a_bytes_a_text_h0, .inl (cB, n_a_bytes_a_text_h0, .inl b_a_bytes_a_text_h0))]) hr d_Sc_wordOrName_196 [0, 1, 2] rfl (by decide) ⟨rfl, rfl⟩
              · replace h := it_f c28 h
                refine j_bipush (v := 11) d_Sc_wordOrName_92 (by decide) ?_
                refine j_goto (tgt := 196) d_Sc_wordOrName_94 (by decide) ?_
                replace h := Option.some.inj h
                subst h
                exact j_iret (w := [(h0, .inr (4, [.ref a_text_h0, .int next_h0, .int kind_h0, .int start_h0, .int width_h0])), (a_text_h0, .inr (3, [.ref a_bytes_a_text_h0, .int size_a_text_h0])), (a_bytes_a_text_h0, .inl (cB, n_a_bytes_a_text_h0, .inl b_a_bytes_a_text_h0))]) hr d_Sc_wordOrName_196 [0, 1, 2] rfl (by decide) ⟨rfl, rfl⟩
            · replace h := it_f c24 h
              refine j_bipush (v := 10) d_Sc_wordOrName_78 (by decide) ?_
              refine j_goto (tgt := 196) d_Sc_wordOrName_80 (by decide) ?_
              replace h := Option.some.inj h
              subst h
              exact j_iret (w := [(h0, .inr (4, [.ref a_text_h0, .int next_h0, .int kind_h0, .int start_h0, .int width_h0])), (a_text_h0, .inr (3, [.ref a_bytes_a_text_h0, .int size_a_text_h0])), (a_bytes_a_text_h0, .inl (cB, n_a_bytes_a_text_h0, .inl b_a_bytes_a_text_h0))]) hr d_Sc_wordOrName_196 [0, 1, 2] rfl (by decide) ⟨rfl, rfl⟩
          · replace h := it_f c20 h
            refine j_bipush (v := 9) d_Sc_wordOrName_64 (by decide) ?_
            refine j_goto (tgt := 196) d_Sc_wordOrName_66 (by decide) ?_
            replace h := Option.some.inj h
            subst h
            exact j_iret (w := [(h0, .inr (4, [.ref a_text_h0, .int next_h0, .int kind_h0, .int start_h0, .int width_h0])), (a_text_h0, .inr (3, [.ref a_bytes_a_text_h0, .int size_a_text_h0])), (a_bytes_a_text_h0, .inl (cB, n_a_bytes_a_text_h0, .inl b_a_bytes_a_text_h0))]) hr d_Sc_wordOrName_196 [0, 1, 2] rfl (by decide) ⟨rfl, rfl⟩
        · replace h := it_f c16 h
          refine j_bipush (v := 8) d_Sc_wordOrName_50 (by decide) ?_
          refine j_goto (tgt := 196) d_Sc_wordOrName_52 (by decide) ?_
          replace h := Option.some.inj h
          subst h
          exact j_iret (w := [(h0, .inr (4, [.ref a_text_h0, .int next_h0, .int kind_h0, .int start_h0, .int width_h0])), (a_text_h0, .inr (3, [.ref a_bytes_a_text_h0, .int size_a_text_h0])), (a_bytes_a_text_h0, .inl (cB, n_a_bytes_a_text_h0, .inl b_a_bytes_a_text_h0))]) hr d_Sc_wordOrName_196 [0, 1, 2] rfl (by decide) ⟨rfl, rfl⟩
      · replace h := it_f c12 h
        refine j_bipush (v := 7) d_Sc_wordOrName_36 (by decide) ?_
        refine j_goto (tgt := 196) d_Sc_wordOrName_38 (by decide) ?_
        replace h := Option.some.inj h
        subst h
        exact j_iret (w := [(h0, .inr (4, [.ref a_text_h0, .int next_h0, .int kind_h0, .int start_h0, .int width_h0])), (a_text_h0, .inr (3, [.ref a_bytes_a_text_h0, .int size_a_text_h0])), (a_bytes_a_text_h0, .inl (cB, n_a_bytes_a_text_h0, .inl b_a_bytes_a_text_h0))]) hr d_Sc_wordOrName_196 [0, 1, 2] rfl (by decide) ⟨rfl, rfl⟩
    · replace h := it_f c8 h
      refine j_bipush (v := 6) d_Sc_wordOrName_22 (by decide) ?_
      refine j_goto (tgt := 196) d_Sc_wordOrName_24 (by decide) ?_
      replace h := Option.some.inj h
      subst h
      exact j_iret (w := [(h0, .inr (4, [.ref a_text_h0, .int next_h0, .int kind_h0, .int start_h0, .int width_h0])), (a_text_h0, .inr (3, [.ref a_bytes_a_text_h0, .int size_a_text_h0])), (a_bytes_a_text_h0, .inl (cB, n_a_bytes_a_text_h0, .inl b_a_bytes_a_text_h0))]) hr d_Sc_wordOrName_196 [0, 1, 2] rfl (by decide) ⟨rfl, rfl⟩
  · replace h := it_f c4 h
    refine j_iconst (v := 5) d_Sc_wordOrName_9 (by decide) ?_
    refine j_goto (tgt := 196) d_Sc_wordOrName_10 (by decide) ?_
    replace h := Option.some.inj h
    subst h
    exact j_iret (w := [(h0, .inr (4, [.ref a_text_h0, .int next_h0, .int kind_h0, .int start_h0, .int width_h0])), (a_text_h0, .inr (3, [.ref a_bytes_a_text_h0, .int size_a_text_h0])), (a_bytes_a_text_h0, .inl (cB, n_a_bytes_a_text_h0, .inl b_a_bytes_a_text_h0))]) hr d_Sc_wordOrName_196 [0, 1, 2] rfl (by decide) ⟨rfl, rfl⟩
def F_Sc_isFinite_82 (p1 : Int32) (p2 : Int32) (next_h0 : Int32) (kind_h0 : Int32) (start_h0 : Int32) (width_h0 : Int32) (size_a_text_h0 : Int32) (n_a_bytes_a_text_h0 : Nat) (b_a_bytes_a_text_h0 : Nat → Int32) (v4_82 : Int32) (v3_82 : Int32) (t0_82 : Int32) : Option (Int32) :=
    Option.bind (F_Sc_exponent p1 p2 next_h0 kind_h0 start_h0 width_h0 size_a_text_h0 n_a_bytes_a_text_h0 b_a_bytes_a_text_h0) fun r1 =>
    if (lg_cmp (t0_82.toInt64 + r1.toInt64) ((nI (gB 14).length).toInt64)) = 0 then (Option.bind (F_Sc_isBelowTooLarge v4_82 p1 next_h0 kind_h0 start_h0 width_h0 size_a_text_h0 n_a_bytes_a_text_h0 b_a_bytes_a_text_h0) fun r7 =>
      (some r7))
    else if 0 ≤ (lg_cmp (t0_82.toInt64 + r1.toInt64) ((nI (gB 14).length).toInt64)) then (some 0)
    else (some 1)
def F_Sc_isFinite_55 (p1 : Int32) (p2 : Int32) (next_h0 : Int32) (kind_h0 : Int32) (start_h0 : Int32) (width_h0 : Int32) (size_a_text_h0 : Int32) (n_a_bytes_a_text_h0 : Nat) (b_a_bytes_a_text_h0 : Nat → Int32) (v4_55 : Int32) (v3_55 : Int32) : Option (Int32) :=
    if v4_55 = p1 then (some 1)
    else if v3_55 ≤ v4_55 then (F_Sc_isFinite_82 p1 p2 next_h0 kind_h0 start_h0 width_h0 size_a_text_h0 n_a_bytes_a_text_h0 b_a_bytes_a_text_h0   v4_55 v3_55 ((v3_55 + 1) - v4_55))
    else (F_Sc_isFinite_82 p1 p2 next_h0 kind_h0 start_h0 width_h0 size_a_text_h0 n_a_bytes_a_text_h0 b_a_bytes_a_text_h0   v4_55 v3_55 (v3_55 - v4_55))
def F_Sc_isFinite_15 (p1 : Int32) (p2 : Int32) (next_h0 : Int32) (kind_h0 : Int32) (start_h0 : Int32) (width_h0 : Int32) (size_a_text_h0 : Int32) (n_a_bytes_a_text_h0 : Nat) (b_a_bytes_a_text_h0 : Nat → Int32) : Nat → Int32 → Int32 → Option (Int32)
  | 0, _, _ => none
  | k_15 + 1, v4_15, v3_15 =>
    if p1 ≤ v4_15 then (F_Sc_isFinite_55 p1 p2 next_h0 kind_h0 start_h0 width_h0 size_a_text_h0 n_a_bytes_a_text_h0 b_a_bytes_a_text_h0   v4_15 v3_15)
    else (Option.bind (F_Rw_at v4_15 size_a_text_h0 n_a_bytes_a_text_h0 b_a_bytes_a_text_h0) fun r13 =>
      if r13 = 48 then (F_Sc_isFinite_15 p1 p2 next_h0 kind_h0 start_h0 width_h0 size_a_text_h0 n_a_bytes_a_text_h0 b_a_bytes_a_text_h0  k_15 (v4_15 + 1) v3_15)
      else (Option.bind (F_Rw_at v4_15 size_a_text_h0 n_a_bytes_a_text_h0 b_a_bytes_a_text_h0) fun r16 =>
        if r16 = 46 then (F_Sc_isFinite_15 p1 p2 next_h0 kind_h0 start_h0 width_h0 size_a_text_h0 n_a_bytes_a_text_h0 b_a_bytes_a_text_h0  k_15 (v4_15 + 1) v3_15)
        else (F_Sc_isFinite_55 p1 p2 next_h0 kind_h0 start_h0 width_h0 size_a_text_h0 n_a_bytes_a_text_h0 b_a_bytes_a_text_h0   v4_15 v3_15)))
def F_Sc_isFinite (p1 : Int32) (p2 : Int32) (next_h0 : Int32) (kind_h0 : Int32) (start_h0 : Int32) (width_h0 : Int32) (size_a_text_h0 : Int32) (n_a_bytes_a_text_h0 : Nat) (b_a_bytes_a_text_h0 : Nat → Int32) : Option (Int32) :=
  Option.bind (F_Sc_digitsEnd start_h0 next_h0 kind_h0 start_h0 width_h0 size_a_text_h0 n_a_bytes_a_text_h0 b_a_bytes_a_text_h0) fun r19 =>
  F_Sc_isFinite_15 p1 p2 next_h0 kind_h0 start_h0 width_h0 size_a_text_h0 n_a_bytes_a_text_h0 b_a_bytes_a_text_h0  FU start_h0 r19
theorem d_Sc_isFinite_0 : decode prog_8_method_18_code 0 = .ok (.aload_n 0, 1) := by decide +kernel
theorem d_Sc_isFinite_1 : decode prog_8_method_18_code 1 = .ok (.aload_n 0, 1) := by decide +kernel
theorem d_Sc_isFinite_2 : decode prog_8_method_18_code 2 = .ok (.getfield 25, 3) := by decide +kernel
theorem d_Sc_isFinite_5 : decode prog_8_method_18_code 5 = .ok (.invokevirtual 106, 3) := by decide +kernel
theorem d_Sc_isFinite_8 : decode prog_8_method_18_code 8 = .ok (.istore_n 3, 1) := by decide +kernel
theorem d_Sc_isFinite_9 : decode prog_8_method_18_code 9 = .ok (.aload_n 0, 1) := by decide +kernel
theorem d_Sc_isFinite_10 : decode prog_8_method_18_code 10 = .ok (.getfield 25, 3) := by decide +kernel
theorem d_Sc_isFinite_13 : decode prog_8_method_18_code 13 = .ok (.istore 4, 2) := by decide +kernel
theorem d_Sc_isFinite_15 : decode prog_8_method_18_code 15 = .ok (.iload 4, 2) := by decide +kernel
theorem d_Sc_isFinite_17 : decode prog_8_method_18_code 17 = .ok (.iload_n 1, 1) := by decide +kernel
theorem d_Sc_isFinite_18 : decode prog_8_method_18_code 18 = .ok (.if_icmp .ge 37, 3) := by decide +kernel
theorem d_Sc_isFinite_21 : decode prog_8_method_18_code 21 = .ok (.aload_n 0, 1) := by decide +kernel
theorem d_Sc_isFinite_22 : decode prog_8_method_18_code 22 = .ok (.getfield 12, 3) := by decide +kernel
theorem d_Sc_isFinite_25 : decode prog_8_method_18_code 25 = .ok (.iload 4, 2) := by decide +kernel
theorem d_Sc_isFinite_27 : decode prog_8_method_18_code 27 = .ok (.invokevirtual 34, 3) := by decide +kernel
theorem d_Sc_isFinite_30 : decode prog_8_method_18_code 30 = .ok (.bipush 48, 2) := by decide +kernel
theorem d_Sc_isFinite_32 : decode prog_8_method_18_code 32 = .ok (.if_icmp .eq 17, 3) := by decide +kernel
theorem d_Sc_isFinite_35 : decode prog_8_method_18_code 35 = .ok (.aload_n 0, 1) := by decide +kernel
theorem d_Sc_isFinite_36 : decode prog_8_method_18_code 36 = .ok (.getfield 12, 3) := by decide +kernel
theorem d_Sc_isFinite_39 : decode prog_8_method_18_code 39 = .ok (.iload 4, 2) := by decide +kernel
theorem d_Sc_isFinite_41 : decode prog_8_method_18_code 41 = .ok (.invokevirtual 34, 3) := by decide +kernel
theorem d_Sc_isFinite_44 : decode prog_8_method_18_code 44 = .ok (.bipush 46, 2) := by decide +kernel
theorem d_Sc_isFinite_46 : decode prog_8_method_18_code 46 = .ok (.if_icmp .ne 9, 3) := by decide +kernel
theorem d_Sc_isFinite_49 : decode prog_8_method_18_code 49 = .ok (.iinc 4 1, 3) := by decide +kernel
theorem d_Sc_isFinite_52 : decode prog_8_method_18_code 52 = .ok (.goto (-37), 3) := by decide +kernel
theorem d_Sc_isFinite_55 : decode prog_8_method_18_code 55 = .ok (.iload 4, 2) := by decide +kernel
theorem d_Sc_isFinite_57 : decode prog_8_method_18_code 57 = .ok (.iload_n 1, 1) := by decide +kernel
theorem d_Sc_isFinite_58 : decode prog_8_method_18_code 58 = .ok (.if_icmp .ne 5, 3) := by decide +kernel
theorem d_Sc_isFinite_61 : decode prog_8_method_18_code 61 = .ok (.iconst 1, 1) := by decide +kernel
theorem d_Sc_isFinite_62 : decode prog_8_method_18_code 62 = .ok (.ireturn, 1) := by decide +kernel
theorem d_Sc_isFinite_63 : decode prog_8_method_18_code 63 = .ok (.iload 4, 2) := by decide +kernel
theorem d_Sc_isFinite_65 : decode prog_8_method_18_code 65 = .ok (.iload_n 3, 1) := by decide +kernel
theorem d_Sc_isFinite_66 : decode prog_8_method_18_code 66 = .ok (.if_icmp .ge 10, 3) := by decide +kernel
theorem d_Sc_isFinite_69 : decode prog_8_method_18_code 69 = .ok (.iload_n 3, 1) := by decide +kernel
theorem d_Sc_isFinite_70 : decode prog_8_method_18_code 70 = .ok (.iload 4, 2) := by decide +kernel
theorem d_Sc_isFinite_72 : decode prog_8_method_18_code 72 = .ok (.isub, 1) := by decide +kernel
theorem d_Sc_isFinite_73 : decode prog_8_method_18_code 73 = .ok (.goto 9, 3) := by decide +kernel
theorem d_Sc_isFinite_76 : decode prog_8_method_18_code 76 = .ok (.iload_n 3, 1) := by decide +kernel
theorem d_Sc_isFinite_77 : decode prog_8_method_18_code 77 = .ok (.iconst 1, 1) := by decide +kernel
theorem d_Sc_isFinite_78 : decode prog_8_method_18_code 78 = .ok (.iadd, 1) := by decide +kernel
theorem d_Sc_isFinite_79 : decode prog_8_method_18_code 79 = .ok (.iload 4, 2) := by decide +kernel
theorem d_Sc_isFinite_81 : decode prog_8_method_18_code 81 = .ok (.isub, 1) := by decide +kernel
theorem d_Sc_isFinite_82 : decode prog_8_method_18_code 82 = .ok (.istore 5, 2) := by decide +kernel
theorem d_Sc_isFinite_84 : decode prog_8_method_18_code 84 = .ok (.iload 5, 2) := by decide +kernel
theorem d_Sc_isFinite_86 : decode prog_8_method_18_code 86 = .ok (.i2l, 1) := by decide +kernel
theorem d_Sc_isFinite_87 : decode prog_8_method_18_code 87 = .ok (.aload_n 0, 1) := by decide +kernel
theorem d_Sc_isFinite_88 : decode prog_8_method_18_code 88 = .ok (.iload_n 1, 1) := by decide +kernel
theorem d_Sc_isFinite_89 : decode prog_8_method_18_code 89 = .ok (.iload_n 2, 1) := by decide +kernel
theorem d_Sc_isFinite_90 : decode prog_8_method_18_code 90 = .ok (.invokevirtual 113, 3) := by decide +kernel
theorem d_Sc_isFinite_93 : decode prog_8_method_18_code 93 = .ok (.i2l, 1) := by decide +kernel
theorem d_Sc_isFinite_94 : decode prog_8_method_18_code 94 = .ok (.ladd, 1) := by decide +kernel
theorem d_Sc_isFinite_95 : decode prog_8_method_18_code 95 = .ok (.lstore 6, 2) := by decide +kernel
theorem d_Sc_isFinite_97 : decode prog_8_method_18_code 97 = .ok (.lload 6, 2) := by decide +kernel
theorem d_Sc_isFinite_99 : decode prog_8_method_18_code 99 = .ok (.ldc 116, 2) := by decide +kernel
theorem d_Sc_isFinite_101 : decode prog_8_method_18_code 101 = .ok (.invokevirtual 97, 3) := by decide +kernel
theorem d_Sc_isFinite_104 : decode prog_8_method_18_code 104 = .ok (.i2l, 1) := by decide +kernel
theorem d_Sc_isFinite_105 : decode prog_8_method_18_code 105 = .ok (.lcmp, 1) := by decide +kernel
theorem d_Sc_isFinite_106 : decode prog_8_method_18_code 106 = .ok (.ifCond .ne 13, 3) := by decide +kernel
theorem d_Sc_isFinite_109 : decode prog_8_method_18_code 109 = .ok (.aload_n 0, 1) := by decide +kernel
theorem d_Sc_isFinite_110 : decode prog_8_method_18_code 110 = .ok (.iload 4, 2) := by decide +kernel
theorem d_Sc_isFinite_112 : decode prog_8_method_18_code 112 = .ok (.iload_n 1, 1) := by decide +kernel
theorem d_Sc_isFinite_113 : decode prog_8_method_18_code 113 = .ok (.invokevirtual 118, 3) := by decide +kernel
theorem d_Sc_isFinite_116 : decode prog_8_method_18_code 116 = .ok (.goto 20, 3) := by decide +kernel
theorem d_Sc_isFinite_119 : decode prog_8_method_18_code 119 = .ok (.lload 6, 2) := by decide +kernel
theorem d_Sc_isFinite_121 : decode prog_8_method_18_code 121 = .ok (.ldc 116, 2) := by decide +kernel
theorem d_Sc_isFinite_123 : decode prog_8_method_18_code 123 = .ok (.invokevirtual 97, 3) := by decide +kernel
theorem d_Sc_isFinite_126 : decode prog_8_method_18_code 126 = .ok (.i2l, 1) := by decide +kernel
theorem d_Sc_isFinite_127 : decode prog_8_method_18_code 127 = .ok (.lcmp, 1) := by decide +kernel
theorem d_Sc_isFinite_128 : decode prog_8_method_18_code 128 = .ok (.ifCond .ge 7, 3) := by decide +kernel
theorem d_Sc_isFinite_131 : decode prog_8_method_18_code 131 = .ok (.iconst 1, 1) := by decide +kernel
theorem d_Sc_isFinite_132 : decode prog_8_method_18_code 132 = .ok (.goto 4, 3) := by decide +kernel
theorem d_Sc_isFinite_135 : decode prog_8_method_18_code 135 = .ok (.iconst 0, 1) := by decide +kernel
theorem d_Sc_isFinite_136 : decode prog_8_method_18_code 136 = .ok (.ireturn, 1) := by decide +kernel
set_option maxHeartbeats 4000000 in
set_option maxRecDepth 100000 in
theorem L_Sc_isFinite_82 (l : Launch) (D : va_G) (cI cB cJ cS : ClassId) (h0 : Nat) (a_text_h0 : Nat) (a_bytes_a_text_h0 : Nat) (p1 : Int32) (p2 : Int32) (next_h0 : Int32) (kind_h0 : Int32) (start_h0 : Int32) (width_h0 : Int32) (size_a_text_h0 : Int32) (n_a_bytes_a_text_h0 : Nat) (b_a_bytes_a_text_h0 : Nat → Int32) (ret : Int32) (p : Program) (e : Env) (s : State) (m : MethodId) (below : List Frame) (meth : Method) (c : Code) (hr : meth.sig.returnType = (Option.some Jvm.ClassFile.FieldType.boolean)) (hnm : meth.name = y_Sc_isFinite.name) : ∀ (v4_82 : Int32) (v3_82 : Int32) (t0_82 : Int32), F_Sc_isFinite_82 p1 p2 next_h0 kind_h0 start_h0 width_h0 size_a_text_h0 n_a_bytes_a_text_h0 b_a_bytes_a_text_h0   v4_82 v3_82 t0_82 = some ret → J (KxOf p l e { frames := 5, cells := 0, slots := 0, locals := 110 } s m [.ref h0, .int p1, .int p2].toArray below meth c D (gT cI cB cJ cS) [(h0, .inr (4, [.ref a_text_h0, .int next_h0, .int kind_h0, .int start_h0, .int width_h0])), (a_text_h0, .inr (3, [.ref a_bytes_a_text_h0, .int size_a_text_h0])), (a_bytes_a_text_h0, .inl (cB, n_a_bytes_a_text_h0, .inl b_a_bytes_a_text_h0))] (fun v w => v = some (.int ret) ∧ zb ret ∧ w = [(h0, .inr (4, [.ref a_text_h0, .int next_h0, .int kind_h0, .int start_h0, .int width_h0])), (a_text_h0, .inr (3, [.ref a_bytes_a_text_h0, .int size_a_text_h0])), (a_bytes_a_text_h0, .inl (cB, n_a_bytes_a_text_h0, .inl b_a_bytes_a_text_h0))]) 0 0) prog_8_method_18_code 8 R_Sc 82 [(4, .int v4_82), (3, .int v3_82), (0, .ref h0), (1, .int p1), (2, .int p2)] [.int t0_82] [(h0, .inr (4, [.ref a_text_h0, .int next_h0, .int kind_h0, .int start_h0, .int width_h0])), (a_text_h0, .inr (3, [.ref a_bytes_a_text_h0, .int size_a_text_h0])), (a_bytes_a_text_h0, .inl (cB, n_a_bytes_a_text_h0, .inl b_a_bytes_a_text_h0))] 0 0 := by
  intro v4_82 v3_82 t0_82 h
  unfold F_Sc_isFinite_82 at h
  refine j_istore (lv' := [(5, .int t0_82), (4, .int v4_82), (3, .int v3_82), (0, .ref h0), (1, .int p1), (2, .int p2)]) d_Sc_isFinite_82 (by decide) rfl ?_
  refine j_iload d_Sc_isFinite_84 0 rfl ?_
  refine j_i2l d_Sc_isFinite_86 ?_
  refine j_aload_n d_Sc_isFinite_87 rfl 3 rfl ?_
  refine j_iload_n d_Sc_isFinite_88 rfl 4 rfl ?_
  refine j_iload_n d_Sc_isFinite_89 rfl 5 rfl ?_
  replace h := bd_s h
  obtain ⟨r1, k2, h⟩ := h
  refine j_callV (n := 2) (As := [.int p1, .int p2]) (rest := [.long t0_82.toInt64]) (wr := []) (c_Sc_exponent l D cI cB cJ cS h0 a_text_h0 a_bytes_a_text_h0 p1 p2 next_h0 kind_h0 start_h0 width_h0 size_a_text_h0 n_a_bytes_a_text_h0 b_a_bytes_a_text_h0  r1 k2) k_Sc_113 (by decide) ⟨Nat.le_of_ble_eq_true rfl, Nat.le_of_ble_eq_true rfl⟩ rfl 0 rfl [0, 1, 2] [] rfl (by decide) rfl (by decide) (by decide) rfl rfl (Nat.le_of_ble_eq_true rfl) d_Sc_isFinite_90 ⟨Nat.le_of_ble_eq_true rfl, Nat.le_of_ble_eq_true rfl⟩ (fun v w hq => ?_)
  obtain ⟨rfl, rfl⟩ := hq
  refine j_norm (pc' := 93) (st' := [.int r1, .long t0_82.toInt64]) (ws' := [(h0, .inr (4, [.ref a_text_h0, .int next_h0, .int kind_h0, .int start_h0, .int width_h0])), (a_text_h0, .inr (3, [.ref a_bytes_a_text_h0, .int size_a_text_h0])), (a_bytes_a_text_h0, .inl (cB, n_a_bytes_a_text_h0, .inl b_a_bytes_a_text_h0))]) (cl' := 0) (sl' := 0) rfl rfl rfl rfl rfl rfl ?_
  refine j_i2l d_Sc_isFinite_93 ?_
  refine j_ladd d_Sc_isFinite_94 ?_
  refine j_lstore (lv' := [(6, .long (t0_82.toInt64 + r1.toInt64)), (5, .int t0_82), (4, .int v4_82), (3, .int v3_82), (0, .ref h0), (1, .int p1), (2, .int p2)]) d_Sc_isFinite_95 (by decide) rfl ?_
  refine j_lload d_Sc_isFinite_97 0 rfl ?_
  refine j_ldcS (i := 14) rfl d_Sc_isFinite_99 ?_
  refine j_len (i := 14) (by decide) k_Sc_97 ⟨Nat.le_of_ble_eq_true rfl, Nat.le_of_ble_eq_true rfl⟩ (Nat.le_of_ble_eq_true rfl) ⟨Nat.le_of_ble_eq_true rfl, Nat.le_of_ble_eq_true rfl⟩ d_Sc_isFinite_101 ?_
  refine j_i2l d_Sc_isFinite_104 ?_
  refine j_lcmp d_Sc_isFinite_105 ?_
  refine j_if_ne (tgt := 119) d_Sc_isFinite_106 (by decide) (fun c4 => ?_) (fun c4 => ?_)
  · replace h := it_f c4 h
    refine j_lload d_Sc_isFinite_119 0 rfl ?_
    refine j_ldcS (i := 14) rfl d_Sc_isFinite_121 ?_
    refine j_len (i := 14) (by decide) k_Sc_97 ⟨Nat.le_of_ble_eq_true rfl, Nat.le_of_ble_eq_true rfl⟩ (Nat.le_of_ble_eq_true rfl) ⟨Nat.le_of_ble_eq_true rfl, Nat.le_of_ble_eq_true rfl⟩ d_Sc_isFinite_123 ?_
    refine j_i2l d_Sc_isFinite_126 ?_
    refine j_lcmp d_Sc_isFinite_127 ?_
    refine j_if_ge (tgt := 135) d_Sc_isFinite_128 (by decide) (fun c6 => ?_) (fun c6 => ?_)
    · replace h := it_t c6 h
      refine j_iconst (v := 0) d_Sc_isFinite_135 (by decide) ?_
      replace h := Option.some.inj h
      subst h
      exact j_zret (w := [(h0, .inr (4, [.ref a_text_h0, .int next_h0, .int kind_h0, .int start_h0, .int width_h0])), (a_text_h0, .inr (3, [.ref a_bytes_a_text_h0, .int size_a_text_h0])), (a_bytes_a_text_h0, .inl (cB, n_a_bytes_a_text_h0, .inl b_a_bytes_a_text_h0))]) hr (zb_n zb0) d_Sc_isFinite_136 [0, 1, 2] rfl (by decide) ⟨rfl, zb0, rfl⟩
    · replace h := it_f c6 h
      refine j_iconst (v := 1) d_Sc_isFinite_131 (by decide) ?_
      refine j_goto (tgt := 136) d_Sc_isFinite_132 (by decide) ?_
      replace h := Option.some.inj h
      subst h
      exact j_zret (w := [(h0, .inr (4, [.ref a_text_h0, .int next_h0, .int kind_h0, .int start_h0, .int width_h0])), (a_text_h0, .inr (3, [.ref a_bytes_a_text_h0, .int size_a_text_h0])), (a_bytes_a_text_h0, .inl (cB, n_a_bytes_a_text_h0, .inl b_a_bytes_a_text_h0))]) hr (zb_n zb1) d_Sc_isFinite_136 [0, 1, 2] rfl (by decide) ⟨rfl, zb1, rfl⟩
  · replace h := it_t c4 h
    refine j_aload_n d_Sc_isFinite_109 rfl 4 rfl ?_
    refine j_iload d_Sc_isFinite_110 2 rfl ?_
    refine j_iload_n d_Sc_isFinite_112 rfl 5 rfl ?_
    replace h := bd_s h
    obtain ⟨r7, k9, h⟩ := h
    refine j_callV (n := 2) (As := [.int v4_82, .int p1]) (rest := []) (wr := []) (c_Sc_isBelowTooLarge l D cI cB cJ cS h0 a_text_h0 a_bytes_a_text_h0 v4_82 p1 next_h0 kind_h0 start_h0 width_h0 size_a_text_h0 n_a_bytes_a_text_h0 b_a_bytes_a_text_h0  r7 k9) k_Sc_118 (by decide) ⟨Nat.le_of_ble_eq_true rfl, Nat.le_of_ble_eq_true rfl⟩ rfl 0 rfl [0, 1, 2] [] rfl (by decide) rfl (by decide) (by decide) rfl rfl (Nat.le_of_ble_eq_true rfl) d_Sc_isFinite_113 ⟨Nat.le_of_ble_eq_true rfl, Nat.le_of_ble_eq_true rfl⟩ (fun v w hq => ?_)
    obtain ⟨rfl, z8, rfl⟩ := hq
    refine j_norm (pc' := 116) (st' := [.int r7]) (ws' := [(h0, .inr (4, [.ref a_text_h0, .int next_h0, .int kind_h0, .int start_h0, .int width_h0])), (a_text_h0, .inr (3, [.ref a_bytes_a_text_h0, .int size_a_text_h0])), (a_bytes_a_text_h0, .inl (cB, n_a_bytes_a_text_h0, .inl b_a_bytes_a_text_h0))]) (cl' := 0) (sl' := 0) rfl rfl rfl rfl rfl rfl ?_
    refine j_goto (tgt := 136) d_Sc_isFinite_116 (by decide) ?_
    replace h := Option.some.inj h
    subst h
    exact j_zret (w := [(h0, .inr (4, [.ref a_text_h0, .int next_h0, .int kind_h0, .int start_h0, .int width_h0])), (a_text_h0, .inr (3, [.ref a_bytes_a_text_h0, .int size_a_text_h0])), (a_bytes_a_text_h0, .inl (cB, n_a_bytes_a_text_h0, .inl b_a_bytes_a_text_h0))]) hr (zb_n z8) d_Sc_isFinite_136 [0, 1, 2] rfl (by decide) ⟨rfl, z8, rfl⟩
set_option maxHeartbeats 4000000 in
set_option maxRecDepth 100000 in
theorem L_Sc_isFinite_55 (l : Launch) (D : va_G) (cI cB cJ cS : ClassId) (h0 : Nat) (a_text_h0 : Nat) (a_bytes_a_text_h0 : Nat) (p1 : Int32) (p2 : Int32) (next_h0 : Int32) (kind_h0 : Int32) (start_h0 : Int32) (width_h0 : Int32) (size_a_text_h0 : Int32) (n_a_bytes_a_text_h0 : Nat) (b_a_bytes_a_text_h0 : Nat → Int32) (ret : Int32) (p : Program) (e : Env) (s : State) (m : MethodId) (below : List Frame) (meth : Method) (c : Code) (hr : meth.sig.returnType = (Option.some Jvm.ClassFile.FieldType.boolean)) (hnm : meth.name = y_Sc_isFinite.name) : ∀ (v4_55 : Int32) (v3_55 : Int32), F_Sc_isFinite_55 p1 p2 next_h0 kind_h0 start_h0 width_h0 size_a_text_h0 n_a_bytes_a_text_h0 b_a_bytes_a_text_h0   v4_55 v3_55 = some ret → J (KxOf p l e { frames := 5, cells := 0, slots := 0, locals := 110 } s m [.ref h0, .int p1, .int p2].toArray below meth c D (gT cI cB cJ cS) [(h0, .inr (4, [.ref a_text_h0, .int next_h0, .int kind_h0, .int start_h0, .int width_h0])), (a_text_h0, .inr (3, [.ref a_bytes_a_text_h0, .int size_a_text_h0])), (a_bytes_a_text_h0, .inl (cB, n_a_bytes_a_text_h0, .inl b_a_bytes_a_text_h0))] (fun v w => v = some (.int ret) ∧ zb ret ∧ w = [(h0, .inr (4, [.ref a_text_h0, .int next_h0, .int kind_h0, .int start_h0, .int width_h0])), (a_text_h0, .inr (3, [.ref a_bytes_a_text_h0, .int size_a_text_h0])), (a_bytes_a_text_h0, .inl (cB, n_a_bytes_a_text_h0, .inl b_a_bytes_a_text_h0))]) 0 0) prog_8_method_18_code 8 R_Sc 55 [(4, .int v4_55), (3, .int v3_55), (0, .ref h0), (1, .int p1), (2, .int p2)] [] [(h0, .inr (4, [.ref a_text_h0, .int next_h0, .int kind_h0, .int start_h0, .int width_h0])), (a_text_h0, .inr (3, [.ref a_bytes_a_text_h0, .int size_a_text_h0])), (a_bytes_a_text_h0, .inl (cB, n_a_bytes_a_text_h0, .inl b_a_bytes_a_text_h0))] 0 0 := by
  intro v4_55 v3_55 h
  unfold F_Sc_isFinite_55 at h
  refine j_iload d_Sc_isFinite_55 0 rfl ?_
  refine j_iload_n d_Sc_isFinite_57 rfl 3 rfl ?_
  refine j_icmp_ne (tgt := 63) d_Sc_isFinite_58 (by decide) (fun c10 => ?_) (fun c10 => ?_)
  · replace h := it_f c10 h
    refine j_iload d_Sc_isFinite_63 0 rfl ?_
    refine j_iload_n d_Sc_isFinite_65 rfl 1 rfl ?_
    refine j_icmp_ge (tgt := 76) d_Sc_isFinite_66 (by decide) (fun c11 => ?_) (fun c11 => ?_)
    · replace h := it_t c11 h
      refine j_iload_n d_Sc_isFinite_76 rfl 1 rfl ?_
      refine j_iconst (v := 1) d_Sc_isFinite_77 (by decide) ?_
      refine j_iadd d_Sc_isFinite_78 ?_
      refine j_iload d_Sc_isFinite_79 0 rfl ?_
      refine j_isub d_Sc_isFinite_81 ?_
      refine j_sub (w := [(h0, .inr (4, [.ref a_text_h0, .int next_h0, .int kind_h0, .int start_h0, .int width_h0])), (a_text_h0, .inr (3, [.ref a_bytes_a_text_h0, .int size_a_text_h0])), (a_bytes_a_text_h0, .inl (cB, n_a_bytes_a_text_h0, .inl b_a_bytes_a_text_h0))]) (lv' := [(4, .int v4_55), (3, .int v3_55), (0, .ref h0), (1, .int p1), (2, .int p2)]) [0, 1, 2] rfl (by decide) [0, 1, 2, 3, 4] rfl ?_
      exact L_Sc_isFinite_82 l D cI cB cJ cS h0 a_text_h0 a_bytes_a_text_h0 p1 p2 next_h0 kind_h0 start_h0 width_h0 size_a_text_h0 n_a_bytes_a_text_h0 b_a_bytes_a_text_h0 ret p e s m below meth c hr hnm v4_55 v3_55 ((v3_55 + 1) - v4_55) h
    · replace h := it_f c11 h
      refine j_iload_n d_Sc_isFinite_69 rfl 1 rfl ?_
      refine j_iload d_Sc_isFinite_70 0 rfl ?_
      refine j_isub d_Sc_isFinite_72 ?_
      refine j_goto (tgt := 82) d_Sc_isFinite_73 (by decide) ?_
      refine j_sub (w := [(h0, .inr (4, [.ref a_text_h0, .int next_h0, .int kind_h0, .int start_h0, .int width_h0])), (a_text_h0, .inr (3, [.ref a_bytes_a_text_h0, .int size_a_text_h0])), (a_bytes_a_text_h0, .inl (cB, n_a_bytes_a_text_h0, .inl b_a_bytes_a_text_h0))]) (lv' := [(4, .int v4_55), (3, .int v3_55), (0, .ref h0), (1, .int p1), (2, .int p2)]) [0, 1, 2] rfl (by decide) [0, 1, 2, 3, 4] rfl ?_
      exact L_Sc_isFinite_82 l D cI cB cJ cS h0 a_text_h0 a_bytes_a_text_h0 p1 p2 next_h0 kind_h0 start_h0 width_h0 size_a_text_h0 n_a_bytes_a_text_h0 b_a_bytes_a_text_h0 ret p e s m below meth c hr hnm v4_55 v3_55 (v3_55 - v4_55) h
  · replace h := it_t c10 h
    refine j_iconst (v := 1) d_Sc_isFinite_61 (by decide) ?_
    replace h := Option.some.inj h
    subst h
    exact j_zret (w := [(h0, .inr (4, [.ref a_text_h0, .int next_h0, .int kind_h0, .int start_h0, .int width_h0])), (a_text_h0, .inr (3, [.ref a_bytes_a_text_h0, .int size_a_text_h0])), (a_bytes_a_text_h0, .inl (cB, n_a_bytes_a_text_h0, .inl b_a_bytes_a_text_h0))]) hr (zb_n zb1) d_Sc_isFinite_62 [0, 1, 2] rfl (by decide) ⟨rfl, zb1, rfl⟩
set_option maxHeartbeats 4000000 in
set_option maxRecDepth 100000 in
theorem L_Sc_isFinite_15 (l : Launch) (D : va_G) (cI cB cJ cS : ClassId) (h0 : Nat) (a_text_h0 : Nat) (a_bytes_a_text_h0 : Nat) (p1 : Int32) (p2 : Int32) (next_h0 : Int32) (kind_h0 : Int32) (start_h0 : Int32) (width_h0 : Int32) (size_a_text_h0 : Int32) (n_a_bytes_a_text_h0 : Nat) (b_a_bytes_a_text_h0 : Nat → Int32) (ret : Int32) (p : Program) (e : Env) (s : State) (m : MethodId) (below : List Frame) (meth : Method) (c : Code) (hr : meth.sig.returnType = (Option.some Jvm.ClassFile.FieldType.boolean)) (hnm : meth.name = y_Sc_isFinite.name) : ∀ (k_15 : Nat) (v4_15 : Int32) (v3_15 : Int32), F_Sc_isFinite_15 p1 p2 next_h0 kind_h0 start_h0 width_h0 size_a_text_h0 n_a_bytes_a_text_h0 b_a_bytes_a_text_h0  k_15 v4_15 v3_15 = some ret → J (KxOf p l e { frames := 5, cells := 0, slots := 0, locals := 110 } s m [.ref h0, .int p1, .int p2].toArray below meth c D (gT cI cB cJ cS) [(h0, .inr (4, [.ref a_text_h0, .int next_h0, .int kind_h0, .int start_h0, .int width_h0])), (a_text_h0, .inr (3, [.ref a_bytes_a_text_h0, .int size_a_text_h0])), (a_bytes_a_text_h0, .inl (cB, n_a_bytes_a_text_h0, .inl b_a_bytes_a_text_h0))] (fun v w => v = some (.int ret) ∧ zb ret ∧ w = [(h0, .inr (4, [.ref a_text_h0, .int next_h0, .int kind_h0, .int start_h0, .int width_h0])), (a_text_h0, .inr (3, [.ref a_bytes_a_text_h0, .int size_a_text_h0])), (a_bytes_a_text_h0, .inl (cB, n_a_bytes_a_text_h0, .inl b_a_bytes_a_text_h0))]) 0 0) prog_8_method_18_code 8 R_Sc 15 [(4, .int v4_15), (3, .int v3_15), (0, .ref h0), (1, .int p1), (2, .int p2)] [] [(h0, .inr (4, [.ref a_text_h0, .int next_h0, .int kind_h0, .int start_h0, .int width_h0])), (a_text_h0, .inr (3, [.ref a_bytes_a_text_h0, .int size_a_text_h0])), (a_bytes_a_text_h0, .inl (cB, n_a_bytes_a_text_h0, .inl b_a_bytes_a_text_h0))] 0 0 := by
  intro k_15
  induction k_15 with
  | zero => intro v4_15 v3_15 h; rw [F_Sc_isFinite_15] at h; cases h
  | succ k_15 ih_15 =>
    intro v4_15 v3_15 h
    rw [F_Sc_isFinite_15] at h
    refine j_iload d_Sc_isFinite_15 0 rfl ?_
    refine j_iload_n d_Sc_isFinite_17 rfl 3 rfl ?_
    refine j_icmp_ge (tgt := 55) d_Sc_isFinite_18 (by decide) (fun c12 => ?_) (fun c12 => ?_)
    · replace h := it_t c12 h
      refine j_sub (w := [(h0, .inr (4, [.ref a_text_h0, .int next_h0, .int kind_h0, .int start_h0, .int width_h0])), (a_text_h0, .inr (3, [.ref a_bytes_a_text_h0, .int size_a_text_h0])), (a_bytes_a_text_h0, .inl (cB, n_a_bytes_a_text_h0, .inl b_a_bytes_a_text_h0))]) (lv' := [(4, .int v4_15), (3, .int v3_15), (0, .ref h0), (1, .int p1), (2, .int p2)]) [0, 1, 2] rfl (by decide) [0, 1, 2, 3, 4] rfl ?_
      exact L_Sc_isFinite_55 l D cI cB cJ cS h0 a_text_h0 a_bytes_a_text_h0 p1 p2 next_h0 kind_h0 start_h0 width_h0 size_a_text_h0 n_a_bytes_a_text_h0 b_a_bytes_a_text_h0 ret p e s m below meth c hr hnm v4_15 v3_15 h
    · replace h := it_f c12 h
      refine j_aload_n d_Sc_isFinite_21 rfl 2 rfl ?_
      refine j_get ig_Sc rfl 0 rfl 0 (by decide) rfl m_57 rfl d_Sc_isFinite_22 ?_
      refine j_iload d_Sc_isFinite_25 0 rfl ?_
      replace h := bd_s h
      obtain ⟨r13, k14, h⟩ := h
      refine j_callV (n := 1) (As := [.int v4_15]) (rest := []) (wr := [(h0, .inr (4, [.ref a_text_h0, .int next_h0, .int kind_h0, .int start_h0, .int width_h0]))]) (c_Rw_at l D cI cB cJ cS a_text_h0 a_bytes_a_text_h0 v4_15 size_a_text_h0 n_a_bytes_a_text_h0 b_a_bytes_a_text_h0  r13 k14) k_Sc_34 (by decide) ⟨Nat.le_of_ble_eq_true rfl, Nat.le_of_ble_eq_true rfl⟩ rfl 0 rfl [1, 2] [0] rfl (by decide) rfl (by decide) (by decide) rfl rfl (Nat.le_of_ble_eq_true rfl) d_Sc_isFinite_27 ⟨Nat.le_of_ble_eq_true rfl, Nat.le_of_ble_eq_true rfl⟩ (fun v w hq => ?_)
      obtain ⟨rfl, rfl⟩ := hq
      refine j_norm (pc' := 30) (st' := [.int r13]) (ws' := [(h0, .inr (4, [.ref a_text_h0, .int next_h0, .int kind_h0, .int start_h0, .int width_h0])), (a_text_h0, .inr (3, [.ref a_bytes_a_text_h0, .int size_a_text_h0])), (a_bytes_a_text_h0, .inl (cB, n_a_bytes_a_text_h0, .inl b_a_bytes_a_text_h0))]) (cl' := 0) (sl' := 0) rfl rfl rfl rfl rfl rfl ?_
      refine j_bipush (v := 48) d_Sc_isFinite_30 (by decide) ?_
      refine j_icmp_eq (tgt := 49) d_Sc_isFinite_32 (by decide) (fun c15 => ?_) (fun c15 => ?_)
      · replace h := it_t c15 h
        refine j_iinc (v := v4_15 + 1) (lv' := [(4, .int (v4_15 + 1)), (3, .int v3_15), (0, .ref h0), (1, .int p1), (2, .int p2)]) d_Sc_isFinite_49 0 rfl rfl (by decide) rfl ?_
        refine j_goto (tgt := 15) d_Sc_isFinite_52 (by decide) ?_
        refine j_sub (w := [(h0, .inr (4, [.ref a_text_h0, .int next_h0, .int kind_h0, .int start_h0, .int width_h0])), (a_text_h0, .inr (3, [.ref a_bytes_a_text_h0, .int size_a_text_h0])), (a_bytes_a_text_h0, .inl (cB, n_a_bytes_a_text_h0, .inl b_a_bytes_a_text_h0))]) (lv' := [(4, .int (v4_15 + 1)), (3, .int v3_15), (0, .ref h0), (1, .int p1), (2, .int p2)]) [0, 1, 2] rfl (by decide) [0, 1, 2, 3, 4] rfl ?_
        exact ih_15 (v4_15 + 1) v3_15 h
      · replace h := it_f c15 h
        refine j_aload_n d_Sc_isFinite_35 rfl 2 rfl ?_
        refine j_get ig_Sc rfl 0 rfl 0 (by decide) rfl m_57 rfl d_Sc_isFinite_36 ?_
        refine j_iload d_Sc_isFinite_39 0 rfl ?_
        replace h := bd_s h
        obtain ⟨r16, k17, h⟩ := h
        refine j_callV (n := 1) (As := [.int v4_15]) (rest := []) (wr := [(h0, .inr (4, [.ref a_text_h0, .int next_h0, .int kind_h0, .int start_h0, .int width_h0]))]) (c_Rw_at l D cI cB cJ cS a_text_h0 a_bytes_a_text_h0 v4_15 size_a_text_h0 n_a_bytes_a_text_h0 b_a_bytes_a_text_h0  r16 k17) k_Sc_34 (by decide) ⟨Nat.le_of_ble_eq_true rfl, Nat.le_of_ble_eq_true rfl⟩ rfl 0 rfl [1, 2] [0] rfl (by decide) rfl (by decide) (by decide) rfl rfl (Nat.le_of_ble_eq_true rfl) d_Sc_isFinite_41 ⟨Nat.le_of_ble_eq_true rfl, Nat.le_of_ble_eq_true rfl⟩ (fun v w hq => ?_)
        obtain ⟨rfl, rfl⟩ := hq
        refine j_norm (pc' := 44) (st' := [.int r16]) (ws' := [(h0, .inr (4, [.ref a_text_h0, .int next_h0, .int kind_h0, .int start_h0, .int width_h0])), (a_text_h0, .inr (3, [.ref a_bytes_a_text_h0, .int size_a_text_h0])), (a_bytes_a_text_h0, .inl (cB, n_a_bytes_a_text_h0, .inl b_a_bytes_a_text_h0))]) (cl' := 0) (sl' := 0) rfl rfl rfl rfl rfl rfl ?_
        refine j_bipush (v := 46) d_Sc_isFinite_44 (by decide) ?_
        refine j_icmp_ne (tgt := 55) d_Sc_isFinite_46 (by decide) (fun c18 => ?_) (fun c18 => ?_)
        · replace h := it_f c18 h
          refine j_sub (w := [(h0, .inr (4, [.ref a_text_h0, .int next_h0, .int kind_h0, .int start_h0, .int width_h0])), (a_text_h0, .inr (3, [.ref a_bytes_a_text_h0, .int size_a_text_h0])), (a_bytes_a_text_h0, .inl (cB, n_a_bytes_a_text_h0, .inl b_a_bytes_a_text_h0))]) (lv' := [(4, .int v4_15), (3, .int v3_15), (0, .ref h0), (1, .int p1), (2, .int p2)]) [0, 1, 2] rfl (by decide) [0, 1, 2, 3, 4] rfl ?_
          exact L_Sc_isFinite_55 l D cI cB cJ cS h0 a_text_h0 a_bytes_a_text_h0 p1 p2 next_h0 kind_h0 start_h0 width_h0 size_a_text_h0 n_a_bytes_a_text_h0 b_a_bytes_a_text_h0 ret p e s m below meth c hr hnm v4_15 v3_15 h
        · replace h := it_t c18 h
          refine j_iinc (v := v4_15 + 1) (lv' := [(4, .int (v4_15 + 1)), (3, .int v3_15), (0, .ref h0), (1, .int p1), (2, .int p2)]) d_Sc_isFinite_49 0 rfl rfl (by decide) rfl ?_
          refine j_goto (tgt := 15) d_Sc_isFinite_52 (by decide) ?_
          refine j_sub (w := [(h0, .inr (4, [.ref a_text_h0, .int next_h0, .int kind_h0, .int start_h0, .int width_h0])), (a_text_h0, .inr (3, [.ref a_bytes_a_text_h0, .int size_a_text_h0])), (a_bytes_a_text_h0, .inl (cB, n_a_bytes_a_text_h0, .inl b_a_bytes_a_text_h0))]) (lv' := [(4, .int (v4_15 + 1)), (3, .int v3_15), (0, .ref h0), (1, .int p1), (2, .int p2)]) [0, 1, 2] rfl (by decide) [0, 1, 2, 3, 4] rfl ?_
          exact ih_15 (v4_15 + 1) v3_15 h
set_option maxHeartbeats 4000000 in
set_option maxRecDepth 100000 in
theorem c_Sc_isFinite (l : Launch) (D : va_G) (cI cB cJ cS : ClassId) (h0 : Nat) (a_text_h0 : Nat) (a_bytes_a_text_h0 : Nat) (p1 : Int32) (p2 : Int32) (next_h0 : Int32) (kind_h0 : Int32) (start_h0 : Int32) (width_h0 : Int32) (size_a_text_h0 : Int32) (n_a_bytes_a_text_h0 : Nat) (b_a_bytes_a_text_h0 : Nat → Int32) (ret : Int32) (h : F_Sc_isFinite p1 p2 next_h0 kind_h0 start_h0 width_h0 size_a_text_h0 n_a_bytes_a_text_h0 b_a_bytes_a_text_h0 = some ret) : Ct l D (gT cI cB cJ cS) y_Sc_isFinite prog_8_method_18_code 8 (Option.some Jvm.ClassFile.FieldType.boolean) 5 110 0 0 [.ref h0, .int p1, .int p2] [(h0, .inr (4, [.ref a_text_h0, .int next_h0, .int kind_h0, .int start_h0, .int width_h0])), (a_text_h0, .inr (3, [.ref a_bytes_a_text_h0, .int size_a_text_h0])), (a_bytes_a_text_h0, .inl (cB, n_a_bytes_a_text_h0, .inl b_a_bytes_a_text_h0))] (fun v w => v = some (.int ret) ∧ zb ret ∧ w = [(h0, .inr (4, [.ref a_text_h0, .int next_h0, .int kind_h0, .int start_h0, .int width_h0])), (a_text_h0, .inr (3, [.ref a_bytes_a_text_h0, .int size_a_text_h0])), (a_bytes_a_text_h0, .inl (cB, n_a_bytes_a_text_h0, .inl b_a_bytes_a_text_h0))]) := by
  refine Ct.mk (by decide) (Nat.le_of_ble_eq_true rfl) ?_
  intro p e s m below meth c hr hnm
  refine j_norm (pc' := 0) (lv' := [(0, .ref h0), (1, .int p1), (2, .int p2)]) (st' := []) (ws' := [(h0, .inr (4, [.ref a_text_h0, .int next_h0, .int kind_h0, .int start_h0, .int width_h0])), (a_text_h0, .inr (3, [.ref a_bytes_a_text_h0, .int size_a_text_h0])), (a_bytes_a_text_h0, .inl (cB, n_a_bytes_a_text_h0, .inl b_a_bytes_a_text_h0))]) (cl' := 0) (sl' := 0) rfl rfl rfl rfl rfl rfl ?_
  unfold F_Sc_isFinite at h
  refine j_aload_n d_Sc_isFinite_0 rfl 0 rfl ?_
  refine j_aload_n d_Sc_isFinite_1 rfl 0 rfl ?_
  refine j_get ig_Sc rfl 0 rfl 3 (by decide) rfl m_60 rfl d_Sc_isFinite_2 ?_
  replace h := bd_s h
  obtain ⟨r19, k20, h⟩ := h
  refine j_callV (n := 1) (As := [.int start_h0]) (rest := []) (wr := []) (c_Sc_digitsEnd l D cI cB cJ cS h0 a_text_h0 a_bytes_a_text_h0 start_h0 next_h0 kind_h0 start_h0 width_h0 size_a_text_h0 n_a_bytes_a_text_h0 b_a_bytes_a_text_h0  r19 k20) k_Sc_106 (by decide) ⟨Nat.le_of_ble_eq_true rfl, Nat.le_of_ble_eq_true rfl⟩ rfl 0 rfl [0, 1, 2] [] rfl (by decide) rfl (by decide) (by decide) rfl rfl (Nat.le_of_ble_eq_true rfl) d_Sc_isFinite_5 ⟨Nat.le_of_ble_eq_true rfl, Nat.le_of_ble_eq_true rfl⟩ (fun v w hq => ?_)
  obtain ⟨rfl, rfl⟩ := hq
  refine j_norm (pc' := 8) (st' := [.int r19]) (ws' := [(h0, .inr (4, [.ref a_text_h0, .int next_h0, .int kind_h0, .int start_h0, .int width_h0])), (a_text_h0, .inr (3, [.ref a_bytes_a_text_h0, .int size_a_text_h0])), (a_bytes_a_text_h0, .inl (cB, n_a_bytes_a_text_h0, .inl b_a_bytes_a_text_h0))]) (cl' := 0) (sl' := 0) rfl rfl rfl rfl rfl rfl ?_
  refine j_istore_n (lv' := [(3, .int r19), (0, .ref h0), (1, .int p1), (2, .int p2)]) d_Sc_isFinite_8 rfl (by decide) rfl ?_
  refine j_aload_n d_Sc_isFinite_9 rfl 1 rfl ?_
  refine j_get ig_Sc rfl 0 rfl 3 (by decide) rfl m_60 rfl d_Sc_isFinite_10 ?_
  refine j_istore (lv' := [(4, .int start_h0), (3, .int r19), (0, .ref h0), (1, .int p1), (2, .int p2)]) d_Sc_isFinite_13 (by decide) rfl ?_
  refine j_sub (w := [(h0, .inr (4, [.ref a_text_h0, .int next_h0, .int kind_h0, .int start_h0, .int width_h0])), (a_text_h0, .inr (3, [.ref a_bytes_a_text_h0, .int size_a_text_h0])), (a_bytes_a_text_h0, .inl (cB, n_a_bytes_a_text_h0, .inl b_a_bytes_a_text_h0))]) (lv' := [(4, .int start_h0), (3, .int r19), (0, .ref h0), (1, .int p1), (2, .int p2)]) [0, 1, 2] rfl (by decide) [0, 1, 2, 3, 4] rfl ?_
  exact L_Sc_isFinite_15 l D cI cB cJ cS h0 a_text_h0 a_bytes_a_text_h0 p1 p2 next_h0 kind_h0 start_h0 width_h0 size_a_text_h0 n_a_bytes_a_text_h0 b_a_bytes_a_text_h0 ret p e s m below meth c hr hnm FU start_h0 r19 h
noncomputable def F_Wr_putOperation_17 (p1 : Int32) (indent_h0 : Int32) (fits_h0 : Int32) (count_a_tree_h0 : Int32) (n_a_cells_a_tree_h0 : Nat) (b_a_cells_a_tree_h0 : Nat → Int32) (size_a_source_h0 : Int32) (n_a_bytes_a_source_h0 : Nat) (b_a_bytes_a_source_h0 : Nat → Int32) (size_a_form_h0 : Int32) (n_a_bytes_a_form_h0 : Nat) (b_a_bytes_a_form_h0 : Nat → Int32) (t0_17 : Nat) : Option ((Int32 × Int32 × Nat × (Nat → Int32)) × Nat × Nat) :=
    bw (F_Wr_put t0_17 indent_h0 fits_h0 size_a_form_h0 n_a_bytes_a_form_h0 b_a_bytes_a_form_h0) fun ⟨r1, r2, r3, r4⟩ =>
    bw (F_Wr_putToken p1 indent_h0 r1 count_a_tree_h0 n_a_cells_a_tree_h0 b_a_cells_a_tree_h0 size_a_source_h0 n_a_bytes_a_source_h0 b_a_bytes_a_source_h0 r2 r3 r4) fun ⟨r11, r12, r13, r14⟩ =>
    bw (F_Wr_put t0_17 indent_h0 r11 r12 r13 r14) fun ⟨r21, r22, r23, r24⟩ =>
    (some ((r21, r22, r23, r24), 0, 0))
noncomputable def F_Wr_putOperation (p1 : Int32) (indent_h0 : Int32) (fits_h0 : Int32) (count_a_tree_h0 : Int32) (n_a_cells_a_tree_h0 : Nat) (b_a_cells_a_tree_h0 : Nat → Int32) (size_a_source_h0 : Int32) (n_a_bytes_a_source_h0 : Nat) (b_a_bytes_a_source_h0 : Nat → Int32) (size_a_form_h0 : Int32) (n_a_bytes_a_form_h0 : Nat) (b_a_bytes_a_form_h0 : Nat → Int32) : Option ((Int32 × Int32 × Nat × (Nat → Int32)) × Nat × Nat) :=
  Option.bind (F_Wr_rank p1 indent_h0 fits_h0 count_a_tree_h0 n_a_cells_a_tree_h0 b_a_cells_a_tree_h0 size_a_source_h0 n_a_bytes_a_source_h0 b_a_bytes_a_source_h0) fun r31 =>
  if r31 = 8 then (F_Wr_putOperation_17 p1 indent_h0 fits_h0 count_a_tree_h0 n_a_cells_a_tree_h0 b_a_cells_a_tree_h0 size_a_source_h0 n_a_bytes_a_source_h0 b_a_bytes_a_source_h0 size_a_form_h0 n_a_bytes_a_form_h0 b_a_bytes_a_form_h0   16)
  else (F_Wr_putOperation_17 p1 indent_h0 fits_h0 count_a_tree_h0 n_a_cells_a_tree_h0 b_a_cells_a_tree_h0 size_a_source_h0 n_a_bytes_a_source_h0 b_a_bytes_a_source_h0 size_a_form_h0 n_a_bytes_a_form_h0 b_a_bytes_a_form_h0   26)
theorem d_Wr_putOperation_0 : decode prog_10_method_12_code 0 = .ok (.aload_n 0, 1) := by decide +kernel
theorem d_Wr_putOperation_1 : decode prog_10_method_12_code 1 = .ok (.iload_n 1, 1) := by decide +kernel
theorem d_Wr_putOperation_2 : decode prog_10_method_12_code 2 = .ok (.invokevirtual 145, 3) := by decide +kernel
theorem d_Wr_putOperation_5 : decode prog_10_method_12_code 5 = .ok (.bipush 8, 2) := by decide +kernel
theorem d_Wr_putOperation_7 : decode prog_10_method_12_code 7 = .ok (.if_icmp .ne 8, 3) := by decide +kernel
theorem d_Wr_putOperation_10 : decode prog_10_method_12_code 10 = .ok (.ldc 110, 2) := by decide +kernel
theorem d_Wr_putOperation_12 : decode prog_10_method_12_code 12 = .ok (.goto 5, 3) := by decide +kernel
theorem d_Wr_putOperation_15 : decode prog_10_method_12_code 15 = .ok (.ldc 150, 2) := by decide +kernel
theorem d_Wr_putOperation_17 : decode prog_10_method_12_code 17 = .ok (.astore_n 2, 1) := by decide +kernel
theorem d_Wr_putOperation_18 : decode prog_10_method_12_code 18 = .ok (.aload_n 0, 1) := by decide +kernel
theorem d_Wr_putOperation_19 : decode prog_10_method_12_code 19 = .ok (.aload_n 2, 1) := by decide +kernel
theorem d_Wr_putOperation_20 : decode prog_10_method_12_code 20 = .ok (.invokevirtual 77, 3) := by decide +kernel
theorem d_Wr_putOperation_23 : decode prog_10_method_12_code 23 = .ok (.aload_n 0, 1) := by decide +kernel
theorem d_Wr_putOperation_24 : decode prog_10_method_12_code 24 = .ok (.iload_n 1, 1) := by decide +kernel
theorem d_Wr_putOperation_25 : decode prog_10_method_12_code 25 = .ok (.invokevirtual 152, 3) := by decide +kernel
theorem d_Wr_putOperation_28 : decode prog_10_method_12_code 28 = .ok (.aload_n 0, 1) := by decide +kernel
theorem d_Wr_putOperation_29 : decode prog_10_method_12_code 29 = .ok (.aload_n 2, 1) := by decide +kernel
theorem d_Wr_putOperation_30 : decode prog_10_method_12_code 30 = .ok (.invokevirtual 77, 3) := by decide +kernel
theorem d_Wr_putOperation_33 : decode prog_10_method_12_code 33 = .ok (.return_, 1) := by decide +kernel
set_option maxHeartbeats 4000000 in
set_option maxRecDepth 100000 in
theorem L_Wr_putOperation_17 (l : Launch) (D : va_G) (cI cB cJ cS : ClassId) (h0 : Nat) (a_tree_h0 : Nat) (a_source_h0 : Nat) (a_form_h0 : Nat) (a_cells_a_tree_h0 : Nat) (a_bytes_a_source_h0 : Nat) (a_bytes_a_form_h0 : Nat) (p1 : Int32) (indent_h0 : Int32) (fits_h0 : Int32) (count_a_tree_h0 : Int32) (n_a_cells_a_tree_h0 : Nat) (b_a_cells_a_tree_h0 : Nat → Int32) (size_a_source_h0 : Int32) (n_a_bytes_a_source_h0 : Nat) (b_a_bytes_a_source_h0 : Nat → Int32) (size_a_form_h0 : Int32) (n_a_bytes_a_form_h0 : Nat) (b_a_bytes_a_form_h0 : Nat → Int32) (o_0_4 : Int32) (o_5_1 : Int32) (on_nq_5_0 : Nat) (ob_nq_5_0 : Nat → Int32) (mc ms : Nat) (p : Program) (e : Env) (s : State) (m : MethodId) (below : List Frame) (meth : Method) (c : Code) (hr : meth.sig.returnType = (Option.none : Option Jvm.ClassFile.FieldType)) (hnm : meth.name = y_Wr_putOperation.name) : ∀ (t0_17 : Nat) (cl_17 sl_17 C_17 S_17 : Nat), F_Wr_putOperation_17 p1 indent_h0 fits_h0 count_a_tree_h0 n_a_cells_a_tree_h0 b_a_cells_a_tree_h0 size_a_source_h0 n_a_bytes_a_source_h0 b_a_bytes_a_source_h0 size_a_form_h0 n_a_bytes_a_form_h0 b_a_bytes_a_form_h0   t0_17 = some ((o_0_4, o_5_1, on_nq_5_0, ob_nq_5_0), C_17, S_17) → cl_17 + C_17 ≤ mc → sl_17 + S_17 ≤ ms → J (KxOf p l e { frames := 5, cells := mc, slots := ms, locals := 127 } s m [.ref h0, .int p1].toArray below meth c D (gT cI cB cJ cS) [(h0, .inr (6, [.ref a_tree_h0, .ref a_source_h0, .ref a_form_h0, .int indent_h0, .int fits_h0])), (a_tree_h0, .inr (1, [.ref a_cells_a_tree_h0, .int count_a_tree_h0])), (a_cells_a_tree_h0, .inl (cI, n_a_cells_a_tree_h0, .inl b_a_cells_a_tree_h0)), (a_source_h0, .inr (3, [.ref a_bytes_a_source_h0, .int size_a_source_h0])), (a_bytes_a_source_h0, .inl (cB, n_a_bytes_a_source_h0, .inl b_a_bytes_a_source_h0)), (a_form_h0, .inr (3, [.ref a_bytes_a_form_h0, .int size_a_form_h0])), (a_bytes_a_form_h0, .inl (cB, n_a_bytes_a_form_h0, .inl b_a_bytes_a_form_h0))] (fun v w => ∃ nq_5_0 : Nat, v = none ∧ w = [(h0, .inr (6, [.ref a_tree_h0, .ref a_source_h0, .ref a_form_h0, .int indent_h0, .int o_0_4])), (a_tree_h0, .inr (1, [.ref a_cells_a_tree_h0, .int count_a_tree_h0])), (a_cells_a_tree_h0, .inl (cI, n_a_cells_a_tree_h0, .inl b_a_cells_a_tree_h0)), (a_source_h0, .inr (3, [.ref a_bytes_a_source_h0, .int size_a_source_h0])), (a_bytes_a_source_h0, .inl (cB, n_a_bytes_a_source_h0, .inl b_a_bytes_a_source_h0)), (a_form_h0, .inr (3, [.ref nq_5_0, .int o_5_1])), (nq_5_0, .inl (cB, on_nq_5_0, .inl ob_nq_5_0))]) mc ms) prog_10_method_12_code 3 R_Wr 17 [(0, .ref h0), (1, .int p1)] [.ref (sA D t0_17)] [(a_form_h0, .inr (3, [.ref a_bytes_a_form_h0, .int size_a_form_h0])), (a_bytes_a_form_h0, .inl (cB, n_a_bytes_a_form_h0, .inl b_a_bytes_a_form_h0)), (h0, .inr (6, [.ref a_tree_h0, .ref a_source_h0, .ref a_form_h0, .int indent_h0, .int fits_h0])), (a_tree_h0, .inr (1, [.ref a_cells_a_tree_h0, .int count_a_tree_h0])), (a_cells_a_tree_h0, .inl (cI, n_a_cells_a_tree_h0, .inl b_a_cells_a_tree_h0)), (a_source_h0, .inr (3, [.ref a_bytes_a_source_h0, .int size_a_source_h0])), (a_bytes_a_source_h0, .inl (cB, n_a_bytes_a_source_h0, .inl b_a_bytes_a_source_h0))] cl_17 sl_17 := by
  intro t0_17 cl_17 sl_17 C_17 S_17 h hC hS
  unfold F_Wr_putOperation_17 at h
  refine j_astore_n (lv' := [(2, .ref (sA D t0_17)), (0, .ref h0), (1, .int p1)]) d_Wr_putOperation_17 rfl (by decide) rfl ?_
  refine j_aload_n d_Wr_putOperation_18 rfl 1 rfl ?_
  refine j_aload_n d_Wr_putOperation_19 rfl 0 rfl ?_
  replace h := bw_s h
  obtain ⟨⟨r1, r2, r3, r4⟩, C6, S7, C8, S9, k10, h, e1, e2⟩ := h
  replace hC : cl_17 + C6 + C8 ≤ mc := by omega
  replace hS : sl_17 + S7 + S9 ≤ ms := by omega
  clear e1 e2
  refine j_callV (n := 1) (As := [.ref (sA D t0_17)]) (rest := []) (wr := [(a_tree_h0, .inr (1, [.ref a_cells_a_tree_h0, .int count_a_tree_h0])), (a_cells_a_tree_h0, .inl (cI, n_a_cells_a_tree_h0, .inl b_a_cells_a_tree_h0)), (a_source_h0, .inr (3, [.ref a_bytes_a_source_h0, .int size_a_source_h0])), (a_bytes_a_source_h0, .inl (cB, n_a_bytes_a_source_h0, .inl b_a_bytes_a_source_h0))]) (c_Wr_put l D cI cB cJ cS h0 a_tree_h0 a_source_h0 a_form_h0 a_bytes_a_form_h0 t0_17 indent_h0 fits_h0 size_a_form_h0 n_a_bytes_a_form_h0 b_a_bytes_a_form_h0  r1 r2 r3 r4 C6 S7 k10) k_Wr_77 (by decide) ⟨Nat.le_of_ble_eq_true rfl, Nat.le_of_ble_eq_true rfl⟩ rfl 0 rfl [2, 0, 1] [3, 4, 5, 6] rfl (by decide) rfl (by decide) (by decide) rfl rfl (Nat.le_of_ble_eq_true rfl) d_Wr_putOperation_20 ⟨show cl_17 + C6 ≤ mc by omega, show sl_17 + S7 ≤ ms by omega⟩ (fun v w hq => ?_)
  obtain ⟨q5, rfl, rfl⟩ := hq
  refine j_norm (pc' := 23) (st' := []) (ws' := [(a_tree_h0, .inr (1, [.ref a_cells_a_tree_h0, .int count_a_tree_h0])), (a_cells_a_tree_h0, .inl (cI, n_a_cells_a_tree_h0, .inl b_a_cells_a_tree_h0)), (a_source_h0, .inr (3, [.ref a_bytes_a_source_h0, .int size_a_source_h0])), (a_bytes_a_source_h0, .inl (cB, n_a_bytes_a_source_h0, .inl b_a_bytes_a_source_h0)), (h0, .inr (6, [.ref a_tree_h0, .ref a_source_h0, .ref a_form_h0, .int indent_h0, .int r1])), (a_form_h0, .inr (3, [.ref q5, .int r2])), (q5, .inl (cB, r3, .inl r4))]) (cl' := cl_17 + C6) (sl' := sl_17 + S7) rfl rfl rfl rfl rfl rfl ?_
  refine j_aload_n d_Wr_putOperation_23 rfl 1 rfl ?_
  refine j_iload_n d_Wr_putOperation_24 rfl 2 rfl ?_
  replace h := bw_s h
  obtain ⟨⟨r11, r12, r13, r14⟩, C16, S17, C18, S19, k20, h, e1, e2⟩ := h
  replace hC : cl_17 + C6 + C16 + C18 ≤ mc := by omega
  replace hS : sl_17 + S7 + S17 + S19 ≤ ms := by omega
  clear e1 e2
  refine j_callV (n := 1) (As := [.int p1]) (rest := []) (wr := []) (c_Wr_putToken l D cI cB cJ cS h0 a_tree_h0 a_source_h0 a_form_h0 a_cells_a_tree_h0 a_bytes_a_source_h0 q5 p1 indent_h0 r1 count_a_tree_h0 n_a_cells_a_tree_h0 b_a_cells_a_tree_h0 size_a_source_h0 n_a_bytes_a_source_h0 b_a_bytes_a_source_h0 r2 r3 r4  r11 r12 r13 r14 C16 S17 k20) k_Wr_152 (by decide) ⟨Nat.le_of_ble_eq_true rfl, Nat.le_of_ble_eq_true rfl⟩ rfl 0 rfl [4, 0, 1, 2, 3, 5, 6] [] rfl (by decide) rfl (by decide) (by decide) rfl rfl (Nat.le_of_ble_eq_true rfl) d_Wr_putOperation_25 ⟨show cl_17 + C6 + C16 ≤ mc by omega, show sl_17 + S7 + S17 ≤ ms by omega⟩ (fun v w hq => ?_)
  obtain ⟨q15, rfl, rfl⟩ := hq
  refine j_norm (pc' := 28) (st' := []) (ws' := [(h0, .inr (6, [.ref a_tree_h0, .ref a_source_h0, .ref a_form_h0, .int indent_h0, .int r11])), (a_tree_h0, .inr (1, [.ref a_cells_a_tree_h0, .int count_a_tree_h0])), (a_cells_a_tree_h0, .inl (cI, n_a_cells_a_tree_h0, .inl b_a_cells_a_tree_h0)), (a_source_h0, .inr (3, [.ref a_bytes_a_source_h0, .int size_a_source_h0])), (a_bytes_a_source_h0, .inl (cB, n_a_bytes_a_source_h0, .inl b_a_bytes_a_source_h0)), (a_form_h0, .inr (3, [.ref q15, .int r12])), (q15, .inl (cB, r13, .inl r14))]) (cl' := cl_17 + C6 + C16) (sl' := sl_17 + S7 + S17) rfl rfl rfl rfl rfl rfl ?_
  refine j_aload_n d_Wr_putOperation_28 rfl 1 rfl ?_
  refine j_aload_n d_Wr_putOperation_29 rfl 0 rfl ?_
  replace h := bw_s h
  obtain ⟨⟨r21, r22, r23, r24⟩, C26, S27, C28, S29, k30, h, e1, e2⟩ := h
  replace hC : cl_17 + C6 + C16 + C26 + C28 ≤ mc := by omega
  replace hS : sl_17 + S7 + S17 + S27 + S29 ≤ ms := by omega
  clear e1 e2
  refine j_callV (n := 1) (As := [.ref (sA D t0_17)]) (rest := []) (wr := [(a_tree_h0, .inr (1, [.ref a_cells_a_tree_h0, .int count_a_tree_h0])), (a_cells_a_tree_h0, .inl (cI, n_a_cells_a_tree_h0, .inl b_a_cells_a_tree_h0)), (a_source_h0, .inr (3, [.ref a_bytes_a_source_h0, .int size_a_source_h0])), (a_bytes_a_source_h0, .inl (cB, n_a_bytes_a_source_h0, .inl b_a_bytes_a_source_h0))]) (c_Wr_put l D cI cB cJ cS h0 a_tree_h0 a_source_h0 a_form_h0 q15 t0_17 indent_h0 r11 r12 r13 r14  r21 r22 r23 r24 C26 S27 k30) k_Wr_77 (by decide) ⟨Nat.le_of_ble_eq_true rfl, Nat.le_of_ble_eq_true rfl⟩ rfl 0 rfl [0, 5, 6] [1, 2, 3, 4] rfl (by decide) rfl (by decide) (by decide) rfl rfl (Nat.le_of_ble_eq_true rfl) d_Wr_putOperation_30 ⟨show cl_17 + C6 + C16 + C26 ≤ mc by omega, show sl_17 + S7 + S17 + S27 ≤ ms by omega⟩ (fun v w hq => ?_)
  obtain ⟨q25, rfl, rfl⟩ := hq
  refine j_norm (pc' := 33) (st' := []) (ws' := [(a_tree_h0, .inr (1, [.ref a_cells_a_tree_h0, .int count_a_tree_h0])), (a_cells_a_tree_h0, .inl (cI, n_a_cells_a_tree_h0, .inl b_a_cells_a_tree_h0)), (a_source_h0, .inr (3, [.ref a_bytes_a_source_h0, .int size_a_source_h0])), (a_bytes_a_source_h0, .inl (cB, n_a_bytes_a_source_h0, .inl b_a_bytes_a_source_h0)), (h0, .inr (6, [.ref a_tree_h0, .ref a_source_h0, .ref a_form_h0, .int indent_h0, .int r21])), (a_form_h0, .inr (3, [.ref q25, .int r22])), (q25, .inl (cB, r23, .inl r24))]) (cl' := cl_17 + C6 + C16 + C26) (sl' := sl_17 + S7 + S17 + S27) rfl rfl rfl rfl rfl rfl ?_
  replace h := lf_s h
  obtain ⟨h, e1, e2⟩ := h
  replace h := Prod.mk.inj h
  obtain ⟨h9, h⟩ := h
  subst h9
  replace h := Prod.mk.inj h
  obtain ⟨h9, h⟩ := h
  subst h9
  replace h := Prod.mk.inj h
  obtain ⟨h9, h⟩ := h
  subst h9
  subst h
  refine j_widen (cl' := mc) (sl' := ms) (by omega) (by omega) ?_
  exact j_vret (w := [(h0, .inr (6, [.ref a_tree_h0, .ref a_source_h0, .ref a_form_h0, .int indent_h0, .int r21])), (a_tree_h0, .inr (1, [.ref a_cells_a_tree_h0, .int count_a_tree_h0])), (a_cells_a_tree_h0, .inl (cI, n_a_cells_a_tree_h0, .inl b_a_cells_a_tree_h0)), (a_source_h0, .inr (3, [.ref a_bytes_a_source_h0, .int size_a_source_h0])), (a_bytes_a_source_h0, .inl (cB, n_a_bytes_a_source_h0, .inl b_a_bytes_a_source_h0)), (a_form_h0, .inr (3, [.ref q25, .int r22])), (q25, .inl (cB, r23, .inl r24))]) hr d_Wr_putOperation_33 [4, 0, 1, 2, 3, 5, 6] rfl (by decide) ⟨q25, rfl, rfl⟩
set_option maxHeartbeats 4000000 in
set_option maxRecDepth 100000 in
theorem c_Wr_putOperation (l : Launch) (D : va_G) (cI cB cJ cS : ClassId) (h0 : Nat) (a_tree_h0 : Nat) (a_source_h0 : Nat) (a_form_h0 : Nat) (a_cells_a_tree_h0 : Nat) (a_bytes_a_source_h0 : Nat) (a_bytes_a_form_h0 : Nat) (p1 : Int32) (indent_h0 : Int32) (fits_h0 : Int32) (count_a_tree_h0 : Int32) (n_a_cells_a_tree_h0 : Nat) (b_a_cells_a_tree_h0 : Nat → Int32) (size_a_source_h0 : Int32) (n_a_bytes_a_source_h0 : Nat) (b_a_bytes_a_source_h0 : Nat → Int32) (size_a_form_h0 : Int32) (n_a_bytes_a_form_h0 : Nat) (b_a_bytes_a_form_h0 : Nat → Int32) (o_0_4 : Int32) (o_5_1 : Int32) (on_nq_5_0 : Nat) (ob_nq_5_0 : Nat → Int32) (mc ms : Nat) (h : F_Wr_putOperation p1 indent_h0 fits_h0 count_a_tree_h0 n_a_cells_a_tree_h0 b_a_cells_a_tree_h0 size_a_source_h0 n_a_bytes_a_source_h0 b_a_bytes_a_source_h0 size_a_form_h0 n_a_bytes_a_form_h0 b_a_bytes_a_form_h0 = some ((o_0_4, o_5_1, on_nq_5_0, ob_nq_5_0), mc, ms)) : Ct l D (gT cI cB cJ cS) y_Wr_putOperation prog_10_method_12_code 3 (Option.none : Option Jvm.ClassFile.FieldType) 5 127 mc ms [.ref h0, .int p1] [(h0, .inr (6, [.ref a_tree_h0, .ref a_source_h0, .ref a_form_h0, .int indent_h0, .int fits_h0])), (a_tree_h0, .inr (1, [.ref a_cells_a_tree_h0, .int count_a_tree_h0])), (a_cells_a_tree_h0, .inl (cI, n_a_cells_a_tree_h0, .inl b_a_cells_a_tree_h0)), (a_source_h0, .inr (3, [.ref a_bytes_a_source_h0, .int size_a_source_h0])), (a_bytes_a_source_h0, .inl (cB, n_a_bytes_a_source_h0, .inl b_a_bytes_a_source_h0)), (a_form_h0, .inr (3, [.ref a_bytes_a_form_h0, .int size_a_form_h0])), (a_bytes_a_form_h0, .inl (cB, n_a_bytes_a_form_h0, .inl b_a_bytes_a_form_h0))] (fun v w => ∃ nq_5_0 : Nat, v = none ∧ w = [(h0, .inr (6, [.ref a_tree_h0, .ref a_source_h0, .ref a_form_h0, .int indent_h0, .int o_0_4])), (a_tree_h0, .inr (1, [.ref a_cells_a_tree_h0, .int count_a_tree_h0])), (a_cells_a_tree_h0, .inl (cI, n_a_cells_a_tree_h0, .inl b_a_cells_a_tree_h0)), (a_source_h0, .inr (3, [.ref a_bytes_a_source_h0, .int size_a_source_h0])), (a_bytes_a_source_h0, .inl (cB, n_a_bytes_a_source_h0, .inl b_a_bytes_a_source_h0)), (a_form_h0, .inr (3, [.ref nq_5_0, .int o_5_1])), (nq_5_0, .inl (cB, on_nq_5_0, .inl ob_nq_5_0))]) := by
  refine Ct.mk (by decide) (Nat.le_of_ble_eq_true rfl) ?_
  intro p e s m below meth c hr hnm
  refine j_norm (pc' := 0) (lv' := [(0, .ref h0), (1, .int p1)]) (st' := []) (ws' := [(h0, .inr (6, [.ref a_tree_h0, .ref a_source_h0, .ref a_form_h0, .int indent_h0, .int fits_h0])), (a_tree_h0, .inr (1, [.ref a_cells_a_tree_h0, .int count_a_tree_h0])), (a_cells_a_tree_h0, .inl (cI, n_a_cells_a_tree_h0, .inl b_a_cells_a_tree_h0)), (a_source_h0, .inr (3, [.ref a_bytes_a_source_h0, .int size_a_source_h0])), (a_bytes_a_source_h0, .inl (cB, n_a_bytes_a_source_h0, .inl b_a_bytes_a_source_h0)), (a_form_h0, .inr (3, [.ref a_bytes_a_form_h0, .int size_a_form_h0])), (a_bytes_a_form_h0, .inl (cB, n_a_bytes_a_form_h0, .inl b_a_bytes_a_form_h0))]) (cl' := 0) (sl' := 0) rfl rfl rfl rfl rfl rfl ?_
  unfold F_Wr_putOperation at h
  have hC : 0 + mc ≤ mc := by omega
  have hS : 0 + ms ≤ ms := by omega
  refine j_aload_n d_Wr_putOperation_0 rfl 0 rfl ?_
  refine j_iload_n d_Wr_putOperation_1 rfl 1 rfl ?_
  replace h := bd_s h
  obtain ⟨r31, k32, h⟩ := h
  refine j_callV (n := 1) (As := [.int p1]) (rest := []) (wr := [(a_form_h0, .inr (3, [.ref a_bytes_a_form_h0, .int size_a_form_h0])), (a_bytes_a_form_h0, .inl (cB, n_a_bytes_a_form_h0, .inl b_a_bytes_a_form_h0))]) (c_Wr_rank l D cI cB cJ cS h0 a_tree_h0 a_source_h0 a_form_h0 a_cells_a_tree_h0 a_bytes_a_source_h0 p1 indent_h0 fits_h0 count_a_tree_h0 n_a_cells_a_tree_h0 b_a_cells_a_tree_h0 size_a_source_h0 n_a_bytes_a_source_h0 b_a_bytes_a_source_h0  r31 k32) k_Wr_145 (by decide) ⟨Nat.le_of_ble_eq_true rfl, Nat.le_of_ble_eq_true rfl⟩ rfl 0 rfl [0, 1, 2, 3, 4] [5, 6] rfl (by decide) rfl (by decide) (by decide) rfl rfl (Nat.le_of_ble_eq_true rfl) d_Wr_putOperation_2 ⟨show 0 + 0 ≤ mc by omega, show 0 + 0 ≤ ms by omega⟩ (fun v w hq => ?_)
  obtain ⟨rfl, rfl⟩ := hq
  refine j_norm (pc' := 5) (st' := [.int r31]) (ws' := [(a_form_h0, .inr (3, [.ref a_bytes_a_form_h0, .int size_a_form_h0])), (a_bytes_a_form_h0, .inl (cB, n_a_bytes_a_form_h0, .inl b_a_bytes_a_form_h0)), (h0, .inr (6, [.ref a_tree_h0, .ref a_source_h0, .ref a_form_h0, .int indent_h0, .int fits_h0])), (a_tree_h0, .inr (1, [.ref a_cells_a_tree_h0, .int count_a_tree_h0])), (a_cells_a_tree_h0, .inl (cI, n_a_cells_a_tree_h0, .inl b_a_cells_a_tree_h0)), (a_source_h0, .inr (3, [.ref a_bytes_a_source_h0, .int size_a_source_h0])), (a_bytes_a_source_h0, .inl (cB, n_a_bytes_a_source_h0, .inl b_a_bytes_a_source_h0))]) (cl' := 0) (sl' := 0) rfl rfl rfl rfl rfl rfl ?_
  refine j_bipush (v := 8) d_Wr_putOperation_5 (by decide) ?_
  refine j_icmp_ne (tgt := 15) d_Wr_putOperation_7 (by decide) (fun c33 => ?_) (fun c33 => ?_)
  · replace h := it_f c33 h
    refine j_ldcS (i := 26) rfl d_Wr_putOperation_15 ?_
    refine j_sub (w := [(a_form_h0, .inr (3, [.ref a_bytes_a_form_h0, .int size_a_form_h0])), (a_bytes_a_form_h0, .inl (cB, n_a_bytes_a_form_h0, .inl b_a_bytes_a_form_h0)), (h0, .inr (6, [.ref a_tree_h0, .ref a_source_h0, .ref a_form_h0, .int indent_h0, .int fits_h0])), (a_tree_h0, .inr (1, [.ref a_cells_a_tree_h0, .int count_a_tree_h0])), (a_cells_a_tree_h0, .inl (cI, n_a_cells_a_tree_h0, .inl b_a_cells_a_tree_h0)), (a_source_h0, .inr (3, [.ref a_bytes_a_source_h0, .int size_a_source_h0])), (a_bytes_a_source_h0, .inl (cB, n_a_bytes_a_source_h0, .inl b_a_bytes_a_source_h0))]) (lv' := [(0, .ref h0), (1, .int p1)]) [0, 1, 2, 3, 4, 5, 6] rfl (by decide) [0, 1] rfl ?_
    exact L_Wr_putOperation_17 l D cI cB cJ cS h0 a_tree_h0 a_source_h0 a_form_h0 a_cells_a_tree_h0 a_bytes_a_source_h0 a_bytes_a_form_h0 p1 indent_h0 fits_h0 count_a_tree_h0 n_a_cells_a_tree_h0 b_a_cells_a_tree_h0 size_a_source_h0 n_a_bytes_a_source_h0 b_a_bytes_a_source_h0 size_a_form_h0 n_a_bytes_a_form_h0 b_a_bytes_a_form_h0 o_0_4 o_5_1 on_nq_5_0 ob_nq_5_0 mc ms p e s m below meth c hr hnm 26 0 0 mc ms h hC hS
  · replace h := it_t c33 h
    refine j_ldcS (i := 16) rfl d_Wr_putOperation_10 ?_
    refine j_goto (tgt := 17) d_Wr_putOperation_12 (by decide) ?_
    refine j_sub (w := [(a_form_h0, .inr (3, [.ref a_bytes_a_form_h0, .int size_a_form_h0])), (a_bytes_a_form_h0, .inl (cB, n_a_bytes_a_form_h0, .inl b_a_bytes_a_form_h0)), (h0, .inr (6, [.ref a_tree_h0, .ref a_source_h0, .ref a_form_h0, .int indent_h0, .int fits_h0])), (a_tree_h0, .inr (1, [.ref a_cells_a_tree_h0, .int count_a_tree_h0])), (a_cells_a_tree_h0, .inl (cI, n_a_cells_a_tree_h0, .inl b_a_cells_a_tree_h0)), (a_source_h0, .inr (3, [.ref a_bytes_a_source_h0, .int size_a_source_h0])), (a_bytes_a_source_h0, .inl (cB, n_a_bytes_a_source_h0, .inl b_a_bytes_a_source_h0))]) (lv' := [(0, .ref h0), (1, .int p1)]) [0, 1, 2, 3, 4, 5, 6] rfl (by decide) [0, 1] rfl ?_
    exact L_Wr_putOperation_17 l D cI cB cJ cS h0 a_tree_h0 a_source_h0 a_form_h0 a_cells_a_tree_h0 a_bytes_a_source_h0 a_bytes_a_form_h0 p1 indent_h0 fits_h0 count_a_tree_h0 n_a_cells_a_tree_h0 b_a_cells_a_tree_h0 size_a_source_h0 n_a_bytes_a_source_h0 b_a_bytes_a_source_h0 size_a_form_h0 n_a_bytes_a_form_h0 b_a_bytes_a_form_h0 o_0_4 o_5_1 on_nq_5_0 ob_nq_5_0 mc ms p e s m below meth c hr hnm 16 0 0 mc ms h hC hS
noncomputable def F_Wr_trail_12 (p1 : Int32) (p2 : Int32) (indent_h0 : Int32) (fits_h0 : Int32) (count_a_tree_h0 : Int32) (n_a_cells_a_tree_h0 : Nat) (b_a_cells_a_tree_h0 : Nat → Int32) (size_a_form_h0 : Int32) (n_a_bytes_a_form_h0 : Nat) (b_a_bytes_a_form_h0 : Nat → Int32) (size_a_source_h0 : Int32) (n_a_bytes_a_source_h0 : Nat) (b_a_bytes_a_source_h0 : Nat → Int32) (t0_12 : Int32) : Option ((Int32 × Int32 × Nat × (Nat → Int32)) × Nat × Nat) :=
    Option.bind (F_Wr_kind p1 indent_h0 fits_h0 count_a_tree_h0 n_a_cells_a_tree_h0 b_a_cells_a_tree_h0) fun r1 =>
    if r1 = 1 then (bw (F_Wr_trailOfFunction p1 p2 indent_h0 fits_h0 count_a_tree_h0 n_a_cells_a_tree_h0 b_a_cells_a_tree_h0 size_a_form_h0 n_a_bytes_a_form_h0 b_a_bytes_a_form_h0 size_a_source_h0 n_a_bytes_a_source_h0 b_a_bytes_a_source_h0) fun ⟨r4, r5, r6, r7⟩ =>
      (some ((r4, r5, r6, r7), 0, 0)))
    else if r1 = 2 then (some ((fits_h0, size_a_form_h0, n_a_bytes_a_form_h0, b_a_bytes_a_form_h0), 0, 0))
    else if r1 = 3 then (some ((fits_h0, size_a_form_h0, n_a_bytes_a_form_h0, b_a_bytes_a_form_h0), 0, 0))
    else if r1 = 4 then (some ((fits_h0, size_a_form_h0, n_a_bytes_a_form_h0, b_a_bytes_a_form_h0), 0, 0))
    else if r1 = 5 then (some ((fits_h0, size_a_form_h0, n_a_bytes_a_form_h0, b_a_bytes_a_form_h0), 0, 0))
    else if r1 = 6 then (some ((fits_h0, size_a_form_h0, n_a_bytes_a_form_h0, b_a_bytes_a_form_h0), 0, 0))
    else if r1 = 7 then (some ((fits_h0, size_a_form_h0, n_a_bytes_a_form_h0, b_a_bytes_a_form_h0), 0, 0))
    else if r1 = 8 then (some ((fits_h0, size_a_form_h0, n_a_bytes_a_form_h0, b_a_bytes_a_form_h0), 0, 0))
    else if r1 = 9 then (some ((fits_h0, size_a_form_h0, n_a_bytes_a_form_h0, b_a_bytes_a_form_h0), 0, 0))
    else if r1 = 10 then (if t0_12 = 0 then (bw (F_Wr_put 16 indent_h0 fits_h0 size_a_form_h0 n_a_bytes_a_form_h0 b_a_bytes_a_form_h0) fun ⟨r24, r25, r26, r27⟩ =>
        (some ((r24, r25, r26, r27), 0, 0)))
      else (bw (F_Wr_put 37 indent_h0 fits_h0 size_a_form_h0 n_a_bytes_a_form_h0 b_a_bytes_a_form_h0) fun ⟨r34, r35, r36, r37⟩ =>
        (some ((r34, r35, r36, r37), 0, 0))))
    else if r1 = 11 then (Option.bind (F_Wr_kind p2 indent_h0 fits_h0 count_a_tree_h0 n_a_cells_a_tree_h0 b_a_cells_a_tree_h0) fun r45 =>
      if r45 = 3 then (some ((fits_h0, size_a_form_h0, n_a_bytes_a_form_h0, b_a_bytes_a_form_h0), 0, 0))
      else (bw (F_Wr_put 38 indent_h0 fits_h0 size_a_form_h0 n_a_bytes_a_form_h0 b_a_bytes_a_form_h0) fun ⟨r48, r49, r50, r51⟩ =>
        (some ((r48, r49, r50, r51), 0, 0))))
    else if r1 = 12 then (Option.bind (F_Wr_kind p2 indent_h0 fits_h0 count_a_tree_h0 n_a_cells_a_tree_h0 b_a_cells_a_tree_h0) fun r59 =>
      if r59 = 3 then (some ((fits_h0, size_a_form_h0, n_a_bytes_a_form_h0, b_a_bytes_a_form_h0), 0, 0))
      else (bw (F_Wr_put 38 indent_h0 fits_h0 size_a_form_h0 n_a_bytes_a_form_h0 b_a_bytes_a_form_h0) fun ⟨r62, r63, r64, r65⟩ =>
        (some ((r62, r63, r64, r65), 0, 0))))
    else if r1 = 13 then (if t0_12 = 0 then (Option.bind (F_Wr_kind p2 indent_h0 fits_h0 count_a_tree_h0 n_a_cells_a_tree_h0 b_a_cells_a_tree_h0) fun r74 =>
        if r74 = 3 then (some ((fits_h0, size_a_form_h0, n_a_bytes_a_form_h0, b_a_bytes_a_form_h0), 0, 0))
        else (bw (F_Wr_put 38 indent_h0 fits_h0 size_a_form_h0 n_a_bytes_a_form_h0 b_a_bytes_a_form_h0) fun ⟨r77, r78, r79, r80⟩ =>
          (some ((r77, r78, r79, r80), 0, 0))))
      else (bw (F_Wr_put 24 indent_h0 fits_h0 size_a_form_h0 n_a_bytes_a_form_h0 b_a_bytes_a_form_h0) fun ⟨r87, r88, r89, r90⟩ =>
        (some ((r87, r88, r89, r90), 0, 0))))
    else (some ((fits_h0, size_a_form_h0, n_a_bytes_a_form_h0, b_a_bytes_a_form_h0), 0, 0))
noncomputable def F_Wr_trail (p1 : Int32) (p2 : Int32) (indent_h0 : Int32) (fits_h0 : Int32) (count_a_tree_h0 : Int32) (n_a_cells_a_tree_h0 : Nat) (b_a_cells_a_tree_h0 : Nat → Int32) (size_a_form_h0 : Int32) (n_a_bytes_a_form_h0 : Nat) (b_a_bytes_a_form_h0 : Nat → Int32) (size_a_source_h0 : Int32) (n_a_bytes_a_source_h0 : Nat) (b_a_bytes_a_source_h0 : Nat → Int32) : Option ((Int32 × Int32 × Nat × (Nat → Int32)) × Nat × Nat) :=
  if p2 = (p1 + 1) then (F_Wr_trail_12 p1 p2 indent_h0 fits_h0 count_a_tree_h0 n_a_cells_a_tree_h0 b_a_cells_a_tree_h0 size_a_form_h0 n_a_bytes_a_form_h0 b_a_bytes_a_form_h0 size_a_source_h0 n_a_bytes_a_source_h0 b_a_bytes_a_source_h0   1)
  else (F_Wr_trail_12 p1 p2 indent_h0 fits_h0 count_a_tree_h0 n_a_cells_a_tree_h0 b_a_cells_a_tree_h0 size_a_form_h0 n_a_bytes_a_form_h0 b_a_bytes_a_form_h0 size_a_source_h0 n_a_bytes_a_source_h0 b_a_bytes_a_source_h0   0)
theorem d_Wr_trail_0 : decode prog_10_method_15_code 0 = .ok (.iload_n 2, 1) := by decide +kernel
theorem d_Wr_trail_1 : decode prog_10_method_15_code 1 = .ok (.iload_n 1, 1) := by decide +kernel
theorem d_Wr_trail_2 : decode prog_10_method_15_code 2 = .ok (.iconst 1, 1) := by decide +kernel
theorem d_Wr_trail_3 : decode prog_10_method_15_code 3 = .ok (.iadd, 1) := by decide +kernel
theorem d_Wr_trail_4 : decode prog_10_method_15_code 4 = .ok (.if_icmp .ne 7, 3) := by decide +kernel
theorem d_Wr_trail_7 : decode prog_10_method_15_code 7 = .ok (.iconst 1, 1) := by decide +kernel
theorem d_Wr_trail_8 : decode prog_10_method_15_code 8 = .ok (.goto 4, 3) := by decide +kernel
theorem d_Wr_trail_11 : decode prog_10_method_15_code 11 = .ok (.iconst 0, 1) := by decide +kernel
theorem d_Wr_trail_12 : decode prog_10_method_15_code 12 = .ok (.istore_n 3, 1) := by decide +kernel
theorem d_Wr_trail_13 : decode prog_10_method_15_code 13 = .ok (.aload_n 0, 1) := by decide +kernel
theorem d_Wr_trail_14 : decode prog_10_method_15_code 14 = .ok (.iload_n 1, 1) := by decide +kernel
theorem d_Wr_trail_15 : decode prog_10_method_15_code 15 = .ok (.invokevirtual 105, 3) := by decide +kernel
theorem d_Wr_trail_18 : decode prog_10_method_15_code 18 = .ok (.tableswitch 142 1 13 #[66, 142, 142, 142, 142, 142, 142, 142, 142, 75, 124, 124, 93], 66) := by decide +kernel
theorem d_Wr_trail_84 : decode prog_10_method_15_code 84 = .ok (.aload_n 0, 1) := by decide +kernel
theorem d_Wr_trail_85 : decode prog_10_method_15_code 85 = .ok (.iload_n 1, 1) := by decide +kernel
theorem d_Wr_trail_86 : decode prog_10_method_15_code 86 = .ok (.iload_n 2, 1) := by decide +kernel
theorem d_Wr_trail_87 : decode prog_10_method_15_code 87 = .ok (.invokevirtual 165, 3) := by decide +kernel
theorem d_Wr_trail_90 : decode prog_10_method_15_code 90 = .ok (.goto 70, 3) := by decide +kernel
theorem d_Wr_trail_93 : decode prog_10_method_15_code 93 = .ok (.aload_n 0, 1) := by decide +kernel
theorem d_Wr_trail_94 : decode prog_10_method_15_code 94 = .ok (.iload_n 3, 1) := by decide +kernel
theorem d_Wr_trail_95 : decode prog_10_method_15_code 95 = .ok (.ifCond .eq 8, 3) := by decide +kernel
theorem d_Wr_trail_98 : decode prog_10_method_15_code 98 = .ok (.ldc 168, 2) := by decide +kernel
theorem d_Wr_trail_100 : decode prog_10_method_15_code 100 = .ok (.goto 5, 3) := by decide +kernel
theorem d_Wr_trail_103 : decode prog_10_method_15_code 103 = .ok (.ldc 110, 2) := by decide +kernel
theorem d_Wr_trail_105 : decode prog_10_method_15_code 105 = .ok (.invokevirtual 77, 3) := by decide +kernel
theorem d_Wr_trail_108 : decode prog_10_method_15_code 108 = .ok (.goto 52, 3) := by decide +kernel
theorem d_Wr_trail_111 : decode prog_10_method_15_code 111 = .ok (.iload_n 3, 1) := by decide +kernel
theorem d_Wr_trail_112 : decode prog_10_method_15_code 112 = .ok (.ifCond .eq 12, 3) := by decide +kernel
theorem d_Wr_trail_115 : decode prog_10_method_15_code 115 = .ok (.aload_n 0, 1) := by decide +kernel
theorem d_Wr_trail_116 : decode prog_10_method_15_code 116 = .ok (.ldc 127, 2) := by decide +kernel
theorem d_Wr_trail_118 : decode prog_10_method_15_code 118 = .ok (.invokevirtual 77, 3) := by decide +kernel
theorem d_Wr_trail_121 : decode prog_10_method_15_code 121 = .ok (.goto 39, 3) := by decide +kernel
theorem d_Wr_trail_124 : decode prog_10_method_15_code 124 = .ok (.aload_n 0, 1) := by decide +kernel
theorem d_Wr_trail_125 : decode prog_10_method_15_code 125 = .ok (.iload_n 2, 1) := by decide +kernel
theorem d_Wr_trail_126 : decode prog_10_method_15_code 126 = .ok (.invokevirtual 105, 3) := by decide +kernel
theorem d_Wr_trail_129 : decode prog_10_method_15_code 129 = .ok (.iconst 3, 1) := by decide +kernel
theorem d_Wr_trail_130 : decode prog_10_method_15_code 130 = .ok (.if_icmp .eq 30, 3) := by decide +kernel
theorem d_Wr_trail_133 : decode prog_10_method_15_code 133 = .ok (.aload_n 0, 1) := by decide +kernel
theorem d_Wr_trail_134 : decode prog_10_method_15_code 134 = .ok (.ldc 170, 2) := by decide +kernel
theorem d_Wr_trail_136 : decode prog_10_method_15_code 136 = .ok (.invokevirtual 77, 3) := by decide +kernel
theorem d_Wr_trail_139 : decode prog_10_method_15_code 139 = .ok (.goto 21, 3) := by decide +kernel
theorem d_Wr_trail_142 : decode prog_10_method_15_code 142 = .ok (.aload_n 0, 1) := by decide +kernel
theorem d_Wr_trail_143 : decode prog_10_method_15_code 143 = .ok (.iload_n 2, 1) := by decide +kernel
theorem d_Wr_trail_144 : decode prog_10_method_15_code 144 = .ok (.invokevirtual 105, 3) := by decide +kernel
theorem d_Wr_trail_147 : decode prog_10_method_15_code 147 = .ok (.iconst 3, 1) := by decide +kernel
theorem d_Wr_trail_148 : decode prog_10_method_15_code 148 = .ok (.if_icmp .eq 12, 3) := by decide +kernel
theorem d_Wr_trail_151 : decode prog_10_method_15_code 151 = .ok (.aload_n 0, 1) := by decide +kernel
theorem d_Wr_trail_152 : decode prog_10_method_15_code 152 = .ok (.ldc 170, 2) := by decide +kernel
theorem d_Wr_trail_154 : decode prog_10_method_15_code 154 = .ok (.invokevirtual 77, 3) := by decide +kernel
theorem d_Wr_trail_157 : decode prog_10_method_15_code 157 = .ok (.goto 3, 3) := by decide +kernel
theorem d_Wr_trail_160 : decode prog_10_method_15_code 160 = .ok (.return_, 1) := by decide +kernel
set_option maxHeartbeats 4000000 in
set_option maxRecDepth 100000 in
theorem L_Wr_trail_12 (l : Launch) (D : va_G) (cI cB cJ cS : ClassId) (h0 : Nat) (a_tree_h0 : Nat) (a_source_h0 : Nat) (a_form_h0 : Nat) (a_cells_a_tree_h0 : Nat) (a_bytes_a_form_h0 : Nat) (a_bytes_a_source_h0 : Nat) (p1 : Int32) (p2 : Int32) (indent_h0 : Int32) (fits_h0 : Int32) (count_a_tree_h0 : Int32) (n_a_cells_a_tree_h0 : Nat) (b_a_cells_a_tree_h0 : Nat → Int32) (size_a_form_h0 : Int32) (n_a_bytes_a_form_h0 : Nat) (b_a_bytes_a_form_h0 : Nat → Int32) (size_a_source_h0 : Int32) (n_a_bytes_a_source_h0 : Nat) (b_a_bytes_a_source_h0 : Nat → Int32) (o_0_4 : Int32) (o_3_1 : Int32) (on_nq_3_0 : Nat) (ob_nq_3_0 : Nat → Int32) (mc ms : Nat) (p : Program) (e : Env) (s : State) (m : MethodId) (below : List Frame) (meth : Method) (c : Code) (hr : meth.sig.returnType = (Option.none : Option Jvm.ClassFile.FieldType)) (hnm : meth.name = y_Wr_trail.name) : ∀ (t0_12 : Int32) (hz_t0_12 : zb t0_12) (cl_12 sl_12 C_12 S_12 : Nat), F_Wr_trail_12 p1 p2 indent_h0 fits_h0 count_a_tree_h0 n_a_cells_a_tree_h0 b_a_cells_a_tree_h0 size_a_form_h0 n_a_bytes_a_form_h0 b_a_bytes_a_form_h0 size_a_source_h0 n_a_bytes_a_source_h0 b_a_bytes_a_source_h0   t0_12 = some ((o_0_4, o_3_1, on_nq_3_0, ob_nq_3_0), C_12, S_12) → cl_12 + C_12 ≤ mc → sl_12 + S_12 ≤ ms → J (KxOf p l e { frames := 6, cells := mc, slots := ms, locals := 150 } s m [.ref h0, .int p1, .int p2].toArray below meth c D (gT cI cB cJ cS) [(h0, .inr (6, [.ref a_tree_h0, .ref a_source_h0, .ref a_form_h0, .int indent_h0, .int fits_h0])), (a_tree_h0, .inr (1, [.ref a_cells_a_tree_h0, .int count_a_tree_h0])), (a_cells_a_tree_h0, .inl (cI, n_a_cells_a_tree_h0, .inl b_a_cells_a_tree_h0)), (a_form_h0, .inr (3, [.ref a_bytes_a_form_h0, .int size_a_form_h0])), (a_bytes_a_form_h0, .inl (cB, n_a_bytes_a_form_h0, .inl b_a_bytes_a_form_h0)), (a_source_h0, .inr (3, [.ref a_bytes_a_source_h0, .int size_a_source_h0])), (a_bytes_a_source_h0, .inl (cB, n_a_bytes_a_source_h0, .inl b_a_bytes_a_source_h0))] (fun v w => ∃ nq_3_0 : Nat, v = none ∧ w = [(h0, .inr (6, [.ref a_tree_h0, .ref a_source_h0, .ref a_form_h0, .int indent_h0, .int o_0_4])), (a_tree_h0, .inr (1, [.ref a_cells_a_tree_h0, .int count_a_tree_h0])), (a_cells_a_tree_h0, .inl (cI, n_a_cells_a_tree_h0, .inl b_a_cells_a_tree_h0)), (a_form_h0, .inr (3, [.ref nq_3_0, .int o_3_1])), (a_source_h0, .inr (3, [.ref a_bytes_a_source_h0, .int size_a_source_h0])), (a_bytes_a_source_h0, .inl (cB, n_a_bytes_a_source_h0, .inl b_a_bytes_a_source_h0)), (nq_3_0, .inl (cB, on_nq_3_0, .inl ob_nq_3_0))]) mc ms) prog_10_method_15_code 4 R_Wr 12 [(0, .ref h0), (1, .int p1), (2, .int p2)] [.int t0_12] [(h0, .inr (6, [.ref a_tree_h0, .ref a_source_h0, .ref a_form_h0, .int indent_h0, .int fits_h0])), (a_tree_h0, .inr (1, [.ref a_cells_a_tree_h0, .int count_a_tree_h0])), (a_cells_a_tree_h0, .inl (cI, n_a_cells_a_tree_h0, .inl b_a_cells_a_tree_h0)), (a_form_h0, .inr (3, [.ref a_bytes_a_form_h0, .int size_a_form_h0])), (a_bytes_a_form_h0, .inl (cB, n_a_bytes_a_form_h0, .inl b_a_bytes_a_form_h0)), (a_source_h0, .inr (3, [.ref a_bytes_a_source_h0, .int size_a_source_h0])), (a_bytes_a_source_h0, .inl (cB, n_a_bytes_a_source_h0, .inl b_a_bytes_a_source_h0))] cl_12 sl_12 := by
  intro t0_12 hz_t0_12 cl_12 sl_12 C_12 S_12 h hC hS
  unfold F_Wr_trail_12 at h
  refine j_istore_n (lv' := [(3, .int t0_12), (0, .ref h0), (1, .int p1), (2, .int p2)]) d_Wr_trail_12 rfl (by decide) rfl ?_
  refine j_aload_n d_Wr_trail_13 rfl 1 rfl ?_
  refine j_iload_n d_Wr_trail_14 rfl 2 rfl ?_
  replace h := bd_s h
  obtain ⟨r1, k2, h⟩ := h
  refine j_callV (n := 1) (As := [.int p1]) (rest := []) (wr := [(a_form_h0, .inr (3, [.ref a_bytes_a_form_h0, .int size_a_form_h0])), (a_bytes_a_form_h0, .inl (cB, n_a_bytes_a_form_h0, .inl b_a_bytes_a_form_h0)), (a_source_h0, .inr (3, [.ref a_bytes_a_source_h0, .int size_a_source_h0])), (a_bytes_a_source_h0, .inl (cB, n_a_bytes_a_source_h0, .inl b_a_bytes_a_source_h0))]) (c_Wr_kind l D cI cB cJ cS h0 a_tree_h0 a_source_h0 a_form_h0 a_cells_a_tree_h0 p1 indent_h0 fits_h0 count_a_tree_h0 n_a_cells_a_tree_h0 b_a_cells_a_tree_h0  r1 k2) k_Wr_105 (by decide) ⟨Nat.le_of_ble_eq_true rfl, Nat.le_of_ble_eq_true rfl⟩ rfl 0 rfl [0, 1, 2] [3, 4, 5, 6] rfl (by decide) rfl (by decide) (by decide) rfl rfl (Nat.le_of_ble_eq_true rfl) d_Wr_trail_15 ⟨show cl_12 + 0 ≤ mc by omega, show sl_12 + 0 ≤ ms by omega⟩ (fun v w hq => ?_)
  obtain ⟨rfl, rfl⟩ := hq
  refine j_norm (pc' := 18) (st' := [.int r1]) (ws' := [(a_form_h0, .inr (3, [.ref a_bytes_a_form_h0, .int size_a_form_h0])), (a_bytes_a_form_h0, .inl (cB, n_a_bytes_a_form_h0, .inl b_a_bytes_a_form_h0)), (a_source_h0, .inr (3, [.ref a_bytes_a_source_h0, .int size_a_source_h0])), (a_bytes_a_source_h0, .inl (cB, n_a_bytes_a_source_h0, .inl b_a_bytes_a_source_h0)), (h0, .inr (6, [.ref a_tree_h0, .ref a_source_h0, .ref a_form_h0, .int indent_h0, .int fits_h0])), (a_tree_h0, .inr (1, [.ref a_cells_a_tree_h0, .int count_a_tree_h0])), (a_cells_a_tree_h0, .inl (cI, n_a_cells_a_tree_h0, .inl b_a_cells_a_tree_h0))]) (cl' := cl_12) (sl' := sl_12) rfl rfl rfl rfl rfl rfl ?_
  by_cases c3 : r1 = 1
  · replace h := it_t c3 h
    refine j_tabIn (tgt := 84) (off := 66) d_Wr_trail_18 1 c3 (by decide) (by decide) (by decide) (by decide) ?_
    refine j_aload_n d_Wr_trail_84 rfl 1 rfl ?_
    refine j_iload_n d_Wr_trail_85 rfl 2 rfl ?_
    refine j_iload_n d_Wr_trail_86 rfl 3 rfl ?_
    replace h := bw_s h
    obtain ⟨⟨r4, r5, r6, r7⟩, C9, S10, C11, S12, k13, h, e1, e2⟩ := h
    replace hC : cl_12 + C9 + C11 ≤ mc := by omega
    replace hS : sl_12 + S10 + S12 ≤ ms := by omega
    clear e1 e2
    refine j_callV (n := 2) (As := [.int p1, .int p2]) (rest := []) (wr := []) (c_Wr_trailOfFunction l D cI cB cJ cS h0 a_tree_h0 a_source_h0 a_form_h0 a_cells_a_tree_h0 a_bytes_a_form_h0 a_bytes_a_source_h0 p1 p2 indent_h0 fits_h0 count_a_tree_h0 n_a_cells_a_tree_h0 b_a_cells_a_tree_h0 size_a_form_h0 n_a_bytes_a_form_h0 b_a_bytes_a_form_h0 size_a_source_h0 n_a_bytes_a_source_h0 b_a_bytes_a_source_h0  r4 r5 r6 r7 C9 S10 k13) k_Wr_165 (by decide) ⟨Nat.le_of_ble_eq_true rfl, Nat.le_of_ble_eq_true rfl⟩ rfl 0 rfl [4, 5, 6, 0, 1, 2, 3] [] rfl (by decide) rfl (by decide) (by decide) rfl rfl (Nat.le_of_ble_eq_true rfl) d_Wr_trail_87 ⟨show cl_12 + C9 ≤ mc by omega, show sl_12 + S10 ≤ ms by omega⟩ (fun v w hq => ?_)
    obtain ⟨q8, rfl, rfl⟩ := hq
    refine j_norm (pc' := 90) (st' := []) (ws' := [(h0, .inr (6, [.ref a_tree_h0, .ref a_source_h0, .ref a_form_h0, .int indent_h0, .int r4])), (a_tree_h0, .inr (1, [.ref a_cells_a_tree_h0, .int count_a_tree_h0])), (a_cells_a_tree_h0, .inl (cI, n_a_cells_a_tree_h0, .inl b_a_cells_a_tree_h0)), (a_form_h0, .inr (3, [.ref q8, .int r5])), (a_source_h0, .inr (3, [.ref a_bytes_a_source_h0, .int size_a_source_h0])), (a_bytes_a_source_h0, .inl (cB, n_a_bytes_a_source_h0, .inl b_a_bytes_a_source_h0)), (q8, .inl (cB, r6, .inl r7))]) (cl' := cl_12 + C9) (sl' := sl_12 + S10) rfl rfl rfl rfl rfl rfl ?_
    refine j_goto (tgt := 160) d_Wr_trail_90 (by decide) ?_
    replace h := lf_s h
    obtain ⟨h, e1, e2⟩ := h
    replace h := Prod.mk.inj h
    obtain ⟨h9, h⟩ := h
    subst h9
    replace h := Prod.mk.inj h
    obtain ⟨h9, h⟩ := h
    subst h9
    replace h := Prod.mk.inj h
    obtain ⟨h9, h⟩ := h
    subst h9
    subst h
    refine j_widen (cl' := mc) (sl' := ms) (by omega) (by omega) ?_
    exact j_vret (w := [(h0, .inr (6, [.ref a_tree_h0, .ref a_source_h0, .ref a_form_h0, .int indent_h0, .int r4])), (a_tree_h0, .inr (1, [.ref a_cells_a_tree_h0, .int count_a_tree_h0])), (a_cells_a_tree_h0, .inl (cI, n_a_cells_a_tree_h0, .inl b_a_cells_a_tree_h0)), (a_form_h0, .inr (3, [.ref q8, .int r5])), (a_source_h0, .inr (3, [.ref a_bytes_a_source_h0, .int size_a_source_h0])), (a_bytes_a_source_h0, .inl (cB, n_a_bytes_a_source_h0, .inl b_a_bytes_a_source_h0)), (q8, .inl (cB, r6, .inl r7))]) hr d_Wr_trail_160 [0, 1, 2, 3, 4, 5, 6] rfl (by decide) ⟨q8, rfl, rfl⟩
  · replace h := it_f c3 h
    by_cases c14 : r1 = 2
    · replace h := it_t c14 h
      refine j_tabIn (tgt := 160) (off := 142) d_Wr_trail_18 2 c14 (by decide) (by decide) (by decide) (by decide) ?_
      replace h := lf_s h
      obtain ⟨h, e1, e2⟩ := h
      replace h := Prod.mk.inj h
      obtain ⟨h9, h⟩ := h
      subst h9
      replace h := Prod.mk.inj h
      obtain ⟨h9, h⟩ := h
      subst h9
      replace h := Prod.mk.inj h
      obtain ⟨h9, h⟩ := h
      subst h9
      subst h
      refine j_widen (cl' := mc) (sl' := ms) (by omega) (by omega) ?_
      exact j_vret (w := [(h0, .inr (6, [.ref a_tree_h0, .ref a_source_h0, .ref a_form_h0, .int indent_h0, .int fits_h0])), (a_tree_h0, .inr (1, [.ref a_cells_a_tree_h0, .int count_a_tree_h0])), (a_cells_a_tree_h0, .inl (cI, n_a_cells_a_tree_h0, .inl b_a_cells_a_tree_h0)), (a_form_h0, .inr (3, [.ref a_bytes_a_form_h0, .int size_a_form_h0])), (a_source_h0, .inr (3, [.ref a_bytes_a_source_h0, .int size_a_source_h0])), (a_bytes_a_source_h0, .inl (cB, n_a_bytes_a_source_h0, .inl b_a_bytes_a_source_h0)), (a_bytes_a_form_h0, .inl (cB, n_a_bytes_a_form_h0, .inl b_a_bytes_a_form_h0))]) hr d_Wr_trail_160 [4, 5, 6, 0, 2, 3, 1] rfl (by decide) ⟨a_bytes_a_form_h0, rfl, rfl⟩
    · replace h := it_f c14 h
      by_cases c15 : r1 = 3
      · replace h := it_t c15 h
        refine j_tabIn (tgt := 160) (off := 142) d_Wr_trail_18 3 c15 (by decide) (by decide) (by decide) (by decide) ?_
        replace h := lf_s h
        obtain ⟨h, e1, e2⟩ := h
        replace h := Prod.mk.inj h
        obtain ⟨h9, h⟩ := h
        subst h9
        replace h := Prod.mk.inj h
        obtain ⟨h9, h⟩ := h
        subst h9
        replace h := Prod.mk.inj h
        obtain ⟨h9, h⟩ := h
        subst h9
        subst h
        refine j_widen (cl' := mc) (sl' := ms) (by omega) (by omega) ?_
        exact j_vret (w := [(h0, .inr (6, [.ref a_tree_h0, .ref a_source_h0, .ref a_form_h0, .int indent_h0, .int fits_h0])), (a_tree_h0, .inr (1, [.ref a_cells_a_tree_h0, .int count_a_tree_h0])), (a_cells_a_tree_h0, .inl (cI, n_a_cells_a_tree_h0, .inl b_a_cells_a_tree_h0)), (a_form_h0, .inr (3, [.ref a_bytes_a_form_h0, .int size_a_form_h0])), (a_source_h0, .inr (3, [.ref a_bytes_a_source_h0, .int size_a_source_h0])), (a_bytes_a_source_h0, .inl (cB, n_a_bytes_a_source_h0, .inl b_a_bytes_a_source_h0)), (a_bytes_a_form_h0, .inl (cB, n_a_bytes_a_form_h0, .inl b_a_bytes_a_form_h0))]) hr d_Wr_trail_160 [4, 5, 6, 0, 2, 3, 1] rfl (by decide) ⟨a_bytes_a_form_h0, rfl, rfl⟩
      · replace h := it_f c15 h
        by_cases c16 : r1 = 4
        · replace h := it_t c16 h
          refine j_tabIn (tgt := 160) (off := 142) d_Wr_trail_18 4 c16 (by decide) (by decide) (by decide) (by decide) ?_
          replace h := lf_s h
          obtain ⟨h, e1, e2⟩ := h
          replace h := Prod.mk.inj h
          obtain ⟨h9, h⟩ := h
          subst h9
          replace h := Prod.mk.inj h
          obtain ⟨h9, h⟩ := h
          subst h9
          replace h := Prod.mk.inj h
          obtain ⟨h9, h⟩ := h
          subst h9
          subst h
          refine j_widen (cl' := mc) (sl' := ms) (by omega) (by omega) ?_
          exact j_vret (w := [(h0, .inr (6, [.ref a_tree_h0, .ref a_source_h0, .ref a_form_h0, .int indent_h0, .int fits_h0])), (a_tree_h0, .inr (1, [.ref a_cells_a_tree_h0, .int count_a_tree_h0])), (a_cells_a_tree_h0, .inl (cI, n_a_cells_a_tree_h0, .inl b_a_cells_a_tree_h0)), (a_form_h0, .inr (3, [.ref a_bytes_a_form_h0, .int size_a_form_h0])), (a_source_h0, .inr (3, [.ref a_bytes_a_source_h0, .int size_a_source_h0])), (a_bytes_a_source_h0, .inl (cB, n_a_bytes_a_source_h0, .inl b_a_bytes_a_source_h0)), (a_bytes_a_form_h0, .inl (cB, n_a_bytes_a_form_h0, .inl b_a_bytes_a_form_h0))]) hr d_Wr_trail_160 [4, 5, 6, 0, 2, 3, 1] rfl (by decide) ⟨a_bytes_a_form_h0, rfl, rfl⟩
        · replace h := it_f c16 h
          by_cases c17 : r1 = 5
          · replace h := it_t c17 h
            refine j_tabIn (tgt := 160) (off := 142) d_Wr_trail_18 5 c17 (by decide) (by decide) (by decide) (by decide) ?_
            replace h := lf_s h
            obtain ⟨h, e1, e2⟩ := h
            replace h := Prod.mk.inj h
            obtain ⟨h9, h⟩ := h
            subst h9
            replace h := Prod.mk.inj h
            obtain ⟨h9, h⟩ := h
            subst h9
            replace h := Prod.mk.inj h
            obtain ⟨h9, h⟩ := h
            subst h9
            subst h
            refine j_widen (cl' := mc) (sl' := ms) (by omega) (by omega) ?_
            exact j_vret (w := [(h0, .inr (6, [.ref a_tree_h0, .ref a_source_h0, .ref a_form_h0, .int indent_h0, .int fits_h0])), (a_tree_h0, .inr (1, [.ref a_cells_a_tree_h0, .int count_a_tree_h0])), (a_cells_a_tree_h0, .inl (cI, n_a_cells_a_tree_h0, .inl b_a_cells_a_tree_h0)), (a_form_h0, .inr (3, [.ref a_bytes_a_form_h0, .int size_a_form_h0])), (a_source_h0, .inr (3, [.ref a_bytes_a_source_h0, .int size_a_source_h0])), (a_bytes_a_source_h0, .inl (cB, n_a_bytes_a_source_h0, .inl b_a_bytes_a_source_h0)), (a_bytes_a_form_h0, .inl (cB, n_a_bytes_a_form_h0, .inl b_a_bytes_a_form_h0))]) hr d_Wr_trail_160 [4, 5, 6, 0, 2, 3, 1] rfl (by decide) ⟨a_bytes_a_form_h0, rfl, rfl⟩
          · replace h := it_f c17 h
            by_cases c18 : r1 = 6
            · replace h := it_t c18 h
              refine j_tabIn (tgt := 160) (off := 142) d_Wr_trail_18 6 c18 (by decide) (by decide) (by decide) (by decide) ?_
              replace h := lf_s h
              obtain ⟨h, e1, e2⟩ := h
              replace h := Prod.mk.inj h
              obtain ⟨h9, h⟩ := h
              subst h9
              replace h := Prod.mk.inj h
              obtain ⟨h9, h⟩ := h
              subst h9
              replace h := Prod.mk.inj h
              obtain ⟨h9, h⟩ := h
              subst h9
              subst h
              refine j_widen (cl' := mc) (sl' := ms) (by omega) (by omega) ?_
              exact j_vret (w := [(h0, .inr (6, [.ref a_tree_h0, .ref a_source_h0, .ref a_form_h0, .int indent_h0, .int fits_h0])), (a_tree_h0, .inr (1, [.ref a_cells_a_tree_h0, .int count_a_tree_h0])), (a_cells_a_tree_h0, .inl (cI, n_a_cells_a_tree_h0, .inl b_a_cells_a_tree_h0)), (a_form_h0, .inr (3, [.ref a_bytes_a_form_h0, .int size_a_form_h0])), (a_source_h0, .inr (3, [.ref a_bytes_a_source_h0, .int size_a_source_h0])), (a_bytes_a_source_h0, .inl (cB, n_a_bytes_a_source_h0, .inl b_a_bytes_a_source_h0)), (a_bytes_a_form_h0, .inl (cB, n_a_bytes_a_form_h0, .inl b_a_bytes_a_form_h0))]) hr d_Wr_trail_160 [4, 5, 6, 0, 2, 3, 1] rfl (by decide) ⟨a_bytes_a_form_h0, rfl, rfl⟩
            · replace h := it_f c18 h
              by_cases c19 : r1 = 7
              · replace h := it_t c19 h
                refine j_tabIn (tgt := 160) (off := 142) d_Wr_trail_18 7 c19 (by decide) (by decide) (by decide) (by decide) ?_
                replace h := lf_s h
                obtain ⟨h, e1, e2⟩ := h
                replace h := Prod.mk.inj h
                obtain ⟨h9, h⟩ := h
                subst h9
                replace h := Prod.mk.inj h
                obtain ⟨h9, h⟩ := h
                subst h9
                replace h := Prod.mk.inj h
                obtain ⟨h9, h⟩ := h
                subst h9
                subst h
                refine j_widen (cl' := mc) (sl' := ms) (by omega) (by omega) ?_
                exact j_vret (w := [(h0, .inr (6, [.ref a_tree_h0, .ref a_source_h0, .ref a_form_h0, .int indent_h0, .int fits_h0])), (a_tree_h0, .inr (1, [.ref a_cells_a_tree_h0, .int count_a_tree_h0])), (a_cells_a_tree_h0, .inl (cI, n_a_cells_a_tree_h0, .inl b_a_cells_a_tree_h0)), (a_form_h0, .inr (3, [.ref a_bytes_a_form_h0, .int size_a_form_h0])), (a_source_h0, .inr (3, [.ref a_bytes_a_source_h0, .int size_a_source_h0])), (a_bytes_a_source_h0, .inl (cB, n_a_bytes_a_source_h0, .inl b_a_bytes_a_source_h0)), (a_bytes_a_form_h0, .inl (cB, n_a_bytes_a_form_h0, .inl b_a_bytes_a_form_h0))]) hr d_Wr_trail_160 [4, 5, 6, 0, 2, 3, 1] rfl (by decide) ⟨a_bytes_a_form_h0, rfl, rfl⟩
              · replace h := it_f c19 h
                by_cases c20 : r1 = 8
                · replace h := it_t c20 h
                  refine j_tabIn (tgt := 160) (off := 142) d_Wr_trail_18 8 c20 (by decide) (by decide) (by decide) (by decide) ?_
                  replace h := lf_s h
                  obtain ⟨h, e1, e2⟩ := h
                  replace h := Prod.mk.inj h
                  obtain ⟨h9, h⟩ := h
                  subst h9
                  replace h := Prod.mk.inj h
                  obtain ⟨h9, h⟩ := h
                  subst h9
                  replace h := Prod.mk.inj h
                  obtain ⟨h9, h⟩ := h
                  subst h9
                  subst h
                  refine j_widen (cl' := mc) (sl' := ms) (by omega) (by omega) ?_
                  exact j_vret (w := [(h0, .inr (6, [.ref a_tree_h0, .ref a_source_h0, .ref a_form_h0, .int indent_h0, .int fits_h0])), (a_tree_h0, .inr (1, [.ref a_cells_a_tree_h0, .int count_a_tree_h0])), (a_cells_a_tree_h0, .inl (cI, n_a_cells_a_tree_h0, .inl b_a_cells_a_tree_h0)), (a_form_h0, .inr (3, [.ref a_bytes_a_form_h0, .int size_a_form_h0])), (a_source_h0, .inr (3, [.ref a_bytes_a_source_h0, .int size_a_source_h0])), (a_bytes_a_source_h0, .inl (cB, n_a_bytes_a_source_h0, .inl b_a_bytes_a_source_h0)), (a_bytes_a_form_h0, .inl (cB, n_a_bytes_a_form_h0, .inl b_a_bytes_a_form_h0))]) hr d_Wr_trail_160 [4, 5, 6, 0, 2, 3, 1] rfl (by decide) ⟨a_bytes_a_form_h0, rfl, rfl⟩
                · replace h := it_f c20 h
                  by_cases c21 : r1 = 9
                  · replace h := it_t c21 h
                    refine j_tabIn (tgt := 160) (off := 142) d_Wr_trail_18 9 c21 (by decide) (by decide) (by decide) (by decide) ?_
                    replace h := lf_s h
                    obtain ⟨h, e1, e2⟩ := h
                    replace h := Prod.mk.inj h
                    obtain ⟨h9, h⟩ := h
                    subst h9
                    replace h := Prod.mk.inj h
                    obtain ⟨h9, h⟩ := h
                    subst h9
                    replace h := Prod.mk.inj h
                    obtain ⟨h9, h⟩ := h
                    subst h9
                    subst h
                    refine j_widen (cl' := mc) (sl' := ms) (by omega) (by omega) ?_
                    exact j_vret (w := [(h0, .inr (6, [.ref a_tree_h0, .ref a_source_h0, .ref a_form_h0, .int indent_h0, .int fits_h0])), (a_tree_h0, .inr (1, [.ref a_cells_a_tree_h0, .int count_a_tree_h0])), (a_cells_a_tree_h0, .inl (cI, n_a_cells_a_tree_h0, .inl b_a_cells_a_tree_h0)), (a_form_h0, .inr (3, [.ref a_bytes_a_form_h0, .int size_a_form_h0])), (a_source_h0, .inr (3, [.ref a_bytes_a_source_h0, .int size_a_source_h0])), (a_bytes_a_source_h0, .inl (cB, n_a_bytes_a_source_h0, .inl b_a_bytes_a_source_h0)), (a_bytes_a_form_h0, .inl (cB, n_a_bytes_a_form_h0, .inl b_a_bytes_a_form_h0))]) hr d_Wr_trail_160 [4, 5, 6, 0, 2, 3, 1] rfl (by decide) ⟨a_bytes_a_form_h0, rfl, rfl⟩
                  · replace h := it_f c21 h
                    by_cases c22 : r1 = 10
                    · replace h := it_t c22 h
                      refine j_tabIn (tgt := 93) (off := 75) d_Wr_trail_18 10 c22 (by decide) (by decide) (by decide) (by decide) ?_
                      refine j_aload_n d_Wr_trail_93 rfl 1 rfl ?_
                      refine j_iload_n d_Wr_trail_94 rfl 0 rfl ?_
                      refine j_if_eq (tgt := 103) d_Wr_trail_95 (by decide) (fun c23 => ?_) (fun c23 => ?_)
                      · replace h := it_t c23 h
                        refine j_ldcS (i := 16) rfl d_Wr_trail_103 ?_
                        replace h := bw_s h
                        obtain ⟨⟨r24, r25, r26, r27⟩, C29, S30, C31, S32, k33, h, e1, e2⟩ := h
                        replace hC : cl_12 + C29 + C31 ≤ mc := by omega
                        replace hS : sl_12 + S30 + S32 ≤ ms := by omega
                        clear e1 e2
                        refine j_callV (n := 1) (As := [.ref (sA D 16)]) (rest := []) (wr := [(a_source_h0, .inr (3, [.ref a_bytes_a_source_h0, .int size_a_source_h0])), (a_bytes_a_source_h0, .inl (cB, n_a_bytes_a_source_h0, .inl b_a_bytes_a_source_h0)), (a_tree_h0, .inr (1, [.ref a_cells_a_tree_h0, .int count_a_tree_h0])), (a_cells_a_tree_h0, .inl (cI, n_a_cells_a_tree_h0, .inl b_a_cells_a_tree_h0))]) (c_Wr_put l D cI cB cJ cS h0 a_tree_h0 a_source_h0 a_form_h0 a_bytes_a_form_h0 16 indent_h0 fits_h0 size_a_form_h0 n_a_bytes_a_form_h0 b_a_bytes_a_form_h0  r24 r25 r26 r27 C29 S30 k33) k_Wr_77 (by decide) ⟨Nat.le_of_ble_eq_true rfl, Nat.le_of_ble_eq_true rfl⟩ rfl 0 rfl [4, 0, 1] [2, 3, 5, 6] rfl (by decide) rfl (by decide) (by decide) rfl rfl (Nat.le_of_ble_eq_true rfl) d_Wr_trail_105 ⟨show cl_12 + C29 ≤ mc by omega, show sl_12 + S30 ≤ ms by omega⟩ (fun v w hq => ?_)
                        obtain ⟨q28, rfl, rfl⟩ := hq
                        refine j_norm (pc' := 108) (st' := []) (ws' := [(a_source_h0, .inr (3, [.ref a_bytes_a_source_h0, .int size_a_source_h0])), (a_bytes_a_source_h0, .inl (cB, n_a_bytes_a_source_h0, .inl b_a_bytes_a_source_h0)), (a_tree_h0, .inr (1, [.ref a_cells_a_tree_h0, .int count_a_tree_h0])), (a_cells_a_tree_h0, .inl (cI, n_a_cells_a_tree_h0, .inl b_a_cells_a_tree_h0)), (h0, .inr (6, [.ref a_tree_h0, .ref a_source_h0, .ref a_form_h0, .int indent_h0, .int r24])), (a_form_h0, .inr (3, [.ref q28, .int r25])), (q28, .inl (cB, r26, .inl r27))]) (cl' := cl_12 + C29) (sl' := sl_12 + S30) rfl rfl rfl rfl rfl rfl ?_
                        refine j_goto (tgt := 160) d_Wr_trail_108 (by decide) ?_
                        replace h := lf_s h
                        obtain ⟨h, e1, e2⟩ := h
                        replace h := Prod.mk.inj h
                        obtain ⟨h9, h⟩ := h
                        subst h9
                        replace h := Prod.mk.inj h
                        obtain ⟨h9, h⟩ := h
                        subst h9
                        replace h := Prod.mk.inj h
                        obtain ⟨h9, h⟩ := h
                        subst h9
                        subst h
                        refine j_widen (cl' := mc) (sl' := ms) (by omega) (by omega) ?_
                        exact j_vret (w := [(h0, .inr (6, [.ref a_tree_h0, .ref a_source_h0, .ref a_form_h0, .int indent_h0, .int r24])), (a_tree_h0, .inr (1, [.ref a_cells_a_tree_h0, .int count_a_tree_h0])), (a_cells_a_tree_h0, .inl (cI, n_a_cells_a_tree_h0, .inl b_a_cells_a_tree_h0)), (a_form_h0, .inr (3, [.ref q28, .int r25])), (a_source_h0, .inr (3, [.ref a_bytes_a_source_h0, .int size_a_source_h0])), (a_bytes_a_source_h0, .inl (cB, n_a_bytes_a_source_h0, .inl b_a_bytes_a_source_h0)), (q28, .inl (cB, r26, .inl r27))]) hr d_Wr_trail_160 [4, 2, 3, 5, 0, 1, 6] rfl (by decide) ⟨q28, rfl, rfl⟩
                      · replace h := it_f c23 h
                        refine j_ldcS (i := 37) rfl d_Wr_trail_98 ?_
                        refine j_goto (tgt := 105) d_Wr_trail_100 (by decide) ?_
                        replace h := bw_s h
                        obtain ⟨⟨r34, r35, r36, r37⟩, C39, S40, C41, S42, k43, h, e1, e2⟩ := h
                        replace hC : cl_12 + C39 + C41 ≤ mc := by omega
                        replace hS : sl_12 + S40 + S42 ≤ ms := by omega
                        clear e1 e2
                        refine j_callV (n := 1) (As := [.ref (sA D 37)]) (rest := []) (wr := [(a_source_h0, .inr (3, [.ref a_bytes_a_source_h0, .int size_a_source_h0])), (a_bytes_a_source_h0, .inl (cB, n_a_bytes_a_source_h0, .inl b_a_bytes_a_source_h0)), (a_tree_h0, .inr (1, [.ref a_cells_a_tree_h0, .int count_a_tree_h0])), (a_cells_a_tree_h0, .inl (cI, n_a_cells_a_tree_h0, .inl b_a_cells_a_tree_h0))]) (c_Wr_put l D cI cB cJ cS h0 a_tree_h0 a_source_h0 a_form_h0 a_bytes_a_form_h0 37 indent_h0 fits_h0 size_a_form_h0 n_a_bytes_a_form_h0 b_a_bytes_a_form_h0  r34 r35 r36 r37 C39 S40 k43) k_Wr_77 (by decide) ⟨Nat.le_of_ble_eq_true rfl, Nat.le_of_ble_eq_true rfl⟩ rfl 0 rfl [4, 0, 1] [2, 3, 5, 6] rfl (by decide) rfl (by decide) (by decide) rfl rfl (Nat.le_of_ble_eq_true rfl) d_Wr_trail_105 ⟨show cl_12 + C39 ≤ mc by omega, show sl_12 + S40 ≤ ms by omega⟩ (fun v w hq => ?_)
                        obtain ⟨q38, rfl, rfl⟩ := hq
                        refine j_norm (pc' := 108) (st' := []) (ws' := [(a_source_h0, .inr (3, [.ref a_bytes_a_source_h0, .int size_a_source_h0])), (a_bytes_a_source_h0, .inl (cB, n_a_bytes_a_source_h0, .inl b_a_bytes_a_source_h0)), (a_tree_h0, .inr (1, [.ref a_cells_a_tree_h0, .int count_a_tree_h0])), (a_cells_a_tree_h0, .inl (cI, n_a_cells_a_tree_h0, .inl b_a_cells_a_tree_h0)), (h0, .inr (6, [.ref a_tree_h0, .ref a_source_h0, .ref a_form_h0, .int indent_h0, .int r34])), (a_form_h0, .inr (3, [.ref q38, .int r35])), (q38, .inl (cB, r36, .inl r37))]) (cl' := cl_12 + C39) (sl' := sl_12 + S40) rfl rfl rfl rfl rfl rfl ?_
                        refine j_goto (tgt := 160) d_Wr_trail_108 (by decide) ?_
                        replace h := lf_s h
                        obtain ⟨h, e1, e2⟩ := h
                        replace h := Prod.mk.inj h
                        obtain ⟨h9, h⟩ := h
                        subst h9
                        replace h := Prod.mk.inj h
                        obtain ⟨h9, h⟩ := h
                        subst h9
                        replace h := Prod.mk.inj h
                        obtain ⟨h9, h⟩ := h
                        subst h9
                        subst h
                        refine j_widen (cl' := mc) (sl' := ms) (by omega) (by omega) ?_
                        exact j_vret (w := [(h0, .inr (6, [.ref a_tree_h0, .ref a_source_h0, .ref a_form_h0, .int indent_h0, .int r34])), (a_tree_h0, .inr (1, [.ref a_cells_a_tree_h0, .int count_a_tree_h0])), (a_cells_a_tree_h0, .inl (cI, n_a_cells_a_tree_h0, .inl b_a_cells_a_tree_h0)), (a_form_h0, .inr (3, [.ref q38, .int r35])), (a_source_h0, .inr (3, [.ref a_bytes_a_source_h0, .int size_a_source_h0])), (a_bytes_a_source_h0, .inl (cB, n_a_bytes_a_source_h0, .inl b_a_bytes_a_source_h0)), (q38, .inl (cB, r36, .inl r37))]) hr d_Wr_trail_160 [4, 2, 3, 5, 0, 1, 6] rfl (by decide) ⟨q38, rfl, rfl⟩
                    · replace h := it_f c22 h
                      by_cases c44 : r1 = 11
                      · replace h := it_t c44 h
                        refine j_tabIn (tgt := 142) (off := 124) d_Wr_trail_18 11 c44 (by decide) (by decide) (by decide) (by decide) ?_
                        refine j_aload_n d_Wr_trail_142 rfl 1 rfl ?_
                        refine j_iload_n d_Wr_trail_143 rfl 3 rfl ?_
                        replace h := bd_s h
                        obtain ⟨r45, k46, h⟩ := h
                        refine j_callV (n := 1) (As := [.int p2]) (rest := []) (wr := [(a_form_h0, .inr (3, [.ref a_bytes_a_form_h0, .int size_a_form_h0])), (a_bytes_a_form_h0, .inl (cB, n_a_bytes_a_form_h0, .inl b_a_bytes_a_form_h0)), (a_source_h0, .inr (3, [.ref a_bytes_a_source_h0, .int size_a_source_h0])), (a_bytes_a_source_h0, .inl (cB, n_a_bytes_a_source_h0, .inl b_a_bytes_a_source_h0))]) (c_Wr_kind l D cI cB cJ cS h0 a_tree_h0 a_source_h0 a_form_h0 a_cells_a_tree_h0 p2 indent_h0 fits_h0 count_a_tree_h0 n_a_cells_a_tree_h0 b_a_cells_a_tree_h0  r45 k46) k_Wr_105 (by decide) ⟨Nat.le_of_ble_eq_true rfl, Nat.le_of_ble_eq_true rfl⟩ rfl 0 rfl [4, 5, 6] [0, 1, 2, 3] rfl (by decide) rfl (by decide) (by decide) rfl rfl (Nat.le_of_ble_eq_true rfl) d_Wr_trail_144 ⟨show cl_12 + 0 ≤ mc by omega, show sl_12 + 0 ≤ ms by omega⟩ (fun v w hq => ?_)
                        obtain ⟨rfl, rfl⟩ := hq
                        refine j_norm (pc' := 147) (st' := [.int r45]) (ws' := [(a_form_h0, .inr (3, [.ref a_bytes_a_form_h0, .int size_a_form_h0])), (a_bytes_a_form_h0, .inl (cB, n_a_bytes_a_form_h0, .inl b_a_bytes_a_form_h0)), (a_source_h0, .inr (3, [.ref a_bytes_a_source_h0, .int size_a_source_h0])), (a_bytes_a_source_h0, .inl (cB, n_a_bytes_a_source_h0, .inl b_a_bytes_a_source_h0)), (h0, .inr (6, [.ref a_tree_h0, .ref a_source_h0, .ref a_form_h0, .int indent_h0, .int fits_h0])), (a_tree_h0, .inr (1, [.ref a_cells_a_tree_h0, .int count_a_tree_h0])), (a_cells_a_tree_h0, .inl (cI, n_a_cells_a_tree_h0, .inl b_a_cells_a_tree_h0))]) (cl' := cl_12) (sl' := sl_12) rfl rfl rfl rfl rfl rfl ?_
                        refine j_iconst (v := 3) d_Wr_trail_147 (by decide) ?_
                        refine j_icmp_eq (tgt := 160) d_Wr_trail_148 (by decide) (fun c47 => ?_) (fun c47 => ?_)
                        · replace h := it_t c47 h
                          replace h := lf_s h
                          obtain ⟨h, e1, e2⟩ := h
                          replace h := Prod.mk.inj h
                          obtain ⟨h9, h⟩ := h
                          subst h9
                          replace h := Prod.mk.inj h
                          obtain ⟨h9, h⟩ := h
                          subst h9
                          replace h := Prod.mk.inj h
                          obtain ⟨h9, h⟩ := h
                          subst h9
                          subst h
                          refine j_widen (cl' := mc) (sl' := ms) (by omega) (by omega) ?_
                          exact j_vret (w := [(h0, .inr (6, [.ref a_tree_h0, .ref a_source_h0, .ref a_form_h0, .int indent_h0, .int fits_h0])), (a_tree_h0, .inr (1, [.ref a_cells_a_tree_h0, .int count_a_tree_h0])), (a_cells_a_tree_h0, .inl (cI, n_a_cells_a_tree_h0, .inl b_a_cells_a_tree_h0)), (a_form_h0, .inr (3, [.ref a_bytes_a_form_h0, .int size_a_form_h0])), (a_source_h0, .inr (3, [.ref a_bytes_a_source_h0, .int size_a_source_h0])), (a_bytes_a_source_h0, .inl (cB, n_a_bytes_a_source_h0, .inl b_a_bytes_a_source_h0)), (a_bytes_a_form_h0, .inl (cB, n_a_bytes_a_form_h0, .inl b_a_bytes_a_form_h0))]) hr d_Wr_trail_160 [4, 5, 6, 0, 2, 3, 1] rfl (by decide) ⟨a_bytes_a_form_h0, rfl, rfl⟩
                        · replace h := it_f c47 h
                          refine j_aload_n d_Wr_trail_151 rfl 1 rfl ?_
                          refine j_ldcS (i := 38) rfl d_Wr_trail_152 ?_
                          replace h := bw_s h
                          obtain ⟨⟨r48, r49, r50, r51⟩, C53, S54, C55, S56, k57, h, e1, e2⟩ := h
                          replace hC : cl_12 + C53 + C55 ≤ mc := by omega
                          replace hS : sl_12 + S54 + S56 ≤ ms := by omega
                          clear e1 e2
                          refine j_callV (n := 1) (As := [.ref (sA D 38)]) (rest := []) (wr := [(a_source_h0, .inr (3, [.ref a_bytes_a_source_h0, .int size_a_source_h0])), (a_bytes_a_source_h0, .inl (cB, n_a_bytes_a_source_h0, .inl b_a_bytes_a_source_h0)), (a_tree_h0, .inr (1, [.ref a_cells_a_tree_h0, .int count_a_tree_h0])), (a_cells_a_tree_h0, .inl (cI, n_a_cells_a_tree_h0, .inl b_a_cells_a_tree_h0))]) (c_Wr_put l D cI cB cJ cS h0 a_tree_h0 a_source_h0 a_form_h0 a_bytes_a_form_h0 38 indent_h0 fits_h0 size_a_form_h0 n_a_bytes_a_form_h0 b_a_bytes_a_form_h0  r48 r49 r50 r51 C53 S54 k57) k_Wr_77 (by decide) ⟨Nat.le_of_ble_eq_true rfl, Nat.le_of_ble_eq_true rfl⟩ rfl 0 rfl [4, 0, 1] [2, 3, 5, 6] rfl (by decide) rfl (by decide) (by decide) rfl rfl (Nat.le_of_ble_eq_true rfl) d_Wr_trail_154 ⟨show cl_12 + C53 ≤ mc by omega, show sl_12 + S54 ≤ ms by omega⟩ (fun v w hq => ?_)
                          obtain ⟨q52, rfl, rfl⟩ := hq
                          refine j_norm (pc' := 157) (st' := []) (ws' := [(a_source_h0, .inr (3, [.ref a_bytes_a_source_h0, .int size_a_source_h0])), (a_bytes_a_source_h0, .inl (cB, n_a_bytes_a_source_h0, .inl b_a_bytes_a_source_h0)), (a_tree_h0, .inr (1, [.ref a_cells_a_tree_h0, .int count_a_tree_h0])), (a_cells_a_tree_h0, .inl (cI, n_a_cells_a_tree_h0, .inl b_a_cells_a_tree_h0)), (h0, .inr (6, [.ref a_tree_h0, .ref a_source_h0, .ref a_form_h0, .int indent_h0, .int r48])), (a_form_h0, .inr (3, [.ref q52, .int r49])), (q52, .inl (cB, r50, .inl r51))]) (cl' := cl_12 + C53) (sl' := sl_12 + S54) rfl rfl rfl rfl rfl rfl ?_
                          refine j_goto (tgt := 160) d_Wr_trail_157 (by decide) ?_
                          replace h := lf_s h
                          obtain ⟨h, e1, e2⟩ := h
                          replace h := Prod.mk.inj h
                          obtain ⟨h9, h⟩ := h
                          subst h9
                          replace h := Prod.mk.inj h
                          obtain ⟨h9, h⟩ := h
                          subst h9
                          replace h := Prod.mk.inj h
                          obtain ⟨h9, h⟩ := h
                          subst h9
                          subst h
                          refine j_widen (cl' := mc) (sl' := ms) (by omega) (by omega) ?_
                          exact j_vret (w := [(h0, .inr (6, [.ref a_tree_h0, .ref a_source_h0, .ref a_form_h0, .int indent_h0, .int r48])), (a_tree_h0, .inr (1, [.ref a_cells_a_tree_h0, .int count_a_tree_h0])), (a_cells_a_tree_h0, .inl (cI, n_a_cells_a_tree_h0, .inl b_a_cells_a_tree_h0)), (a_form_h0, .inr (3, [.ref q52, .int r49])), (a_source_h0, .inr (3, [.ref a_bytes_a_source_h0, .int size_a_source_h0])), (a_bytes_a_source_h0, .inl (cB, n_a_bytes_a_source_h0, .inl b_a_bytes_a_source_h0)), (q52, .inl (cB, r50, .inl r51))]) hr d_Wr_trail_160 [4, 2, 3, 5, 0, 1, 6] rfl (by decide) ⟨q52, rfl, rfl⟩
                      · replace h := it_f c44 h
                        by_cases c58 : r1 = 12
                        · replace h := it_t c58 h
                          refine j_tabIn (tgt := 142) (off := 124) d_Wr_trail_18 12 c58 (by decide) (by decide) (by decide) (by decide) ?_
                          refine j_aload_n d_Wr_trail_142 rfl 1 rfl ?_
                          refine j_iload_n d_Wr_trail_143 rfl 3 rfl ?_
                          replace h := bd_s h
                          obtain ⟨r59, k60, h⟩ := h
                          refine j_callV (n := 1) (As := [.int p2]) (rest := []) (wr := [(a_form_h0, .inr (3, [.ref a_bytes_a_form_h0, .int size_a_form_h0])), (a_bytes_a_form_h0, .inl (cB, n_a_bytes_a_form_h0, .inl b_a_bytes_a_form_h0)), (a_source_h0, .inr (3, [.ref a_bytes_a_source_h0, .int size_a_source_h0])), (a_bytes_a_source_h0, .inl (cB, n_a_bytes_a_source_h0, .inl b_a_bytes_a_source_h0))]) (c_Wr_kind l D cI cB cJ cS h0 a_tree_h0 a_source_h0 a_form_h0 a_cells_a_tree_h0 p2 indent_h0 fits_h0 count_a_tree_h0 n_a_cells_a_tree_h0 b_a_cells_a_tree_h0  r59 k60) k_Wr_105 (by decide) ⟨Nat.le_of_ble_eq_true rfl, Nat.le_of_ble_eq_true rfl⟩ rfl 0 rfl [4, 5, 6] [0, 1, 2, 3] rfl (by decide) rfl (by decide) (by decide) rfl rfl (Nat.le_of_ble_eq_true rfl) d_Wr_trail_144 ⟨show cl_12 + 0 ≤ mc by omega, show sl_12 + 0 ≤ ms by omega⟩ (fun v w hq => ?_)
                          obtain ⟨rfl, rfl⟩ := hq
                          refine j_norm (pc' := 147) (st' := [.int r59]) (ws' := [(a_form_h0, .inr (3, [.ref a_bytes_a_form_h0, .int size_a_form_h0])), (a_bytes_a_form_h0, .inl (cB, n_a_bytes_a_form_h0, .inl b_a_bytes_a_form_h0)), (a_source_h0, .inr (3, [.ref a_bytes_a_source_h0, .int size_a_source_h0])), (a_bytes_a_source_h0, .inl (cB, n_a_bytes_a_source_h0, .inl b_a_bytes_a_source_h0)), (h0, .inr (6, [.ref a_tree_h0, .ref a_source_h0, .ref a_form_h0, .int indent_h0, .int fits_h0])), (a_tree_h0, .inr (1, [.ref a_cells_a_tree_h0, .int count_a_tree_h0])), (a_cells_a_tree_h0, .inl (cI, n_a_cells_a_tree_h0, .inl b_a_cells_a_tree_h0))]) (cl' := cl_12) (sl' := sl_12) rfl rfl rfl rfl rfl rfl ?_
                          refine j_iconst (v := 3) d_Wr_trail_147 (by decide) ?_
                          refine j_icmp_eq (tgt := 160) d_Wr_trail_148 (by decide) (fun c61 => ?_) (fun c61 => ?_)
                          · replace h := it_t c61 h
                            replace h := lf_s h
                            obtain ⟨h, e1, e2⟩ := h
                            replace h := Prod.mk.inj h
                            obtain ⟨h9, h⟩ := h
                            subst h9
                            replace h := Prod.mk.inj h
                            obtain ⟨h9, h⟩ := h
                            subst h9
                            replace h := Prod.mk.inj h
                            obtain ⟨h9, h⟩ := h
                            subst h9
                            subst h
                            refine j_widen (cl' := mc) (sl' := ms) (by omega) (by omega) ?_
                            exact j_vret (w := [(h0, .inr (6, [.ref a_tree_h0, .ref a_source_h0, .ref a_form_h0, .int indent_h0, .int fits_h0])), (a_tree_h0, .inr (1, [.ref a_cells_a_tree_h0, .int count_a_tree_h0])), (a_cells_a_tree_h0, .inl (cI, n_a_cells_a_tree_h0, .inl b_a_cells_a_tree_h0)), (a_form_h0, .inr (3, [.ref a_bytes_a_form_h0, .int size_a_form_h0])), (a_source_h0, .inr (3, [.ref a_bytes_a_source_h0, .int size_a_source_h0])), (a_bytes_a_source_h0, .inl (cB, n_a_bytes_a_source_h0, .inl b_a_bytes_a_source_h0)), (a_bytes_a_form_h0, .inl (cB, n_a_bytes_a_form_h0, .inl b_a_bytes_a_form_h0))]) hr d_Wr_trail_160 [4, 5, 6, 0, 2, 3, 1] rfl (by decide) ⟨a_bytes_a_form_h0, rfl, rfl⟩
                          · replace h := it_f c61 h
                            refine j_aload_n d_Wr_trail_151 rfl 1 rfl ?_
                            refine j_ldcS (i := 38) rfl d_Wr_trail_152 ?_
                            replace h := bw_s h
                            obtain ⟨⟨r62, r63, r64, r65⟩, C67, S68, C69, S70, k71, h, e1, e2⟩ := h
                            replace hC : cl_12 + C67 + C69 ≤ mc := by omega
                            replace hS : sl_12 + S68 + S70 ≤ ms := by omega
                            clear e1 e2
                            refine j_callV (n := 1) (As := [.ref (sA D 38)]) (rest := []) (wr := [(a_source_h0, .inr (3, [.ref a_bytes_a_source_h0, .int size_a_source_h0])), (a_bytes_a_source_h0, .inl (cB, n_a_bytes_a_source_h0, .inl b_a_bytes_a_source_h0)), (a_tree_h0, .inr (1, [.ref a_cells_a_tree_h0, .int count_a_tree_h0])), (a_cells_a_tree_h0, .inl (cI, n_a_cells_a_tree_h0, .inl b_a_cells_a_tree_h0))]) (c_Wr_put l D cI cB cJ cS h0 a_tree_h0 a_source_h0 a_form_h0 a_bytes_a_form_h0 38 indent_h0 fits_h0 size_a_form_h0 n_a_bytes_a_form_h0 b_a_bytes_a_form_h0  r62 r63 r64 r65 C67 S68 k71) k_Wr_77 (by decide) ⟨Nat.le_of_ble_eq_true rfl, Nat.le_of_ble_eq_true rfl⟩ rfl 0 rfl [4, 0, 1] [2, 3, 5, 6] rfl (by decide) rfl (by decide) (by decide) rfl rfl (Nat.le_of_ble_eq_true rfl) d_Wr_trail_154 ⟨show cl_12 + C67 ≤ mc by omega, show sl_12 + S68 ≤ ms by omega⟩ (fun v w hq => ?_)
                            obtain ⟨q66, rfl, rfl⟩ := hq
                            refine j_norm (pc' := 157) (st' := []) (ws' := [(a_source_h0, .inr (3, [.ref a_bytes_a_source_h0, .int size_a_source_h0])), (a_bytes_a_source_h0, .inl (cB, n_a_bytes_a_source_h0, .inl b_a_bytes_a_source_h0)), (a_tree_h0, .inr (1, [.ref a_cells_a_tree_h0, .int count_a_tree_h0])), (a_cells_a_tree_h0, .inl (cI, n_a_cells_a_tree_h0, .inl b_a_cells_a_tree_h0)), (h0, .inr (6, [.ref a_tree_h0, .ref a_source_h0, .ref a_form_h0, .int indent_h0, .int r62])), (a_form_h0, .inr (3, [.ref q66, .int r63])), (q66, .inl (cB, r64, .inl r65))]) (cl' := cl_12 + C67) (sl' := sl_12 + S68) rfl rfl rfl rfl rfl rfl ?_
                            refine j_goto (tgt := 160) d_Wr_trail_157 (by decide) ?_
                            replace h := lf_s h
                            obtain ⟨h, e1, e2⟩ := h
                            replace h := Prod.mk.inj h
                            obtain ⟨h9, h⟩ := h
                            subst h9
                            replace h := Prod.mk.inj h
                            obtain ⟨h9, h⟩ := h
                            subst h9
                            replace h := Prod.mk.inj h
                            obtain ⟨h9, h⟩ := h
                            subst h9
                            subst h
                            refine j_widen (cl' := mc) (sl' := ms) (by omega) (by omega) ?_
                            exact j_vret (w := [(h0, .inr (6, [.ref a_tree_h0, .ref a_source_h0, .ref a_form_h0, .int indent_h0, .int r62])), (a_tree_h0, .inr (1, [.ref a_cells_a_tree_h0, .int count_a_tree_h0])), (a_cells_a_tree_h0, .inl (cI, n_a_cells_a_tree_h0, .inl b_a_cells_a_tree_h0)), (a_form_h0, .inr (3, [.ref q66, .int r63])), (a_source_h0, .inr (3, [.ref a_bytes_a_source_h0, .int size_a_source_h0])), (a_bytes_a_source_h0, .inl (cB, n_a_bytes_a_source_h0, .inl b_a_bytes_a_source_h0)), (q66, .inl (cB, r64, .inl r65))]) hr d_Wr_trail_160 [4, 2, 3, 5, 0, 1, 6] rfl (by decide) ⟨q66, rfl, rfl⟩
                        · replace h := it_f c58 h
                          by_cases c72 : r1 = 13
                          · replace h := it_t c72 h
                            refine j_tabIn (tgt := 111) (off := 93) d_Wr_trail_18 13 c72 (by decide) (by decide) (by decide) (by decide) ?_
                            refine j_iload_n d_Wr_trail_111 rfl 0 rfl ?_
                            refine j_if_eq (tgt := 124) d_Wr_trail_112 (by decide) (fun c73 => ?_) (fun c73 => ?_)
                            · replace h := it_t c73 h
                              refine j_aload_n d_Wr_trail_124 rfl 1 rfl ?_
                              refine j_iload_n d_Wr_trail_125 rfl 3 rfl ?_
                              replace h := bd_s h
                              obtain ⟨r74, k75, h⟩ := h
                              refine j_callV (n := 1) (As := [.int p2]) (rest := []) (wr := [(a_form_h0, .inr (3, [.ref a_bytes_a_form_h0, .int size_a_form_h0])), (a_bytes_a_form_h0, .inl (cB, n_a_bytes_a_form_h0, .inl b_a_bytes_a_form_h0)), (a_source_h0, .inr (3, [.ref a_bytes_a_source_h0, .int size_a_source_h0])), (a_bytes_a_source_h0, .inl (cB, n_a_bytes_a_source_h0, .inl b_a_bytes_a_source_h0))]) (c_Wr_kind l D cI cB cJ cS h0 a_tree_h0 a_source_h0 a_form_h0 a_cells_a_tree_h0 p2 indent_h0 fits_h0 count_a_tree_h0 n_a_cells_a_tree_h0 b_a_cells_a_tree_h0  r74 k75) k_Wr_105 (by decide) ⟨Nat.le_of_ble_eq_true rfl, Nat.le_of_ble_eq_true rfl⟩ rfl 0 rfl [4, 5, 6] [0, 1, 2, 3] rfl (by decide) rfl (by decide) (by decide) rfl rfl (Nat.le_of_ble_eq_true rfl) d_Wr_trail_126 ⟨show cl_12 + 0 ≤ mc by omega, show sl_12 + 0 ≤ ms by omega⟩ (fun v w hq => ?_)
                              obtain ⟨rfl, rfl⟩ := hq
                              refine j_norm (pc' := 129) (st' := [.int r74]) (ws' := [(a_form_h0, .inr (3, [.ref a_bytes_a_form_h0, .int size_a_form_h0])), (a_bytes_a_form_h0, .inl (cB, n_a_bytes_a_form_h0, .inl b_a_bytes_a_form_h0)), (a_source_h0, .inr (3, [.ref a_bytes_a_source_h0, .int size_a_source_h0])), (a_bytes_a_source_h0, .inl (cB, n_a_bytes_a_source_h0, .inl b_a_bytes_a_source_h0)), (h0, .inr (6, [.ref a_tree_h0, .ref a_source_h0, .ref a_form_h0, .int indent_h0, .int fits_h0])), (a_tree_h0, .inr (1, [.ref a_cells_a_tree_h0, .int count_a_tree_h0])), (a_cells_a_tree_h0, .inl (cI, n_a_cells_a_tree_h0, .inl b_a_cells_a_tree_h0))]) (cl' := cl_12) (sl' := sl_12) rfl rfl rfl rfl rfl rfl ?_
                              refine j_iconst (v := 3) d_Wr_trail_129 (by decide) ?_
                              refine j_icmp_eq (tgt := 160) d_Wr_trail_130 (by decide) (fun c76 => ?_) (fun c76 => ?_)
                              · replace h := it_t c76 h
                                replace h := lf_s h
                                obtain ⟨h, e1, e2⟩ := h
                                replace h := Prod.mk.inj h
                                obtain ⟨h9, h⟩ := h
                                subst h9
                                replace h := Prod.mk.inj h
                                obtain ⟨h9, h⟩ := h
                                subst h9
                                replace h := Prod.mk.inj h
                                obtain ⟨h9, h⟩ := h
                                subst h9
                                subst h
                                refine j_widen (cl' := mc) (sl' := ms) (by omega) (by omega) ?_
                                exact j_vret (w := [(h0, .inr (6, [.ref a_tree_h0, .ref a_source_h0, .ref a_form_h0, .int indent_h0, .int fits_h0])), (a_tree_h0, .inr (1, [.ref a_cells_a_tree_h0, .int count_a_tree_h0])), (a_cells_a_tree_h0, .inl (cI, n_a_cells_a_tree_h0, .inl b_a_cells_a_tree_h0)), (a_form_h0, .inr (3, [.ref a_bytes_a_form_h0, .int size_a_form_h0])), (a_source_h0, .inr (3, [.ref a_bytes_a_source_h0, .int size_a_source_h0])), (a_bytes_a_source_h0, .inl (cB, n_a_bytes_a_source_h0, .inl b_a_bytes_a_source_h0)), (a_bytes_a_form_h0, .inl (cB, n_a_bytes_a_form_h0, .inl b_a_bytes_a_form_h0))]) hr d_Wr_trail_160 [4, 5, 6, 0, 2, 3, 1] rfl (by decide) ⟨a_bytes_a_form_h0, rfl, rfl⟩
                              · replace h := it_f c76 h
                                refine j_aload_n d_Wr_trail_133 rfl 1 rfl ?_
                                refine j_ldcS (i := 38) rfl d_Wr_trail_134 ?_
                                replace h := bw_s h
                                obtain ⟨⟨r77, r78, r79, r80⟩, C82, S83, C84, S85, k86, h, e1, e2⟩ := h
                                replace hC : cl_12 + C82 + C84 ≤ mc := by omega
                                replace hS : sl_12 + S83 + S85 ≤ ms := by omega
                                clear e1 e2
                                refine j_callV (n := 1) (As := [.ref (sA D 38)]) (rest := []) (wr := [(a_source_h0, .inr (3, [.ref a_bytes_a_source_h0, .int size_a_source_h0])), (a_bytes_a_source_h0, .inl (cB, n_a_bytes_a_source_h0, .inl b_a_bytes_a_source_h0)), (a_tree_h0, .inr (1, [.ref a_cells_a_tree_h0, .int count_a_tree_h0])), (a_cells_a_tree_h0, .inl (cI, n_a_cells_a_tree_h0, .inl b_a_cells_a_tree_h0))]) (c_Wr_put l D cI cB cJ cS h0 a_tree_h0 a_source_h0 a_form_h0 a_bytes_a_form_h0 38 indent_h0 fits_h0 size_a_form_h0 n_a_bytes_a_form_h0 b_a_bytes_a_form_h0  r77 r78 r79 r80 C82 S83 k86) k_Wr_77 (by decide) ⟨Nat.le_of_ble_eq_true rfl, Nat.le_of_ble_eq_true rfl⟩ rfl 0 rfl [4, 0, 1] [2, 3, 5, 6] rfl (by decide) rfl (by decide) (by decide) rfl rfl (Nat.le_of_ble_eq_true rfl) d_Wr_trail_136 ⟨show cl_12 + C82 ≤ mc by omega, show sl_12 + S83 ≤ ms by omega⟩ (fun v w hq => ?_)
                                obtain ⟨q81, rfl, rfl⟩ := hq
                                refine j_norm (pc' := 139) (st' := []) (ws' := [(a_source_h0, .inr (3, [.ref a_bytes_a_source_h0, .int size_a_source_h0])), (a_bytes_a_source_h0, .inl (cB, n_a_bytes_a_source_h0, .inl b_a_bytes_a_source_h0)), (a_tree_h0, .inr (1, [.ref a_cells_a_tree_h0, .int count_a_tree_h0])), (a_cells_a_tree_h0, .inl (cI, n_a_cells_a_tree_h0, .inl b_a_cells_a_tree_h0)), (h0, .inr (6, [.ref a_tree_h0, .ref a_source_h0, .ref a_form_h0, .int indent_h0, .int r77])), (a_form_h0, .inr (3, [.ref q81, .int r78])), (q81, .inl (cB, r79, .inl r80))]) (cl' := cl_12 + C82) (sl' := sl_12 + S83) rfl rfl rfl rfl rfl rfl ?_
                                refine j_goto (tgt := 160) d_Wr_trail_139 (by decide) ?_
                                replace h := lf_s h
                                obtain ⟨h, e1, e2⟩ := h
                                replace h := Prod.mk.inj h
                                obtain ⟨h9, h⟩ := h
                                subst h9
                                replace h := Prod.mk.inj h
                                obtain ⟨h9, h⟩ := h
                                subst h9
                                replace h := Prod.mk.inj h
                                obtain ⟨h9, h⟩ := h
                                subst h9
                                subst h
                                refine j_widen (cl' := mc) (sl' := ms) (by omega) (by omega) ?_
                                exact j_vret (w := [(h0, .inr (6, [.ref a_tree_h0, .ref a_source_h0, .ref a_form_h0, .int indent_h0, .int r77])), (a_tree_h0, .inr (1, [.ref a_cells_a_tree_h0, .int count_a_tree_h0])), (a_cells_a_tree_h0, .inl (cI, n_a_cells_a_tree_h0, .inl b_a_cells_a_tree_h0)), (a_form_h0, .inr (3, [.ref q81, .int r78])), (a_source_h0, .inr (3, [.ref a_bytes_a_source_h0, .int size_a_source_h0])), (a_bytes_a_source_h0, .inl (cB, n_a_bytes_a_source_h0, .inl b_a_bytes_a_source_h0)), (q81, .inl (cB, r79, .inl r80))]) hr d_Wr_trail_160 [4, 2, 3, 5, 0, 1, 6] rfl (by decide) ⟨q81, rfl, rfl⟩
                            · replace h := it_f c73 h
                              refine j_aload_n d_Wr_trail_115 rfl 1 rfl ?_
                              refine j_ldcS (i := 24) rfl d_Wr_trail_116 ?_
                              replace h := bw_s h
                              obtain ⟨⟨r87, r88, r89, r90⟩, C92, S93, C94, S95, k96, h, e1, e2⟩ := h
                              replace hC : cl_12 + C92 + C94 ≤ mc := by omega
                              replace hS : sl_12 + S93 + S95 ≤ ms := by omega
                              clear e1 e2
                              refine j_callV (n := 1) (As := [.ref (sA D 24)]) (rest := []) (wr := [(a_source_h0, .inr (3, [.ref a_bytes_a_source_h0, .int size_a_source_h0])), (a_bytes_a_source_h0, .inl (cB, n_a_bytes_a_source_h0, .inl b_a_bytes_a_source_h0)), (a_tree_h0, .inr (1, [.ref a_cells_a_tree_h0, .int count_a_tree_h0])), (a_cells_a_tree_h0, .inl (cI, n_a_cells_a_tree_h0, .inl b_a_cells_a_tree_h0))]) (c_Wr_put l D cI cB cJ cS h0 a_tree_h0 a_source_h0 a_form_h0 a_bytes_a_form_h0 24 indent_h0 fits_h0 size_a_form_h0 n_a_bytes_a_form_h0 b_a_bytes_a_form_h0  r87 r88 r89 r90 C92 S93 k96) k_Wr_77 (by decide) ⟨Nat.le_of_ble_eq_true rfl, Nat.le_of_ble_eq_true rfl⟩ rfl 0 rfl [4, 0, 1] [2, 3, 5, 6] rfl (by decide) rfl (by decide) (by decide) rfl rfl (Nat.le_of_ble_eq_true rfl) d_Wr_trail_118 ⟨show cl_12 + C92 ≤ mc by omega, show sl_12 + S93 ≤ ms by omega⟩ (fun v w hq => ?_)
                              obtain ⟨q91, rfl, rfl⟩ := hq
                              refine j_norm (pc' := 121) (st' := []) (ws' := [(a_source_h0, .inr (3, [.ref a_bytes_a_source_h0, .int size_a_source_h0])), (a_bytes_a_source_h0, .inl (cB, n_a_bytes_a_source_h0, .inl b_a_bytes_a_source_h0)), (a_tree_h0, .inr (1, [.ref a_cells_a_tree_h0, .int count_a_tree_h0])), (a_cells_a_tree_h0, .inl (cI, n_a_cells_a_tree_h0, .inl b_a_cells_a_tree_h0)), (h0, .inr (6, [.ref a_tree_h0, .ref a_source_h0, .ref a_form_h0, .int indent_h0, .int r87])), (a_form_h0, .inr (3, [.ref q91, .int r88])), (q91, .inl (cB, r89, .inl r90))]) (cl' := cl_12 + C92) (sl' := sl_12 + S93) rfl rfl rfl rfl rfl rfl ?_
                              refine j_goto (tgt := 160) d_Wr_trail_121 (by decide) ?_
                              replace h := lf_s h
                              obtain ⟨h, e1, e2⟩ := h
                              replace h := Prod.mk.inj h
                              obtain ⟨h9, h⟩ := h
                              subst h9
                              replace h := Prod.mk.inj h
                              obtain ⟨h9, h⟩ := h
                              subst h9
                              replace h := Prod.mk.inj h
                              obtain ⟨h9, h⟩ := h
                              subst h9
                              subst h
                              refine j_widen (cl' := mc) (sl' := ms) (by omega) (by omega) ?_
                              exact j_vret (w := [(h0, .inr (6, [.ref a_tree_h0, .ref a_source_h0, .ref a_form_h0, .int indent_h0, .int r87])), (a_tree_h0, .inr (1, [.ref a_cells_a_tree_h0, .int count_a_tree_h0])), (a_cells_a_tree_h0, .inl (cI, n_a_cells_a_tree_h0, .inl b_a_cells_a_tree_h0)), (a_form_h0, .inr (3, [.ref q91, .int r88])), (a_source_h0, .inr (3, [.ref a_bytes_a_source_h0, .int size_a_source_h0])), (a_bytes_a_source_h0, .inl (cB, n_a_bytes_a_source_h0, .inl b_a_bytes_a_source_h0)), (q91, .inl (cB, r89, .inl r90))]) hr d_Wr_trail_160 [4, 2, 3, 5, 0, 1, 6] rfl (by decide) ⟨q91, rfl, rfl⟩
                          · replace h := it_f c72 h
                            refine j_tabOut (tgt := 160) d_Wr_trail_18 (by have := lv_neT c3 (by decide : (1 : Int32).toInt = 1); have := lv_neT c14 (by decide : (2 : Int32).toInt = 2); have := lv_neT c15 (by decide : (3 : Int32).toInt = 3); have := lv_neT c16 (by decide : (4 : Int32).toInt = 4); have := lv_neT c17 (by decide : (5 : Int32).toInt = 5); have := lv_neT c18 (by decide : (6 : Int32).toInt = 6); have := lv_neT c19 (by decide : (7 : Int32).toInt = 7); have := lv_neT c20 (by decide : (8 : Int32).toInt = 8); have := lv_neT c21 (by decide : (9 : Int32).toInt = 9); have := lv_neT c22 (by decide : (10 : Int32).toInt = 10); have := lv_neT c44 (by decide : (11 : Int32).toInt = 11); have := lv_neT c58 (by decide : (12 : Int32).toInt = 12); have := lv_neT c72 (by decide : (13 : Int32).toInt = 13); omega) (by decide) ?_
                            replace h := lf_s h
                            obtain ⟨h, e1, e2⟩ := h
                            replace h := Prod.mk.inj h
                            obtain ⟨h9, h⟩ := h
                            subst h9
                            replace h := Prod.mk.inj h
                            obtain ⟨h9, h⟩ := h
                            subst h9
                            replace h := Prod.mk.inj h
                            obtain ⟨h9, h⟩ := h
                            subst h9
                            subst h
                            refine j_widen (cl' := mc) (sl' := ms) (by omega) (by omega) ?_
                            exact j_vret (w := [(h0, .inr (6, [.ref a_tree_h0, .ref a_source_h0, .ref a_form_h0, .int indent_h0, .int fits_h0])), (a_tree_h0, .inr (1, [.ref a_cells_a_tree_h0, .int count_a_tree_h0])), (a_cells_a_tree_h0, .inl (cI, n_a_cells_a_tree_h0, .inl b_a_cells_a_tree_h0)), (a_form_h0, .inr (3, [.ref a_bytes_a_form_h0, .int size_a_form_h0])), (a_source_h0, .inr (3, [.ref a_bytes_a_source_h0, .int size_a_source_h0])), (a_bytes_a_source_h0, .inl (cB, n_a_bytes_a_source_h0, .inl b_a_bytes_a_source_h0)), (a_bytes_a_form_h0, .inl (cB, n_a_bytes_a_form_h0, .inl b_a_bytes_a_form_h0))]) hr d_Wr_trail_160 [4, 5, 6, 0, 2, 3, 1] rfl (by decide) ⟨a_bytes_a_form_h0, rfl, rfl⟩
set_option maxHeartbeats 4000000 in
set_option maxRecDepth 100000 in
theorem c_Wr_trail (l : Launch) (D : va_G) (cI cB cJ cS : ClassId) (h0 : Nat) (a_tree_h0 : Nat) (a_source_h0 : Nat) (a_form_h0 : Nat) (a_cells_a_tree_h0 : Nat) (a_bytes_a_form_h0 : Nat) (a_bytes_a_source_h0 : Nat) (p1 : Int32) (p2 : Int32) (indent_h0 : Int32) (fits_h0 : Int32) (count_a_tree_h0 : Int32) (n_a_cells_a_tree_h0 : Nat) (b_a_cells_a_tree_h0 : Nat → Int32) (size_a_form_h0 : Int32) (n_a_bytes_a_form_h0 : Nat) (b_a_bytes_a_form_h0 : Nat → Int32) (size_a_source_h0 : Int32) (n_a_bytes_a_source_h0 : Nat) (b_a_bytes_a_source_h0 : Nat → Int32) (o_0_4 : Int32) (o_3_1 : Int32) (on_nq_3_0 : Nat) (ob_nq_3_0 : Nat → Int32) (mc ms : Nat) (h : F_Wr_trail p1 p2 indent_h0 fits_h0 count_a_tree_h0 n_a_cells_a_tree_h0 b_a_cells_a_tree_h0 size_a_form_h0 n_a_bytes_a_form_h0 b_a_bytes_a_form_h0 size_a_source_h0 n_a_bytes_a_source_h0 b_a_bytes_a_source_h0 = some ((o_0_4, o_3_1, on_nq_3_0, ob_nq_3_0), mc, ms)) : Ct l D (gT cI cB cJ cS) y_Wr_trail prog_10_method_15_code 4 (Option.none : Option Jvm.ClassFile.FieldType) 6 150 mc ms [.ref h0, .int p1, .int p2] [(h0, .inr (6, [.ref a_tree_h0, .ref a_source_h0, .ref a_form_h0, .int indent_h0, .int fits_h0])), (a_tree_h0, .inr (1, [.ref a_cells_a_tree_h0, .int count_a_tree_h0])), (a_cells_a_tree_h0, .inl (cI, n_a_cells_a_tree_h0, .inl b_a_cells_a_tree_h0)), (a_form_h0, .inr (3, [.ref a_bytes_a_form_h0, .int size_a_form_h0])), (a_bytes_a_form_h0, .inl (cB, n_a_bytes_a_form_h0, .inl b_a_bytes_a_form_h0)), (a_source_h0, .inr (3, [.ref a_bytes_a_source_h0, .int size_a_source_h0])), (a_bytes_a_source_h0, .inl (cB, n_a_bytes_a_source_h0, .inl b_a_bytes_a_source_h0))] (fun v w => ∃ nq_3_0 : Nat, v = none ∧ w = [(h0, .inr (6, [.ref a_tree_h0, .ref a_source_h0, .ref a_form_h0, .int indent_h0, .int o_0_4])), (a_tree_h0, .inr (1, [.ref a_cells_a_tree_h0, .int count_a_tree_h0])), (a_cells_a_tree_h0, .inl (cI, n_a_cells_a_tree_h0, .inl b_a_cells_a_tree_h0)), (a_form_h0, .inr (3, [.ref nq_3_0, .int o_3_1])), (a_source_h0, .inr (3, [.ref a_bytes_a_source_h0, .int size_a_source_h0])), (a_bytes_a_source_h0, .inl (cB, n_a_bytes_a_source_h0, .inl b_a_bytes_a_source_h0)), (nq_3_0, .inl (cB, on_nq_3_0, .inl ob_nq_3_0))]) := by
  refine Ct.mk (by decide) (Nat.le_of_ble_eq_true rfl) ?_
  intro p e s m below meth c hr hnm
  refine j_norm (pc' := 0) (lv' := [(0, .ref h0), (1, .int p1), (2, .int p2)]) (st' := []) (ws' := [(h0, .inr (6, [.ref a_tree_h0, .ref a_source_h0, .ref a_form_h0, .int indent_h0, .int fits_h0])), (a_tree_h0, .inr (1, [.ref a_cells_a_tree_h0, .int count_a_tree_h0])), (a_cells_a_tree_h0, .inl (cI, n_a_cells_a_tree_h0, .inl b_a_cells_a_tree_h0)), (a_form_h0, .inr (3, [.ref a_bytes_a_form_h0, .int size_a_form_h0])), (a_bytes_a_form_h0, .inl (cB, n_a_bytes_a_form_h0, .inl b_a_bytes_a_form_h0)), (a_source_h0, .inr (3, [.ref a_bytes_a_source_h0, .int size_a_source_h0])), (a_bytes_a_source_h0, .inl (cB, n_a_bytes_a_source_h0, .inl b_a_bytes_a_source_h0))]) (cl' := 0) (sl' := 0) rfl rfl rfl rfl rfl rfl ?_
  unfold F_Wr_trail at h
  have hC : 0 + mc ≤ mc := by omega
  have hS : 0 + ms ≤ ms := by omega
  refine j_iload_n d_Wr_trail_0 rfl 2 rfl ?_
  refine j_iload_n d_Wr_trail_1 rfl 1 rfl ?_
  refine j_iconst (v := 1) d_Wr_trail_2 (by decide) ?_
  refine j_iadd d_Wr_trail_3 ?_
  refine j_icmp_ne (tgt := 11) d_Wr_trail_4 (by decide) (fun c97 => ?_) (fun c97 => ?_)
  · replace h := it_f c97 h
    refine j_iconst (v := 0) d_Wr_trail_11 (by decide) ?_
    refine j_sub (w := [(h0, .inr (6, [.ref a_tree_h0, .ref a_source_h0, .ref a_form_h0, .int indent_h0, .int fits_h0])), (a_tree_h0, .inr (1, [.ref a_cells_a_tree_h0, .int count_a_tree_h0])), (a_cells_a_tree_h0, .inl (cI, n_a_cells_a_tree_h0, .inl b_a_cells_a_tree_h0)), (a_form_h0, .inr (3, [.ref a_bytes_a_form_h0, .int size_a_form_h0])), (a_bytes_a_form_h0, .inl (cB, n_a_bytes_a_form_h0, .inl b_a_bytes_a_form_h0)), (a_source_h0, .inr (3, [.ref a_bytes_a_source_h0, .int size_a_source_h0])), (a_bytes_a_source_h0, .inl (cB, n_a_bytes_a_source_h0, .inl b_a_bytes_a_source_h0))]) (lv' := [(0, .ref h0), (1, .int p1), (2, .int p2)]) [0, 1, 2, 3, 4, 5, 6] rfl (by decide) [0, 1, 2] rfl ?_
    exact L_Wr_trail_12 l D cI cB cJ cS h0 a_tree_h0 a_source_h0 a_form_h0 a_cells_a_tree_h0 a_bytes_a_form_h0 a_bytes_a_source_h0 p1 p2 indent_h0 fits_h0 count_a_tree_h0 n_a_cells_a_tree_h0 b_a_cells_a_tree_h0 size_a_form_h0 n_a_bytes_a_form_h0 b_a_bytes_a_form_h0 size_a_source_h0 n_a_bytes_a_source_h0 b_a_bytes_a_source_h0 o_0_4 o_3_1 on_nq_3_0 ob_nq_3_0 mc ms p e s m below meth c hr hnm 0 zb0 0 0 mc ms h hC hS
  · replace h := it_t c97 h
    refine j_iconst (v := 1) d_Wr_trail_7 (by decide) ?_
    refine j_goto (tgt := 12) d_Wr_trail_8 (by decide) ?_
    refine j_sub (w := [(h0, .inr (6, [.ref a_tree_h0, .ref a_source_h0, .ref a_form_h0, .int indent_h0, .int fits_h0])), (a_tree_h0, .inr (1, [.ref a_cells_a_tree_h0, .int count_a_tree_h0])), (a_cells_a_tree_h0, .inl (cI, n_a_cells_a_tree_h0, .inl b_a_cells_a_tree_h0)), (a_form_h0, .inr (3, [.ref a_bytes_a_form_h0, .int size_a_form_h0])), (a_bytes_a_form_h0, .inl (cB, n_a_bytes_a_form_h0, .inl b_a_bytes_a_form_h0)), (a_source_h0, .inr (3, [.ref a_bytes_a_source_h0, .int size_a_source_h0])), (a_bytes_a_source_h0, .inl (cB, n_a_bytes_a_source_h0, .inl b_a_bytes_a_source_h0))]) (lv' := [(0, .ref h0), (1, .int p1), (2, .int p2)]) [0, 1, 2, 3, 4, 5, 6] rfl (by decide) [0, 1, 2] rfl ?_
    exact L_Wr_trail_12 l D cI cB cJ cS h0 a_tree_h0 a_source_h0 a_form_h0 a_cells_a_tree_h0 a_bytes_a_form_h0 a_bytes_a_source_h0 p1 p2 indent_h0 fits_h0 count_a_tree_h0 n_a_cells_a_tree_h0 b_a_cells_a_tree_h0 size_a_form_h0 n_a_bytes_a_form_h0 b_a_bytes_a_form_h0 size_a_source_h0 n_a_bytes_a_source_h0 b_a_bytes_a_source_h0 o_0_4 o_3_1 on_nq_3_0 ob_nq_3_0 mc ms p e s m below meth c hr hnm 1 zb1 0 0 mc ms h hC hS
