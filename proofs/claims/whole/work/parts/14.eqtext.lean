noncomputable def F_Wr_finish (p1 : Int32) (indent_h0 : Int32) (fits_h0 : Int32) (count_a_tree_h0 : Int32) (n_a_cells_a_tree_h0 : Nat) (b_a_cells_a_tree_h0 : Nat → Int32) (size_a_form_h0 : Int32) (n_a_bytes_a_form_h0 : Nat) (b_a_bytes_a_form_h0 : Nat → Int32) : Option ((Int32 × Int32 × Int32 × Nat × (Nat → Int32)) × Nat × Nat) :=
  Option.bind (F_Wr_kind p1 indent_h0 fits_h0 count_a_tree_h0 n_a_cells_a_tree_h0 b_a_cells_a_tree_h0) fun r1 =>
  if r1 = 1 then (bw (F_Wr_beginLine 32 indent_h0 fits_h0 size_a_form_h0 n_a_bytes_a_form_h0 b_a_bytes_a_form_h0) fun ⟨r4, r5, r6, r7⟩ =>
    (some ((indent_h0, r4, r5, r6, r7), 0, 0)))
  else if r1 = 2 then (some ((indent_h0, fits_h0, size_a_form_h0, n_a_bytes_a_form_h0, b_a_bytes_a_form_h0), 0, 0))
  else if r1 = 3 then (some ((indent_h0 - 1, fits_h0, size_a_form_h0, n_a_bytes_a_form_h0, b_a_bytes_a_form_h0), 0, 0))
  else if r1 = 4 then (some ((indent_h0, fits_h0, size_a_form_h0, n_a_bytes_a_form_h0, b_a_bytes_a_form_h0), 0, 0))
  else if r1 = 5 then (some ((indent_h0, fits_h0, size_a_form_h0, n_a_bytes_a_form_h0, b_a_bytes_a_form_h0), 0, 0))
  else if r1 = 6 then (some ((indent_h0, fits_h0, size_a_form_h0, n_a_bytes_a_form_h0, b_a_bytes_a_form_h0), 0, 0))
  else if r1 = 7 then (some ((indent_h0, fits_h0, size_a_form_h0, n_a_bytes_a_form_h0, b_a_bytes_a_form_h0), 0, 0))
  else if r1 = 8 then (some ((indent_h0, fits_h0, size_a_form_h0, n_a_bytes_a_form_h0, b_a_bytes_a_form_h0), 0, 0))
  else if r1 = 9 then (some ((indent_h0, fits_h0, size_a_form_h0, n_a_bytes_a_form_h0, b_a_bytes_a_form_h0), 0, 0))
  else if r1 = 10 then (bw (F_Wr_put 33 indent_h0 fits_h0 size_a_form_h0 n_a_bytes_a_form_h0 b_a_bytes_a_form_h0) fun ⟨r23, r24, r25, r26⟩ =>
    (some ((indent_h0, r23, r24, r25, r26), 0, 0)))
  else if r1 = 11 then (bw (F_Wr_beginLine 32 indent_h0 fits_h0 size_a_form_h0 n_a_bytes_a_form_h0 b_a_bytes_a_form_h0) fun ⟨r34, r35, r36, r37⟩ =>
    (some ((indent_h0, r34, r35, r36, r37), 0, 0)))
  else if r1 = 12 then (bw (F_Wr_beginLine 32 indent_h0 fits_h0 size_a_form_h0 n_a_bytes_a_form_h0 b_a_bytes_a_form_h0) fun ⟨r45, r46, r47, r48⟩ =>
    (some ((indent_h0, r45, r46, r47, r48), 0, 0)))
  else if r1 = 13 then (bw (F_Wr_beginLine 32 indent_h0 fits_h0 size_a_form_h0 n_a_bytes_a_form_h0 b_a_bytes_a_form_h0) fun ⟨r56, r57, r58, r59⟩ =>
    (some ((indent_h0, r56, r57, r58, r59), 0, 0)))
  else if r1 = 14 then (bw (F_Wr_beginLine 32 indent_h0 fits_h0 size_a_form_h0 n_a_bytes_a_form_h0 b_a_bytes_a_form_h0) fun ⟨r67, r68, r69, r70⟩ =>
    (some ((indent_h0, r67, r68, r69, r70), 0, 0)))
  else if r1 = 15 then (bw (F_Wr_put 33 indent_h0 fits_h0 size_a_form_h0 n_a_bytes_a_form_h0 b_a_bytes_a_form_h0) fun ⟨r78, r79, r80, r81⟩ =>
    (some ((indent_h0, r78, r79, r80, r81), 0, 0)))
  else if r1 = 16 then (bw (F_Wr_put 33 indent_h0 fits_h0 size_a_form_h0 n_a_bytes_a_form_h0 b_a_bytes_a_form_h0) fun ⟨r89, r90, r91, r92⟩ =>
    (some ((indent_h0, r89, r90, r91, r92), 0, 0)))
  else if r1 = 17 then (bw (F_Wr_put 33 indent_h0 fits_h0 size_a_form_h0 n_a_bytes_a_form_h0 b_a_bytes_a_form_h0) fun ⟨r100, r101, r102, r103⟩ =>
    (some ((indent_h0, r100, r101, r102, r103), 0, 0)))
  else if r1 = 18 then (bw (F_Wr_put 33 indent_h0 fits_h0 size_a_form_h0 n_a_bytes_a_form_h0 b_a_bytes_a_form_h0) fun ⟨r111, r112, r113, r114⟩ =>
    (some ((indent_h0, r111, r112, r113, r114), 0, 0)))
  else if r1 = 19 then (bw (F_Wr_put 33 indent_h0 fits_h0 size_a_form_h0 n_a_bytes_a_form_h0 b_a_bytes_a_form_h0) fun ⟨r122, r123, r124, r125⟩ =>
    (some ((indent_h0, r122, r123, r124, r125), 0, 0)))
  else if r1 = 20 then (bw (F_Wr_put 33 indent_h0 fits_h0 size_a_form_h0 n_a_bytes_a_form_h0 b_a_bytes_a_form_h0) fun ⟨r133, r134, r135, r136⟩ =>
    (some ((indent_h0, r133, r134, r135, r136), 0, 0)))
  else if r1 = 21 then (bw (F_Wr_put 33 indent_h0 fits_h0 size_a_form_h0 n_a_bytes_a_form_h0 b_a_bytes_a_form_h0) fun ⟨r144, r145, r146, r147⟩ =>
    (some ((indent_h0, r144, r145, r146, r147), 0, 0)))
  else if r1 = 22 then (some ((indent_h0, fits_h0, size_a_form_h0, n_a_bytes_a_form_h0, b_a_bytes_a_form_h0), 0, 0))
  else if r1 = 23 then (some ((indent_h0, fits_h0, size_a_form_h0, n_a_bytes_a_form_h0, b_a_bytes_a_form_h0), 0, 0))
  else if r1 = 24 then (some ((indent_h0, fits_h0, size_a_form_h0, n_a_bytes_a_form_h0, b_a_bytes_a_form_h0), 0, 0))
  else if r1 = 25 then (some ((indent_h0, fits_h0, size_a_form_h0, n_a_bytes_a_form_h0, b_a_bytes_a_form_h0), 0, 0))
  else if r1 = 26 then (some ((indent_h0, fits_h0, size_a_form_h0, n_a_bytes_a_form_h0, b_a_bytes_a_form_h0), 0, 0))
  else if r1 = 27 then (some ((indent_h0, fits_h0, size_a_form_h0, n_a_bytes_a_form_h0, b_a_bytes_a_form_h0), 0, 0))
  else if r1 = 28 then (some ((indent_h0, fits_h0, size_a_form_h0, n_a_bytes_a_form_h0, b_a_bytes_a_form_h0), 0, 0))
  else if r1 = 29 then (some ((indent_h0, fits_h0, size_a_form_h0, n_a_bytes_a_form_h0, b_a_bytes_a_form_h0), 0, 0))
  else if r1 = 30 then (some ((indent_h0, fits_h0, size_a_form_h0, n_a_bytes_a_form_h0, b_a_bytes_a_form_h0), 0, 0))
  else if r1 = 31 then (some ((indent_h0, fits_h0, size_a_form_h0, n_a_bytes_a_form_h0, b_a_bytes_a_form_h0), 0, 0))
  else if r1 = 32 then (some ((indent_h0, fits_h0, size_a_form_h0, n_a_bytes_a_form_h0, b_a_bytes_a_form_h0), 0, 0))
  else if r1 = 33 then (bw (F_Wr_put 34 indent_h0 fits_h0 size_a_form_h0 n_a_bytes_a_form_h0 b_a_bytes_a_form_h0) fun ⟨r166, r167, r168, r169⟩ =>
    (some ((indent_h0, r166, r167, r168, r169), 0, 0)))
  else if r1 = 34 then (some ((indent_h0, fits_h0, size_a_form_h0, n_a_bytes_a_form_h0, b_a_bytes_a_form_h0), 0, 0))
  else if r1 = 35 then (some ((indent_h0, fits_h0, size_a_form_h0, n_a_bytes_a_form_h0, b_a_bytes_a_form_h0), 0, 0))
  else if r1 = 36 then (bw (F_Wr_put 35 indent_h0 fits_h0 size_a_form_h0 n_a_bytes_a_form_h0 b_a_bytes_a_form_h0) fun ⟨r179, r180, r181, r182⟩ =>
    (some ((indent_h0, r179, r180, r181, r182), 0, 0)))
  else if r1 = 37 then (some ((indent_h0, fits_h0, size_a_form_h0, n_a_bytes_a_form_h0, b_a_bytes_a_form_h0), 0, 0))
  else if r1 = 38 then (bw (F_Wr_put 36 indent_h0 fits_h0 size_a_form_h0 n_a_bytes_a_form_h0 b_a_bytes_a_form_h0) fun ⟨r191, r192, r193, r194⟩ =>
    (some ((indent_h0, r191, r192, r193, r194), 0, 0)))
  else (some ((indent_h0, fits_h0, size_a_form_h0, n_a_bytes_a_form_h0, b_a_bytes_a_form_h0), 0, 0))
theorem d_Wr_finish_0 : decode prog_10_method_14_code 0 = .ok (.aload_n 0, 1) := by decide +kernel
theorem d_Wr_finish_1 : decode prog_10_method_14_code 1 = .ok (.iload_n 1, 1) := by decide +kernel
theorem d_Wr_finish_2 : decode prog_10_method_14_code 2 = .ok (.invokevirtual 105, 3) := by decide +kernel
theorem d_Wr_finish_5 : decode prog_10_method_14_code 5 = .ok (.tableswitch 225 1 38 #[180, 225, 167, 225, 225, 225, 225, 225, 225, 189, 180, 180, 180, 180, 189, 189, 189, 189, 189, 189, 189, 225, 225, 225, 225, 225, 225, 225, 225, 225, 225, 225, 198, 225, 225, 207, 225, 216], 167) := by decide +kernel
theorem d_Wr_finish_172 : decode prog_10_method_14_code 172 = .ok (.aload_n 0, 1) := by decide +kernel
theorem d_Wr_finish_173 : decode prog_10_method_14_code 173 = .ok (.dup, 1) := by decide +kernel
theorem d_Wr_finish_174 : decode prog_10_method_14_code 174 = .ok (.getfield 26, 3) := by decide +kernel
theorem d_Wr_finish_177 : decode prog_10_method_14_code 177 = .ok (.iconst 1, 1) := by decide +kernel
theorem d_Wr_finish_178 : decode prog_10_method_14_code 178 = .ok (.isub, 1) := by decide +kernel
theorem d_Wr_finish_179 : decode prog_10_method_14_code 179 = .ok (.putfield 26, 3) := by decide +kernel
theorem d_Wr_finish_182 : decode prog_10_method_14_code 182 = .ok (.goto 48, 3) := by decide +kernel
theorem d_Wr_finish_185 : decode prog_10_method_14_code 185 = .ok (.aload_n 0, 1) := by decide +kernel
theorem d_Wr_finish_186 : decode prog_10_method_14_code 186 = .ok (.ldc 157, 2) := by decide +kernel
theorem d_Wr_finish_188 : decode prog_10_method_14_code 188 = .ok (.invokevirtual 114, 3) := by decide +kernel
theorem d_Wr_finish_191 : decode prog_10_method_14_code 191 = .ok (.goto 39, 3) := by decide +kernel
theorem d_Wr_finish_194 : decode prog_10_method_14_code 194 = .ok (.aload_n 0, 1) := by decide +kernel
theorem d_Wr_finish_195 : decode prog_10_method_14_code 195 = .ok (.ldc 159, 2) := by decide +kernel
theorem d_Wr_finish_197 : decode prog_10_method_14_code 197 = .ok (.invokevirtual 77, 3) := by decide +kernel
theorem d_Wr_finish_200 : decode prog_10_method_14_code 200 = .ok (.goto 30, 3) := by decide +kernel
theorem d_Wr_finish_203 : decode prog_10_method_14_code 203 = .ok (.aload_n 0, 1) := by decide +kernel
theorem d_Wr_finish_204 : decode prog_10_method_14_code 204 = .ok (.ldc 100, 2) := by decide +kernel
theorem d_Wr_finish_206 : decode prog_10_method_14_code 206 = .ok (.invokevirtual 77, 3) := by decide +kernel
theorem d_Wr_finish_209 : decode prog_10_method_14_code 209 = .ok (.goto 21, 3) := by decide +kernel
theorem d_Wr_finish_212 : decode prog_10_method_14_code 212 = .ok (.aload_n 0, 1) := by decide +kernel
theorem d_Wr_finish_213 : decode prog_10_method_14_code 213 = .ok (.ldc 161, 2) := by decide +kernel
theorem d_Wr_finish_215 : decode prog_10_method_14_code 215 = .ok (.invokevirtual 77, 3) := by decide +kernel
theorem d_Wr_finish_218 : decode prog_10_method_14_code 218 = .ok (.goto 12, 3) := by decide +kernel
theorem d_Wr_finish_221 : decode prog_10_method_14_code 221 = .ok (.aload_n 0, 1) := by decide +kernel
theorem d_Wr_finish_222 : decode prog_10_method_14_code 222 = .ok (.ldc 163, 2) := by decide +kernel
theorem d_Wr_finish_224 : decode prog_10_method_14_code 224 = .ok (.invokevirtual 77, 3) := by decide +kernel
theorem d_Wr_finish_227 : decode prog_10_method_14_code 227 = .ok (.goto 3, 3) := by decide +kernel
theorem d_Wr_finish_230 : decode prog_10_method_14_code 230 = .ok (.return_, 1) := by decide +kernel
set_option maxHeartbeats 4000000 in
set_option maxRecDepth 100000 in
theorem c_Wr_finish (l : Launch) (D : va_G) (cI cB cJ cS : ClassId) (h0 : Nat) (a_tree_h0 : Nat) (a_source_h0 : Nat) (a_form_h0 : Nat) (a_cells_a_tree_h0 : Nat) (a_bytes_a_form_h0 : Nat) (p1 : Int32) (indent_h0 : Int32) (fits_h0 : Int32) (count_a_tree_h0 : Int32) (n_a_cells_a_tree_h0 : Nat) (b_a_cells_a_tree_h0 : Nat → Int32) (size_a_form_h0 : Int32) (n_a_bytes_a_form_h0 : Nat) (b_a_bytes_a_form_h0 : Nat → Int32) (o_0_3 : Int32) (o_0_4 : Int32) (o_3_1 : Int32) (on_nq_3_0 : Nat) (ob_nq_3_0 : Nat → Int32) (mc ms : Nat) (h : F_Wr_finish p1 indent_h0 fits_h0 count_a_tree_h0 n_a_cells_a_tree_h0 b_a_cells_a_tree_h0 size_a_form_h0 n_a_bytes_a_form_h0 b_a_bytes_a_form_h0 = some ((o_0_3, o_0_4, o_3_1, on_nq_3_0, ob_nq_3_0), mc, ms)) : Ct l D (gT cI cB cJ cS) y_Wr_finish prog_10_method_14_code 2 (Option.none : Option Jvm.ClassFile.FieldType) 6 147 mc ms [.ref h0, .int p1] [(h0, .inr (6, [.ref a_tree_h0, .ref a_source_h0, .ref a_form_h0, .int indent_h0, .int fits_h0])), (a_tree_h0, .inr (1, [.ref a_cells_a_tree_h0, .int count_a_tree_h0])), (a_cells_a_tree_h0, .inl (cI, n_a_cells_a_tree_h0, .inl b_a_cells_a_tree_h0)), (a_form_h0, .inr (3, [.ref a_bytes_a_form_h0, .int size_a_form_h0])), (a_bytes_a_form_h0, .inl (cB, n_a_bytes_a_form_h0, .inl b_a_bytes_a_form_h0))] (fun v w => ∃ nq_3_0 : Nat, v = none ∧ w = [(h0, .inr (6, [.ref a_tree_h0, .ref a_source_h0, .ref a_form_h0, .int o_0_3, .int o_0_4])), (a_tree_h0, .inr (1, [.ref a_cells_a_tree_h0, .int count_a_tree_h0])), (a_cells_a_tree_h0, .inl (cI, n_a_cells_a_tree_h0, .inl b_a_cells_a_tree_h0)), (a_form_h0, .inr (3, [.ref nq_3_0, .int o_3_1])), (nq_3_0, .inl (cB, on_nq_3_0, .inl ob_nq_3_0))]) := by
  refine Ct.mk (by decide) (Nat.le_of_ble_eq_true rfl) ?_
  intro p e s m below meth c hr hnm
  refine j_norm (pc' := 0) (lv' := [(0, .ref h0), (1, .int p1)]) (st' := []) (ws' := [(h0, .inr (6, [.ref a_tree_h0, .ref a_source_h0, .ref a_form_h0, .int indent_h0, .int fits_h0])), (a_tree_h0, .inr (1, [.ref a_cells_a_tree_h0, .int count_a_tree_h0])), (a_cells_a_tree_h0, .inl (cI, n_a_cells_a_tree_h0, .inl b_a_cells_a_tree_h0)), (a_form_h0, .inr (3, [.ref a_bytes_a_form_h0, .int size_a_form_h0])), (a_bytes_a_form_h0, .inl (cB, n_a_bytes_a_form_h0, .inl b_a_bytes_a_form_h0))]) (cl' := 0) (sl' := 0) rfl rfl rfl rfl rfl rfl ?_
  unfold F_Wr_finish at h
  have hC : 0 + mc ≤ mc := by omega
  have hS : 0 + ms ≤ ms := by omega
  refine j_aload_n d_Wr_finish_0 rfl 0 rfl ?_
  refine j_iload_n d_Wr_finish_1 rfl 1 rfl ?_
  replace h := bd_s h
  obtain ⟨r1, k2, h⟩ := h
  refine j_callV (n := 1) (As := [.int p1]) (rest := []) (wr := [(a_form_h0, .inr (3, [.ref a_bytes_a_form_h0, .int size_a_form_h0])), (a_bytes_a_form_h0, .inl (cB, n_a_bytes_a_form_h0, .inl b_a_bytes_a_form_h0))]) (c_Wr_kind l D cI cB cJ cS h0 a_tree_h0 a_source_h0 a_form_h0 a_cells_a_tree_h0 p1 indent_h0 fits_h0 count_a_tree_h0 n_a_cells_a_tree_h0 b_a_cells_a_tree_h0  r1 k2) k_Wr_105 (by decide) ⟨Nat.le_of_ble_eq_true rfl, Nat.le_of_ble_eq_true rfl⟩ rfl 0 rfl [0, 1, 2] [3, 4] rfl (by decide) rfl (by decide) (by decide) rfl rfl (Nat.le_of_ble_eq_true rfl) d_Wr_finish_2 ⟨show 0 + 0 ≤ mc by omega, show 0 + 0 ≤ ms by omega⟩ (fun v w hq => ?_)
  obtain ⟨rfl, rfl⟩ := hq
  refine j_norm (pc' := 5) (st' := [.int r1]) (ws' := [(a_form_h0, .inr (3, [.ref a_bytes_a_form_h0, .int size_a_form_h0])), (a_bytes_a_form_h0, .inl (cB, n_a_bytes_a_form_h0, .inl b_a_bytes_a_form_h0)), (h0, .inr (6, [.ref a_tree_h0, .ref a_source_h0, .ref a_form_h0, .int indent_h0, .int fits_h0])), (a_tree_h0, .inr (1, [.ref a_cells_a_tree_h0, .int count_a_tree_h0])), (a_cells_a_tree_h0, .inl (cI, n_a_cells_a_tree_h0, .inl b_a_cells_a_tree_h0))]) (cl' := 0) (sl' := 0) rfl rfl rfl rfl rfl rfl ?_
  by_cases c3 : r1 = 1
  · replace h := it_t c3 h
    refine j_tabIn (tgt := 185) (off := 180) d_Wr_finish_5 1 c3 (by decide) (by decide) (by decide) (by decide) ?_
    refine j_aload_n d_Wr_finish_185 rfl 0 rfl ?_
    refine j_ldcS (i := 32) rfl d_Wr_finish_186 ?_
    replace h := bw_s h
    obtain ⟨⟨r4, r5, r6, r7⟩, C9, S10, C11, S12, k13, h, e1, e2⟩ := h
    replace hC : 0 + C9 + C11 ≤ mc := by omega
    replace hS : 0 + S10 + S12 ≤ ms := by omega
    clear e1 e2
    refine j_callV (n := 1) (As := [.ref (sA D 32)]) (rest := []) (wr := [(a_tree_h0, .inr (1, [.ref a_cells_a_tree_h0, .int count_a_tree_h0])), (a_cells_a_tree_h0, .inl (cI, n_a_cells_a_tree_h0, .inl b_a_cells_a_tree_h0))]) (c_Wr_beginLine l D cI cB cJ cS h0 a_tree_h0 a_source_h0 a_form_h0 a_bytes_a_form_h0 32 indent_h0 fits_h0 size_a_form_h0 n_a_bytes_a_form_h0 b_a_bytes_a_form_h0  r4 r5 r6 r7 C9 S10 k13) k_Wr_114 (by decide) ⟨Nat.le_of_ble_eq_true rfl, Nat.le_of_ble_eq_true rfl⟩ rfl 0 rfl [2, 0, 1] [3, 4] rfl (by decide) rfl (by decide) (by decide) rfl rfl (Nat.le_of_ble_eq_true rfl) d_Wr_finish_188 ⟨show 0 + C9 ≤ mc by omega, show 0 + S10 ≤ ms by omega⟩ (fun v w hq => ?_)
    obtain ⟨q8, rfl, rfl⟩ := hq
    refine j_norm (pc' := 191) (st' := []) (ws' := [(a_tree_h0, .inr (1, [.ref a_cells_a_tree_h0, .int count_a_tree_h0])), (a_cells_a_tree_h0, .inl (cI, n_a_cells_a_tree_h0, .inl b_a_cells_a_tree_h0)), (h0, .inr (6, [.ref a_tree_h0, .ref a_source_h0, .ref a_form_h0, .int indent_h0, .int r4])), (a_form_h0, .inr (3, [.ref q8, .int r5])), (q8, .inl (cB, r6, .inl r7))]) (cl' := 0 + C9) (sl' := 0 + S10) rfl rfl rfl rfl rfl rfl ?_
    refine j_goto (tgt := 230) d_Wr_finish_191 (by decide) ?_
    replace h := lf_s h
    obtain ⟨h, e1, e2⟩ := h
    replace h := Prod.mk.inj h
    obtain ⟨h9, h⟩ := h
    subst h9
    replace h := Prod.mk.inj h
    obtain ⟨h9, h⟩ := h
    subst h9
    replace h := Prod.mk.inj h
    obtain ⟨h9, h⟩ := h
    subst h9
    replace h := Prod.mk.inj h
    obtain ⟨h9, h⟩ := h
    subst h9
    subst h
    refine j_widen (cl' := mc) (sl' := ms) (by omega) (by omega) ?_
    exact j_vret (w := [(h0, .inr (6, [.ref a_tree_h0, .ref a_source_h0, .ref a_form_h0, .int indent_h0, .int r4])), (a_tree_h0, .inr (1, [.ref a_cells_a_tree_h0, .int count_a_tree_h0])), (a_cells_a_tree_h0, .inl (cI, n_a_cells_a_tree_h0, .inl b_a_cells_a_tree_h0)), (a_form_h0, .inr (3, [.ref q8, .int r5])), (q8, .inl (cB, r6, .inl r7))]) hr d_Wr_finish_230 [2, 0, 1, 3, 4] rfl (by decide) ⟨q8, rfl, rfl⟩
  · replace h := it_f c3 h
    by_cases c14 : r1 = 2
    · replace h := it_t c14 h
      refine j_tabIn (tgt := 230) (off := 225) d_Wr_finish_5 2 c14 (by decide) (by decide) (by decide) (by decide) ?_
      replace h := lf_s h
      obtain ⟨h, e1, e2⟩ := h
      replace h := Prod.mk.inj h
      obtain ⟨h9, h⟩ := h
      subst h9
      replace h := Prod.mk.inj h
      obtain ⟨h9, h⟩ := h
      subst h9
      replace h := Prod.mk.inj h
      obtain ⟨h9, h⟩ := h
      subst h9
      replace h := Prod.mk.inj h
      obtain ⟨h9, h⟩ := h
      subst h9
      subst h
      refine j_widen (cl' := mc) (sl' := ms) (by omega) (by omega) ?_
      exact j_vret (w := [(h0, .inr (6, [.ref a_tree_h0, .ref a_source_h0, .ref a_form_h0, .int indent_h0, .int fits_h0])), (a_tree_h0, .inr (1, [.ref a_cells_a_tree_h0, .int count_a_tree_h0])), (a_cells_a_tree_h0, .inl (cI, n_a_cells_a_tree_h0, .inl b_a_cells_a_tree_h0)), (a_form_h0, .inr (3, [.ref a_bytes_a_form_h0, .int size_a_form_h0])), (a_bytes_a_form_h0, .inl (cB, n_a_bytes_a_form_h0, .inl b_a_bytes_a_form_h0))]) hr d_Wr_finish_230 [2, 3, 4, 0, 1] rfl (by decide) ⟨a_bytes_a_form_h0, rfl, rfl⟩
    · replace h := it_f c14 h
      by_cases c15 : r1 = 3
      · replace h := it_t c15 h
        refine j_tabIn (tgt := 172) (off := 167) d_Wr_finish_5 3 c15 (by decide) (by decide) (by decide) (by decide) ?_
        refine j_aload_n d_Wr_finish_172 rfl 0 rfl ?_
        refine j_dup rfl d_Wr_finish_173 ?_
        refine j_get ig_Wr rfl 2 rfl 3 (by decide) rfl m_222 rfl d_Wr_finish_174 ?_
        refine j_iconst (v := 1) d_Wr_finish_177 (by decide) ?_
        refine j_isub d_Wr_finish_178 ?_
        refine j_put (ws' := [(a_form_h0, .inr (3, [.ref a_bytes_a_form_h0, .int size_a_form_h0])), (a_bytes_a_form_h0, .inl (cB, n_a_bytes_a_form_h0, .inl b_a_bytes_a_form_h0)), (h0, .inr (6, [.ref a_tree_h0, .ref a_source_h0, .ref a_form_h0, .int (indent_h0 - 1), .int fits_h0])), (a_tree_h0, .inr (1, [.ref a_cells_a_tree_h0, .int count_a_tree_h0])), (a_cells_a_tree_h0, .inl (cI, n_a_cells_a_tree_h0, .inl b_a_cells_a_tree_h0))]) ig_Wr tk_Wr nm_Wr rfl 2 rfl 3 (by decide) rfl m_222 rfl (tk_Wr 3 (by decide)) rfl rfl (Nat.le_of_ble_eq_true rfl) d_Wr_finish_179 rfl ?_
        refine j_goto (tgt := 230) d_Wr_finish_182 (by decide) ?_
        replace h := lf_s h
        obtain ⟨h, e1, e2⟩ := h
        replace h := Prod.mk.inj h
        obtain ⟨h9, h⟩ := h
        subst h9
        replace h := Prod.mk.inj h
        obtain ⟨h9, h⟩ := h
        subst h9
        replace h := Prod.mk.inj h
        obtain ⟨h9, h⟩ := h
        subst h9
        replace h := Prod.mk.inj h
        obtain ⟨h9, h⟩ := h
        subst h9
        subst h
        refine j_widen (cl' := mc) (sl' := ms) (by omega) (by omega) ?_
        exact j_vret (w := [(h0, .inr (6, [.ref a_tree_h0, .ref a_source_h0, .ref a_form_h0, .int (indent_h0 - 1), .int fits_h0])), (a_tree_h0, .inr (1, [.ref a_cells_a_tree_h0, .int count_a_tree_h0])), (a_cells_a_tree_h0, .inl (cI, n_a_cells_a_tree_h0, .inl b_a_cells_a_tree_h0)), (a_form_h0, .inr (3, [.ref a_bytes_a_form_h0, .int size_a_form_h0])), (a_bytes_a_form_h0, .inl (cB, n_a_bytes_a_form_h0, .inl b_a_bytes_a_form_h0))]) hr d_Wr_finish_230 [2, 3, 4, 0, 1] rfl (by decide) ⟨a_bytes_a_form_h0, rfl, rfl⟩
      · replace h := it_f c15 h
        by_cases c16 : r1 = 4
        · replace h := it_t c16 h
          refine j_tabIn (tgt := 230) (off := 225) d_Wr_finish_5 4 c16 (by decide) (by decide) (by decide) (by decide) ?_
          replace h := lf_s h
          obtain ⟨h, e1, e2⟩ := h
          replace h := Prod.mk.inj h
          obtain ⟨h9, h⟩ := h
          subst h9
          replace h := Prod.mk.inj h
          obtain ⟨h9, h⟩ := h
          subst h9
          replace h := Prod.mk.inj h
          obtain ⟨h9, h⟩ := h
          subst h9
          replace h := Prod.mk.inj h
          obtain ⟨h9, h⟩ := h
          subst h9
          subst h
          refine j_widen (cl' := mc) (sl' := ms) (by omega) (by omega) ?_
          exact j_vret (w := [(h0, .inr (6, [.ref a_tree_h0, .ref a_source_h0, .ref a_form_h0, .int indent_h0, .int fits_h0])), (a_tree_h0, .inr (1, [.ref a_cells_a_tree_h0, .int count_a_tree_h0])), (a_cells_a_tree_h0, .inl (cI, n_a_cells_a_tree_h0, .inl b_a_cells_a_tree_h0)), (a_form_h0, .inr (3, [.ref a_bytes_a_form_h0, .int size_a_form_h0])), (a_bytes_a_form_h0, .inl (cB, n_a_bytes_a_form_h0, .inl b_a_bytes_a_form_h0))]) hr d_Wr_finish_230 [2, 3, 4, 0, 1] rfl (by decide) ⟨a_bytes_a_form_h0, rfl, rfl⟩
        · replace h := it_f c16 h
          by_cases c17 : r1 = 5
          · replace h := it_t c17 h
            refine j_tabIn (tgt := 230) (off := 225) d_Wr_finish_5 5 c17 (by decide) (by decide) (by decide) (by decide) ?_
            replace h := lf_s h
            obtain ⟨h, e1, e2⟩ := h
            replace h := Prod.mk.inj h
            obtain ⟨h9, h⟩ := h
            subst h9
            replace h := Prod.mk.inj h
            obtain ⟨h9, h⟩ := h
            subst h9
            replace h := Prod.mk.inj h
            obtain ⟨h9, h⟩ := h
            subst h9
            replace h := Prod.mk.inj h
            obtain ⟨h9, h⟩ := h
            subst h9
            subst h
            refine j_widen (cl' := mc) (sl' := ms) (by omega) (by omega) ?_
            exact j_vret (w := [(h0, .inr (6, [.ref a_tree_h0, .ref a_source_h0, .ref a_form_h0, .int indent_h0, .int fits_h0])), (a_tree_h0, .inr (1, [.ref a_cells_a_tree_h0, .int count_a_tree_h0])), (a_cells_a_tree_h0, .inl (cI, n_a_cells_a_tree_h0, .inl b_a_cells_a_tree_h0)), (a_form_h0, .inr (3, [.ref a_bytes_a_form_h0, .int size_a_form_h0])), (a_bytes_a_form_h0, .inl (cB, n_a_bytes_a_form_h0, .inl b_a_bytes_a_form_h0))]) hr d_Wr_finish_230 [2, 3, 4, 0, 1] rfl (by decide) ⟨a_bytes_a_form_h0, rfl, rfl⟩
          · replace h := it_f c17 h
            by_cases c18 : r1 = 6
            · replace h := it_t c18 h
              refine j_tabIn (tgt := 230) (off := 225) d_Wr_finish_5 6 c18 (by decide) (by decide) (by decide) (by decide) ?_
              replace h := lf_s h
              obtain ⟨h, e1, e2⟩ := h
              replace h := Prod.mk.inj h
              obtain ⟨h9, h⟩ := h
              subst h9
              replace h := Prod.mk.inj h
              obtain ⟨h9, h⟩ := h
              subst h9
              replace h := Prod.mk.inj h
              obtain ⟨h9, h⟩ := h
              subst h9
              replace h := Prod.mk.inj h
              obtain ⟨h9, h⟩ := h
              subst h9
              subst h
              refine j_widen (cl' := mc) (sl' := ms) (by omega) (by omega) ?_
              exact j_vret (w := [(h0, .inr (6, [.ref a_tree_h0, .ref a_source_h0, .ref a_form_h0, .int indent_h0, .int fits_h0])), (a_tree_h0, .inr (1, [.ref a_cells_a_tree_h0, .int count_a_tree_h0])), (a_cells_a_tree_h0, .inl (cI, n_a_cells_a_tree_h0, .inl b_a_cells_a_tree_h0)), (a_form_h0, .inr (3, [.ref a_bytes_a_form_h0, .int size_a_form_h0])), (a_bytes_a_form_h0, .inl (cB, n_a_bytes_a_form_h0, .inl b_a_bytes_a_form_h0))]) hr d_Wr_finish_230 [2, 3, 4, 0, 1] rfl (by decide) ⟨a_bytes_a_form_h0, rfl, rfl⟩
            · replace h := it_f c18 h
              by_cases c19 : r1 = 7
              · replace h := it_t c19 h
                refine j_tabIn (tgt := 230) (off := 225) d_Wr_finish_5 7 c19 (by decide) (by decide) (by decide) (by decide) ?_
                replace h := lf_s h
                obtain ⟨h, e1, e2⟩ := h
                replace h := Prod.mk.inj h
                obtain ⟨h9, h⟩ := h
                subst h9
                replace h := Prod.mk.inj h
                obtain ⟨h9, h⟩ := h
                subst h9
                replace h := Prod.mk.inj h
                obtain ⟨h9, h⟩ := h
                subst h9
                replace h := Prod.mk.inj h
                obtain ⟨h9, h⟩ := h
                subst h9
                subst h
                refine j_widen (cl' := mc) (sl' := ms) (by omega) (by omega) ?_
                exact j_vret (w := [(h0, .inr (6, [.ref a_tree_h0, .ref a_source_h0, .ref a_form_h0, .int indent_h0, .int fits_h0])), (a_tree_h0, .inr (1, [.ref a_cells_a_tree_h0, .int count_a_tree_h0])), (a_cells_a_tree_h0, .inl (cI, n_a_cells_a_tree_h0, .inl b_a_cells_a_tree_h0)), (a_form_h0, .inr (3, [.ref a_bytes_a_form_h0, .int size_a_form_h0])), (a_bytes_a_form_h0, .inl (cB, n_a_bytes_a_form_h0, .inl b_a_bytes_a_form_h0))]) hr d_Wr_finish_230 [2, 3, 4, 0, 1] rfl (by decide) ⟨a_bytes_a_form_h0, rfl, rfl⟩
              · replace h := it_f c19 h
                by_cases c20 : r1 = 8
                · replace h := it_t c20 h
                  refine j_tabIn (tgt := 230) (off := 225) d_Wr_finish_5 8 c20 (by decide) (by decide) (by decide) (by decide) ?_
                  replace h := lf_s h
                  obtain ⟨h, e1, e2⟩ := h
                  replace h := Prod.mk.inj h
                  obtain ⟨h9, h⟩ := h
                  subst h9
                  replace h := Prod.mk.inj h
                  obtain ⟨h9, h⟩ := h
                  subst h9
                  replace h := Prod.mk.inj h
                  obtain ⟨h9, h⟩ := h
                  subst h9
                  replace h := Prod.mk.inj h
                  obtain ⟨h9, h⟩ := h
                  subst h9
                  subst h
                  refine j_widen (cl' := mc) (sl' := ms) (by omega) (by omega) ?_
                  exact j_vret (w := [(h0, .inr (6, [.ref a_tree_h0, .ref a_source_h0, .ref a_form_h0, .int indent_h0, .int fits_h0])), (a_tree_h0, .inr (1, [.ref a_cells_a_tree_h0, .int count_a_tree_h0])), (a_cells_a_tree_h0, .inl (cI, n_a_cells_a_tree_h0, .inl b_a_cells_a_tree_h0)), (a_form_h0, .inr (3, [.ref a_bytes_a_form_h0, .int size_a_form_h0])), (a_bytes_a_form_h0, .inl (cB, n_a_bytes_a_form_h0, .inl b_a_bytes_a_form_h0))]) hr d_Wr_finish_230 [2, 3, 4, 0, 1] rfl (by decide) ⟨a_bytes_a_form_h0, rfl, rfl⟩
                · replace h := it_f c20 h
                  by_cases c21 : r1 = 9
                  · replace h := it_t c21 h
                    refine j_tabIn (tgt := 230) (off := 225) d_Wr_finish_5 9 c21 (by decide) (by decide) (by decide) (by decide) ?_
                    replace h := lf_s h
                    obtain ⟨h, e1, e2⟩ := h
                    replace h := Prod.mk.inj h
                    obtain ⟨h9, h⟩ := h
                    subst h9
                    replace h := Prod.mk.inj h
                    obtain ⟨h9, h⟩ := h
                    subst h9
                    replace h := Prod.mk.inj h
                    obtain ⟨h9, h⟩ := h
                    subst h9
                    replace h := Prod.mk.inj h
                    obtain ⟨h9, h⟩ := h
                    subst h9
                    subst h
                    refine j_widen (cl' := mc) (sl' := ms) (by omega) (by omega) ?_
                    exact j_vret (w := [(h0, .inr (6, [.ref a_tree_h0, .ref a_source_h0, .ref a_form_h0, .int indent_h0, .int fits_h0])), (a_tree_h0, .inr (1, [.ref a_cells_a_tree_h0, .int count_a_tree_h0])), (a_cells_a_tree_h0, .inl (cI, n_a_cells_a_tree_h0, .inl b_a_cells_a_tree_h0)), (a_form_h0, .inr (3, [.ref a_bytes_a_form_h0, .int size_a_form_h0])), (a_bytes_a_form_h0, .inl (cB, n_a_bytes_a_form_h0, .inl b_a_bytes_a_form_h0))]) hr d_Wr_finish_230 [2, 3, 4, 0, 1] rfl (by decide) ⟨a_bytes_a_form_h0, rfl, rfl⟩
                  · replace h := it_f c21 h
                    by_cases c22 : r1 = 10
                    · replace h := it_t c22 h
                      refine j_tabIn (tgt := 194) (off := 189) d_Wr_finish_5 10 c22 (by decide) (by decide) (by decide) (by decide) ?_
                      refine j_aload_n d_Wr_finish_194 rfl 0 rfl ?_
                      refine j_ldcS (i := 33) rfl d_Wr_finish_195 ?_
                      replace h := bw_s h
                      obtain ⟨⟨r23, r24, r25, r26⟩, C28, S29, C30, S31, k32, h, e1, e2⟩ := h
                      replace hC : 0 + C28 + C30 ≤ mc := by omega
                      replace hS : 0 + S29 + S31 ≤ ms := by omega
                      clear e1 e2
                      refine j_callV (n := 1) (As := [.ref (sA D 33)]) (rest := []) (wr := [(a_tree_h0, .inr (1, [.ref a_cells_a_tree_h0, .int count_a_tree_h0])), (a_cells_a_tree_h0, .inl (cI, n_a_cells_a_tree_h0, .inl b_a_cells_a_tree_h0))]) (c_Wr_put l D cI cB cJ cS h0 a_tree_h0 a_source_h0 a_form_h0 a_bytes_a_form_h0 33 indent_h0 fits_h0 size_a_form_h0 n_a_bytes_a_form_h0 b_a_bytes_a_form_h0  r23 r24 r25 r26 C28 S29 k32) k_Wr_77 (by decide) ⟨Nat.le_of_ble_eq_true rfl, Nat.le_of_ble_eq_true rfl⟩ rfl 0 rfl [2, 0, 1] [3, 4] rfl (by decide) rfl (by decide) (by decide) rfl rfl (Nat.le_of_ble_eq_true rfl) d_Wr_finish_197 ⟨show 0 + C28 ≤ mc by omega, show 0 + S29 ≤ ms by omega⟩ (fun v w hq => ?_)
                      obtain ⟨q27, rfl, rfl⟩ := hq
                      refine j_norm (pc' := 200) (st' := []) (ws' := [(a_tree_h0, .inr (1, [.ref a_cells_a_tree_h0, .int count_a_tree_h0])), (a_cells_a_tree_h0, .inl (cI, n_a_cells_a_tree_h0, .inl b_a_cells_a_tree_h0)), (h0, .inr (6, [.ref a_tree_h0, .ref a_source_h0, .ref a_form_h0, .int indent_h0, .int r23])), (a_form_h0, .inr (3, [.ref q27, .int r24])), (q27, .inl (cB, r25, .inl r26))]) (cl' := 0 + C28) (sl' := 0 + S29) rfl rfl rfl rfl rfl rfl ?_
                      refine j_goto (tgt := 230) d_Wr_finish_200 (by decide) ?_
                      replace h := lf_s h
                      obtain ⟨h, e1, e2⟩ := h
                      replace h := Prod.mk.inj h
                      obtain ⟨h9, h⟩ := h
                      subst h9
                      replace h := Prod.mk.inj h
                      obtain ⟨h9, h⟩ := h
                      subst h9
                      replace h := Prod.mk.inj h
                      obtain ⟨h9, h⟩ := h
                      subst h9
                      replace h := Prod.mk.inj h
                      obtain ⟨h9, h⟩ := h
                      subst h9
                      subst h
                      refine j_widen (cl' := mc) (sl' := ms) (by omega) (by omega) ?_
                      exact j_vret (w := [(h0, .inr (6, [.ref a_tree_h0, .ref a_source_h0, .ref a_form_h0, .int indent_h0, .int r23])), (a_tree_h0, .inr (1, [.ref a_cells_a_tree_h0, .int count_a_tree_h0])), (a_cells_a_tree_h0, .inl (cI, n_a_cells_a_tree_h0, .inl b_a_cells_a_tree_h0)), (a_form_h0, .inr (3, [.ref q27, .int r24])), (q27, .inl (cB, r25, .inl r26))]) hr d_Wr_finish_230 [2, 0, 1, 3, 4] rfl (by decide) ⟨q27, rfl, rfl⟩
                    · replace h := it_f c22 h
                      by_cases c33 : r1 = 11
                      · replace h := it_t c33 h
                        refine j_tabIn (tgt := 185) (off := 180) d_Wr_finish_5 11 c33 (by decide) (by decide) (by decide) (by decide) ?_
                        refine j_aload_n d_Wr_finish_185 rfl 0 rfl ?_
                        refine j_ldcS (i := 32) rfl d_Wr_finish_186 ?_
                        replace h := bw_s h
                        obtain ⟨⟨r34, r35, r36, r37⟩, C39, S40, C41, S42, k43, h, e1, e2⟩ := h
                        replace hC : 0 + C39 + C41 ≤ mc := by omega
                        replace hS : 0 + S40 + S42 ≤ ms := by omega
                        clear e1 e2
                        refine j_callV (n := 1) (As := [.ref (sA D 32)]) (rest := []) (wr := [(a_tree_h0, .inr (1, [.ref a_cells_a_tree_h0, .int count_a_tree_h0])), (a_cells_a_tree_h0, .inl (cI, n_a_cells_a_tree_h0, .inl b_a_cells_a_tree_h0))]) (c_Wr_beginLine l D cI cB cJ cS h0 a_tree_h0 a_source_h0 a_form_h0 a_bytes_a_form_h0 32 indent_h0 fits_h0 size_a_form_h0 n_a_bytes_a_form_h0 b_a_bytes_a_form_h0  r34 r35 r36 r37 C39 S40 k43) k_Wr_114 (by decide) ⟨Nat.le_of_ble_eq_true rfl, Nat.le_of_ble_eq_true rfl⟩ rfl 0 rfl [2, 0, 1] [3, 4] rfl (by decide) rfl (by decide) (by decide) rfl rfl (Nat.le_of_ble_eq_true rfl) d_Wr_finish_188 ⟨show 0 + C39 ≤ mc by omega, show 0 + S40 ≤ ms by omega⟩ (fun v w hq => ?_)
                        obtain ⟨q38, rfl, rfl⟩ := hq
                        refine j_norm (pc' := 191) (st' := []) (ws' := [(a_tree_h0, .inr (1, [.ref a_cells_a_tree_h0, .int count_a_tree_h0])), (a_cells_a_tree_h0, .inl (cI, n_a_cells_a_tree_h0, .inl b_a_cells_a_tree_h0)), (h0, .inr (6, [.ref a_tree_h0, .ref a_source_h0, .ref a_form_h0, .int indent_h0, .int r34])), (a_form_h0, .inr (3, [.ref q38, .int r35])), (q38, .inl (cB, r36, .inl r37))]) (cl' := 0 + C39) (sl' := 0 + S40) rfl rfl rfl rfl rfl rfl ?_
                        refine j_goto (tgt := 230) d_Wr_finish_191 (by decide) ?_
                        replace h := lf_s h
                        obtain ⟨h, e1, e2⟩ := h
                        replace h := Prod.mk.inj h
                        obtain ⟨h9, h⟩ := h
                        subst h9
                        replace h := Prod.mk.inj h
                        obtain ⟨h9, h⟩ := h
                        subst h9
                        replace h := Prod.mk.inj h
                        obtain ⟨h9, h⟩ := h
                        subst h9
                        replace h := Prod.mk.inj h
                        obtain ⟨h9, h⟩ := h
                        subst h9
                        subst h
                        refine j_widen (cl' := mc) (sl' := ms) (by omega) (by omega) ?_
                        exact j_vret (w := [(h0, .inr (6, [.ref a_tree_h0, .ref a_source_h0, .ref a_form_h0, .int indent_h0, .int r34])), (a_tree_h0, .inr (1, [.ref a_cells_a_tree_h0, .int count_a_tree_h0])), (a_cells_a_tree_h0, .inl (cI, n_a_cells_a_tree_h0, .inl b_a_cells_a_tree_h0)), (a_form_h0, .inr (3, [.ref q38, .int r35])), (q38, .inl (cB, r36, .inl r37))]) hr d_Wr_finish_230 [2, 0, 1, 3, 4] rfl (by decide) ⟨q38, rfl, rfl⟩
                      · replace h := it_f c33 h
                        by_cases c44 : r1 = 12
                        · replace h := it_t c44 h
                          refine j_tabIn (tgt := 185) (off := 180) d_Wr_finish_5 12 c44 (by decide) (by decide) (by decide) (by decide) ?_
                          refine j_aload_n d_Wr_finish_185 rfl 0 rfl ?_
                          refine j_ldcS (i := 32) rfl d_Wr_finish_186 ?_
                          replace h := bw_s h
                          obtain ⟨⟨r45, r46, r47, r48⟩, C50, S51, C52, S53, k54, h, e1, e2⟩ := h
                          replace hC : 0 + C50 + C52 ≤ mc := by omega
                          replace hS : 0 + S51 + S53 ≤ ms := by omega
                          clear e1 e2
                          refine j_callV (n := 1) (As := [.ref (sA D 32)]) (rest := []) (wr := [(a_tree_h0, .inr (1, [.ref a_cells_a_tree_h0, .int count_a_tree_h0])), (a_cells_a_tree_h0, .inl (cI, n_a_cells_a_tree_h0, .inl b_a_cells_a_tree_h0))]) (c_Wr_beginLine l D cI cB cJ cS h0 a_tree_h0 a_source_h0 a_form_h0 a_bytes_a_form_h0 32 indent_h0 fits_h0 size_a_form_h0 n_a_bytes_a_form_h0 b_a_bytes_a_form_h0  r45 r46 r47 r48 C50 S51 k54) k_Wr_114 (by decide) ⟨Nat.le_of_ble_eq_true rfl, Nat.le_of_ble_eq_true rfl⟩ rfl 0 rfl [2, 0, 1] [3, 4] rfl (by decide) rfl (by decide) (by decide) rfl rfl (Nat.le_of_ble_eq_true rfl) d_Wr_finish_188 ⟨show 0 + C50 ≤ mc by omega, show 0 + S51 ≤ ms by omega⟩ (fun v w hq => ?_)
                          obtain ⟨q49, rfl, rfl⟩ := hq
                          refine j_norm (pc' := 191) (st' := []) (ws' := [(a_tree_h0, .inr (1, [.ref a_cells_a_tree_h0, .int count_a_tree_h0])), (a_cells_a_tree_h0, .inl (cI, n_a_cells_a_tree_h0, .inl b_a_cells_a_tree_h0)), (h0, .inr (6, [.ref a_tree_h0, .ref a_source_h0, .ref a_form_h0, .int indent_h0, .int r45])), (a_form_h0, .inr (3, [.ref q49, .int r46])), (q49, .inl (cB, r47, .inl r48))]) (cl' := 0 + C50) (sl' := 0 + S51) rfl rfl rfl rfl rfl rfl ?_
                          refine j_goto (tgt := 230) d_Wr_finish_191 (by decide) ?_
                          replace h := lf_s h
                          obtain ⟨h, e1, e2⟩ := h
                          replace h := Prod.mk.inj h
                          obtain ⟨h9, h⟩ := h
                          subst h9
                          replace h := Prod.mk.inj h
                          obtain ⟨h9, h⟩ := h
                          subst h9
                          replace h := Prod.mk.inj h
                          obtain ⟨h9, h⟩ := h
                          subst h9
                          replace h := Prod.mk.inj h
                          obtain ⟨h9, h⟩ := h
                          subst h9
                          subst h
                          refine j_widen (cl' := mc) (sl' := ms) (by omega) (by omega) ?_
                          exact j_vret (w := [(h0, .inr (6, [.ref a_tree_h0, .ref a_source_h0, .ref a_form_h0, .int indent_h0, .int r45])), (a_tree_h0, .inr (1, [.ref a_cells_a_tree_h0, .int count_a_tree_h0])), (a_cells_a_tree_h0, .inl (cI, n_a_cells_a_tree_h0, .inl b_a_cells_a_tree_h0)), (a_form_h0, .inr (3, [.ref q49, .int r46])), (q49, .inl (cB, r47, .inl r48))]) hr d_Wr_finish_230 [2, 0, 1, 3, 4] rfl (by decide) ⟨q49, rfl, rfl⟩
                        · replace h := it_f c44 h
                          by_cases c55 : r1 = 13
                          · replace h := it_t c55 h
                            refine j_tabIn (tgt := 185) (off := 180) d_Wr_finish_5 13 c55 (by decide) (by decide) (by decide) (by decide) ?_
                            refine j_aload_n d_Wr_finish_185 rfl 0 rfl ?_
                            refine j_ldcS (i := 32) rfl d_Wr_finish_186 ?_
                            replace h := bw_s h
                            obtain ⟨⟨r56, r57, r58, r59⟩, C61, S62, C63, S64, k65, h, e1, e2⟩ := h
                            replace hC : 0 + C61 + C63 ≤ mc := by omega
                            replace hS : 0 + S62 + S64 ≤ ms := by omega
                            clear e1 e2
                            refine j_callV (n := 1) (As := [.ref (sA D 32)]) (rest := []) (wr := [(a_tree_h0, .inr (1, [.ref a_cells_a_tree_h0, .int count_a_tree_h0])), (a_cells_a_tree_h0, .inl (cI, n_a_cells_a_tree_h0, .inl b_a_cells_a_tree_h0))]) (c_Wr_beginLine l D cI cB cJ cS h0 a_tree_h0 a_source_h0 a_form_h0 a_bytes_a_form_h0 32 indent_h0 fits_h0 size_a_form_h0 n_a_bytes_a_form_h0 b_a_bytes_a_form_h0  r56 r57 r58 r59 C61 S62 k65) k_Wr_114 (by decide) ⟨Nat.le_of_ble_eq_true rfl, Nat.le_of_ble_eq_true rfl⟩ rfl 0 rfl [2, 0, 1] [3, 4] rfl (by decide) rfl (by decide) (by decide) rfl rfl (Nat.le_of_ble_eq_true rfl) d_Wr_finish_188 ⟨show 0 + C61 ≤ mc by omega, show 0 + S62 ≤ ms by omega⟩ (fun v w hq => ?_)
                            obtain ⟨q60, rfl, rfl⟩ := hq
                            refine j_norm (pc' := 191) (st' := []) (ws' := [(a_tree_h0, .inr (1, [.ref a_cells_a_tree_h0, .int count_a_tree_h0])), (a_cells_a_tree_h0, .inl (cI, n_a_cells_a_tree_h0, .inl b_a_cells_a_tree_h0)), (h0, .inr (6, [.ref a_tree_h0, .ref a_source_h0, .ref a_form_h0, .int indent_h0, .int r56])), (a_form_h0, .inr (3, [.ref q60, .int r57])), (q60, .inl (cB, r58, .inl r59))]) (cl' := 0 + C61) (sl' := 0 + S62) rfl rfl rfl rfl rfl rfl ?_
                            refine j_goto (tgt := 230) d_Wr_finish_191 (by decide) ?_
                            replace h := lf_s h
                            obtain ⟨h, e1, e2⟩ := h
                            replace h := Prod.mk.inj h
                            obtain ⟨h9, h⟩ := h
                            subst h9
                            replace h := Prod.mk.inj h
                            obtain ⟨h9, h⟩ := h
                            subst h9
                            replace h := Prod.mk.inj h
                            obtain ⟨h9, h⟩ := h
                            subst h9
                            replace h := Prod.mk.inj h
                            obtain ⟨h9, h⟩ := h
                            subst h9
                            subst h
                            refine j_widen (cl' := mc) (sl' := ms) (by omega) (by omega) ?_
                            exact j_vret (w := [(h0, .inr (6, [.ref a_tree_h0, .ref a_source_h0, .ref a_form_h0, .int indent_h0, .int r56])), (a_tree_h0, .inr (1, [.ref a_cells_a_tree_h0, .int count_a_tree_h0])), (a_cells_a_tree_h0, .inl (cI, n_a_cells_a_tree_h0, .inl b_a_cells_a_tree_h0)), (a_form_h0, .inr (3, [.ref q60, .int r57])), (q60, .inl (cB, r58, .inl r59))]) hr d_Wr_finish_230 [2, 0, 1, 3, 4] rfl (by decide) ⟨q60, rfl, rfl⟩
                          · replace h := it_f c55 h
                            by_cases c66 : r1 = 14
                            · replace h := it_t c66 h
                              refine j_tabIn (tgt := 185) (off := 180) d_Wr_finish_5 14 c66 (by decide) (by decide) (by decide) (by decide) ?_
                              refine j_aload_n d_Wr_finish_185 rfl 0 rfl ?_
                              refine j_ldcS (i := 32) rfl d_Wr_finish_186 ?_
                              replace h := bw_s h
                              obtain ⟨⟨r67, r68, r69, r70⟩, C72, S73, C74, S75, k76, h, e1, e2⟩ := h
                              replace hC : 0 + C72 + C74 ≤ mc := by omega
                              replace hS : 0 + S73 + S75 ≤ ms := by omega
                              clear e1 e2
                              refine j_callV (n := 1) (As := [.ref (sA D 32)]) (rest := []) (wr := [(a_tree_h0, .inr (1, [.ref a_cells_a_tree_h0, .int count_a_tree_h0])), (a_cells_a_tree_h0, .inl (cI, n_a_cells_a_tree_h0, .inl b_a_cells_a_tree_h0))]) (c_Wr_beginLine l D cI cB cJ cS h0 a_tree_h0 a_source_h0 a_form_h0 a_bytes_a_form_h0 32 indent_h0 fits_h0 size_a_form_h0 n_a_bytes_a_form_h0 b_a_bytes_a_form_h0  r67 r68 r69 r70 C72 S73 k76) k_Wr_114 (by decide) ⟨Nat.le_of_ble_eq_true rfl, Nat.le_of_ble_eq_true rfl⟩ rfl 0 rfl [2, 0, 1] [3, 4] rfl (by decide) rfl (by decide) (by decide) rfl rfl (Nat.le_of_ble_eq_true rfl) d_Wr_finish_188 ⟨show 0 + C72 ≤ mc by omega, show 0 + S73 ≤ ms by omega⟩ (fun v w hq => ?_)
                              obtain ⟨q71, rfl, rfl⟩ := hq
                              refine j_norm (pc' := 191) (st' := []) (ws' := [(a_tree_h0, .inr (1, [.ref a_cells_a_tree_h0, .int count_a_tree_h0])), (a_cells_a_tree_h0, .inl (cI, n_a_cells_a_tree_h0, .inl b_a_cells_a_tree_h0)), (h0, .inr (6, [.ref a_tree_h0, .ref a_source_h0, .ref a_form_h0, .int indent_h0, .int r67])), (a_form_h0, .inr (3, [.ref q71, .int r68])), (q71, .inl (cB, r69, .inl r70))]) (cl' := 0 + C72) (sl' := 0 + S73) rfl rfl rfl rfl rfl rfl ?_
                              refine j_goto (tgt := 230) d_Wr_finish_191 (by decide) ?_
                              replace h := lf_s h
                              obtain ⟨h, e1, e2⟩ := h
                              replace h := Prod.mk.inj h
                              obtain ⟨h9, h⟩ := h
                              subst h9
                              replace h := Prod.mk.inj h
                              obtain ⟨h9, h⟩ := h
                              subst h9
                              replace h := Prod.mk.inj h
                              obtain ⟨h9, h⟩ := h
                              subst h9
                              replace h := Prod.mk.inj h
                              obtain ⟨h9, h⟩ := h
                              subst h9
                              subst h
                              refine j_widen (cl' := mc) (sl' := ms) (by omega) (by omega) ?_
                              exact j_vret (w := [(h0, .inr (6, [.ref a_tree_h0, .ref a_source_h0, .ref a_form_h0, .int indent_h0, .int r67])), (a_tree_h0, .inr (1, [.ref a_cells_a_tree_h0, .int count_a_tree_h0])), (a_cells_a_tree_h0, .inl (cI, n_a_cells_a_tree_h0, .inl b_a_cells_a_tree_h0)), (a_form_h0, .inr (3, [.ref q71, .int r68])), (q71, .inl (cB, r69, .inl r70))]) hr d_Wr_finish_230 [2, 0, 1, 3, 4] rfl (by decide) ⟨q71, rfl, rfl⟩
                            · replace h := it_f c66 h
                              by_cases c77 : r1 = 15
                              · replace h := it_t c77 h
                                refine j_tabIn (tgt := 194) (off := 189) d_Wr_finish_5 15 c77 (by decide) (by decide) (by decide) (by decide) ?_
                                refine j_aload_n d_Wr_finish_194 rfl 0 rfl ?_
                                refine j_ldcS (i := 33) rfl d_Wr_finish_195 ?_
                                replace h := bw_s h
                                obtain ⟨⟨r78, r79, r80, r81⟩, C83, S84, C85, S86, k87, h, e1, e2⟩ := h
                                replace hC : 0 + C83 + C85 ≤ mc := by omega
                                replace hS : 0 + S84 + S86 ≤ ms := by omega
                                clear e1 e2
                                refine j_callV (n := 1) (As := [.ref (sA D 33)]) (rest := []) (wr := [(a_tree_h0, .inr (1, [.ref a_cells_a_tree_h0, .int count_a_tree_h0])), (a_cells_a_tree_h0, .inl (cI, n_a_cells_a_tree_h0, .inl b_a_cells_a_tree_h0))]) (c_Wr_put l D cI cB cJ cS h0 a_tree_h0 a_source_h0 a_form_h0 a_bytes_a_form_h0 33 indent_h0 fits_h0 size_a_form_h0 n_a_bytes_a_form_h0 b_a_bytes_a_form_h0  r78 r79 r80 r81 C83 S84 k87) k_Wr_77 (by decide) ⟨Nat.le_of_ble_eq_true rfl, Nat.le_of_ble_eq_true rfl⟩ rfl 0 rfl [2, 0, 1] [3, 4] rfl (by decide) rfl (by decide) (by decide) rfl rfl (Nat.le_of_ble_eq_true rfl) d_Wr_finish_197 ⟨show 0 + C83 ≤ mc by omega, show 0 + S84 ≤ ms by omega⟩ (fun v w hq => ?_)
                                obtain ⟨q82, rfl, rfl⟩ := hq
                                refine j_norm (pc' := 200) (st' := []) (ws' := [(a_tree_h0, .inr (1, [.ref a_cells_a_tree_h0, .int count_a_tree_h0])), (a_cells_a_tree_h0, .inl (cI, n_a_cells_a_tree_h0, .inl b_a_cells_a_tree_h0)), (h0, .inr (6, [.ref a_tree_h0, .ref a_source_h0, .ref a_form_h0, .int indent_h0, .int r78])), (a_form_h0, .inr (3, [.ref q82, .int r79])), (q82, .inl (cB, r80, .inl r81))]) (cl' := 0 + C83) (sl' := 0 + S84) rfl rfl rfl rfl rfl rfl ?_
                                refine j_goto (tgt := 230) d_Wr_finish_200 (by decide) ?_
                                replace h := lf_s h
                                obtain ⟨h, e1, e2⟩ := h
                                replace h := Prod.mk.inj h
                                obtain ⟨h9, h⟩ := h
                                subst h9
                                replace h := Prod.mk.inj h
                                obtain ⟨h9, h⟩ := h
                                subst h9
                                replace h := Prod.mk.inj h
                                obtain ⟨h9, h⟩ := h
                                subst h9
                                replace h := Prod.mk.inj h
                                obtain ⟨h9, h⟩ := h
                                subst h9
                                subst h
                                refine j_widen (cl' := mc) (sl' := ms) (by omega) (by omega) ?_
                                exact j_vret (w := [(h0, .inr (6, [.ref a_tree_h0, .ref a_source_h0, .ref a_form_h0, .int indent_h0, .int r78])), (a_tree_h0, .inr (1, [.ref a_cells_a_tree_h0, .int count_a_tree_h0])), (a_cells_a_tree_h0, .inl (cI, n_a_cells_a_tree_h0, .inl b_a_cells_a_tree_h0)), (a_form_h0, .inr (3, [.ref q82, .int r79])), (q82, .inl (cB, r80, .inl r81))]) hr d_Wr_finish_230 [2, 0, 1, 3, 4] rfl (by decide) ⟨q82, rfl, rfl⟩
                              · replace h := it_f c77 h
                                by_cases c88 : r1 = 16
                                · replace h := it_t c88 h
                                  refine j_tabIn (tgt := 194) (off := 189) d_Wr_finish_5 16 c88 (by decide) (by decide) (by decide) (by decide) ?_
                                  refine j_aload_n d_Wr_finish_194 rfl 0 rfl ?_
                                  refine j_ldcS (i := 33) rfl d_Wr_finish_195 ?_
                                  replace h := bw_s h
                                  obtain ⟨⟨r89, r90, r91, r92⟩, C94, S95, C96, S97, k98, h, e1, e2⟩ := h
                                  replace hC : 0 + C94 + C96 ≤ mc := by omega
                                  replace hS : 0 + S95 + S97 ≤ ms := by omega
                                  clear e1 e2
                                  refine j_callV (n := 1) (As := [.ref (sA D 33)]) (rest := []) (wr := [(a_tree_h0, .inr (1, [.ref a_cells_a_tree_h0, .int count_a_tree_h0])), (a_cells_a_tree_h0, .inl (cI, n_a_cells_a_tree_h0, .inl b_a_cells_a_tree_h0))]) (c_Wr_put l D cI cB cJ cS h0 a_tree_h0 a_source_h0 a_form_h0 a_bytes_a_form_h0 33 indent_h0 fits_h0 size_a_form_h0 n_a_bytes_a_form_h0 b_a_bytes_a_form_h0  r89 r90 r91 r92 C94 S95 k98) k_Wr_77 (by decide) ⟨Nat.le_of_ble_eq_true rfl, Nat.le_of_ble_eq_true rfl⟩ rfl 0 rfl [2, 0, 1] [3, 4] rfl (by decide) rfl (by decide) (by decide) rfl rfl (Nat.le_of_ble_eq_true rfl) d_Wr_finish_197 ⟨show 0 + C94 ≤ mc by omega, show 0 + S95 ≤ ms by omega⟩ (fun v w hq => ?_)
                                  obtain ⟨q93, rfl, rfl⟩ := hq
                                  refine j_norm (pc' := 200) (st' := []) (ws' := [(a_tree_h0, .inr (1, [.ref a_cells_a_tree_h0, .int count_a_tree_h0])), (a_cells_a_tree_h0, .inl (cI, n_a_cells_a_tree_h0, .inl b_a_cells_a_tree_h0)), (h0, .inr (6, [.ref a_tree_h0, .ref a_source_h0, .ref a_form_h0, .int indent_h0, .int r89])), (a_form_h0, .inr (3, [.ref q93, .int r90])), (q93, .inl (cB, r91, .inl r92))]) (cl' := 0 + C94) (sl' := 0 + S95) rfl rfl rfl rfl rfl rfl ?_
                                  refine j_goto (tgt := 230) d_Wr_finish_200 (by decide) ?_
                                  replace h := lf_s h
                                  obtain ⟨h, e1, e2⟩ := h
                                  replace h := Prod.mk.inj h
                                  obtain ⟨h9, h⟩ := h
                                  subst h9
                                  replace h := Prod.mk.inj h
                                  obtain ⟨h9, h⟩ := h
                                  subst h9
                                  replace h := Prod.mk.inj h
                                  obtain ⟨h9, h⟩ := h
                                  subst h9
                                  replace h := Prod.mk.inj h
                                  obtain ⟨h9, h⟩ := h
                                  subst h9
                                  subst h
                                  refine j_widen (cl' := mc) (sl' := ms) (by omega) (by omega) ?_
                                  exact j_vret (w := [(h0, .inr (6, [.ref a_tree_h0, .ref a_source_h0, .ref a_form_h0, .int indent_h0, .int r89])), (a_tree_h0, .inr (1, [.ref a_cells_a_tree_h0, .int count_a_tree_h0])), (a_cells_a_tree_h0, .inl (cI, n_a_cells_a_tree_h0, .inl b_a_cells_a_tree_h0)), (a_form_h0, .inr (3, [.ref q93, .int r90])), (q93, .inl (cB, r91, .inl r92))]) hr d_Wr_finish_230 [2, 0, 1, 3, 4] rfl (by decide) ⟨q93, rfl, rfl⟩
                                · replace h := it_f c88 h
                                  by_cases c99 : r1 = 17
                                  · replace h := it_t c99 h
                                    refine j_tabIn (tgt := 194) (off := 189) d_Wr_finish_5 17 c99 (by decide) (by decide) (by decide) (by decide) ?_
                                    refine j_aload_n d_Wr_finish_194 rfl 0 rfl ?_
                                    refine j_ldcS (i := 33) rfl d_Wr_finish_195 ?_
                                    replace h := bw_s h
                                    obtain ⟨⟨r100, r101, r102, r103⟩, C105, S106, C107, S108, k109, h, e1, e2⟩ := h
                                    replace hC : 0 + C105 + C107 ≤ mc := by omega
                                    replace hS : 0 + S106 + S108 ≤ ms := by omega
                                    clear e1 e2
                                    refine j_callV (n := 1) (As := [.ref (sA D 33)]) (rest := []) (wr := [(a_tree_h0, .inr (1, [.ref a_cells_a_tree_h0, .int count_a_tree_h0])), (a_cells_a_tree_h0, .inl (cI, n_a_cells_a_tree_h0, .inl b_a_cells_a_tree_h0))]) (c_Wr_put l D cI cB cJ cS h0 a_tree_h0 a_source_h0 a_form_h0 a_bytes_a_form_h0 33 indent_h0 fits_h0 size_a_form_h0 n_a_bytes_a_form_h0 b_a_bytes_a_form_h0  r100 r101 r102 r103 C105 S106 k109) k_Wr_77 (by decide) ⟨Nat.le_of_ble_eq_true rfl, Nat.le_of_ble_eq_true rfl⟩ rfl 0 rfl [2, 0, 1] [3, 4] rfl (by decide) rfl (by decide) (by decide) rfl rfl (Nat.le_of_ble_eq_true rfl) d_Wr_finish_197 ⟨show 0 + C105 ≤ mc by omega, show 0 + S106 ≤ ms by omega⟩ (fun v w hq => ?_)
                                    obtain ⟨q104, rfl, rfl⟩ := hq
                                    refine j_norm (pc' := 200) (st' := []) (ws' := [(a_tree_h0, .inr (1, [.ref a_cells_a_tree_h0, .int count_a_tree_h0])), (a_cells_a_tree_h0, .inl (cI, n_a_cells_a_tree_h0, .inl b_a_cells_a_tree_h0)), (h0, .inr (6, [.ref a_tree_h0, .ref a_source_h0, .ref a_form_h0, .int indent_h0, .int r100])), (a_form_h0, .inr (3, [.ref q104, .int r101])), (q104, .inl (cB, r102, .inl r103))]) (cl' := 0 + C105) (sl' := 0 + S106) rfl rfl rfl rfl rfl rfl ?_
                                    refine j_goto (tgt := 230) d_Wr_finish_200 (by decide) ?_
                                    replace h := lf_s h
                                    obtain ⟨h, e1, e2⟩ := h
                                    replace h := Prod.mk.inj h
                                    obtain ⟨h9, h⟩ := h
                                    subst h9
                                    replace h := Prod.mk.inj h
                                    obtain ⟨h9, h⟩ := h
                                    subst h9
                                    replace h := Prod.mk.inj h
                                    obtain ⟨h9, h⟩ := h
                                    subst h9
                                    replace h := Prod.mk.inj h
                                    obtain ⟨h9, h⟩ := h
                                    subst h9
                                    subst h
                                    refine j_widen (cl' := mc) (sl' := ms) (by omega) (by omega) ?_
                                    exact j_vret (w := [(h0, .inr (6, [.ref a_tree_h0, .ref a_source_h0, .ref a_form_h0, .int indent_h0, .int r100])), (a_tree_h0, .inr (1, [.ref a_cells_a_tree_h0, .int count_a_tree_h0])), (a_cells_a_tree_h0, .inl (cI, n_a_cells_a_tree_h0, .inl b_a_cells_a_tree_h0)), (a_form_h0, .inr (3, [.ref q104, .int r101])), (q104, .inl (cB, r102, .inl r103))]) hr d_Wr_finish_230 [2, 0, 1, 3, 4] rfl (by decide) ⟨q104, rfl, rfl⟩
                                  · replace h := it_f c99 h
                                    by_cases c110 : r1 = 18
                                    · replace h := it_t c110 h
                                      refine j_tabIn (tgt := 194) (off := 189) d_Wr_finish_5 18 c110 (by decide) (by decide) (by decide) (by decide) ?_
                                      refine j_aload_n d_Wr_finish_194 rfl 0 rfl ?_
                                      refine j_ldcS (i := 33) rfl d_Wr_finish_195 ?_
                                      replace h := bw_s h
                                      obtain ⟨⟨r111, r112, r113, r114⟩, C116, S117, C118, S119, k120, h, e1, e2⟩ := h
                                      replace hC : 0 + C116 + C118 ≤ mc := by omega
                                      replace hS : 0 + S117 + S119 ≤ ms := by omega
                                      clear e1 e2
                                      refine j_callV (n := 1) (As := [.ref (sA D 33)]) (rest := []) (wr := [(a_tree_h0, .inr (1, [.ref a_cells_a_tree_h0, .int count_a_tree_h0])), (a_cells_a_tree_h0, .inl (cI, n_a_cells_a_tree_h0, .inl b_a_cells_a_tree_h0))]) (c_Wr_put l D cI cB cJ cS h0 a_tree_h0 a_source_h0 a_form_h0 a_bytes_a_form_h0 33 indent_h0 fits_h0 size_a_form_h0 n_a_bytes_a_form_h0 b_a_bytes_a_form_h0  r111 r112 r113 r114 C116 S117 k120) k_Wr_77 (by decide) ⟨Nat.le_of_ble_eq_true rfl, Nat.le_of_ble_eq_true rfl⟩ rfl 0 rfl [2, 0, 1] [3, 4] rfl (by decide) rfl (by decide) (by decide) rfl rfl (Nat.le_of_ble_eq_true rfl) d_Wr_finish_197 ⟨show 0 + C116 ≤ mc by omega, show 0 + S117 ≤ ms by omega⟩ (fun v w hq => ?_)
                                      obtain ⟨q115, rfl, rfl⟩ := hq
                                      refine j_norm (pc' := 200) (st' := []) (ws' := [(a_tree_h0, .inr (1, [.ref a_cells_a_tree_h0, .int count_a_tree_h0])), (a_cells_a_tree_h0, .inl (cI, n_a_cells_a_tree_h0, .inl b_a_cells_a_tree_h0)), (h0, .inr (6, [.ref a_tree_h0, .ref a_source_h0, .ref a_form_h0, .int indent_h0, .int r111])), (a_form_h0, .inr (3, [.ref q115, .int r112])), (q115, .inl (cB, r113, .inl r114))]) (cl' := 0 + C116) (sl' := 0 + S117) rfl rfl rfl rfl rfl rfl ?_
                                      refine j_goto (tgt := 230) d_Wr_finish_200 (by decide) ?_
                                      replace h := lf_s h
                                      obtain ⟨h, e1, e2⟩ := h
                                      replace h := Prod.mk.inj h
                                      obtain ⟨h9, h⟩ := h
                                      subst h9
                                      replace h := Prod.mk.inj h
                                      obtain ⟨h9, h⟩ := h
                                      subst h9
                                      replace h := Prod.mk.inj h
                                      obtain ⟨h9, h⟩ := h
                                      subst h9
                                      replace h := Prod.mk.inj h
                                      obtain ⟨h9, h⟩ := h
                                      subst h9
                                      subst h
                                      refine j_widen (cl' := mc) (sl' := ms) (by omega) (by omega) ?_
                                      exact j_vret (w := [(h0, .inr (6, [.ref a_tree_h0, .ref a_source_h0, .ref a_form_h0, .int indent_h0, .int r111])), (a_tree_h0, .inr (1, [.ref a_cells_a_tree_h0, .int count_a_tree_h0])), (a_cells_a_tree_h0, .inl (cI, n_a_cells_a_tree_h0, .inl b_a_cells_a_tree_h0)), (a_form_h0, .inr (3, [.ref q115, .int r112])), (q115, .inl (cB, r113, .inl r114))]) hr d_Wr_finish_230 [2, 0, 1, 3, 4] rfl (by decide) ⟨q115, rfl, rfl⟩
                                    · replace h := it_f c110 h
                                      by_cases c121 : r1 = 19
                                      · replace h := it_t c121 h
                                        refine j_tabIn (tgt := 194) (off := 189) d_Wr_finish_5 19 c121 (by decide) (by decide) (by decide) (by decide) ?_
                                        refine j_aload_n d_Wr_finish_194 rfl 0 rfl ?_
                                        refine j_ldcS (i := 33) rfl d_Wr_finish_195 ?_
                                        replace h := bw_s h
                                        obtain ⟨⟨r122, r123, r124, r125⟩, C127, S128, C129, S130, k131, h, e1, e2⟩ := h
                                        replace hC : 0 + C127 + C129 ≤ mc := by omega
                                        replace hS : 0 + S128 + S130 ≤ ms := by omega
                                        clear e1 e2
                                        refine j_callV (n := 1) (As := [.ref (sA D 33)]) (rest := []) (wr := [(a_tree_h0, .inr (1, [.ref a_cells_a_tree_h0, .int count_a_tree_h0])), (a_cells_a_tree_h0, .inl (cI, n_a_cells_a_tree_h0, .inl b_a_cells_a_tree_h0))]) (c_Wr_put l D cI cB cJ cS h0 a_tree_h0 a_source_h0 a_form_h0 a_bytes_a_form_h0 33 indent_h0 fits_h0 size_a_form_h0 n_a_bytes_a_form_h0 b_a_bytes_a_form_h0  r122 r123 r124 r125 C127 S128 k131) k_Wr_77 (by decide) ⟨Nat.le_of_ble_eq_true rfl, Nat.le_of_ble_eq_true rfl⟩ rfl 0 rfl [2, 0, 1] [3, 4] rfl (by decide) rfl (by decide) (by decide) rfl rfl (Nat.le_of_ble_eq_true rfl) d_Wr_finish_197 ⟨show 0 + C127 ≤ mc by omega, show 0 + S128 ≤ ms by omega⟩ (fun v w hq => ?_)
                                        obtain ⟨q126, rfl, rfl⟩ := hq
                                        refine j_norm (pc' := 200) (st' := []) (ws' := [(a_tree_h0, .inr (1, [.ref a_cells_a_tree_h0, .int count_a_tree_h0])), (a_cells_a_tree_h0, .inl (cI, n_a_cells_a_tree_h0, .inl b_a_cells_a_tree_h0)), (h0, .inr (6, [.ref a_tree_h0, .ref a_source_h0, .ref a_form_h0, .int indent_h0, .int r122])), (a_form_h0, .inr (3, [.ref q126, .int r123])), (q126, .inl (cB, r124, .inl r125))]) (cl' := 0 + C127) (sl' := 0 + S128) rfl rfl rfl rfl rfl rfl ?_
                                        refine j_goto (tgt := 230) d_Wr_finish_200 (by decide) ?_
                                        replace h := lf_s h
                                        obtain ⟨h, e1, e2⟩ := h
                                        replace h := Prod.mk.inj h
                                        obtain ⟨h9, h⟩ := h
                                        subst h9
                                        replace h := Prod.mk.inj h
                                        obtain ⟨h9, h⟩ := h
                                        subst h9
                                        replace h := Prod.mk.inj h
                                        obtain ⟨h9, h⟩ := h
                                        subst h9
                                        replace h := Prod.mk.inj h
                                        obtain ⟨h9, h⟩ := h
                                        subst h9
                                        subst h
                                        refine j_widen (cl' := mc) (sl' := ms) (by omega) (by omega) ?_
                                        exact j_vret (w := [(h0, .inr (6, [.ref a_tree_h0, .ref a_source_h0, .ref a_form_h0, .int indent_h0, .int r122])), (a_tree_h0, .inr (1, [.ref a_cells_a_tree_h0, .int count_a_tree_h0])), (a_cells_a_tree_h0, .inl (cI, n_a_cells_a_tree_h0, .inl b_a_cells_a_tree_h0)), (a_form_h0, .inr (3, [.ref q126, .int r123])), (q126, .inl (cB, r124, .inl r125))]) hr d_Wr_finish_230 [2, 0, 1, 3, 4] rfl (by decide) ⟨q126, rfl, rfl⟩
                                      · replace h := it_f c121 h
                                        by_cases c132 : r1 = 20
                                        · replace h := it_t c132 h
                                          refine j_tabIn (tgt := 194) (off := 189) d_Wr_finish_5 20 c132 (by decide) (by decide) (by decide) (by decide) ?_
                                          refine j_aload_n d_Wr_finish_194 rfl 0 rfl ?_
                                          refine j_ldcS (i := 33) rfl d_Wr_finish_195 ?_
                                          replace h := bw_s h
                                          obtain ⟨⟨r133, r134, r135, r136⟩, C138, S139, C140, S141, k142, h, e1, e2⟩ := h
                                          replace hC : 0 + C138 + C140 ≤ mc := by omega
                                          replace hS : 0 + S139 + S141 ≤ ms := by omega
                                          clear e1 e2
                                          refine j_callV (n := 1) (As := [.ref (sA D 33)]) (rest := []) (wr := [(a_tree_h0, .inr (1, [.ref a_cells_a_tree_h0, .int count_a_tree_h0])), (a_cells_a_tree_h0, .inl (cI, n_a_cells_a_tree_h0, .inl b_a_cells_a_tree_h0))]) (c_Wr_put l D cI cB cJ cS h0 a_tree_h0 a_source_h0 a_form_h0 a_bytes_a_form_h0 33 indent_h0 fits_h0 size_a_form_h0 n_a_bytes_a_form_h0 b_a_bytes_a_form_h0  r133 r134 r135 r136 C138 S139 k142) k_Wr_77 (by decide) ⟨Nat.le_of_ble_eq_true rfl, Nat.le_of_ble_eq_true rfl⟩ rfl 0 rfl [2, 0, 1] [3, 4] rfl (by decide) rfl (by decide) (by decide) rfl rfl (Nat.le_of_ble_eq_true rfl) d_Wr_finish_197 ⟨show 0 + C138 ≤ mc by omega, show 0 + S139 ≤ ms by omega⟩ (fun v w hq => ?_)
                                          obtain ⟨q137, rfl, rfl⟩ := hq
                                          refine j_norm (pc' := 200) (st' := []) (ws' := [(a_tree_h0, .inr (1, [.ref a_cells_a_tree_h0, .int count_a_tree_h0])), (a_cells_a_tree_h0, .inl (cI, n_a_cells_a_tree_h0, .inl b_a_cells_a_tree_h0)), (h0, .inr (6, [.ref a_tree_h0, .ref a_source_h0, .ref a_form_h0, .int indent_h0, .int r133])), (a_form_h0, .inr (3, [.ref q137, .int r134])), (q137, .inl (cB, r135, .inl r136))]) (cl' := 0 + C138) (sl' := 0 + S139) rfl rfl rfl rfl rfl rfl ?_
                                          refine j_goto (tgt := 230) d_Wr_finish_200 (by decide) ?_
                                          replace h := lf_s h
                                          obtain ⟨h, e1, e2⟩ := h
                                          replace h := Prod.mk.inj h
                                          obtain ⟨h9, h⟩ := h
                                          subst h9
                                          replace h := Prod.mk.inj h
                                          obtain ⟨h9, h⟩ := h
                                          subst h9
                                          replace h := Prod.mk.inj h
                                          obtain ⟨h9, h⟩ := h
                                          subst h9
                                          replace h := Prod.mk.inj h
                                          obtain ⟨h9, h⟩ := h
                                          subst h9
                                          subst h
                                          refine j_widen (cl' := mc) (sl' := ms) (by omega) (by omega) ?_
                                          exact j_vret (w := [(h0, .inr (6, [.ref a_tree_h0, .ref a_source_h0, .ref a_form_h0, .int indent_h0, .int r133])), (a_tree_h0, .inr (1, [.ref a_cells_a_tree_h0, .int count_a_tree_h0])), (a_cells_a_tree_h0, .inl (cI, n_a_cells_a_tree_h0, .inl b_a_cells_a_tree_h0)), (a_form_h0, .inr (3, [.ref q137, .int r134])), (q137, .inl (cB, r135, .inl r136))]) hr d_Wr_finish_230 [2, 0, 1, 3, 4] rfl (by decide) ⟨q137, rfl, rfl⟩
                                        · replace h := it_f c132 h
                                          by_cases c143 : r1 = 21
                                          · replace h := it_t c143 h
                                            refine j_tabIn (tgt := 194) (off := 189) d_Wr_finish_5 21 c143 (by decide) (by decide) (by decide) (by decide) ?_
                                            refine j_aload_n d_Wr_finish_194 rfl 0 rfl ?_
                                            refine j_ldcS (i := 33) rfl d_Wr_finish_195 ?_
                                            replace h := bw_s h
                                            obtain ⟨⟨r144, r145, r146, r147⟩, C149, S150, C151, S152, k153, h, e1, e2⟩ := h
                                            replace hC : 0 + C149 + C151 ≤ mc := by omega
                                            replace hS : 0 + S150 + S152 ≤ ms := by omega
                                            clear e1 e2
                                            refine j_callV (n := 1) (As := [.ref (sA D 33)]) (rest := []) (wr := [(a_tree_h0, .inr (1, [.ref a_cells_a_tree_h0, .int count_a_tree_h0])), (a_cells_a_tree_h0, .inl (cI, n_a_cells_a_tree_h0, .inl b_a_cells_a_tree_h0))]) (c_Wr_put l D cI cB cJ cS h0 a_tree_h0 a_source_h0 a_form_h0 a_bytes_a_form_h0 33 indent_h0 fits_h0 size_a_form_h0 n_a_bytes_a_form_h0 b_a_bytes_a_form_h0  r144 r145 r146 r147 C149 S150 k153) k_Wr_77 (by decide) ⟨Nat.le_of_ble_eq_true rfl, Nat.le_of_ble_eq_true rfl⟩ rfl 0 rfl [2, 0, 1] [3, 4] rfl (by decide) rfl (by decide) (by decide) rfl rfl (Nat.le_of_ble_eq_true rfl) d_Wr_finish_197 ⟨show 0 + C149 ≤ mc by omega, show 0 + S150 ≤ ms by omega⟩ (fun v w hq => ?_)
                                            obtain ⟨q148, rfl, rfl⟩ := hq
                                            refine j_norm (pc' := 200) (st' := []) (ws' := [(a_tree_h0, .inr (1, [.ref a_cells_a_tree_h0, .int count_a_tree_h0])), (a_cells_a_tree_h0, .inl (cI, n_a_cells_a_tree_h0, .inl b_a_cells_a_tree_h0)), (h0, .inr (6, [.ref a_tree_h0, .ref a_source_h0, .ref a_form_h0, .int indent_h0, .int r144])), (a_form_h0, .inr (3, [.ref q148, .int r145])), (q148, .inl (cB, r146, .inl r147))]) (cl' := 0 + C149) (sl' := 0 + S150) rfl rfl rfl rfl rfl rfl ?_
                                            refine j_goto (tgt := 230) d_Wr_finish_200 (by decide) ?_
                                            replace h := lf_s h
                                            obtain ⟨h, e1, e2⟩ := h
                                            replace h := Prod.mk.inj h
                                            obtain ⟨h9, h⟩ := h
                                            subst h9
                                            replace h := Prod.mk.inj h
                                            obtain ⟨h9, h⟩ := h
                                            subst h9
                                            replace h := Prod.mk.inj h
                                            obtain ⟨h9, h⟩ := h
                                            subst h9
                                            replace h := Prod.mk.inj h
                                            obtain ⟨h9, h⟩ := h
                                            subst h9
                                            subst h
                                            refine j_widen (cl' := mc) (sl' := ms) (by omega) (by omega) ?_
                                            exact j_vret (w := [(h0, .inr (6, [.ref a_tree_h0, .ref a_source_h0, .ref a_form_h0, .int indent_h0, .int r144])), (a_tree_h0, .inr (1, [.ref a_cells_a_tree_h0, .int count_a_tree_h0])), (a_cells_a_tree_h0, .inl (cI, n_a_cells_a_tree_h0, .inl b_a_cells_a_tree_h0)), (a_form_h0, .inr (3, [.ref q148, .int r145])), (q148, .inl (cB, r146, .inl r147))]) hr d_Wr_finish_230 [2, 0, 1, 3, 4] rfl (by decide) ⟨q148, rfl, rfl⟩
                                          · replace h := it_f c143 h
                                            by_cases c154 : r1 = 22
                                            · replace h := it_t c154 h
                                              refine j_tabIn (tgt := 230) (off := 225) d_Wr_finish_5 22 c154 (by decide) (by decide) (by decide) (by decide) ?_
                                              replace h := lf_s h
                                              obtain ⟨h, e1, e2⟩ := h
                                              replace h := Prod.mk.inj h
                                              obtain ⟨h9, h⟩ := h
                                              subst h9
                                              replace h := Prod.mk.inj h
                                              obtain ⟨h9, h⟩ := h
                                              subst h9
                                              replace h := Prod.mk.inj h
                                              obtain ⟨h9, h⟩ := h
                                              subst h9
                                              replace h := Prod.mk.inj h
                                              obtain ⟨h9, h⟩ := h
                                              subst h9
                                              subst h
                                              refine j_widen (cl' := mc) (sl' := ms) (by omega) (by omega) ?_
                                              exact j_vret (w := [(h0, .inr (6, [.ref a_tree_h0, .ref a_source_h0, .ref a_form_h0, .int indent_h0, .int fits_h0])), (a_tree_h0, .inr (1, [.ref a_cells_a_tree_h0, .int count_a_tree_h0])), (a_cells_a_tree_h0, .inl (cI, n_a_cells_a_tree_h0, .inl b_a_cells_a_tree_h0)), (a_form_h0, .inr (3, [.ref a_bytes_a_form_h0, .int size_a_form_h0])), (a_bytes_a_form_h0, .inl (cB, n_a_bytes_a_form_h0, .inl b_a_bytes_a_form_h0))]) hr d_Wr_finish_230 [2, 3, 4, 0, 1] rfl (by decide) ⟨a_bytes_a_form_h0, rfl, rfl⟩
                                            · replace h := it_f c154 h
                                              by_cases c155 : r1 = 23
                                              · replace h := it_t c155 h
                                                refine j_tabIn (tgt := 230) (off := 225) d_Wr_finish_5 23 c155 (by decide) (by decide) (by decide) (by decide) ?_
                                                replace h := lf_s h
                                                obtain ⟨h, e1, e2⟩ := h
                                                replace h := Prod.mk.inj h
                                                obtain ⟨h9, h⟩ := h
                                                subst h9
                                                replace h := Prod.mk.inj h
                                                obtain ⟨h9, h⟩ := h
                                                subst h9
                                                replace h := Prod.mk.inj h
                                                obtain ⟨h9, h⟩ := h
                                                subst h9
                                                replace h := Prod.mk.inj h
                                                obtain ⟨h9, h⟩ := h
                                                subst h9
                                                subst h
                                                refine j_widen (cl' := mc) (sl' := ms) (by omega) (by omega) ?_
                                                exact j_vret (w := [(h0, .inr (6, [.ref a_tree_h0, .ref a_source_h0, .ref a_form_h0, .int indent_h0, .int fits_h0])), (a_tree_h0, .inr (1, [.ref a_cells_a_tree_h0, .int count_a_tree_h0])), (a_cells_a_tree_h0, .inl (cI, n_a_cells_a_tree_h0, .inl b_a_cells_a_tree_h0)), (a_form_h0, .inr (3, [.ref a_bytes_a_form_h0, .int size_a_form_h0])), (a_bytes_a_form_h0, .inl (cB, n_a_bytes_a_form_h0, .inl b_a_bytes_a_form_h0))]) hr d_Wr_finish_230 [2, 3, 4, 0, 1] rfl (by decide) ⟨a_bytes_a_form_h0, rfl, rfl⟩
                                              · replace h := it_f c155 h
                                                by_cases c156 : r1 = 24
                                                · replace h := it_t c156 h
                                                  refine j_tabIn (tgt := 230) (off := 225) d_Wr_finish_5 24 c156 (by decide) (by decide) (by decide) (by decide) ?_
                                                  replace h := lf_s h
                                                  obtain ⟨h, e1, e2⟩ := h
                                                  replace h := Prod.mk.inj h
                                                  obtain ⟨h9, h⟩ := h
                                                  subst h9
                                                  replace h := Prod.mk.inj h
                                                  obtain ⟨h9, h⟩ := h
                                                  subst h9
                                                  replace h := Prod.mk.inj h
                                                  obtain ⟨h9, h⟩ := h
                                                  subst h9
                                                  replace h := Prod.mk.inj h
                                                  obtain ⟨h9, h⟩ := h
                                                  subst h9
                                                  subst h
                                                  refine j_widen (cl' := mc) (sl' := ms) (by omega) (by omega) ?_
                                                  exact j_vret (w := [(h0, .inr (6, [.ref a_tree_h0, .ref a_source_h0, .ref a_form_h0, .int indent_h0, .int fits_h0])), (a_tree_h0, .inr (1, [.ref a_cells_a_tree_h0, .int count_a_tree_h0])), (a_cells_a_tree_h0, .inl (cI, n_a_cells_a_tree_h0, .inl b_a_cells_a_tree_h0)), (a_form_h0, .inr (3, [.ref a_bytes_a_form_h0, .int size_a_form_h0])), (a_bytes_a_form_h0, .inl (cB, n_a_bytes_a_form_h0, .inl b_a_bytes_a_form_h0))]) hr d_Wr_finish_230 [2, 3, 4, 0, 1] rfl (by decide) ⟨a_bytes_a_form_h0, rfl, rfl⟩
                                                · replace h := it_f c156 h
                                                  by_cases c157 : r1 = 25
                                                  · replace h := it_t c157 h
                                                    refine j_tabIn (tgt := 230) (off := 225) d_Wr_finish_5 25 c157 (by decide) (by decide) (by decide) (by decide) ?_
                                                    replace h := lf_s h
                                                    obtain ⟨h, e1, e2⟩ := h
                                                    replace h := Prod.mk.inj h
                                                    obtain ⟨h9, h⟩ := h
                                                    subst h9
                                                    replace h := Prod.mk.inj h
                                                    obtain ⟨h9, h⟩ := h
                                                    subst h9
                                                    replace h := Prod.mk.inj h
                                                    obtain ⟨h9, h⟩ := h
                                                    subst h9
                                                    replace h := Prod.mk.inj h
                                                    obtain ⟨h9, h⟩ := h
                                                    subst h9
                                                    subst h
                                                    refine j_widen (cl' := mc) (sl' := ms) (by omega) (by omega) ?_
                                                    exact j_vret (w := [(h0, .inr (6, [.ref a_tree_h0, .ref a_source_h0, .ref a_form_h0, .int indent_h0, .int fits_h0])), (a_tree_h0, .inr (1, [.ref a_cells_a_tree_h0, .int count_a_tree_h0])), (a_cells_a_tree_h0, .inl (cI, n_a_cells_a_tree_h0, .inl b_a_cells_a_tree_h0)), (a_form_h0, .inr (3, [.ref a_bytes_a_form_h0, .int size_a_form_h0])), (a_bytes_a_form_h0, .inl (cB, n_a_bytes_a_form_h0, .inl b_a_bytes_a_form_h0))]) hr d_Wr_finish_230 [2, 3, 4, 0, 1] rfl (by decide) ⟨a_bytes_a_form_h0, rfl, rfl⟩
                                                  · replace h := it_f c157 h
                                                    by_cases c158 : r1 = 26
                                                    · replace h := it_t c158 h
                                                      refine j_tabIn (tgt := 230) (off := 225) d_Wr_finish_5 26 c158 (by decide) (by decide) (by decide) (by decide) ?_
                                                      replace h := lf_s h
                                                      obtain ⟨h, e1, e2⟩ := h
                                                      replace h := Prod.mk.inj h
                                                      obtain ⟨h9, h⟩ := h
                                                      subst h9
                                                      replace h := Prod.mk.inj h
                                                      obtain ⟨h9, h⟩ := h
                                                      subst h9
                                                      replace h := Prod.mk.inj h
                                                      obtain ⟨h9, h⟩ := h
                                                      subst h9
                                                      replace h := Prod.mk.inj h
                                                      obtain ⟨h9, h⟩ := h
                                                      subst h9
                                                      subst h
                                                      refine j_widen (cl' := mc) (sl' := ms) (by omega) (by omega) ?_
                                                      exact j_vret (w := [(h0, .inr (6, [.ref a_tree_h0, .ref a_source_h0, .ref a_form_h0, .int indent_h0, .int fits_h0])), (a_tree_h0, .inr (1, [.ref a_cells_a_tree_h0, .int count_a_tree_h0])), (a_cells_a_tree_h0, .inl (cI, n_a_cells_a_tree_h0, .inl b_a_cells_a_tree_h0)), (a_form_h0, .inr (3, [.ref a_bytes_a_form_h0, .int size_a_form_h0])), (a_bytes_a_form_h0, .inl (cB, n_a_bytes_a_form_h0, .inl b_a_bytes_a_form_h0))]) hr d_Wr_finish_230 [2, 3, 4, 0, 1] rfl (by decide) ⟨a_bytes_a_form_h0, rfl, rfl⟩
                                                    · replace h := it_f c158 h
                                                      by_cases c159 : r1 = 27
                                                      · replace h := it_t c159 h
                                                        refine j_tabIn (tgt := 230) (off := 225) d_Wr_finish_5 27 c159 (by decide) (by decide) (by decide) (by decide) ?_
                                                        replace h := lf_s h
                                                        obtain ⟨h, e1, e2⟩ := h
                                                        replace h := Prod.mk.inj h
                                                        obtain ⟨h9, h⟩ := h
                                                        subst h9
                                                        replace h := Prod.mk.inj h
                                                        obtain ⟨h9, h⟩ := h
                                                        subst h9
                                                        replace h := Prod.mk.inj h
                                                        obtain ⟨h9, h⟩ := h
                                                        subst h9
                                                        replace h := Prod.mk.inj h
                                                        obtain ⟨h9, h⟩ := h
                                                        subst h9
                                                        subst h
                                                        refine j_widen (cl' := mc) (sl' := ms) (by omega) (by omega) ?_
                                                        exact j_vret (w := [(h0, .inr (6, [.ref a_tree_h0, .ref a_source_h0, .ref a_form_h0, .int indent_h0, .int fits_h0])), (a_tree_h0, .inr (1, [.ref a_cells_a_tree_h0, .int count_a_tree_h0])), (a_cells_a_tree_h0, .inl (cI, n_a_cells_a_tree_h0, .inl b_a_cells_a_tree_h0)), (a_form_h0, .inr (3, [.ref a_bytes_a_form_h0, .int size_a_form_h0])), (a_bytes_a_form_h0, .inl (cB, n_a_bytes_a_form_h0, .inl b_a_bytes_a_form_h0))]) hr d_Wr_finish_230 [2, 3, 4, 0, 1] rfl (by decide) ⟨a_bytes_a_form_h0, rfl, rfl⟩
                                                      · replace h := it_f c159 h
                                                        by_cases c160 : r1 = 28
                                                        · replace h := it_t c160 h
                                                          refine j_tabIn (tgt := 230) (off := 225) d_Wr_finish_5 28 c160 (by decide) (by decide) (by decide) (by decide) ?_
                                                          replace h := lf_s h
                                                          obtain ⟨h, e1, e2⟩ := h
                                                          replace h := Prod.mk.inj h
                                                          obtain ⟨h9, h⟩ := h
                                                          subst h9
                                                          replace h := Prod.mk.inj h
                                                          obtain ⟨h9, h⟩ := h
                                                          subst h9
                                                          replace h := Prod.mk.inj h
                                                          obtain ⟨h9, h⟩ := h
                                                          subst h9
                                                          replace h := Prod.mk.inj h
                                                          obtain ⟨h9, h⟩ := h
                                                          subst h9
                                                          subst h
                                                          refine j_widen (cl' := mc) (sl' := ms) (by omega) (by omega) ?_
                                                          exact j_vret (w := [(h0, .inr (6, [.ref a_tree_h0, .ref a_source_h0, .ref a_form_h0, .int indent_h0, .int fits_h0])), (a_tree_h0, .inr (1, [.ref a_cells_a_tree_h0, .int count_a_tree_h0])), (a_cells_a_tree_h0, .inl (cI, n_a_cells_a_tree_h0, .inl b_a_cells_a_tree_h0)), (a_form_h0, .inr (3, [.ref a_bytes_a_form_h0, .int size_a_form_h0])), (a_bytes_a_form_h0, .inl (cB, n_a_bytes_a_form_h0, .inl b_a_bytes_a_form_h0))]) hr d_Wr_finish_230 [2, 3, 4, 0, 1] rfl (by decide) ⟨a_bytes_a_form_h0, rfl, rfl⟩
                                                        · replace h := it_f c160 h
                                                          by_cases c161 : r1 = 29
                                                          · replace h := it_t c161 h
                                                            refine j_tabIn (tgt := 230) (off := 225) d_Wr_finish_5 29 c161 (by decide) (by decide) (by decide) (by decide) ?_
                                                            replace h := lf_s h
                                                            obtain ⟨h, e1, e2⟩ := h
                                                            replace h := Prod.mk.inj h
                                                            obtain ⟨h9, h⟩ := h
                                                            subst h9
                                                            replace h := Prod.mk.inj h
                                                            obtain ⟨h9, h⟩ := h
                                                            subst h9
                                                            replace h := Prod.mk.inj h
                                                            obtain ⟨h9, h⟩ := h
                                                            subst h9
                                                            replace h := Prod.mk.inj h
                                                            obtain ⟨h9, h⟩ := h
                                                            subst h9
                                                            subst h
                                                            refine j_widen (cl' := mc) (sl' := ms) (by omega) (by omega) ?_
                                                            exact j_vret (w := [(h0, .inr (6, [.ref a_tree_h0, .ref a_source_h0, .ref a_form_h0, .int indent_h0, .int fits_h0])), (a_tree_h0, .inr (1, [.ref a_cells_a_tree_h0, .int count_a_tree_h0])), (a_cells_a_tree_h0, .inl (cI, n_a_cells_a_tree_h0, .inl b_a_cells_a_tree_h0)), (a_form_h0, .inr (3, [.ref a_bytes_a_form_h0, .int size_a_form_h0])), (a_bytes_a_form_h0, .inl (cB, n_a_bytes_a_form_h0, .inl b_a_bytes_a_form_h0))]) hr d_Wr_finish_230 [2, 3, 4, 0, 1] rfl (by decide) ⟨a_bytes_a_form_h0, rfl, rfl⟩
                                                          · replace h := it_f c161 h
                                                            by_cases c162 : r1 = 30
                                                            · replace h := it_t c162 h
                                                              refine j_tabIn (tgt := 230) (off := 225) d_Wr_finish_5 30 c162 (by decide) (by decide) (by decide) (by decide) ?_
                                                              replace h := lf_s h
                                                              obtain ⟨h, e1, e2⟩ := h
                                                              replace h := Prod.mk.inj h
                                                              obtain ⟨h9, h⟩ := h
                                                              subst h9
                                                              replace h := Prod.mk.inj h
                                                              obtain ⟨h9, h⟩ := h
                                                              subst h9
                                                              replace h := Prod.mk.inj h
                                                              obtain ⟨h9, h⟩ := h
                                                              subst h9
                                                              replace h := Prod.mk.inj h
                                                              obtain ⟨h9, h⟩ := h
                                                              subst h9
                                                              subst h
                                                              refine j_widen (cl' := mc) (sl' := ms) (by omega) (by omega) ?_
                                                              exact j_vret (w := [(h0, .inr (6, [.ref a_tree_h0, .ref a_source_h0, .ref a_form_h0, .int indent_h0, .int fits_h0])), (a_tree_h0, .inr (1, [.ref a_cells_a_tree_h0, .int count_a_tree_h0])), (a_cells_a_tree_h0, .inl (cI, n_a_cells_a_tree_h0, .inl b_a_cells_a_tree_h0)), (a_form_h0, .inr (3, [.ref a_bytes_a_form_h0, .int size_a_form_h0])), (a_bytes_a_form_h0, .inl (cB, n_a_bytes_a_form_h0, .inl b_a_bytes_a_form_h0))]) hr d_Wr_finish_230 [2, 3, 4, 0, 1] rfl (by decide) ⟨a_bytes_a_form_h0, rfl, rfl⟩
                                                            · replace h := it_f c162 h
                                                              by_cases c163 : r1 = 31
                                                              · replace h := it_t c163 h
                                                                refine j_tabIn (tgt := 230) (off := 225) d_Wr_finish_5 31 c163 (by decide) (by decide) (by decide) (by decide) ?_
                                                                replace h := lf_s h
                                                                obtain ⟨h, e1, e2⟩ := h
                                                                replace h := Prod.mk.inj h
                                                                obtain ⟨h9, h⟩ := h
                                                                subst h9
                                                                replace h := Prod.mk.inj h
                                                                obtain ⟨h9, h⟩ := h
                                                                subst h9
                                                                replace h := Prod.mk.inj h
                                                                obtain ⟨h9, h⟩ := h
                                                                subst h9
                                                                replace h := Prod.mk.inj h
                                                                obtain ⟨h9, h⟩ := h
                                                                subst h9
                                                                subst h
                                                                refine j_widen (cl' := mc) (sl' := ms) (by omega) (by omega) ?_
                                                                exact j_vret (w := [(h0, .inr (6, [.ref a_tree_h0, .ref a_source_h0, .ref a_form_h0, .int indent_h0, .int fits_h0])), (a_tree_h0, .inr (1, [.ref a_cells_a_tree_h0, .int count_a_tree_h0])), (a_cells_a_tree_h0, .inl (cI, n_a_cells_a_tree_h0, .inl b_a_cells_a_tree_h0)), (a_form_h0, .inr (3, [.ref a_bytes_a_form_h0, .int size_a_form_h0])), (a_bytes_a_form_h0, .inl (cB, n_a_bytes_a_form_h0, .inl b_a_bytes_a_form_h0))]) hr d_Wr_finish_230 [2, 3, 4, 0, 1] rfl (by decide) ⟨a_bytes_a_form_h0, rfl, rfl⟩
                                                              · replace h := it_f c163 h
                                                                by_cases c164 : r1 = 32
                                                                · replace h := it_t c164 h
                                                                  refine j_tabIn (tgt := 230) (off := 225) d_Wr_finish_5 32 c164 (by decide) (by decide) (by decide) (by decide) ?_
                                                                  replace h := lf_s h
                                                                  obtain ⟨h, e1, e2⟩ := h
                                                                  replace h := Prod.mk.inj h
                                                                  obtain ⟨h9, h⟩ := h
                                                                  subst h9
                                                                  replace h := Prod.mk.inj h
                                                                  obtain ⟨h9, h⟩ := h
                                                                  subst h9
                                                                  replace h := Prod.mk.inj h
                                                                  obtain ⟨h9, h⟩ := h
                                                                  subst h9
                                                                  replace h := Prod.mk.inj h
                                                                  obtain ⟨h9, h⟩ := h
                                                                  subst h9
                                                                  subst h
                                                                  refine j_widen (cl' := mc) (sl' := ms) (by omega) (by omega) ?_
                                                                  exact j_vret (w := [(h0, .inr (6, [.ref a_tree_h0, .ref a_source_h0, .ref a_form_h0, .int indent_h0, .int fits_h0])), (a_tree_h0, .inr (1, [.ref a_cells_a_tree_h0, .int count_a_tree_h0])), (a_cells_a_tree_h0, .inl (cI, n_a_cells_a_tree_h0, .inl b_a_cells_a_tree_h0)), (a_form_h0, .inr (3, [.ref a_bytes_a_form_h0, .int size_a_form_h0])), (a_bytes_a_form_h0, .inl (cB, n_a_bytes_a_form_h0, .inl b_a_bytes_a_form_h0))]) hr d_Wr_finish_230 [2, 3, 4, 0, 1] rfl (by decide) ⟨a_bytes_a_form_h0, rfl, rfl⟩
                                                                · replace h := it_f c164 h
                                                                  by_cases c165 : r1 = 33
                                                                  · replace h := it_t c165 h
                                                                    refine j_tabIn (tgt := 203) (off := 198) d_Wr_finish_5 33 c165 (by decide) (by decide) (by decide) (by decide) ?_
                                                                    refine j_aload_n d_Wr_finish_203 rfl 0 rfl ?_
                                                                    refine j_ldcS (i := 34) rfl d_Wr_finish_204 ?_
                                                                    replace h := bw_s h
                                                                    obtain ⟨⟨r166, r167, r168, r169⟩, C171, S172, C173, S174, k175, h, e1, e2⟩ := h
                                                                    replace hC : 0 + C171 + C173 ≤ mc := by omega
                                                                    replace hS : 0 + S172 + S174 ≤ ms := by omega
                                                                    clear e1 e2
                                                                    refine j_callV (n := 1) (As := [.ref (sA D 34)]) (rest := []) (wr := [(a_tree_h0, .inr (1, [.ref a_cells_a_tree_h0, .int count_a_tree_h0])), (a_cells_a_tree_h0, .inl (cI, n_a_cells_a_tree_h0, .inl b_a_cells_a_tree_h0))]) (c_Wr_put l D cI cB cJ cS h0 a_tree_h0 a_source_h0 a_form_h0 a_bytes_a_form_h0 34 indent_h0 fits_h0 size_a_form_h0 n_a_bytes_a_form_h0 b_a_bytes_a_form_h0  r166 r167 r168 r169 C171 S172 k175) k_Wr_77 (by decide) ⟨Nat.le_of_ble_eq_true rfl, Nat.le_of_ble_eq_true rfl⟩ rfl 0 rfl [2, 0, 1] [3, 4] rfl (by decide) rfl (by decide) (by decide) rfl rfl (Nat.le_of_ble_eq_true rfl) d_Wr_finish_206 ⟨show 0 + C171 ≤ mc by omega, show 0 + S172 ≤ ms by omega⟩ (fun v w hq => ?_)
                                                                    obtain ⟨q170, rfl, rfl⟩ := hq
                                                                    refine j_norm (pc' := 209) (st' := []) (ws' := [(a_tree_h0, .inr (1, [.ref a_cells_a_tree_h0, .int count_a_tree_h0])), (a_cells_a_tree_h0, .inl (cI, n_a_cells_a_tree_h0, .inl b_a_cells_a_tree_h0)), (h0, .inr (6, [.ref a_tree_h0, .ref a_source_h0, .ref a_form_h0, .int indent_h0, .int r166])), (a_form_h0, .inr (3, [.ref q170, .int r167])), (q170, .inl (cB, r168, .inl r169))]) (cl' := 0 + C171) (sl' := 0 + S172) rfl rfl rfl rfl rfl rfl ?_
                                                                    refine j_goto (tgt := 230) d_Wr_finish_209 (by decide) ?_
                                                                    replace h := lf_s h
                                                                    obtain ⟨h, e1, e2⟩ := h
                                                                    replace h := Prod.mk.inj h
                                                                    obtain ⟨h9, h⟩ := h
                                                                    subst h9
                                                                    replace h := Prod.mk.inj h
                                                                    obtain ⟨h9, h⟩ := h
                                                                    subst h9
                                                                    replace h := Prod.mk.inj h
                                                                    obtain ⟨h9, h⟩ := h
                                                                    subst h9
                                                                    replace h := Prod.mk.inj h
                                                                    obtain ⟨h9, h⟩ := h
                                                                    subst h9
                                                                    subst h
                                                                    refine j_widen (cl' := mc) (sl' := ms) (by omega) (by omega) ?_
                                                                    exact j_vret (w := [(h0, .inr (6, [.ref a_tree_h0, .ref a_source_h0, .ref a_form_h0, .int indent_h0, .int r166])), (a_tree_h0, .inr (1, [.ref a_cells_a_tree_h0, .int count_a_tree_h0])), (a_cells_a_tree_h0, .inl (cI, n_a_cells_a_tree_h0, .inl b_a_cells_a_tree_h0)), (a_form_h0, .inr (3, [.ref q170, .int r167])), (q170, .inl (cB, r168, .inl r169))]) hr d_Wr_finish_230 [2, 0, 1, 3, 4] rfl (by decide) ⟨q170, rfl, rfl⟩
                                                                  · replace h := it_f c165 h
                                                                    by_cases c176 : r1 = 34
                                                                    · replace h := it_t c176 h
                                                                      refine j_tabIn (tgt := 230) (off := 225) d_Wr_finish_5 34 c176 (by decide) (by decide) (by decide) (by decide) ?_
                                                                      replace h := lf_s h
                                                                      obtain ⟨h, e1, e2⟩ := h
                                                                      replace h := Prod.mk.inj h
                                                                      obtain ⟨h9, h⟩ := h
                                                                      subst h9
                                                                      replace h := Prod.mk.inj h
                                                                      obtain ⟨h9, h⟩ := h
                                                                      subst h9
                                                                      replace h := Prod.mk.inj h
                                                                      obtain ⟨h9, h⟩ := h
                                                                      subst h9
                                                                      replace h := Prod.mk.inj h
                                                                      obtain ⟨h9, h⟩ := h
                                                                      subst h9
                                                                      subst h
                                                                      refine j_widen (cl' := mc) (sl' := ms) (by omega) (by omega) ?_
                                                                      exact j_vret (w := [(h0, .inr (6, [.ref a_tree_h0, .ref a_source_h0, .ref a_form_h0, .int indent_h0, .int fits_h0])), (a_tree_h0, .inr (1, [.ref a_cells_a_tree_h0, .int count_a_tree_h0])), (a_cells_a_tree_h0, .inl (cI, n_a_cells_a_tree_h0, .inl b_a_cells_a_tree_h0)), (a_form_h0, .inr (3, [.ref a_bytes_a_form_h0, .int size_a_form_h0])), (a_bytes_a_form_h0, .inl (cB, n_a_bytes_a_form_h0, .inl b_a_bytes_a_form_h0))]) hr d_Wr_finish_230 [2, 3, 4, 0, 1] rfl (by decide) ⟨a_bytes_a_form_h0, rfl, rfl⟩
                                                                    · replace h := it_f c176 h
                                                                      by_cases c177 : r1 = 35
                                                                      · replace h := it_t c177 h
                                                                        refine j_tabIn (tgt := 230) (off := 225) d_Wr_finish_5 35 c177 (by decide) (by decide) (by decide) (by decide) ?_
                                                                        replace h := lf_s h
                                                                        obtain ⟨h, e1, e2⟩ := h
                                                                        replace h := Prod.mk.inj h
                                                                        obtain ⟨h9, h⟩ := h
                                                                        subst h9
                                                                        replace h := Prod.mk.inj h
                                                                        obtain ⟨h9, h⟩ := h
                                                                        subst h9
                                                                        replace h := Prod.mk.inj h
                                                                        obtain ⟨h9, h⟩ := h
                                                                        subst h9
                                                                        replace h := Prod.mk.inj h
                                                                        obtain ⟨h9, h⟩ := h
                                                                        subst h9
                                                                        subst h
                                                                        refine j_widen (cl' := mc) (sl' := ms) (by omega) (by omega) ?_
                                                                        exact j_vret (w := [(h0, .inr (6, [.ref a_tree_h0, .ref a_source_h0, .ref a_form_h0, .int indent_h0, .int fits_h0])), (a_tree_h0, .inr (1, [.ref a_cells_a_tree_h0, .int count_a_tree_h0])), (a_cells_a_tree_h0, .inl (cI, n_a_cells_a_tree_h0, .inl b_a_cells_a_tree_h0)), (a_form_h0, .inr (3, [.ref a_bytes_a_form_h0, .int size_a_form_h0])), (a_bytes_a_form_h0, .inl (cB, n_a_bytes_a_form_h0, .inl b_a_bytes_a_form_h0))]) hr d_Wr_finish_230 [2, 3, 4, 0, 1] rfl (by decide) ⟨a_bytes_a_form_h0, rfl, rfl⟩
                                                                      · replace h := it_f c177 h
                                                                        by_cases c178 : r1 = 36
                                                                        · replace h := it_t c178 h
                                                                          refine j_tabIn (tgt := 212) (off := 207) d_Wr_finish_5 36 c178 (by decide) (by decide) (by decide) (by decide) ?_
                                                                          refine j_aload_n d_Wr_finish_212 rfl 0 rfl ?_
                                                                          refine j_ldcS (i := 35) rfl d_Wr_finish_213 ?_
                                                                          replace h := bw_s h
                                                                          obtain ⟨⟨r179, r180, r181, r182⟩, C184, S185, C186, S187, k188, h, e1, e2⟩ := h
                                                                          replace hC : 0 + C184 + C186 ≤ mc := by omega
                                                                          replace hS : 0 + S185 + S187 ≤ ms := by omega
                                                                          clear e1 e2
                                                                          refine j_callV (n := 1) (As := [.ref (sA D 35)]) (rest := []) (wr := [(a_tree_h0, .inr (1, [.ref a_cells_a_tree_h0, .int count_a_tree_h0])), (a_cells_a_tree_h0, .inl (cI, n_a_cells_a_tree_h0, .inl b_a_cells_a_tree_h0))]) (c_Wr_put l D cI cB cJ cS h0 a_tree_h0 a_source_h0 a_form_h0 a_bytes_a_form_h0 35 indent_h0 fits_h0 size_a_form_h0 n_a_bytes_a_form_h0 b_a_bytes_a_form_h0  r179 r180 r181 r182 C184 S185 k188) k_Wr_77 (by decide) ⟨Nat.le_of_ble_eq_true rfl, Nat.le_of_ble_eq_true rfl⟩ rfl 0 rfl [2, 0, 1] [3, 4] rfl (by decide) rfl (by decide) (by decide) rfl rfl (Nat.le_of_ble_eq_true rfl) d_Wr_finish_215 ⟨show 0 + C184 ≤ mc by omega, show 0 + S185 ≤ ms by omega⟩ (fun v w hq => ?_)
                                                                          obtain ⟨q183, rfl, rfl⟩ := hq
                                                                          refine j_norm (pc' := 218) (st' := []) (ws' := [(a_tree_h0, .inr (1, [.ref a_cells_a_tree_h0, .int count_a_tree_h0])), (a_cells_a_tree_h0, .inl (cI, n_a_cells_a_tree_h0, .inl b_a_cells_a_tree_h0)), (h0, .inr (6, [.ref a_tree_h0, .ref a_source_h0, .ref a_form_h0, .int indent_h0, .int r179])), (a_form_h0, .inr (3, [.ref q183, .int r180])), (q183, .inl (cB, r181, .inl r182))]) (cl' := 0 + C184) (sl' := 0 + S185) rfl rfl rfl rfl rfl rfl ?_
                                                                          refine j_goto (tgt := 230) d_Wr_finish_218 (by decide) ?_
                                                                          replace h := lf_s h
                                                                          obtain ⟨h, e1, e2⟩ := h
                                                                          replace h := Prod.mk.inj h
                                                                          obtain ⟨h9, h⟩ := h
                                                                          subst h9
                                                                          replace h := Prod.mk.inj h
                                                                          obtain ⟨h9, h⟩ := h
                                                                          subst h9
                                                                          replace h := Prod.mk.inj h
                                                                          obtain ⟨h9, h⟩ := h
                                                                          subst h9
                                                                          replace h := Prod.mk.inj h
                                                                          obtain ⟨h9, h⟩ := h
                                                                          subst h9
                                                                          subst h
                                                                          refine j_widen (cl' := mc) (sl' := ms) (by omega) (by omega) ?_
                                                                          exact j_vret (w := [(h0, .inr (6, [.ref a_tree_h0, .ref a_source_h0, .ref a_form_h0, .int indent_h0, .int r179])), (a_tree_h0, .inr (1, [.ref a_cells_a_tree_h0, .int count_a_tree_h0])), (a_cells_a_tree_h0, .inl (cI, n_a_cells_a_tree_h0, .inl b_a_cells_a_tree_h0)), (a_form_h0, .inr (3, [.ref q183, .int r180])), (q183, .inl (cB, r181, .inl r182))]) hr d_Wr_finish_230 [2, 0, 1, 3, 4] rfl (by decide) ⟨q183, rfl, rfl⟩
                                                                        · replace h := it_f c178 h
                                                                          by_cases c189 : r1 = 37
                                                                          · replace h := it_t c189 h
                                                                            refine j_tabIn (tgt := 230) (off := 225) d_Wr_finish_5 37 c189 (by decide) (by decide) (by decide) (by decide) ?_
                                                                            replace h := lf_s h
                                                                            obtain ⟨h, e1, e2⟩ := h
                                                                            replace h := Prod.mk.inj h
                                                                            obtain ⟨h9, h⟩ := h
                                                                            subst h9
                                                                            replace h := Prod.mk.inj h
                                                                            obtain ⟨h9, h⟩ := h
                                                                            subst h9
                                                                            replace h := Prod.mk.inj h
                                                                            obtain ⟨h9, h⟩ := h
                                                                            subst h9
                                                                            replace h := Prod.mk.inj h
                                                                            obtain ⟨h9, h⟩ := h
                                                                            subst h9
                                                                            subst h
                                                                            refine j_widen (cl' := mc) (sl' := ms) (by omega) (by omega) ?_
                                                                            exact j_vret (w := [(h0, .inr (6, [.ref a_tree_h0, .ref a_source_h0, .ref a_form_h0, .int indent_h0, .int fits_h0])), (a_tree_h0, .inr (1, [.ref a_cells_a_tree_h0, .int count_a_tree_h0])), (a_cells_a_tree_h0, .inl (cI, n_a_cells_a_tree_h0, .inl b_a_cells_a_tree_h0)), (a_form_h0, .inr (3, [.ref a_bytes_a_form_h0, .int size_a_form_h0])), (a_bytes_a_form_h0, .inl (cB, n_a_bytes_a_form_h0, .inl b_a_bytes_a_form_h0))]) hr d_Wr_finish_230 [2, 3, 4, 0, 1] rfl (by decide) ⟨a_bytes_a_form_h0, rfl, rfl⟩
                                                                          · replace h := it_f c189 h
                                                                            by_cases c190 : r1 = 38
                                                                            · replace h := it_t c190 h
                                                                              refine j_tabIn (tgt := 221) (off := 216) d_Wr_finish_5 38 c190 (by decide) (by decide) (by decide) (by decide) ?_
                                                                              refine j_aload_n d_Wr_finish_221 rfl 0 rfl ?_
                                                                              refine j_ldcS (i := 36) rfl d_Wr_finish_222 ?_
                                                                              replace h := bw_s h
                                                                              obtain ⟨⟨r191, r192, r193, r194⟩, C196, S197, C198, S199, k200, h, e1, e2⟩ := h
                                                                              replace hC : 0 + C196 + C198 ≤ mc := by omega
                                                                              replace hS : 0 + S197 + S199 ≤ ms := by omega
                                                                              clear e1 e2
                                                                              refine j_callV (n := 1) (As := [.ref (sA D 36)]) (rest := []) (wr := [(a_tree_h0, .inr (1, [.ref a_cells_a_tree_h0, .int count_a_tree_h0])), (a_cells_a_tree_h0, .inl (cI, n_a_cells_a_tree_h0, .inl b_a_cells_a_tree_h0))]) (c_Wr_put l D cI cB cJ cS h0 a_tree_h0 a_source_h0 a_form_h0 a_bytes_a_form_h0 36 indent_h0 fits_h0 size_a_form_h0 n_a_bytes_a_form_h0 b_a_bytes_a_form_h0  r191 r192 r193 r194 C196 S197 k200) k_Wr_77 (by decide) ⟨Nat.le_of_ble_eq_true rfl, Nat.le_of_ble_eq_true rfl⟩ rfl 0 rfl [2, 0, 1] [3, 4] rfl (by decide) rfl (by decide) (by decide) rfl rfl (Nat.le_of_ble_eq_true rfl) d_Wr_finish_224 ⟨show 0 + C196 ≤ mc by omega, show 0 + S197 ≤ ms by omega⟩ (fun v w hq => ?_)
                                                                              obtain ⟨q195, rfl, rfl⟩ := hq
                                                                              refine j_norm (pc' := 227) (st' := []) (ws' := [(a_tree_h0, .inr (1, [.ref a_cells_a_tree_h0, .int count_a_tree_h0])), (a_cells_a_tree_h0, .inl (cI, n_a_cells_a_tree_h0, .inl b_a_cells_a_tree_h0)), (h0, .inr (6, [.ref a_tree_h0, .ref a_source_h0, .ref a_form_h0, .int indent_h0, .int r191])), (a_form_h0, .inr (3, [.ref q195, .int r192])), (q195, .inl (cB, r193, .inl r194))]) (cl' := 0 + C196) (sl' := 0 + S197) rfl rfl rfl rfl rfl rfl ?_
                                                                              refine j_goto (tgt := 230) d_Wr_finish_227 (by decide) ?_
                                                                              replace h := lf_s h
                                                                              obtain ⟨h, e1, e2⟩ := h
                                                                              replace h := Prod.mk.inj h
                                                                              obtain ⟨h9, h⟩ := h
                                                                              subst h9
                                                                              replace h := Prod.mk.inj h
                                                                              obtain ⟨h9, h⟩ := h
                                                                              subst h9
                                                                              replace h := Prod.mk.inj h
                                                                              obtain ⟨h9, h⟩ := h
                                                                              subst h9
                                                                              replace h := Prod.mk.inj h
                                                                              obtain ⟨h9, h⟩ := h
                                                                              subst h9
                                                                              subst h
                                                                              refine j_widen (cl' := mc) (sl' := ms) (by omega) (by omega) ?_
                                                                              exact j_vret (w := [(h0, .inr (6, [.ref a_tree_h0, .ref a_source_h0, .ref a_form_h0, .int indent_h0, .int r191])), (a_tree_h0, .inr (1, [.ref a_cells_a_tree_h0, .int count_a_tree_h0])), (a_cells_a_tree_h0, .inl (cI, n_a_cells_a_tree_h0, .inl b_a_cells_a_tree_h0)), (a_form_h0, .inr (3, [.ref q195, .int r192])), (q195, .inl (cB, r193, .inl r194))]) hr d_Wr_finish_230 [2, 0, 1, 3, 4] rfl (by decide) ⟨q195, rfl, rfl⟩
                                                                            · replace h := it_f c190 h
                                                                              refine j_tabOut (tgt := 230) d_Wr_finish_5 (by have := lv_neT c3 (by decide : (1 : Int32).toInt = 1); have := lv_neT c14 (by decide : (2 : Int32).toInt = 2); have := lv_neT c15 (by decide : (3 : Int32).toInt = 3); have := lv_neT c16 (by decide : (4 : Int32).toInt = 4); have := lv_neT c17 (by decide : (5 : Int32).toInt = 5); have := lv_neT c18 (by decide : (6 : Int32).toInt = 6); have := lv_neT c19 (by decide : (7 : Int32).toInt = 7); have := lv_neT c20 (by decide : (8 : Int32).toInt = 8); have := lv_neT c21 (by decide : (9 : Int32).toInt = 9); have := lv_neT c22 (by decide : (10 : Int32).toInt = 10); have := lv_neT c33 (by decide : (11 : Int32).toInt = 11); have := lv_neT c44 (by decide : (12 : Int32).toInt = 12); have := lv_neT c55 (by decide : (13 : Int32).toInt = 13); have := lv_neT c66 (by decide : (14 : Int32).toInt = 14); have := lv_neT c77 (by decide : (15 : Int32).toInt = 15); have := lv_neT c88 (by decide : (16 : Int32).toInt = 16); have := lv_neT c99 (by decide : (17 : Int32).toInt = 17); have := lv_neT c110 (by decide : (18 : Int32).toInt = 18); have := lv_neT c121 (by decide : (19 : Int32).toInt = 19); have := lv_neT c132 (by decide : (20 : Int32).toInt = 20); have := lv_neT c143 (by decide : (21 : Int32).toInt = 21); have := lv_neT c154 (by decide : (22 : Int32).toInt = 22); have := lv_neT c155 (by decide : (23 : Int32).toInt = 23); have := lv_neT c156 (by decide : (24 : Int32).toInt = 24); have := lv_neT c157 (by decide : (25 : Int32).toInt = 25); have := lv_neT c158 (by decide : (26 : Int32).toInt = 26); have := lv_neT c159 (by decide : (27 : Int32).toInt = 27); have := lv_neT c160 (by decide : (28 : Int32).toInt = 28); have := lv_neT c161 (by decide : (29 : Int32).toInt = 29); have := lv_neT c162 (by decide : (30 : Int32).toInt = 30); have := lv_neT c163 (by decide : (31 : Int32).toInt = 31); have := lv_neT c164 (by decide : (32 : Int32).toInt = 32); have := lv_neT c165 (by decide : (33 : Int32).toInt = 33); have := lv_neT c176 (by decide : (34 : Int32).toInt = 34); have := lv_neT c177 (by decide : (35 : Int32).toInt = 35); have := lv_neT c178 (by decide : (36 : Int32).toInt = 36); have := lv_neT c189 (by decide : (37 : Int32).toInt = 37); have := lv_neT c190 (by decide : (38 : Int32).toInt = 38); omega) (by decide) ?_
                                                                              replace h := lf_s h
                                                                              obtain ⟨h, e1, e2⟩ := h
                                                                              replace h := Prod.mk.inj h
                                                                              obtain ⟨h9, h⟩ := h
                                                                              subst h9
                                                                              replace h := Prod.mk.inj h
                                                                              obtain ⟨h9, h⟩ := h
                                                                              subst h9
                                                                              replace h := Prod.mk.inj h
                                                                              obtain ⟨h9, h⟩ := h
                                                                              subst h9
                                                                              replace h := Prod.mk.inj h
                                                                              obtain ⟨h9, h⟩ := h
                                                                              subst h9
                                                                              subst h
                                                                              refine j_widen (cl' := mc) (sl' := ms) (by omega) (by omega) ?_
                                                                              exact j_vret (w := [(h0, .inr (6, [.ref a_tree_h0, .ref a_source_h0, .ref a_form_h0, .int indent_h0, .int fits_h0])), (a_tree_h0, .inr (1, [.ref a_cells_a_tree_h0, .int count_a_tree_h0])), (a_cells_a_tree_h0, .inl (cI, n_a_cells_a_tree_h0, .inl b_a_cells_a_tree_h0)), (a_form_h0, .inr (3, [.ref a_bytes_a_form_h0, .int size_a_form_h0])), (a_bytes_a_form_h0, .inl (cB, n_a_bytes_a_form_h0, .inl b_a_bytes_a_form_h0))]) hr d_Wr_finish_230 [2, 3, 4, 0, 1] rfl (by decide) ⟨a_bytes_a_form_h0, rfl, rfl⟩
