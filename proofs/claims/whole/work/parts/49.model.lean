noncomputable def F_Mo_buildRow (p1 : Int32) (p2 : Int32) (p3 : Int32) (known_h0 : Int32) (thrown_h0 : Int32) (wrong_h0 : Int32) (lastEnd_h0 : Int32) (at_h0 : Int32) (bad_h0 : Int32) (levels_h0 : Int32) (least_h0 : Int32) (found_h0 : Int32) (size_m6 : Int32) (n_a_all_m6 : Nat) (b_a_all_m6 : Nat → Int32) (size_m24 : Int32) (n_a_all_m24 : Nat) (b_a_all_m24 : Nat → Int32) (size_m25 : Int32) (n_a_all_m25 : Nat) (b_a_all_m25 : Nat → Int32) (size_m26 : Int32) (n_a_all_m26 : Nat) (b_a_all_m26 : Nat → Int32) (size_m27 : Int32) (n_a_all_m27 : Nat) (b_a_all_m27 : Nat → Int32) (size_m28 : Int32) (n_a_all_m28 : Nat) (b_a_all_m28 : Nat → Int32) (size_m29 : Int32) (n_a_all_m29 : Nat) (b_a_all_m29 : Nat → Int32) (size_m30 : Int32) (n_a_all_m30 : Nat) (b_a_all_m30 : Nat → Int32) (size_m31 : Int32) (n_a_all_m31 : Nat) (b_a_all_m31 : Nat → Int32) (size_m33 : Int32) (n_a_all_m33 : Nat) (b_a_all_m33 : Nat → Int32) (size_m5 : Int32) (n_a_all_m5 : Nat) (b_a_all_m5 : Nat → Int32) : Option ((Int32 × Int32 × Int32 × Int32 × Nat × (Nat → Int32) × Nat × (Nat → Int32) × Nat × (Nat → Int32) × Nat × (Nat → Int32) × Nat × (Nat → Int32) × Nat × (Nat → Int32) × Nat × (Nat → Int32) × Nat × (Nat → Int32) × Nat × (Nat → Int32)) × Nat × Nat) :=
  bw (F_Mo_leafNode p1 37 p2 known_h0 thrown_h0 wrong_h0 lastEnd_h0 at_h0 bad_h0 levels_h0 least_h0 found_h0 size_m6 n_a_all_m6 b_a_all_m6 size_m24 n_a_all_m24 b_a_all_m24 size_m25 n_a_all_m25 b_a_all_m25 size_m26 n_a_all_m26 b_a_all_m26 size_m27 n_a_all_m27 b_a_all_m27 size_m28 n_a_all_m28 b_a_all_m28 size_m29 n_a_all_m29 b_a_all_m29 size_m30 n_a_all_m30 b_a_all_m30 size_m31 n_a_all_m31 b_a_all_m31) fun ⟨r1, r2, r3, r4, r5, r6, r7, r8, r9, r10, r11, r12, r13, r14, r15, r16, r17, r18, r19⟩ =>
  bw (F_Mo_expressions size_m24 p2 p3 known_h0 thrown_h0 wrong_h0 lastEnd_h0 at_h0 bad_h0 levels_h0 least_h0 found_h0 size_m33 n_a_all_m33 b_a_all_m33 size_m5 n_a_all_m5 b_a_all_m5) fun ⟨r33, r34, r35⟩ =>
  (some ((r1, r2, r3, r33, r4, r5, r6, r7, r8, r9, r10, r11, r12, r13, r14, r15, r16, r17, r18, r19, r34, r35), 0, 0))
theorem d_Mo_buildRow_0 : decode prog_12_method_76_code 0 = .ok (.aload_n 0, 1) := by decide +kernel
theorem d_Mo_buildRow_1 : decode prog_12_method_76_code 1 = .ok (.iload_n 1, 1) := by decide +kernel
theorem d_Mo_buildRow_2 : decode prog_12_method_76_code 2 = .ok (.bipush 37, 2) := by decide +kernel
theorem d_Mo_buildRow_4 : decode prog_12_method_76_code 4 = .ok (.iload_n 2, 1) := by decide +kernel
theorem d_Mo_buildRow_5 : decode prog_12_method_76_code 5 = .ok (.invokevirtual 426, 3) := by decide +kernel
theorem d_Mo_buildRow_8 : decode prog_12_method_76_code 8 = .ok (.istore 4, 2) := by decide +kernel
theorem d_Mo_buildRow_10 : decode prog_12_method_76_code 10 = .ok (.aload_n 0, 1) := by decide +kernel
theorem d_Mo_buildRow_11 : decode prog_12_method_76_code 11 = .ok (.iload 4, 2) := by decide +kernel
theorem d_Mo_buildRow_13 : decode prog_12_method_76_code 13 = .ok (.iload_n 2, 1) := by decide +kernel
theorem d_Mo_buildRow_14 : decode prog_12_method_76_code 14 = .ok (.iload_n 3, 1) := by decide +kernel
theorem d_Mo_buildRow_15 : decode prog_12_method_76_code 15 = .ok (.invokevirtual 439, 3) := by decide +kernel
theorem d_Mo_buildRow_18 : decode prog_12_method_76_code 18 = .ok (.return_, 1) := by decide +kernel
set_option maxHeartbeats 4000000 in
set_option maxRecDepth 100000 in
theorem c_Mo_buildRow (l : Launch) (D : va_G) (cI cB cJ cS : ClassId) (h0 : Nat) (am : Nat → Nat) (a_all_m6 : Nat) (a_all_m24 : Nat) (a_all_m25 : Nat) (a_all_m26 : Nat) (a_all_m27 : Nat) (a_all_m28 : Nat) (a_all_m29 : Nat) (a_all_m30 : Nat) (a_all_m31 : Nat) (a_all_m33 : Nat) (a_all_m5 : Nat) (p1 : Int32) (p2 : Int32) (p3 : Int32) (known_h0 : Int32) (thrown_h0 : Int32) (wrong_h0 : Int32) (lastEnd_h0 : Int32) (at_h0 : Int32) (bad_h0 : Int32) (levels_h0 : Int32) (least_h0 : Int32) (found_h0 : Int32) (size_m6 : Int32) (n_a_all_m6 : Nat) (b_a_all_m6 : Nat → Int32) (size_m24 : Int32) (n_a_all_m24 : Nat) (b_a_all_m24 : Nat → Int32) (size_m25 : Int32) (n_a_all_m25 : Nat) (b_a_all_m25 : Nat → Int32) (size_m26 : Int32) (n_a_all_m26 : Nat) (b_a_all_m26 : Nat → Int32) (size_m27 : Int32) (n_a_all_m27 : Nat) (b_a_all_m27 : Nat → Int32) (size_m28 : Int32) (n_a_all_m28 : Nat) (b_a_all_m28 : Nat → Int32) (size_m29 : Int32) (n_a_all_m29 : Nat) (b_a_all_m29 : Nat → Int32) (size_m30 : Int32) (n_a_all_m30 : Nat) (b_a_all_m30 : Nat → Int32) (size_m31 : Int32) (n_a_all_m31 : Nat) (b_a_all_m31 : Nat → Int32) (size_m33 : Int32) (n_a_all_m33 : Nat) (b_a_all_m33 : Nat → Int32) (size_m5 : Int32) (n_a_all_m5 : Nat) (b_a_all_m5 : Nat → Int32) (o_11_1 : Int32) (o_13_1 : Int32) (o_15_1 : Int32) (o_19_1 : Int32) (on_nq_3_0 : Nat) (ob_nq_3_0 : Nat → Int32) (on_nq_5_0 : Nat) (ob_nq_5_0 : Nat → Int32) (on_nq_7_0 : Nat) (ob_nq_7_0 : Nat → Int32) (on_nq_9_0 : Nat) (ob_nq_9_0 : Nat → Int32) (on_nq_11_0 : Nat) (ob_nq_11_0 : Nat → Int32) (on_nq_13_0 : Nat) (ob_nq_13_0 : Nat → Int32) (on_nq_15_0 : Nat) (ob_nq_15_0 : Nat → Int32) (on_nq_17_0 : Nat) (ob_nq_17_0 : Nat → Int32) (on_nq_19_0 : Nat) (ob_nq_19_0 : Nat → Int32) (mc ms : Nat) (h : F_Mo_buildRow p1 p2 p3 known_h0 thrown_h0 wrong_h0 lastEnd_h0 at_h0 bad_h0 levels_h0 least_h0 found_h0 size_m6 n_a_all_m6 b_a_all_m6 size_m24 n_a_all_m24 b_a_all_m24 size_m25 n_a_all_m25 b_a_all_m25 size_m26 n_a_all_m26 b_a_all_m26 size_m27 n_a_all_m27 b_a_all_m27 size_m28 n_a_all_m28 b_a_all_m28 size_m29 n_a_all_m29 b_a_all_m29 size_m30 n_a_all_m30 b_a_all_m30 size_m31 n_a_all_m31 b_a_all_m31 size_m33 n_a_all_m33 b_a_all_m33 size_m5 n_a_all_m5 b_a_all_m5 = some ((o_11_1, o_13_1, o_15_1, o_19_1, on_nq_3_0, ob_nq_3_0, on_nq_5_0, ob_nq_5_0, on_nq_7_0, ob_nq_7_0, on_nq_9_0, ob_nq_9_0, on_nq_11_0, ob_nq_11_0, on_nq_13_0, ob_nq_13_0, on_nq_15_0, ob_nq_15_0, on_nq_17_0, ob_nq_17_0, on_nq_19_0, ob_nq_19_0), mc, ms)) : Ct l D (gT cI cB cJ cS) y_Mo_buildRow prog_12_method_76_code 5 (Option.none : Option Jvm.ClassFile.FieldType) 3 74 mc ms [.ref h0, .int p1, .int p2, .int p3] [(h0, .inr (9, moF am known_h0 thrown_h0 wrong_h0 lastEnd_h0 at_h0 bad_h0 levels_h0 least_h0 found_h0)), ((am 6), .inr (8, [.ref a_all_m6, .int size_m6])), (a_all_m6, .inl (cI, n_a_all_m6, .inl b_a_all_m6)), ((am 24), .inr (8, [.ref a_all_m24, .int size_m24])), (a_all_m24, .inl (cI, n_a_all_m24, .inl b_a_all_m24)), ((am 25), .inr (8, [.ref a_all_m25, .int size_m25])), (a_all_m25, .inl (cI, n_a_all_m25, .inl b_a_all_m25)), ((am 26), .inr (8, [.ref a_all_m26, .int size_m26])), (a_all_m26, .inl (cI, n_a_all_m26, .inl b_a_all_m26)), ((am 27), .inr (8, [.ref a_all_m27, .int size_m27])), (a_all_m27, .inl (cI, n_a_all_m27, .inl b_a_all_m27)), ((am 28), .inr (8, [.ref a_all_m28, .int size_m28])), (a_all_m28, .inl (cI, n_a_all_m28, .inl b_a_all_m28)), ((am 29), .inr (8, [.ref a_all_m29, .int size_m29])), (a_all_m29, .inl (cI, n_a_all_m29, .inl b_a_all_m29)), ((am 30), .inr (8, [.ref a_all_m30, .int size_m30])), (a_all_m30, .inl (cI, n_a_all_m30, .inl b_a_all_m30)), ((am 31), .inr (8, [.ref a_all_m31, .int size_m31])), (a_all_m31, .inl (cI, n_a_all_m31, .inl b_a_all_m31)), ((am 33), .inr (8, [.ref a_all_m33, .int size_m33])), (a_all_m33, .inl (cI, n_a_all_m33, .inl b_a_all_m33)), ((am 5), .inr (8, [.ref a_all_m5, .int size_m5])), (a_all_m5, .inl (cI, n_a_all_m5, .inl b_a_all_m5))] (fun v w => ∃ nq_3_0 : Nat, ∃ nq_5_0 : Nat, ∃ nq_7_0 : Nat, ∃ nq_9_0 : Nat, ∃ nq_11_0 : Nat, ∃ nq_13_0 : Nat, ∃ nq_15_0 : Nat, ∃ nq_17_0 : Nat, ∃ nq_19_0 : Nat, v = none ∧ w = [(h0, .inr (9, moF am known_h0 thrown_h0 wrong_h0 lastEnd_h0 at_h0 bad_h0 levels_h0 least_h0 found_h0)), ((am 6), .inr (8, [.ref a_all_m6, .int size_m6])), (a_all_m6, .inl (cI, n_a_all_m6, .inl b_a_all_m6)), ((am 24), .inr (8, [.ref nq_3_0, .int (size_m24 + 1)])), ((am 25), .inr (8, [.ref nq_5_0, .int (size_m25 + 1)])), ((am 26), .inr (8, [.ref nq_7_0, .int (size_m26 + 1)])), ((am 27), .inr (8, [.ref nq_9_0, .int (size_m27 + 1)])), ((am 28), .inr (8, [.ref nq_11_0, .int o_11_1])), ((am 29), .inr (8, [.ref nq_13_0, .int o_13_1])), ((am 30), .inr (8, [.ref nq_15_0, .int o_15_1])), ((am 31), .inr (8, [.ref nq_17_0, .int (size_m31 + 1)])), ((am 33), .inr (8, [.ref nq_19_0, .int o_19_1])), ((am 5), .inr (8, [.ref a_all_m5, .int size_m5])), (a_all_m5, .inl (cI, n_a_all_m5, .inl b_a_all_m5)), (nq_3_0, .inl (cI, on_nq_3_0, .inl ob_nq_3_0)), (nq_5_0, .inl (cI, on_nq_5_0, .inl ob_nq_5_0)), (nq_7_0, .inl (cI, on_nq_7_0, .inl ob_nq_7_0)), (nq_9_0, .inl (cI, on_nq_9_0, .inl ob_nq_9_0)), (nq_11_0, .inl (cI, on_nq_11_0, .inl ob_nq_11_0)), (nq_13_0, .inl (cI, on_nq_13_0, .inl ob_nq_13_0)), (nq_15_0, .inl (cI, on_nq_15_0, .inl ob_nq_15_0)), (nq_17_0, .inl (cI, on_nq_17_0, .inl ob_nq_17_0)), (nq_19_0, .inl (cI, on_nq_19_0, .inl ob_nq_19_0))]) := by
  refine Ct.mk (by decide) (Nat.le_of_ble_eq_true rfl) ?_
  intro p e s m below meth c hr hnm
  refine j_norm (pc' := 0) (lv' := [(0, .ref h0), (1, .int p1), (2, .int p2), (3, .int p3)]) (st' := []) (ws' := [(h0, .inr (9, moF am known_h0 thrown_h0 wrong_h0 lastEnd_h0 at_h0 bad_h0 levels_h0 least_h0 found_h0)), ((am 6), .inr (8, [.ref a_all_m6, .int size_m6])), (a_all_m6, .inl (cI, n_a_all_m6, .inl b_a_all_m6)), ((am 24), .inr (8, [.ref a_all_m24, .int size_m24])), (a_all_m24, .inl (cI, n_a_all_m24, .inl b_a_all_m24)), ((am 25), .inr (8, [.ref a_all_m25, .int size_m25])), (a_all_m25, .inl (cI, n_a_all_m25, .inl b_a_all_m25)), ((am 26), .inr (8, [.ref a_all_m26, .int size_m26])), (a_all_m26, .inl (cI, n_a_all_m26, .inl b_a_all_m26)), ((am 27), .inr (8, [.ref a_all_m27, .int size_m27])), (a_all_m27, .inl (cI, n_a_all_m27, .inl b_a_all_m27)), ((am 28), .inr (8, [.ref a_all_m28, .int size_m28])), (a_all_m28, .inl (cI, n_a_all_m28, .inl b_a_all_m28)), ((am 29), .inr (8, [.ref a_all_m29, .int size_m29])), (a_all_m29, .inl (cI, n_a_all_m29, .inl b_a_all_m29)), ((am 30), .inr (8, [.ref a_all_m30, .int size_m30])), (a_all_m30, .inl (cI, n_a_all_m30, .inl b_a_all_m30)), ((am 31), .inr (8, [.ref a_all_m31, .int size_m31])), (a_all_m31, .inl (cI, n_a_all_m31, .inl b_a_all_m31)), ((am 33), .inr (8, [.ref a_all_m33, .int size_m33])), (a_all_m33, .inl (cI, n_a_all_m33, .inl b_a_all_m33)), ((am 5), .inr (8, [.ref a_all_m5, .int size_m5])), (a_all_m5, .inl (cI, n_a_all_m5, .inl b_a_all_m5))]) (cl' := 0) (sl' := 0) rfl rfl rfl rfl rfl rfl ?_
  unfold F_Mo_buildRow at h
  have hC : 0 + mc ≤ mc := by omega
  have hS : 0 + ms ≤ ms := by omega
  refine j_aload_n d_Mo_buildRow_0 rfl 0 rfl ?_
  refine j_iload_n d_Mo_buildRow_1 rfl 1 rfl ?_
  refine j_bipush (v := 37) d_Mo_buildRow_2 (by decide) ?_
  refine j_iload_n d_Mo_buildRow_4 rfl 2 rfl ?_
  replace h := bw_s h
  obtain ⟨⟨r1, r2, r3, r4, r5, r6, r7, r8, r9, r10, r11, r12, r13, r14, r15, r16, r17, r18, r19⟩, C28, S29, C30, S31, k32, h, e1, e2⟩ := h
  replace hC : 0 + C28 + C30 ≤ mc := by omega
  replace hS : 0 + S29 + S31 ≤ ms := by omega
  clear e1 e2
  refine j_callV (n := 3) (As := [.int p1, .int 37, .int p2]) (rest := []) (wr := [((am 33), .inr (8, [.ref a_all_m33, .int size_m33])), (a_all_m33, .inl (cI, n_a_all_m33, .inl b_a_all_m33)), ((am 5), .inr (8, [.ref a_all_m5, .int size_m5])), (a_all_m5, .inl (cI, n_a_all_m5, .inl b_a_all_m5))]) (c_Mo_leafNode l D cI cB cJ cS h0 am a_all_m6 a_all_m24 a_all_m25 a_all_m26 a_all_m27 a_all_m28 a_all_m29 a_all_m30 a_all_m31 p1 37 p2 known_h0 thrown_h0 wrong_h0 lastEnd_h0 at_h0 bad_h0 levels_h0 least_h0 found_h0 size_m6 n_a_all_m6 b_a_all_m6 size_m24 n_a_all_m24 b_a_all_m24 size_m25 n_a_all_m25 b_a_all_m25 size_m26 n_a_all_m26 b_a_all_m26 size_m27 n_a_all_m27 b_a_all_m27 size_m28 n_a_all_m28 b_a_all_m28 size_m29 n_a_all_m29 b_a_all_m29 size_m30 n_a_all_m30 b_a_all_m30 size_m31 n_a_all_m31 b_a_all_m31  r1 r2 r3 r4 r5 r6 r7 r8 r9 r10 r11 r12 r13 r14 r15 r16 r17 r18 r19 C28 S29 k32) k_Mo_426 (by decide) ⟨Nat.le_of_ble_eq_true rfl, Nat.le_of_ble_eq_true rfl⟩ rfl 0 rfl [0, 1, 2, 3, 4, 5, 6, 7, 8, 9, 10, 11, 12, 13, 14, 15, 16, 17, 18] [19, 20, 21, 22] rfl (by decide +kernel) rfl (by decide +kernel) (by decide +kernel) rfl rfl (Nat.le_of_ble_eq_true rfl) d_Mo_buildRow_5 ⟨show 0 + C28 ≤ mc by omega, show 0 + S29 ≤ ms by omega⟩ (fun v w hq => ?_)
  obtain ⟨q20, q21, q22, q23, q24, q25, q26, q27, rfl, rfl⟩ := hq
  refine j_norm (pc' := 8) (st' := [.int size_m24]) (ws' := [((am 33), .inr (8, [.ref a_all_m33, .int size_m33])), (a_all_m33, .inl (cI, n_a_all_m33, .inl b_a_all_m33)), ((am 5), .inr (8, [.ref a_all_m5, .int size_m5])), (a_all_m5, .inl (cI, n_a_all_m5, .inl b_a_all_m5)), (h0, .inr (9, moF am known_h0 thrown_h0 wrong_h0 lastEnd_h0 at_h0 bad_h0 levels_h0 least_h0 found_h0)), ((am 6), .inr (8, [.ref a_all_m6, .int size_m6])), (a_all_m6, .inl (cI, n_a_all_m6, .inl b_a_all_m6)), ((am 24), .inr (8, [.ref q20, .int (size_m24 + 1)])), ((am 25), .inr (8, [.ref q21, .int (size_m25 + 1)])), ((am 26), .inr (8, [.ref q22, .int (size_m26 + 1)])), ((am 27), .inr (8, [.ref q23, .int (size_m27 + 1)])), ((am 28), .inr (8, [.ref q24, .int r1])), ((am 29), .inr (8, [.ref q25, .int r2])), ((am 30), .inr (8, [.ref q26, .int r3])), ((am 31), .inr (8, [.ref q27, .int (size_m31 + 1)])), (q20, .inl (cI, r4, .inl r5)), (q21, .inl (cI, r6, .inl r7)), (q22, .inl (cI, r8, .inl r9)), (q23, .inl (cI, r10, .inl r11)), (q24, .inl (cI, r12, .inl r13)), (q25, .inl (cI, r14, .inl r15)), (q26, .inl (cI, r16, .inl r17)), (q27, .inl (cI, r18, .inl r19))]) (cl' := 0 + C28) (sl' := 0 + S29) rfl rfl rfl rfl rfl rfl ?_
  refine j_istore (lv' := [(4, .int size_m24), (0, .ref h0), (1, .int p1), (2, .int p2), (3, .int p3)]) d_Mo_buildRow_8 (by decide) rfl ?_
  refine j_aload_n d_Mo_buildRow_10 rfl 1 rfl ?_
  refine j_iload d_Mo_buildRow_11 0 rfl ?_
  refine j_iload_n d_Mo_buildRow_13 rfl 3 rfl ?_
  refine j_iload_n d_Mo_buildRow_14 rfl 4 rfl ?_
  replace h := bw_s h
  obtain ⟨⟨r33, r34, r35⟩, C37, S38, C39, S40, k41, h, e1, e2⟩ := h
  replace hC : 0 + C28 + C37 + C39 ≤ mc := by omega
  replace hS : 0 + S29 + S38 + S40 ≤ ms := by omega
  clear e1 e2
  refine j_callV (n := 3) (As := [.int size_m24, .int p2, .int p3]) (rest := []) (wr := [((am 6), .inr (8, [.ref a_all_m6, .int size_m6])), (a_all_m6, .inl (cI, n_a_all_m6, .inl b_a_all_m6)), ((am 24), .inr (8, [.ref q20, .int (size_m24 + 1)])), ((am 25), .inr (8, [.ref q21, .int (size_m25 + 1)])), ((am 26), .inr (8, [.ref q22, .int (size_m26 + 1)])), ((am 27), .inr (8, [.ref q23, .int (size_m27 + 1)])), ((am 28), .inr (8, [.ref q24, .int r1])), ((am 29), .inr (8, [.ref q25, .int r2])), ((am 30), .inr (8, [.ref q26, .int r3])), ((am 31), .inr (8, [.ref q27, .int (size_m31 + 1)])), (q20, .inl (cI, r4, .inl r5)), (q21, .inl (cI, r6, .inl r7)), (q22, .inl (cI, r8, .inl r9)), (q23, .inl (cI, r10, .inl r11)), (q24, .inl (cI, r12, .inl r13)), (q25, .inl (cI, r14, .inl r15)), (q26, .inl (cI, r16, .inl r17)), (q27, .inl (cI, r18, .inl r19))]) (c_Mo_expressions l D cI cB cJ cS h0 am a_all_m33 a_all_m5 size_m24 p2 p3 known_h0 thrown_h0 wrong_h0 lastEnd_h0 at_h0 bad_h0 levels_h0 least_h0 found_h0 size_m33 n_a_all_m33 b_a_all_m33 size_m5 n_a_all_m5 b_a_all_m5  r33 r34 r35 C37 S38 k41) k_Mo_439 (by decide) ⟨Nat.le_of_ble_eq_true rfl, Nat.le_of_ble_eq_true rfl⟩ rfl 0 rfl [4, 0, 1, 2, 3] [5, 6, 7, 8, 9, 10, 11, 12, 13, 14, 15, 16, 17, 18, 19, 20, 21, 22] rfl (by decide +kernel) rfl (by decide +kernel) (by decide +kernel) rfl rfl (Nat.le_of_ble_eq_true rfl) d_Mo_buildRow_15 ⟨show 0 + C28 + C37 ≤ mc by omega, show 0 + S29 + S38 ≤ ms by omega⟩ (fun v w hq => ?_)
  obtain ⟨q36, rfl, rfl⟩ := hq
  refine j_norm (pc' := 18) (st' := []) (ws' := [((am 6), .inr (8, [.ref a_all_m6, .int size_m6])), (a_all_m6, .inl (cI, n_a_all_m6, .inl b_a_all_m6)), ((am 24), .inr (8, [.ref q20, .int (size_m24 + 1)])), ((am 25), .inr (8, [.ref q21, .int (size_m25 + 1)])), ((am 26), .inr (8, [.ref q22, .int (size_m26 + 1)])), ((am 27), .inr (8, [.ref q23, .int (size_m27 + 1)])), ((am 28), .inr (8, [.ref q24, .int r1])), ((am 29), .inr (8, [.ref q25, .int r2])), ((am 30), .inr (8, [.ref q26, .int r3])), ((am 31), .inr (8, [.ref q27, .int (size_m31 + 1)])), (q20, .inl (cI, r4, .inl r5)), (q21, .inl (cI, r6, .inl r7)), (q22, .inl (cI, r8, .inl r9)), (q23, .inl (cI, r10, .inl r11)), (q24, .inl (cI, r12, .inl r13)), (q25, .inl (cI, r14, .inl r15)), (q26, .inl (cI, r16, .inl r17)), (q27, .inl (cI, r18, .inl r19)), (h0, .inr (9, moF am known_h0 thrown_h0 wrong_h0 lastEnd_h0 at_h0 bad_h0 levels_h0 least_h0 found_h0)), ((am 33), .inr (8, [.ref q36, .int r33])), ((am 5), .inr (8, [.ref a_all_m5, .int size_m5])), (a_all_m5, .inl (cI, n_a_all_m5, .inl b_a_all_m5)), (q36, .inl (cI, r34, .inl r35))]) (cl' := 0 + C28 + C37) (sl' := 0 + S29 + S38) rfl rfl rfl rfl rfl rfl ?_
  replace h := lf_s h
  obtain ⟨h, e1, e2⟩ := h
  replace h := Prod.mk.inj h
  obtain ⟨h9, h⟩ := h
  subst h9
  replace h := Prod.mk.inj h
  obtain ⟨h9, h⟩ := h
  subst h9
  replace h := Prod.mk.inj h
  obtain ⟨h9, h⟩ := h
  subst h9
  replace h := Prod.mk.inj h
  obtain ⟨h9, h⟩ := h
  subst h9
  replace h := Prod.mk.inj h
  obtain ⟨h9, h⟩ := h
  subst h9
  replace h := Prod.mk.inj h
  obtain ⟨h9, h⟩ := h
  subst h9
  replace h := Prod.mk.inj h
  obtain ⟨h9, h⟩ := h
  subst h9
  replace h := Prod.mk.inj h
  obtain ⟨h9, h⟩ := h
  subst h9
  replace h := Prod.mk.inj h
  obtain ⟨h9, h⟩ := h
  subst h9
  replace h := Prod.mk.inj h
  obtain ⟨h9, h⟩ := h
  subst h9
  replace h := Prod.mk.inj h
  obtain ⟨h9, h⟩ := h
  subst h9
  replace h := Prod.mk.inj h
  obtain ⟨h9, h⟩ := h
  subst h9
  replace h := Prod.mk.inj h
  obtain ⟨h9, h⟩ := h
  subst h9
  replace h := Prod.mk.inj h
  obtain ⟨h9, h⟩ := h
  subst h9
  replace h := Prod.mk.inj h
  obtain ⟨h9, h⟩ := h
  subst h9
  replace h := Prod.mk.inj h
  obtain ⟨h9, h⟩ := h
  subst h9
  replace h := Prod.mk.inj h
  obtain ⟨h9, h⟩ := h
  subst h9
  replace h := Prod.mk.inj h
  obtain ⟨h9, h⟩ := h
  subst h9
  replace h := Prod.mk.inj h
  obtain ⟨h9, h⟩ := h
  subst h9
  replace h := Prod.mk.inj h
  obtain ⟨h9, h⟩ := h
  subst h9
  replace h := Prod.mk.inj h
  obtain ⟨h9, h⟩ := h
  subst h9
  subst h
  refine j_widen (cl' := mc) (sl' := ms) (by omega) (by omega) ?_
  exact j_vret (w := [(h0, .inr (9, moF am known_h0 thrown_h0 wrong_h0 lastEnd_h0 at_h0 bad_h0 levels_h0 least_h0 found_h0)), ((am 6), .inr (8, [.ref a_all_m6, .int size_m6])), (a_all_m6, .inl (cI, n_a_all_m6, .inl b_a_all_m6)), ((am 24), .inr (8, [.ref q20, .int (size_m24 + 1)])), ((am 25), .inr (8, [.ref q21, .int (size_m25 + 1)])), ((am 26), .inr (8, [.ref q22, .int (size_m26 + 1)])), ((am 27), .inr (8, [.ref q23, .int (size_m27 + 1)])), ((am 28), .inr (8, [.ref q24, .int r1])), ((am 29), .inr (8, [.ref q25, .int r2])), ((am 30), .inr (8, [.ref q26, .int r3])), ((am 31), .inr (8, [.ref q27, .int (size_m31 + 1)])), ((am 33), .inr (8, [.ref q36, .int r33])), ((am 5), .inr (8, [.ref a_all_m5, .int size_m5])), (a_all_m5, .inl (cI, n_a_all_m5, .inl b_a_all_m5)), (q20, .inl (cI, r4, .inl r5)), (q21, .inl (cI, r6, .inl r7)), (q22, .inl (cI, r8, .inl r9)), (q23, .inl (cI, r10, .inl r11)), (q24, .inl (cI, r12, .inl r13)), (q25, .inl (cI, r14, .inl r15)), (q26, .inl (cI, r16, .inl r17)), (q27, .inl (cI, r18, .inl r19)), (q36, .inl (cI, r34, .inl r35))]) hr d_Mo_buildRow_18 [18, 0, 1, 2, 3, 4, 5, 6, 7, 8, 9, 19, 20, 21, 10, 11, 12, 13, 14, 15, 16, 17, 22] rfl (by decide) ⟨q20, q21, q22, q23, q24, q25, q26, q27, q36, rfl, rfl⟩
theorem d_Mo_swap_0 : decode prog_12_method_77_code 0 = .ok (.aload_n 1, 1) := by decide +kernel
theorem d_Mo_swap_1 : decode prog_12_method_77_code 1 = .ok (.getfield 288, 3) := by decide +kernel
theorem d_Mo_swap_4 : decode prog_12_method_77_code 4 = .ok (.astore_n 3, 1) := by decide +kernel
theorem d_Mo_swap_5 : decode prog_12_method_77_code 5 = .ok (.aload_n 1, 1) := by decide +kernel
theorem d_Mo_swap_6 : decode prog_12_method_77_code 6 = .ok (.getfield 204, 3) := by decide +kernel
theorem d_Mo_swap_9 : decode prog_12_method_77_code 9 = .ok (.istore 4, 2) := by decide +kernel
theorem d_Mo_swap_11 : decode prog_12_method_77_code 11 = .ok (.aload_n 1, 1) := by decide +kernel
theorem d_Mo_swap_12 : decode prog_12_method_77_code 12 = .ok (.aload_n 2, 1) := by decide +kernel
theorem d_Mo_swap_13 : decode prog_12_method_77_code 13 = .ok (.getfield 288, 3) := by decide +kernel
theorem d_Mo_swap_16 : decode prog_12_method_77_code 16 = .ok (.putfield 288, 3) := by decide +kernel
theorem d_Mo_swap_19 : decode prog_12_method_77_code 19 = .ok (.aload_n 1, 1) := by decide +kernel
theorem d_Mo_swap_20 : decode prog_12_method_77_code 20 = .ok (.aload_n 2, 1) := by decide +kernel
theorem d_Mo_swap_21 : decode prog_12_method_77_code 21 = .ok (.getfield 204, 3) := by decide +kernel
theorem d_Mo_swap_24 : decode prog_12_method_77_code 24 = .ok (.putfield 204, 3) := by decide +kernel
theorem d_Mo_swap_27 : decode prog_12_method_77_code 27 = .ok (.aload_n 2, 1) := by decide +kernel
theorem d_Mo_swap_28 : decode prog_12_method_77_code 28 = .ok (.aload_n 3, 1) := by decide +kernel
theorem d_Mo_swap_29 : decode prog_12_method_77_code 29 = .ok (.putfield 288, 3) := by decide +kernel
theorem d_Mo_swap_32 : decode prog_12_method_77_code 32 = .ok (.aload_n 2, 1) := by decide +kernel
theorem d_Mo_swap_33 : decode prog_12_method_77_code 33 = .ok (.iload 4, 2) := by decide +kernel
theorem d_Mo_swap_35 : decode prog_12_method_77_code 35 = .ok (.putfield 204, 3) := by decide +kernel
theorem d_Mo_swap_38 : decode prog_12_method_77_code 38 = .ok (.return_, 1) := by decide +kernel
set_option maxHeartbeats 4000000 in
set_option maxRecDepth 100000 in
theorem c_Mo_swap (l : Launch) (D : va_G) (cI cB cJ cS : ClassId) (h0 : Nat) (g1 : Nat) (g2 : Nat) (a_all_g1 : Nat) (a_all_g2 : Nat) (am : Nat → Nat) (size_g1 : Int32) (size_g2 : Int32) (known_h0 : Int32) (thrown_h0 : Int32) (wrong_h0 : Int32) (lastEnd_h0 : Int32) (at_h0 : Int32) (bad_h0 : Int32) (levels_h0 : Int32) (least_h0 : Int32) (found_h0 : Int32) : Ct l D (gT cI cB cJ cS) y_Mo_swap prog_12_method_77_code 5 (Option.none : Option Jvm.ClassFile.FieldType) 0 0 0 0 [.ref h0, .ref g1, .ref g2] [(g1, .inr (8, [.ref a_all_g1, .int size_g1])), (g2, .inr (8, [.ref a_all_g2, .int size_g2])), (h0, .inr (9, moF am known_h0 thrown_h0 wrong_h0 lastEnd_h0 at_h0 bad_h0 levels_h0 least_h0 found_h0))] (fun v w => v = none ∧ w = [(g1, .inr (8, [.ref a_all_g2, .int size_g2])), (g2, .inr (8, [.ref a_all_g1, .int size_g1])), (h0, .inr (9, moF am known_h0 thrown_h0 wrong_h0 lastEnd_h0 at_h0 bad_h0 levels_h0 least_h0 found_h0))]) := by
  refine Ct.mk (by decide) (Nat.le_of_ble_eq_true rfl) ?_
  intro p e s m below meth c hr hnm
  refine j_norm (pc' := 0) (lv' := [(0, .ref h0), (1, .ref g1), (2, .ref g2)]) (st' := []) (ws' := [(g1, .inr (8, [.ref a_all_g1, .int size_g1])), (g2, .inr (8, [.ref a_all_g2, .int size_g2])), (h0, .inr (9, moF am known_h0 thrown_h0 wrong_h0 lastEnd_h0 at_h0 bad_h0 levels_h0 least_h0 found_h0))]) (cl' := 0) (sl' := 0) rfl rfl rfl rfl rfl rfl ?_
  refine j_aload_n d_Mo_swap_0 rfl 1 rfl ?_
  refine j_getN ig_Nm rfl 0 rfl 0 (by decide) rfl mn_12 rfl d_Mo_swap_1 ?_
  refine j_astore_n (lv' := [(3, .ref a_all_g1), (0, .ref h0), (1, .ref g1), (2, .ref g2)]) d_Mo_swap_4 rfl (by decide) rfl ?_
  refine j_aload_n d_Mo_swap_5 rfl 2 rfl ?_
  refine j_getN ig_Nm rfl 0 rfl 1 (by decide) rfl mn_13 rfl d_Mo_swap_6 ?_
  refine j_istore (lv' := [(4, .int size_g1), (3, .ref a_all_g1), (0, .ref h0), (1, .ref g1), (2, .ref g2)]) d_Mo_swap_9 (by decide) rfl ?_
  refine j_aload_n d_Mo_swap_11 rfl 3 rfl ?_
  refine j_aload_n d_Mo_swap_12 rfl 4 rfl ?_
  refine j_getN ig_Nm rfl 1 rfl 0 (by decide) rfl mn_12 rfl d_Mo_swap_13 ?_
  refine j_putN (ws' := [(g1, .inr (8, [.ref a_all_g2, .int size_g1])), (g2, .inr (8, [.ref a_all_g2, .int size_g2])), (h0, .inr (9, moF am known_h0 thrown_h0 wrong_h0 lastEnd_h0 at_h0 bad_h0 levels_h0 least_h0 found_h0))]) ig_Nm tk_Nm nm_Nm rfl 0 rfl 0 (by decide) rfl mn_12 rfl (tk_Nm 0 (by decide)) rfl rfl (Nat.le_of_ble_eq_true rfl) d_Mo_swap_16 rfl ?_
  refine j_aload_n d_Mo_swap_19 rfl 3 rfl ?_
  refine j_aload_n d_Mo_swap_20 rfl 4 rfl ?_
  refine j_getN ig_Nm rfl 1 rfl 1 (by decide) rfl mn_13 rfl d_Mo_swap_21 ?_
  refine j_putN (ws' := [(g1, .inr (8, [.ref a_all_g2, .int size_g2])), (g2, .inr (8, [.ref a_all_g2, .int size_g2])), (h0, .inr (9, moF am known_h0 thrown_h0 wrong_h0 lastEnd_h0 at_h0 bad_h0 levels_h0 least_h0 found_h0))]) ig_Nm tk_Nm nm_Nm rfl 0 rfl 1 (by decide) rfl mn_13 rfl (tk_Nm 1 (by decide)) rfl rfl (Nat.le_of_ble_eq_true rfl) d_Mo_swap_24 rfl ?_
  refine j_aload_n d_Mo_swap_27 rfl 4 rfl ?_
  refine j_aload_n d_Mo_swap_28 rfl 1 rfl ?_
  refine j_putN (ws' := [(g1, .inr (8, [.ref a_all_g2, .int size_g2])), (g2, .inr (8, [.ref a_all_g1, .int size_g2])), (h0, .inr (9, moF am known_h0 thrown_h0 wrong_h0 lastEnd_h0 at_h0 bad_h0 levels_h0 least_h0 found_h0))]) ig_Nm tk_Nm nm_Nm rfl 1 rfl 0 (by decide) rfl mn_12 rfl (tk_Nm 0 (by decide)) rfl rfl (Nat.le_of_ble_eq_true rfl) d_Mo_swap_29 rfl ?_
  refine j_aload_n d_Mo_swap_32 rfl 4 rfl ?_
  refine j_iload d_Mo_swap_33 0 rfl ?_
  refine j_putN (ws' := [(g1, .inr (8, [.ref a_all_g2, .int size_g2])), (g2, .inr (8, [.ref a_all_g1, .int size_g1])), (h0, .inr (9, moF am known_h0 thrown_h0 wrong_h0 lastEnd_h0 at_h0 bad_h0 levels_h0 least_h0 found_h0))]) ig_Nm tk_Nm nm_Nm rfl 1 rfl 1 (by decide) rfl mn_13 rfl (tk_Nm 1 (by decide)) rfl rfl (Nat.le_of_ble_eq_true rfl) d_Mo_swap_35 rfl ?_
  exact j_vret (w := [(g1, .inr (8, [.ref a_all_g2, .int size_g2])), (g2, .inr (8, [.ref a_all_g1, .int size_g1])), (h0, .inr (9, moF am known_h0 thrown_h0 wrong_h0 lastEnd_h0 at_h0 bad_h0 levels_h0 least_h0 found_h0))]) hr d_Mo_swap_38 [0, 1, 2] rfl (by decide) ⟨rfl, rfl⟩
theorem d_Mo_swapTexts_0 : decode prog_12_method_78_code 0 = .ok (.aload_n 0, 1) := by decide +kernel
theorem d_Mo_swapTexts_1 : decode prog_12_method_78_code 1 = .ok (.aload_n 0, 1) := by decide +kernel
theorem d_Mo_swapTexts_2 : decode prog_12_method_78_code 2 = .ok (.getfield 111, 3) := by decide +kernel
theorem d_Mo_swapTexts_5 : decode prog_12_method_78_code 5 = .ok (.aload_n 0, 1) := by decide +kernel
theorem d_Mo_swapTexts_6 : decode prog_12_method_78_code 6 = .ok (.getfield 123, 3) := by decide +kernel
theorem d_Mo_swapTexts_9 : decode prog_12_method_78_code 9 = .ok (.invokevirtual 472, 3) := by decide +kernel
theorem d_Mo_swapTexts_12 : decode prog_12_method_78_code 12 = .ok (.aload_n 0, 1) := by decide +kernel
theorem d_Mo_swapTexts_13 : decode prog_12_method_78_code 13 = .ok (.aload_n 0, 1) := by decide +kernel
theorem d_Mo_swapTexts_14 : decode prog_12_method_78_code 14 = .ok (.getfield 114, 3) := by decide +kernel
theorem d_Mo_swapTexts_17 : decode prog_12_method_78_code 17 = .ok (.aload_n 0, 1) := by decide +kernel
theorem d_Mo_swapTexts_18 : decode prog_12_method_78_code 18 = .ok (.getfield 126, 3) := by decide +kernel
theorem d_Mo_swapTexts_21 : decode prog_12_method_78_code 21 = .ok (.invokevirtual 472, 3) := by decide +kernel
theorem d_Mo_swapTexts_24 : decode prog_12_method_78_code 24 = .ok (.aload_n 0, 1) := by decide +kernel
theorem d_Mo_swapTexts_25 : decode prog_12_method_78_code 25 = .ok (.aload_n 0, 1) := by decide +kernel
theorem d_Mo_swapTexts_26 : decode prog_12_method_78_code 26 = .ok (.getfield 117, 3) := by decide +kernel
theorem d_Mo_swapTexts_29 : decode prog_12_method_78_code 29 = .ok (.aload_n 0, 1) := by decide +kernel
theorem d_Mo_swapTexts_30 : decode prog_12_method_78_code 30 = .ok (.getfield 129, 3) := by decide +kernel
theorem d_Mo_swapTexts_33 : decode prog_12_method_78_code 33 = .ok (.invokevirtual 472, 3) := by decide +kernel
theorem d_Mo_swapTexts_36 : decode prog_12_method_78_code 36 = .ok (.aload_n 0, 1) := by decide +kernel
theorem d_Mo_swapTexts_37 : decode prog_12_method_78_code 37 = .ok (.aload_n 0, 1) := by decide +kernel
theorem d_Mo_swapTexts_38 : decode prog_12_method_78_code 38 = .ok (.getfield 120, 3) := by decide +kernel
theorem d_Mo_swapTexts_41 : decode prog_12_method_78_code 41 = .ok (.aload_n 0, 1) := by decide +kernel
theorem d_Mo_swapTexts_42 : decode prog_12_method_78_code 42 = .ok (.getfield 132, 3) := by decide +kernel
theorem d_Mo_swapTexts_45 : decode prog_12_method_78_code 45 = .ok (.invokevirtual 472, 3) := by decide +kernel
theorem d_Mo_swapTexts_48 : decode prog_12_method_78_code 48 = .ok (.return_, 1) := by decide +kernel
set_option maxHeartbeats 4000000 in
set_option maxRecDepth 100000 in
theorem c_Mo_swapTexts (l : Launch) (D : va_G) (cI cB cJ cS : ClassId) (h0 : Nat) (am : Nat → Nat) (a_all_m4 : Nat) (a_all_m9 : Nat) (a_all_m5 : Nat) (a_all_m10 : Nat) (a_all_m6 : Nat) (a_all_m11 : Nat) (a_all_m7 : Nat) (a_all_m12 : Nat) (known_h0 : Int32) (thrown_h0 : Int32) (wrong_h0 : Int32) (lastEnd_h0 : Int32) (at_h0 : Int32) (bad_h0 : Int32) (levels_h0 : Int32) (least_h0 : Int32) (found_h0 : Int32) (size_m4 : Int32) (size_m9 : Int32) (size_m5 : Int32) (size_m10 : Int32) (size_m6 : Int32) (size_m11 : Int32) (size_m7 : Int32) (size_m12 : Int32) : Ct l D (gT cI cB cJ cS) y_Mo_swapTexts prog_12_method_78_code 1 (Option.none : Option Jvm.ClassFile.FieldType) 1 24 0 0 [.ref h0] [(h0, .inr (9, moF am known_h0 thrown_h0 wrong_h0 lastEnd_h0 at_h0 bad_h0 levels_h0 least_h0 found_h0)), ((am 4), .inr (8, [.ref a_all_m4, .int size_m4])), ((am 9), .inr (8, [.ref a_all_m9, .int size_m9])), ((am 5), .inr (8, [.ref a_all_m5, .int size_m5])), ((am 10), .inr (8, [.ref a_all_m10, .int size_m10])), ((am 6), .inr (8, [.ref a_all_m6, .int size_m6])), ((am 11), .inr (8, [.ref a_all_m11, .int size_m11])), ((am 7), .inr (8, [.ref a_all_m7, .int size_m7])), ((am 12), .inr (8, [.ref a_all_m12, .int size_m12]))] (fun v w => v = none ∧ w = [(h0, .inr (9, moF am known_h0 thrown_h0 wrong_h0 lastEnd_h0 at_h0 bad_h0 levels_h0 least_h0 found_h0)), ((am 4), .inr (8, [.ref a_all_m9, .int size_m9])), ((am 9), .inr (8, [.ref a_all_m4, .int size_m4])), ((am 5), .inr (8, [.ref a_all_m10, .int size_m10])), ((am 10), .inr (8, [.ref a_all_m5, .int size_m5])), ((am 6), .inr (8, [.ref a_all_m11, .int size_m11])), ((am 11), .inr (8, [.ref a_all_m6, .int size_m6])), ((am 7), .inr (8, [.ref a_all_m12, .int size_m12])), ((am 12), .inr (8, [.ref a_all_m7, .int size_m7]))]) := by
  refine Ct.mk (by decide) (Nat.le_of_ble_eq_true rfl) ?_
  intro p e s m below meth c hr hnm
  refine j_norm (pc' := 0) (lv' := [(0, .ref h0)]) (st' := []) (ws' := [(h0, .inr (9, moF am known_h0 thrown_h0 wrong_h0 lastEnd_h0 at_h0 bad_h0 levels_h0 least_h0 found_h0)), ((am 4), .inr (8, [.ref a_all_m4, .int size_m4])), ((am 9), .inr (8, [.ref a_all_m9, .int size_m9])), ((am 5), .inr (8, [.ref a_all_m5, .int size_m5])), ((am 10), .inr (8, [.ref a_all_m10, .int size_m10])), ((am 6), .inr (8, [.ref a_all_m6, .int size_m6])), ((am 11), .inr (8, [.ref a_all_m11, .int size_m11])), ((am 7), .inr (8, [.ref a_all_m7, .int size_m7])), ((am 12), .inr (8, [.ref a_all_m12, .int size_m12]))]) (cl' := 0) (sl' := 0) rfl rfl rfl rfl rfl rfl ?_
  refine j_aload_n d_Mo_swapTexts_0 rfl 0 rfl ?_
  refine j_aload_n d_Mo_swapTexts_1 rfl 0 rfl ?_
  refine j_get ig_Mo rfl 0 rfl 4 (by decide) rfl m_1117 rfl d_Mo_swapTexts_2 ?_
  refine j_aload_n d_Mo_swapTexts_5 rfl 0 rfl ?_
  refine j_get ig_Mo rfl 0 rfl 9 (by decide) rfl m_1122 rfl d_Mo_swapTexts_6 ?_
  refine j_callV (n := 2) (As := [.ref (am 4), .ref (am 9)]) (rest := []) (wr := [((am 5), .inr (8, [.ref a_all_m5, .int size_m5])), ((am 10), .inr (8, [.ref a_all_m10, .int size_m10])), ((am 6), .inr (8, [.ref a_all_m6, .int size_m6])), ((am 11), .inr (8, [.ref a_all_m11, .int size_m11])), ((am 7), .inr (8, [.ref a_all_m7, .int size_m7])), ((am 12), .inr (8, [.ref a_all_m12, .int size_m12]))]) (c_Mo_swap l D cI cB cJ cS h0 (am 4) (am 9) a_all_m4 a_all_m9 am size_m4 size_m9 known_h0 thrown_h0 wrong_h0 lastEnd_h0 at_h0 bad_h0 levels_h0 least_h0 found_h0  ) k_Mo_472 (by decide) ⟨Nat.le_of_ble_eq_true rfl, Nat.le_of_ble_eq_true rfl⟩ rfl 2 rfl [1, 2, 0] [3, 4, 5, 6, 7, 8] rfl (by decide) rfl (by decide) (by decide) rfl rfl (Nat.le_of_ble_eq_true rfl) d_Mo_swapTexts_9 ⟨Nat.le_of_ble_eq_true rfl, Nat.le_of_ble_eq_true rfl⟩ (fun v w hq => ?_)
  obtain ⟨rfl, rfl⟩ := hq
  refine j_norm (pc' := 12) (st' := []) (ws' := [((am 5), .inr (8, [.ref a_all_m5, .int size_m5])), ((am 10), .inr (8, [.ref a_all_m10, .int size_m10])), ((am 6), .inr (8, [.ref a_all_m6, .int size_m6])), ((am 11), .inr (8, [.ref a_all_m11, .int size_m11])), ((am 7), .inr (8, [.ref a_all_m7, .int size_m7])), ((am 12), .inr (8, [.ref a_all_m12, .int size_m12])), ((am 4), .inr (8, [.ref a_all_m9, .int size_m9])), ((am 9), .inr (8, [.ref a_all_m4, .int size_m4])), (h0, .inr (9, moF am known_h0 thrown_h0 wrong_h0 lastEnd_h0 at_h0 bad_h0 levels_h0 least_h0 found_h0))]) (cl' := 0) (sl' := 0) rfl rfl rfl rfl rfl rfl ?_
  refine j_aload_n d_Mo_swapTexts_12 rfl 0 rfl ?_
  refine j_aload_n d_Mo_swapTexts_13 rfl 0 rfl ?_
  refine j_get ig_Mo rfl 8 rfl 5 (by decide) rfl m_1118 rfl d_Mo_swapTexts_14 ?_
  refine j_aload_n d_Mo_swapTexts_17 rfl 0 rfl ?_
  refine j_get ig_Mo rfl 8 rfl 10 (by decide) rfl m_1123 rfl d_Mo_swapTexts_18 ?_
  refine j_callV (n := 2) (As := [.ref (am 5), .ref (am 10)]) (rest := []) (wr := [((am 6), .inr (8, [.ref a_all_m6, .int size_m6])), ((am 11), .inr (8, [.ref a_all_m11, .int size_m11])), ((am 7), .inr (8, [.ref a_all_m7, .int size_m7])), ((am 12), .inr (8, [.ref a_all_m12, .int size_m12])), ((am 4), .inr (8, [.ref a_all_m9, .int size_m9])), ((am 9), .inr (8, [.ref a_all_m4, .int size_m4]))]) (c_Mo_swap l D cI cB cJ cS h0 (am 5) (am 10) a_all_m5 a_all_m10 am size_m5 size_m10 known_h0 thrown_h0 wrong_h0 lastEnd_h0 at_h0 bad_h0 levels_h0 least_h0 found_h0  ) k_Mo_472 (by decide) ⟨Nat.le_of_ble_eq_true rfl, Nat.le_of_ble_eq_true rfl⟩ rfl 2 rfl [0, 1, 8] [2, 3, 4, 5, 6, 7] rfl (by decide) rfl (by decide) (by decide) rfl rfl (Nat.le_of_ble_eq_true rfl) d_Mo_swapTexts_21 ⟨Nat.le_of_ble_eq_true rfl, Nat.le_of_ble_eq_true rfl⟩ (fun v w hq => ?_)
  obtain ⟨rfl, rfl⟩ := hq
  refine j_norm (pc' := 24) (st' := []) (ws' := [((am 6), .inr (8, [.ref a_all_m6, .int size_m6])), ((am 11), .inr (8, [.ref a_all_m11, .int size_m11])), ((am 7), .inr (8, [.ref a_all_m7, .int size_m7])), ((am 12), .inr (8, [.ref a_all_m12, .int size_m12])), ((am 4), .inr (8, [.ref a_all_m9, .int size_m9])), ((am 9), .inr (8, [.ref a_all_m4, .int size_m4])), ((am 5), .inr (8, [.ref a_all_m10, .int size_m10])), ((am 10), .inr (8, [.ref a_all_m5, .int size_m5])), (h0, .inr (9, moF am known_h0 thrown_h0 wrong_h0 lastEnd_h0 at_h0 bad_h0 levels_h0 least_h0 found_h0))]) (cl' := 0) (sl' := 0) rfl rfl rfl rfl rfl rfl ?_
  refine j_aload_n d_Mo_swapTexts_24 rfl 0 rfl ?_
  refine j_aload_n d_Mo_swapTexts_25 rfl 0 rfl ?_
  refine j_get ig_Mo rfl 8 rfl 6 (by decide) rfl m_1119 rfl d_Mo_swapTexts_26 ?_
  refine j_aload_n d_Mo_swapTexts_29 rfl 0 rfl ?_
  refine j_get ig_Mo rfl 8 rfl 11 (by decide) rfl m_1124 rfl d_Mo_swapTexts_30 ?_
  refine j_callV (n := 2) (As := [.ref (am 6), .ref (am 11)]) (rest := []) (wr := [((am 7), .inr (8, [.ref a_all_m7, .int size_m7])), ((am 12), .inr (8, [.ref a_all_m12, .int size_m12])), ((am 4), .inr (8, [.ref a_all_m9, .int size_m9])), ((am 9), .inr (8, [.ref a_all_m4, .int size_m4])), ((am 5), .inr (8, [.ref a_all_m10, .int size_m10])), ((am 10), .inr (8, [.ref a_all_m5, .int size_m5]))]) (c_Mo_swap l D cI cB cJ cS h0 (am 6) (am 11) a_all_m6 a_all_m11 am size_m6 size_m11 known_h0 thrown_h0 wrong_h0 lastEnd_h0 at_h0 bad_h0 levels_h0 least_h0 found_h0  ) k_Mo_472 (by decide) ⟨Nat.le_of_ble_eq_true rfl, Nat.le_of_ble_eq_true rfl⟩ rfl 2 rfl [0, 1, 8] [2, 3, 4, 5, 6, 7] rfl (by decide) rfl (by decide) (by decide) rfl rfl (Nat.le_of_ble_eq_true rfl) d_Mo_swapTexts_33 ⟨Nat.le_of_ble_eq_true rfl, Nat.le_of_ble_eq_true rfl⟩ (fun v w hq => ?_)
  obtain ⟨rfl, rfl⟩ := hq
  refine j_norm (pc' := 36) (st' := []) (ws' := [((am 7), .inr (8, [.ref a_all_m7, .int size_m7])), ((am 12), .inr (8, [.ref a_all_m12, .int size_m12])), ((am 4), .inr (8, [.ref a_all_m9, .int size_m9])), ((am 9), .inr (8, [.ref a_all_m4, .int size_m4])), ((am 5), .inr (8, [.ref a_all_m10, .int size_m10])), ((am 10), .inr (8, [.ref a_all_m5, .int size_m5])), ((am 6), .inr (8, [.ref a_all_m11, .int size_m11])), ((am 11), .inr (8, [.ref a_all_m6, .int size_m6])), (h0, .inr (9, moF am known_h0 thrown_h0 wrong_h0 lastEnd_h0 at_h0 bad_h0 levels_h0 least_h0 found_h0))]) (cl' := 0) (sl' := 0) rfl rfl rfl rfl rfl rfl ?_
  refine j_aload_n d_Mo_swapTexts_36 rfl 0 rfl ?_
  refine j_aload_n d_Mo_swapTexts_37 rfl 0 rfl ?_
  refine j_get ig_Mo rfl 8 rfl 7 (by decide) rfl m_1120 rfl d_Mo_swapTexts_38 ?_
  refine j_aload_n d_Mo_swapTexts_41 rfl 0 rfl ?_
  refine j_get ig_Mo rfl 8 rfl 12 (by decide) rfl m_1125 rfl d_Mo_swapTexts_42 ?_
  refine j_callV (n := 2) (As := [.ref (am 7), .ref (am 12)]) (rest := []) (wr := [((am 4), .inr (8, [.ref a_all_m9, .int size_m9])), ((am 9), .inr (8, [.ref a_all_m4, .int size_m4])), ((am 5), .inr (8, [.ref a_all_m10, .int size_m10])), ((am 10), .inr (8, [.ref a_all_m5, .int size_m5])), ((am 6), .inr (8, [.ref a_all_m11, .int size_m11])), ((am 11), .inr (8, [.ref a_all_m6, .int size_m6]))]) (c_Mo_swap l D cI cB cJ cS h0 (am 7) (am 12) a_all_m7 a_all_m12 am size_m7 size_m12 known_h0 thrown_h0 wrong_h0 lastEnd_h0 at_h0 bad_h0 levels_h0 least_h0 found_h0  ) k_Mo_472 (by decide) ⟨Nat.le_of_ble_eq_true rfl, Nat.le_of_ble_eq_true rfl⟩ rfl 2 rfl [0, 1, 8] [2, 3, 4, 5, 6, 7] rfl (by decide) rfl (by decide) (by decide) rfl rfl (Nat.le_of_ble_eq_true rfl) d_Mo_swapTexts_45 ⟨Nat.le_of_ble_eq_true rfl, Nat.le_of_ble_eq_true rfl⟩ (fun v w hq => ?_)
  obtain ⟨rfl, rfl⟩ := hq
  refine j_norm (pc' := 48) (st' := []) (ws' := [((am 4), .inr (8, [.ref a_all_m9, .int size_m9])), ((am 9), .inr (8, [.ref a_all_m4, .int size_m4])), ((am 5), .inr (8, [.ref a_all_m10, .int size_m10])), ((am 10), .inr (8, [.ref a_all_m5, .int size_m5])), ((am 6), .inr (8, [.ref a_all_m11, .int size_m11])), ((am 11), .inr (8, [.ref a_all_m6, .int size_m6])), ((am 7), .inr (8, [.ref a_all_m12, .int size_m12])), ((am 12), .inr (8, [.ref a_all_m7, .int size_m7])), (h0, .inr (9, moF am known_h0 thrown_h0 wrong_h0 lastEnd_h0 at_h0 bad_h0 levels_h0 least_h0 found_h0))]) (cl' := 0) (sl' := 0) rfl rfl rfl rfl rfl rfl ?_
  exact j_vret (w := [(h0, .inr (9, moF am known_h0 thrown_h0 wrong_h0 lastEnd_h0 at_h0 bad_h0 levels_h0 least_h0 found_h0)), ((am 4), .inr (8, [.ref a_all_m9, .int size_m9])), ((am 9), .inr (8, [.ref a_all_m4, .int size_m4])), ((am 5), .inr (8, [.ref a_all_m10, .int size_m10])), ((am 10), .inr (8, [.ref a_all_m5, .int size_m5])), ((am 6), .inr (8, [.ref a_all_m11, .int size_m11])), ((am 11), .inr (8, [.ref a_all_m6, .int size_m6])), ((am 7), .inr (8, [.ref a_all_m12, .int size_m12])), ((am 12), .inr (8, [.ref a_all_m7, .int size_m7]))]) hr d_Mo_swapTexts_48 [8, 0, 1, 2, 3, 4, 5, 6, 7] rfl (by decide) ⟨rfl, rfl⟩
theorem d_Mo_place_0 : decode prog_12_method_80_code 0 = .ok (.aload_n 0, 1) := by decide +kernel
theorem d_Mo_place_1 : decode prog_12_method_80_code 1 = .ok (.iconst 0, 1) := by decide +kernel
theorem d_Mo_place_2 : decode prog_12_method_80_code 2 = .ok (.putfield 197, 3) := by decide +kernel
theorem d_Mo_place_5 : decode prog_12_method_80_code 5 = .ok (.aload_n 0, 1) := by decide +kernel
theorem d_Mo_place_6 : decode prog_12_method_80_code 6 = .ok (.getfield 135, 3) := by decide +kernel
theorem d_Mo_place_9 : decode prog_12_method_80_code 9 = .ok (.ireturn, 1) := by decide +kernel
set_option maxHeartbeats 4000000 in
set_option maxRecDepth 100000 in
theorem c_Mo_place (l : Launch) (D : va_G) (cI cB cJ cS : ClassId) (h0 : Nat) (am : Nat → Nat) (known_h0 : Int32) (thrown_h0 : Int32) (wrong_h0 : Int32) (lastEnd_h0 : Int32) (at_h0 : Int32) (bad_h0 : Int32) (levels_h0 : Int32) (least_h0 : Int32) (found_h0 : Int32) : Ct l D (gT cI cB cJ cS) y_Mo_place prog_12_method_80_code 1 (Option.some Jvm.ClassFile.FieldType.int) 0 0 0 0 [.ref h0] [(h0, .inr (9, moF am known_h0 thrown_h0 wrong_h0 lastEnd_h0 at_h0 bad_h0 levels_h0 least_h0 found_h0))] (fun v w => v = some (.int wrong_h0) ∧ w = [(h0, .inr (9, moF am known_h0 0 wrong_h0 lastEnd_h0 at_h0 bad_h0 levels_h0 least_h0 found_h0))]) := by
  refine Ct.mk (by decide) (Nat.le_of_ble_eq_true rfl) ?_
  intro p e s m below meth c hr hnm
  refine j_norm (pc' := 0) (lv' := [(0, .ref h0)]) (st' := []) (ws' := [(h0, .inr (9, moF am known_h0 thrown_h0 wrong_h0 lastEnd_h0 at_h0 bad_h0 levels_h0 least_h0 found_h0))]) (cl' := 0) (sl' := 0) rfl rfl rfl rfl rfl rfl ?_
  refine j_aload_n d_Mo_place_0 rfl 0 rfl ?_
  refine j_iconst (v := 0) d_Mo_place_1 (by decide) ?_
  refine j_put (ws' := [(h0, .inr (9, moF am known_h0 0 wrong_h0 lastEnd_h0 at_h0 bad_h0 levels_h0 least_h0 found_h0))]) ig_Mo tk_Mo nm_Mo rfl 0 rfl 13 (by decide) rfl m_1126 rfl (tk_Mo 13 (by decide)) rfl rfl (Nat.le_of_ble_eq_true rfl) d_Mo_place_2 rfl ?_
  refine j_aload_n d_Mo_place_5 rfl 0 rfl ?_
  refine j_get ig_Mo rfl 0 rfl 14 (by decide) rfl m_1127 rfl d_Mo_place_6 ?_
  exact j_iret (w := [(h0, .inr (9, moF am known_h0 0 wrong_h0 lastEnd_h0 at_h0 bad_h0 levels_h0 least_h0 found_h0))]) hr d_Mo_place_9 [0] rfl (by decide) ⟨rfl, rfl⟩
def F_Mo_isNode (p1 : Int32) (known_h0 : Int32) (thrown_h0 : Int32) (wrong_h0 : Int32) (lastEnd_h0 : Int32) (at_h0 : Int32) (bad_h0 : Int32) (levels_h0 : Int32) (least_h0 : Int32) (found_h0 : Int32) (size_m24 : Int32) : (Int32) :=
  if known_h0 = 0 then 0
  else if p1 < 0 then 0
  else if size_m24 ≤ p1 then 0
  else 1
theorem d_Mo_isNode_0 : decode prog_12_method_81_code 0 = .ok (.aload_n 0, 1) := by decide +kernel
theorem d_Mo_isNode_1 : decode prog_12_method_81_code 1 = .ok (.getfield 486, 3) := by decide +kernel
theorem d_Mo_isNode_4 : decode prog_12_method_81_code 4 = .ok (.ifCond .eq 22, 3) := by decide +kernel
theorem d_Mo_isNode_7 : decode prog_12_method_81_code 7 = .ok (.iload_n 1, 1) := by decide +kernel
theorem d_Mo_isNode_8 : decode prog_12_method_81_code 8 = .ok (.ifCond .lt 18, 3) := by decide +kernel
theorem d_Mo_isNode_11 : decode prog_12_method_81_code 11 = .ok (.iload_n 1, 1) := by decide +kernel
theorem d_Mo_isNode_12 : decode prog_12_method_81_code 12 = .ok (.aload_n 0, 1) := by decide +kernel
theorem d_Mo_isNode_13 : decode prog_12_method_81_code 13 = .ok (.getfield 151, 3) := by decide +kernel
theorem d_Mo_isNode_16 : decode prog_12_method_81_code 16 = .ok (.getfield 204, 3) := by decide +kernel
theorem d_Mo_isNode_19 : decode prog_12_method_81_code 19 = .ok (.if_icmp .ge 7, 3) := by decide +kernel
theorem d_Mo_isNode_22 : decode prog_12_method_81_code 22 = .ok (.iconst 1, 1) := by decide +kernel
theorem d_Mo_isNode_23 : decode prog_12_method_81_code 23 = .ok (.goto 4, 3) := by decide +kernel
theorem d_Mo_isNode_26 : decode prog_12_method_81_code 26 = .ok (.iconst 0, 1) := by decide +kernel
theorem d_Mo_isNode_27 : decode prog_12_method_81_code 27 = .ok (.ireturn, 1) := by decide +kernel
set_option maxHeartbeats 4000000 in
set_option maxRecDepth 100000 in
theorem c_Mo_isNode (l : Launch) (D : va_G) (cI cB cJ cS : ClassId) (h0 : Nat) (am : Nat → Nat) (a_all_m24 : Nat) (p1 : Int32) (known_h0 : Int32) (thrown_h0 : Int32) (wrong_h0 : Int32) (lastEnd_h0 : Int32) (at_h0 : Int32) (bad_h0 : Int32) (levels_h0 : Int32) (least_h0 : Int32) (found_h0 : Int32) (size_m24 : Int32) (ret : Int32) (h : F_Mo_isNode p1 known_h0 thrown_h0 wrong_h0 lastEnd_h0 at_h0 bad_h0 levels_h0 least_h0 found_h0 size_m24 = ret) : Ct l D (gT cI cB cJ cS) y_Mo_isNode prog_12_method_81_code 2 (Option.some Jvm.ClassFile.FieldType.boolean) 0 0 0 0 [.ref h0, .int p1] [(h0, .inr (9, moF am known_h0 thrown_h0 wrong_h0 lastEnd_h0 at_h0 bad_h0 levels_h0 least_h0 found_h0)), ((am 24), .inr (8, [.ref a_all_m24, .int size_m24]))] (fun v w => v = some (.int ret) ∧ zb ret ∧ w = [(h0, .inr (9, moF am known_h0 thrown_h0 wrong_h0 lastEnd_h0 at_h0 bad_h0 levels_h0 least_h0 found_h0)), ((am 24), .inr (8, [.ref a_all_m24, .int size_m24]))]) := by
  refine Ct.mk (by decide) (Nat.le_of_ble_eq_true rfl) ?_
  intro p e s m below meth c hr hnm
  refine j_norm (pc' := 0) (lv' := [(0, .ref h0), (1, .int p1)]) (st' := []) (ws' := [(h0, .inr (9, moF am known_h0 thrown_h0 wrong_h0 lastEnd_h0 at_h0 bad_h0 levels_h0 least_h0 found_h0)), ((am 24), .inr (8, [.ref a_all_m24, .int size_m24]))]) (cl' := 0) (sl' := 0) rfl rfl rfl rfl rfl rfl ?_
  unfold F_Mo_isNode at h
  refine j_aload_n d_Mo_isNode_0 rfl 0 rfl ?_
  refine j_get ig_Mo rfl 0 rfl 8 (by decide) rfl m_1121 rfl d_Mo_isNode_1 ?_
  refine j_if_eq (tgt := 26) d_Mo_isNode_4 (by decide) (fun c1 => ?_) (fun c1 => ?_)
  · replace h := it_t c1 h
    refine j_iconst (v := 0) d_Mo_isNode_26 (by decide) ?_
    subst h
    exact j_zret (w := [(h0, .inr (9, moF am known_h0 thrown_h0 wrong_h0 lastEnd_h0 at_h0 bad_h0 levels_h0 least_h0 found_h0)), ((am 24), .inr (8, [.ref a_all_m24, .int size_m24]))]) hr (zb_n zb0) d_Mo_isNode_27 [0, 1] rfl (by decide) ⟨rfl, zb0, rfl⟩
  · replace h := it_f c1 h
    refine j_iload_n d_Mo_isNode_7 rfl 1 rfl ?_
    refine j_if_lt (tgt := 26) d_Mo_isNode_8 (by decide) (fun c2 => ?_) (fun c2 => ?_)
    · replace h := it_t c2 h
      refine j_iconst (v := 0) d_Mo_isNode_26 (by decide) ?_
      subst h
      exact j_zret (w := [(h0, .inr (9, moF am known_h0 thrown_h0 wrong_h0 lastEnd_h0 at_h0 bad_h0 levels_h0 least_h0 found_h0)), ((am 24), .inr (8, [.ref a_all_m24, .int size_m24]))]) hr (zb_n zb0) d_Mo_isNode_27 [0, 1] rfl (by decide) ⟨rfl, zb0, rfl⟩
    · replace h := it_f c2 h
      refine j_iload_n d_Mo_isNode_11 rfl 1 rfl ?_
      refine j_aload_n d_Mo_isNode_12 rfl 0 rfl ?_
      refine j_get ig_Mo rfl 0 rfl 24 (by decide) rfl m_1137 rfl d_Mo_isNode_13 ?_
      refine j_getN ig_Nm rfl 1 rfl 1 (by decide) rfl mn_13 rfl d_Mo_isNode_16 ?_
      refine j_icmp_ge (tgt := 26) d_Mo_isNode_19 (by decide) (fun c3 => ?_) (fun c3 => ?_)
      · replace h := it_t c3 h
        refine j_iconst (v := 0) d_Mo_isNode_26 (by decide) ?_
        subst h
        exact j_zret (w := [(h0, .inr (9, moF am known_h0 thrown_h0 wrong_h0 lastEnd_h0 at_h0 bad_h0 levels_h0 least_h0 found_h0)), ((am 24), .inr (8, [.ref a_all_m24, .int size_m24]))]) hr (zb_n zb0) d_Mo_isNode_27 [0, 1] rfl (by decide) ⟨rfl, zb0, rfl⟩
      · replace h := it_f c3 h
        refine j_iconst (v := 1) d_Mo_isNode_22 (by decide) ?_
        refine j_goto (tgt := 27) d_Mo_isNode_23 (by decide) ?_
        subst h
        exact j_zret (w := [(h0, .inr (9, moF am known_h0 thrown_h0 wrong_h0 lastEnd_h0 at_h0 bad_h0 levels_h0 least_h0 found_h0)), ((am 24), .inr (8, [.ref a_all_m24, .int size_m24]))]) hr (zb_n zb1) d_Mo_isNode_27 [0, 1] rfl (by decide) ⟨rfl, zb1, rfl⟩
def F_Mo_nodes (known_h0 : Int32) (thrown_h0 : Int32) (wrong_h0 : Int32) (lastEnd_h0 : Int32) (at_h0 : Int32) (bad_h0 : Int32) (levels_h0 : Int32) (least_h0 : Int32) (found_h0 : Int32) (size_m24 : Int32) : (Int32) :=
  if known_h0 = 0 then 0
  else size_m24
theorem d_Mo_nodes_0 : decode prog_12_method_82_code 0 = .ok (.aload_n 0, 1) := by decide +kernel
theorem d_Mo_nodes_1 : decode prog_12_method_82_code 1 = .ok (.iconst 0, 1) := by decide +kernel
theorem d_Mo_nodes_2 : decode prog_12_method_82_code 2 = .ok (.putfield 197, 3) := by decide +kernel
theorem d_Mo_nodes_5 : decode prog_12_method_82_code 5 = .ok (.aload_n 0, 1) := by decide +kernel
theorem d_Mo_nodes_6 : decode prog_12_method_82_code 6 = .ok (.getfield 486, 3) := by decide +kernel
theorem d_Mo_nodes_9 : decode prog_12_method_82_code 9 = .ok (.ifCond .eq 13, 3) := by decide +kernel
theorem d_Mo_nodes_12 : decode prog_12_method_82_code 12 = .ok (.aload_n 0, 1) := by decide +kernel
theorem d_Mo_nodes_13 : decode prog_12_method_82_code 13 = .ok (.getfield 151, 3) := by decide +kernel
theorem d_Mo_nodes_16 : decode prog_12_method_82_code 16 = .ok (.getfield 204, 3) := by decide +kernel
theorem d_Mo_nodes_19 : decode prog_12_method_82_code 19 = .ok (.goto 4, 3) := by decide +kernel
theorem d_Mo_nodes_22 : decode prog_12_method_82_code 22 = .ok (.iconst 0, 1) := by decide +kernel
theorem d_Mo_nodes_23 : decode prog_12_method_82_code 23 = .ok (.ireturn, 1) := by decide +kernel
set_option maxHeartbeats 4000000 in
set_option maxRecDepth 100000 in
theorem c_Mo_nodes (l : Launch) (D : va_G) (cI cB cJ cS : ClassId) (h0 : Nat) (am : Nat → Nat) (a_all_m24 : Nat) (known_h0 : Int32) (thrown_h0 : Int32) (wrong_h0 : Int32) (lastEnd_h0 : Int32) (at_h0 : Int32) (bad_h0 : Int32) (levels_h0 : Int32) (least_h0 : Int32) (found_h0 : Int32) (size_m24 : Int32) (ret : Int32) (h : F_Mo_nodes known_h0 thrown_h0 wrong_h0 lastEnd_h0 at_h0 bad_h0 levels_h0 least_h0 found_h0 size_m24 = ret) : Ct l D (gT cI cB cJ cS) y_Mo_nodes prog_12_method_82_code 1 (Option.some Jvm.ClassFile.FieldType.int) 0 0 0 0 [.ref h0] [(h0, .inr (9, moF am known_h0 thrown_h0 wrong_h0 lastEnd_h0 at_h0 bad_h0 levels_h0 least_h0 found_h0)), ((am 24), .inr (8, [.ref a_all_m24, .int size_m24]))] (fun v w => v = some (.int ret) ∧ w = [(h0, .inr (9, moF am known_h0 0 wrong_h0 lastEnd_h0 at_h0 bad_h0 levels_h0 least_h0 found_h0)), ((am 24), .inr (8, [.ref a_all_m24, .int size_m24]))]) := by
  refine Ct.mk (by decide) (Nat.le_of_ble_eq_true rfl) ?_
  intro p e s m below meth c hr hnm
  refine j_norm (pc' := 0) (lv' := [(0, .ref h0)]) (st' := []) (ws' := [(h0, .inr (9, moF am known_h0 thrown_h0 wrong_h0 lastEnd_h0 at_h0 bad_h0 levels_h0 least_h0 found_h0)), ((am 24), .inr (8, [.ref a_all_m24, .int size_m24]))]) (cl' := 0) (sl' := 0) rfl rfl rfl rfl rfl rfl ?_
  unfold F_Mo_nodes at h
  refine j_aload_n d_Mo_nodes_0 rfl 0 rfl ?_
  refine j_iconst (v := 0) d_Mo_nodes_1 (by decide) ?_
  refine j_put (ws' := [(h0, .inr (9, moF am known_h0 0 wrong_h0 lastEnd_h0 at_h0 bad_h0 levels_h0 least_h0 found_h0)), ((am 24), .inr (8, [.ref a_all_m24, .int size_m24]))]) ig_Mo tk_Mo nm_Mo rfl 0 rfl 13 (by decide) rfl m_1126 rfl (tk_Mo 13 (by decide)) rfl rfl (Nat.le_of_ble_eq_true rfl) d_Mo_nodes_2 rfl ?_
  refine j_aload_n d_Mo_nodes_5 rfl 0 rfl ?_
  refine j_get ig_Mo rfl 0 rfl 8 (by decide) rfl m_1121 rfl d_Mo_nodes_6 ?_
  refine j_if_eq (tgt := 22) d_Mo_nodes_9 (by decide) (fun c1 => ?_) (fun c1 => ?_)
  · replace h := it_t c1 h
    refine j_iconst (v := 0) d_Mo_nodes_22 (by decide) ?_
    subst h
    exact j_iret (w := [(h0, .inr (9, moF am known_h0 0 wrong_h0 lastEnd_h0 at_h0 bad_h0 levels_h0 least_h0 found_h0)), ((am 24), .inr (8, [.ref a_all_m24, .int size_m24]))]) hr d_Mo_nodes_23 [0, 1] rfl (by decide) ⟨rfl, rfl⟩
  · replace h := it_f c1 h
    refine j_aload_n d_Mo_nodes_12 rfl 0 rfl ?_
    refine j_get ig_Mo rfl 0 rfl 24 (by decide) rfl m_1137 rfl d_Mo_nodes_13 ?_
    refine j_getN ig_Nm rfl 1 rfl 1 (by decide) rfl mn_13 rfl d_Mo_nodes_16 ?_
    refine j_goto (tgt := 23) d_Mo_nodes_19 (by decide) ?_
    subst h
    exact j_iret (w := [(h0, .inr (9, moF am known_h0 0 wrong_h0 lastEnd_h0 at_h0 bad_h0 levels_h0 least_h0 found_h0)), ((am 24), .inr (8, [.ref a_all_m24, .int size_m24]))]) hr d_Mo_nodes_23 [0, 1] rfl (by decide) ⟨rfl, rfl⟩
def F_Mo_node (p1 : Int32) (p2 : Int32) (known_h0 : Int32) (thrown_h0 : Int32) (wrong_h0 : Int32) (lastEnd_h0 : Int32) (at_h0 : Int32) (bad_h0 : Int32) (levels_h0 : Int32) (least_h0 : Int32) (found_h0 : Int32) (size_m24 : Int32) (size_m28 : Int32) (n_a_all_m28 : Nat) (b_a_all_m28 : Nat → Int32) (size_m26 : Int32) (n_a_all_m26 : Nat) (b_a_all_m26 : Nat → Int32) (size_m25 : Int32) (n_a_all_m25 : Nat) (b_a_all_m25 : Nat → Int32) (n_a_all_m24 : Nat) (b_a_all_m24 : Nat → Int32) : Option (Int32) :=
  nm (F_Mo_isNode p1 known_h0 0 wrong_h0 lastEnd_h0 at_h0 bad_h0 levels_h0 least_h0 found_h0 size_m24) fun r1 =>
  if r1 = 0 then (some (-1))
  else if p2 = 0 then (Option.bind (F_Nm_at p1 size_m24 n_a_all_m24 b_a_all_m24) fun _ =>
    (some (b_a_all_m24 (Int32.toNatClampNeg p1))))
  else if p2 = 1 then (Option.bind (F_Nm_at p1 size_m25 n_a_all_m25 b_a_all_m25) fun _ =>
    (some (b_a_all_m25 (Int32.toNatClampNeg p1))))
  else if p2 = 2 then (Option.bind (F_Nm_at p1 size_m26 n_a_all_m26 b_a_all_m26) fun _ =>
    (some (b_a_all_m26 (Int32.toNatClampNeg p1))))
  else if p2 = 3 then (Option.bind (F_Nm_at p1 size_m28 n_a_all_m28 b_a_all_m28) fun _ =>
    (some (b_a_all_m28 (Int32.toNatClampNeg p1))))
  else (some (-1))
theorem d_Mo_node_0 : decode prog_12_method_83_code 0 = .ok (.aload_n 0, 1) := by decide +kernel
theorem d_Mo_node_1 : decode prog_12_method_83_code 1 = .ok (.iconst 0, 1) := by decide +kernel
theorem d_Mo_node_2 : decode prog_12_method_83_code 2 = .ok (.putfield 197, 3) := by decide +kernel
theorem d_Mo_node_5 : decode prog_12_method_83_code 5 = .ok (.aload_n 0, 1) := by decide +kernel
theorem d_Mo_node_6 : decode prog_12_method_83_code 6 = .ok (.iload_n 1, 1) := by decide +kernel
theorem d_Mo_node_7 : decode prog_12_method_83_code 7 = .ok (.invokevirtual 496, 3) := by decide +kernel
theorem d_Mo_node_10 : decode prog_12_method_83_code 10 = .ok (.ifCond .ne 5, 3) := by decide +kernel
theorem d_Mo_node_13 : decode prog_12_method_83_code 13 = .ok (.iconst (-1), 1) := by decide +kernel
theorem d_Mo_node_14 : decode prog_12_method_83_code 14 = .ok (.ireturn, 1) := by decide +kernel
theorem d_Mo_node_15 : decode prog_12_method_83_code 15 = .ok (.iload_n 2, 1) := by decide +kernel
theorem d_Mo_node_16 : decode prog_12_method_83_code 16 = .ok (.ifCond .ne 14, 3) := by decide +kernel
theorem d_Mo_node_19 : decode prog_12_method_83_code 19 = .ok (.aload_n 0, 1) := by decide +kernel
theorem d_Mo_node_20 : decode prog_12_method_83_code 20 = .ok (.getfield 151, 3) := by decide +kernel
theorem d_Mo_node_23 : decode prog_12_method_83_code 23 = .ok (.iload_n 1, 1) := by decide +kernel
theorem d_Mo_node_24 : decode prog_12_method_83_code 24 = .ok (.invokevirtual 214, 3) := by decide +kernel
theorem d_Mo_node_27 : decode prog_12_method_83_code 27 = .ok (.goto 52, 3) := by decide +kernel
theorem d_Mo_node_30 : decode prog_12_method_83_code 30 = .ok (.iload_n 2, 1) := by decide +kernel
theorem d_Mo_node_31 : decode prog_12_method_83_code 31 = .ok (.iconst 1, 1) := by decide +kernel
theorem d_Mo_node_32 : decode prog_12_method_83_code 32 = .ok (.if_icmp .ne 14, 3) := by decide +kernel
theorem d_Mo_node_35 : decode prog_12_method_83_code 35 = .ok (.aload_n 0, 1) := by decide +kernel
theorem d_Mo_node_36 : decode prog_12_method_83_code 36 = .ok (.getfield 154, 3) := by decide +kernel
theorem d_Mo_node_39 : decode prog_12_method_83_code 39 = .ok (.iload_n 1, 1) := by decide +kernel
theorem d_Mo_node_40 : decode prog_12_method_83_code 40 = .ok (.invokevirtual 214, 3) := by decide +kernel
theorem d_Mo_node_43 : decode prog_12_method_83_code 43 = .ok (.goto 36, 3) := by decide +kernel
theorem d_Mo_node_46 : decode prog_12_method_83_code 46 = .ok (.iload_n 2, 1) := by decide +kernel
theorem d_Mo_node_47 : decode prog_12_method_83_code 47 = .ok (.iconst 2, 1) := by decide +kernel
theorem d_Mo_node_48 : decode prog_12_method_83_code 48 = .ok (.if_icmp .ne 14, 3) := by decide +kernel
theorem d_Mo_node_51 : decode prog_12_method_83_code 51 = .ok (.aload_n 0, 1) := by decide +kernel
theorem d_Mo_node_52 : decode prog_12_method_83_code 52 = .ok (.getfield 157, 3) := by decide +kernel
theorem d_Mo_node_55 : decode prog_12_method_83_code 55 = .ok (.iload_n 1, 1) := by decide +kernel
theorem d_Mo_node_56 : decode prog_12_method_83_code 56 = .ok (.invokevirtual 214, 3) := by decide +kernel
theorem d_Mo_node_59 : decode prog_12_method_83_code 59 = .ok (.goto 20, 3) := by decide +kernel
theorem d_Mo_node_62 : decode prog_12_method_83_code 62 = .ok (.iload_n 2, 1) := by decide +kernel
theorem d_Mo_node_63 : decode prog_12_method_83_code 63 = .ok (.iconst 3, 1) := by decide +kernel
theorem d_Mo_node_64 : decode prog_12_method_83_code 64 = .ok (.if_icmp .ne 14, 3) := by decide +kernel
theorem d_Mo_node_67 : decode prog_12_method_83_code 67 = .ok (.aload_n 0, 1) := by decide +kernel
theorem d_Mo_node_68 : decode prog_12_method_83_code 68 = .ok (.getfield 163, 3) := by decide +kernel
theorem d_Mo_node_71 : decode prog_12_method_83_code 71 = .ok (.iload_n 1, 1) := by decide +kernel
theorem d_Mo_node_72 : decode prog_12_method_83_code 72 = .ok (.invokevirtual 214, 3) := by decide +kernel
theorem d_Mo_node_75 : decode prog_12_method_83_code 75 = .ok (.goto 4, 3) := by decide +kernel
theorem d_Mo_node_78 : decode prog_12_method_83_code 78 = .ok (.iconst (-1), 1) := by decide +kernel
theorem d_Mo_node_79 : decode prog_12_method_83_code 79 = .ok (.ireturn, 1) := by decide +kernel
set_option maxHeartbeats 4000000 in
set_option maxRecDepth 100000 in
theorem c_Mo_node (l : Launch) (D : va_G) (cI cB cJ cS : ClassId) (h0 : Nat) (am : Nat → Nat) (a_all_m24 : Nat) (a_all_m28 : Nat) (a_all_m26 : Nat) (a_all_m25 : Nat) (p1 : Int32) (p2 : Int32) (known_h0 : Int32) (thrown_h0 : Int32) (wrong_h0 : Int32) (lastEnd_h0 : Int32) (at_h0 : Int32) (bad_h0 : Int32) (levels_h0 : Int32) (least_h0 : Int32) (found_h0 : Int32) (size_m24 : Int32) (size_m28 : Int32) (n_a_all_m28 : Nat) (b_a_all_m28 : Nat → Int32) (size_m26 : Int32) (n_a_all_m26 : Nat) (b_a_all_m26 : Nat → Int32) (size_m25 : Int32) (n_a_all_m25 : Nat) (b_a_all_m25 : Nat → Int32) (n_a_all_m24 : Nat) (b_a_all_m24 : Nat → Int32) (ret : Int32) (h : F_Mo_node p1 p2 known_h0 thrown_h0 wrong_h0 lastEnd_h0 at_h0 bad_h0 levels_h0 least_h0 found_h0 size_m24 size_m28 n_a_all_m28 b_a_all_m28 size_m26 n_a_all_m26 b_a_all_m26 size_m25 n_a_all_m25 b_a_all_m25 n_a_all_m24 b_a_all_m24 = some ret) : Ct l D (gT cI cB cJ cS) y_Mo_node prog_12_method_83_code 3 (Option.some Jvm.ClassFile.FieldType.int) 1 21 0 0 [.ref h0, .int p1, .int p2] [(h0, .inr (9, moF am known_h0 thrown_h0 wrong_h0 lastEnd_h0 at_h0 bad_h0 levels_h0 least_h0 found_h0)), ((am 24), .inr (8, [.ref a_all_m24, .int size_m24])), ((am 28), .inr (8, [.ref a_all_m28, .int size_m28])), (a_all_m28, .inl (cI, n_a_all_m28, .inl b_a_all_m28)), ((am 26), .inr (8, [.ref a_all_m26, .int size_m26])), (a_all_m26, .inl (cI, n_a_all_m26, .inl b_a_all_m26)), ((am 25), .inr (8, [.ref a_all_m25, .int size_m25])), (a_all_m25, .inl (cI, n_a_all_m25, .inl b_a_all_m25)), (a_all_m24, .inl (cI, n_a_all_m24, .inl b_a_all_m24))] (fun v w => v = some (.int ret) ∧ w = [(h0, .inr (9, moF am known_h0 0 wrong_h0 lastEnd_h0 at_h0 bad_h0 levels_h0 least_h0 found_h0)), ((am 24), .inr (8, [.ref a_all_m24, .int size_m24])), ((am 28), .inr (8, [.ref a_all_m28, .int size_m28])), (a_all_m28, .inl (cI, n_a_all_m28, .inl b_a_all_m28)), ((am 26), .inr (8, [.ref a_all_m26, .int size_m26])), (a_all_m26, .inl (cI, n_a_all_m26, .inl b_a_all_m26)), ((am 25), .inr (8, [.ref a_all_m25, .int size_m25])), (a_all_m25, .inl (cI, n_a_all_m25, .inl b_a_all_m25)), (a_all_m24, .inl (cI, n_a_all_m24, .inl b_a_all_m24))]) := by
  refine Ct.mk (by decide) (Nat.le_of_ble_eq_true rfl) ?_
  intro p e s m below meth c hr hnm
  refine j_norm (pc' := 0) (lv' := [(0, .ref h0), (1, .int p1), (2, .int p2)]) (st' := []) (ws' := [(h0, .inr (9, moF am known_h0 thrown_h0 wrong_h0 lastEnd_h0 at_h0 bad_h0 levels_h0 least_h0 found_h0)), ((am 24), .inr (8, [.ref a_all_m24, .int size_m24])), ((am 28), .inr (8, [.ref a_all_m28, .int size_m28])), (a_all_m28, .inl (cI, n_a_all_m28, .inl b_a_all_m28)), ((am 26), .inr (8, [.ref a_all_m26, .int size_m26])), (a_all_m26, .inl (cI, n_a_all_m26, .inl b_a_all_m26)), ((am 25), .inr (8, [.ref a_all_m25, .int size_m25])), (a_all_m25, .inl (cI, n_a_all_m25, .inl b_a_all_m25)), (a_all_m24, .inl (cI, n_a_all_m24, .inl b_a_all_m24))]) (cl' := 0) (sl' := 0) rfl rfl rfl rfl rfl rfl ?_
  unfold F_Mo_node at h
  refine j_aload_n d_Mo_node_0 rfl 0 rfl ?_
  refine j_iconst (v := 0) d_Mo_node_1 (by decide) ?_
  refine j_put (ws' := [(h0, .inr (9, moF am known_h0 0 wrong_h0 lastEnd_h0 at_h0 bad_h0 levels_h0 least_h0 found_h0)), ((am 24), .inr (8, [.ref a_all_m24, .int size_m24])), ((am 28), .inr (8, [.ref a_all_m28, .int size_m28])), (a_all_m28, .inl (cI, n_a_all_m28, .inl b_a_all_m28)), ((am 26), .inr (8, [.ref a_all_m26, .int size_m26])), (a_all_m26, .inl (cI, n_a_all_m26, .inl b_a_all_m26)), ((am 25), .inr (8, [.ref a_all_m25, .int size_m25])), (a_all_m25, .inl (cI, n_a_all_m25, .inl b_a_all_m25)), (a_all_m24, .inl (cI, n_a_all_m24, .inl b_a_all_m24))]) ig_Mo tk_Mo nm_Mo rfl 0 rfl 13 (by decide) rfl m_1126 rfl (tk_Mo 13 (by decide)) rfl rfl (Nat.le_of_ble_eq_true rfl) d_Mo_node_2 rfl ?_
  refine j_aload_n d_Mo_node_5 rfl 0 rfl ?_
  refine j_iload_n d_Mo_node_6 rfl 1 rfl ?_
  obtain ⟨r1, k3⟩ : ∃ z, (F_Mo_isNode p1 known_h0 0 wrong_h0 lastEnd_h0 at_h0 bad_h0 levels_h0 least_h0 found_h0 size_m24) = z := ⟨_, rfl⟩
  replace h := nm_at k3 h
  refine j_callV (n := 1) (As := [.int p1]) (rest := []) (wr := [((am 28), .inr (8, [.ref a_all_m28, .int size_m28])), (a_all_m28, .inl (cI, n_a_all_m28, .inl b_a_all_m28)), ((am 26), .inr (8, [.ref a_all_m26, .int size_m26])), (a_all_m26, .inl (cI, n_a_all_m26, .inl b_a_all_m26)), ((am 25), .inr (8, [.ref a_all_m25, .int size_m25])), (a_all_m25, .inl (cI, n_a_all_m25, .inl b_a_all_m25)), (a_all_m24, .inl (cI, n_a_all_m24, .inl b_a_all_m24))]) (c_Mo_isNode l D cI cB cJ cS h0 am a_all_m24 p1 known_h0 0 wrong_h0 lastEnd_h0 at_h0 bad_h0 levels_h0 least_h0 found_h0 size_m24  r1 k3) k_Mo_496 (by decide) ⟨Nat.le_of_ble_eq_true rfl, Nat.le_of_ble_eq_true rfl⟩ rfl 0 rfl [0, 1] [2, 3, 4, 5, 6, 7, 8] rfl (by decide) rfl (by decide) (by decide) rfl rfl (Nat.le_of_ble_eq_true rfl) d_Mo_node_7 ⟨Nat.le_of_ble_eq_true rfl, Nat.le_of_ble_eq_true rfl⟩ (fun v w hq => ?_)
  obtain ⟨rfl, z2, rfl⟩ := hq
  refine j_norm (pc' := 10) (st' := [.int r1]) (ws' := [((am 28), .inr (8, [.ref a_all_m28, .int size_m28])), (a_all_m28, .inl (cI, n_a_all_m28, .inl b_a_all_m28)), ((am 26), .inr (8, [.ref a_all_m26, .int size_m26])), (a_all_m26, .inl (cI, n_a_all_m26, .inl b_a_all_m26)), ((am 25), .inr (8, [.ref a_all_m25, .int size_m25])), (a_all_m25, .inl (cI, n_a_all_m25, .inl b_a_all_m25)), (a_all_m24, .inl (cI, n_a_all_m24, .inl b_a_all_m24)), (h0, .inr (9, moF am known_h0 0 wrong_h0 lastEnd_h0 at_h0 bad_h0 levels_h0 least_h0 found_h0)), ((am 24), .inr (8, [.ref a_all_m24, .int size_m24]))]) (cl' := 0) (sl' := 0) rfl rfl rfl rfl rfl rfl ?_
  refine j_if_ne (tgt := 15) d_Mo_node_10 (by decide) (fun c4 => ?_) (fun c4 => ?_)
  · replace h := it_f c4 h
    refine j_iload_n d_Mo_node_15 rfl 2 rfl ?_
    refine j_if_ne (tgt := 30) d_Mo_node_16 (by decide) (fun c5 => ?_) (fun c5 => ?_)
    · replace h := it_f c5 h
      refine j_iload_n d_Mo_node_30 rfl 2 rfl ?_
      refine j_iconst (v := 1) d_Mo_node_31 (by decide) ?_
      refine j_icmp_ne (tgt := 46) d_Mo_node_32 (by decide) (fun c6 => ?_) (fun c6 => ?_)
      · replace h := it_f c6 h
        refine j_iload_n d_Mo_node_46 rfl 2 rfl ?_
        refine j_iconst (v := 2) d_Mo_node_47 (by decide) ?_
        refine j_icmp_ne (tgt := 62) d_Mo_node_48 (by decide) (fun c7 => ?_) (fun c7 => ?_)
        · replace h := it_f c7 h
          refine j_iload_n d_Mo_node_62 rfl 2 rfl ?_
          refine j_iconst (v := 3) d_Mo_node_63 (by decide) ?_
          refine j_icmp_ne (tgt := 78) d_Mo_node_64 (by decide) (fun c8 => ?_) (fun c8 => ?_)
          · replace h := it_f c8 h
            refine j_iconst (v := (-1)) d_Mo_node_78 (by decide) ?_
            replace h := Option.some.inj h
            subst h
            exact j_iret (w := [(h0, .inr (9, moF am known_h0 0 wrong_h0 lastEnd_h0 at_h0 bad_h0 levels_h0 least_h0 found_h0)), ((am 24), .inr (8, [.ref a_all_m24, .int size_m24])), ((am 28), .inr (8, [.ref a_all_m28, .int size_m28])), (a_all_m28, .inl (cI, n_a_all_m28, .inl b_a_all_m28)), ((am 26), .inr (8, [.ref a_all_m26, .int size_m26])), (a_all_m26, .inl (cI, n_a_all_m26, .inl b_a_all_m26)), ((am 25), .inr (8, [.ref a_all_m25, .int size_m25])), (a_all_m25, .inl (cI, n_a_all_m25, .inl b_a_all_m25)), (a_all_m24, .inl (cI, n_a_all_m24, .inl b_a_all_m24))]) hr d_Mo_node_79 [7, 8, 0, 1, 2, 3, 4, 5, 6] rfl (by decide) ⟨rfl, rfl⟩
          · replace h := it_t c8 h
            refine j_aload_n d_Mo_node_67 rfl 0 rfl ?_
            refine j_get ig_Mo rfl 7 rfl 28 (by decide) rfl m_1141 rfl d_Mo_node_68 ?_
            refine j_iload_n d_Mo_node_71 rfl 1 rfl ?_
            replace h := bd_s h
            obtain ⟨_, k9, h⟩ := h
            refine j_callV (n := 1) (As := [.int p1]) (rest := []) (wr := [((am 26), .inr (8, [.ref a_all_m26, .int size_m26])), (a_all_m26, .inl (cI, n_a_all_m26, .inl b_a_all_m26)), ((am 25), .inr (8, [.ref a_all_m25, .int size_m25])), (a_all_m25, .inl (cI, n_a_all_m25, .inl b_a_all_m25)), (a_all_m24, .inl (cI, n_a_all_m24, .inl b_a_all_m24)), (h0, .inr (9, moF am known_h0 0 wrong_h0 lastEnd_h0 at_h0 bad_h0 levels_h0 least_h0 found_h0)), ((am 24), .inr (8, [.ref a_all_m24, .int size_m24]))]) (c_Nm_at l D cI cB cJ cS (am 28) a_all_m28 p1 size_m28 n_a_all_m28 b_a_all_m28  k9) k_Mo_214 (by decide) ⟨Nat.le_of_ble_eq_true rfl, Nat.le_of_ble_eq_true rfl⟩ rfl 0 rfl [0, 1] [2, 3, 4, 5, 6, 7, 8] rfl (by decide) rfl (by decide) (by decide) rfl rfl (Nat.le_of_ble_eq_true rfl) d_Mo_node_72 ⟨Nat.le_of_ble_eq_true rfl, Nat.le_of_ble_eq_true rfl⟩ (fun v w hq => ?_)
            obtain ⟨rfl, rfl⟩ := hq
            refine j_norm (pc' := 75) (st' := [.int (b_a_all_m28 (Int32.toNatClampNeg p1))]) (ws' := [((am 26), .inr (8, [.ref a_all_m26, .int size_m26])), (a_all_m26, .inl (cI, n_a_all_m26, .inl b_a_all_m26)), ((am 25), .inr (8, [.ref a_all_m25, .int size_m25])), (a_all_m25, .inl (cI, n_a_all_m25, .inl b_a_all_m25)), (a_all_m24, .inl (cI, n_a_all_m24, .inl b_a_all_m24)), (h0, .inr (9, moF am known_h0 0 wrong_h0 lastEnd_h0 at_h0 bad_h0 levels_h0 least_h0 found_h0)), ((am 24), .inr (8, [.ref a_all_m24, .int size_m24])), ((am 28), .inr (8, [.ref a_all_m28, .int size_m28])), (a_all_m28, .inl (cI, n_a_all_m28, .inl b_a_all_m28))]) (cl' := 0) (sl' := 0) rfl rfl rfl rfl rfl rfl ?_
            refine j_goto (tgt := 79) d_Mo_node_75 (by decide) ?_
            replace h := Option.some.inj h
            subst h
            exact j_iret (w := [(h0, .inr (9, moF am known_h0 0 wrong_h0 lastEnd_h0 at_h0 bad_h0 levels_h0 least_h0 found_h0)), ((am 24), .inr (8, [.ref a_all_m24, .int size_m24])), ((am 28), .inr (8, [.ref a_all_m28, .int size_m28])), (a_all_m28, .inl (cI, n_a_all_m28, .inl b_a_all_m28)), ((am 26), .inr (8, [.ref a_all_m26, .int size_m26])), (a_all_m26, .inl (cI, n_a_all_m26, .inl b_a_all_m26)), ((am 25), .inr (8, [.ref a_all_m25, .int size_m25])), (a_all_m25, .inl (cI, n_a_all_m25, .inl b_a_all_m25)), (a_all_m24, .inl (cI, n_a_all_m24, .inl b_a_all_m24))]) hr d_Mo_node_79 [5, 6, 7, 8, 0, 1, 2, 3, 4] rfl (by decide) ⟨rfl, rfl⟩
        · replace h := it_t c7 h
          refine j_aload_n d_Mo_node_51 rfl 0 rfl ?_
          refine j_get ig_Mo rfl 7 rfl 26 (by decide) rfl m_1139 rfl d_Mo_node_52 ?_
          refine j_iload_n d_Mo_node_55 rfl 1 rfl ?_
          replace h := bd_s h
          obtain ⟨_, k10, h⟩ := h
          refine j_callV (n := 1) (As := [.int p1]) (rest := []) (wr := [((am 28), .inr (8, [.ref a_all_m28, .int size_m28])), (a_all_m28, .inl (cI, n_a_all_m28, .inl b_a_all_m28)), ((am 25), .inr (8, [.ref a_all_m25, .int size_m25])), (a_all_m25, .inl (cI, n_a_all_m25, .inl b_a_all_m25)), (a_all_m24, .inl (cI, n_a_all_m24, .inl b_a_all_m24)), (h0, .inr (9, moF am known_h0 0 wrong_h0 lastEnd_h0 at_h0 bad_h0 levels_h0 least_h0 found_h0)), ((am 24), .inr (8, [.ref a_all_m24, .int size_m24]))]) (c_Nm_at l D cI cB cJ cS (am 26) a_all_m26 p1 size_m26 n_a_all_m26 b_a_all_m26  k10) k_Mo_214 (by decide) ⟨Nat.le_of_ble_eq_true rfl, Nat.le_of_ble_eq_true rfl⟩ rfl 0 rfl [2, 3] [0, 1, 4, 5, 6, 7, 8] rfl (by decide) rfl (by decide) (by decide) rfl rfl (Nat.le_of_ble_eq_true rfl) d_Mo_node_56 ⟨Nat.le_of_ble_eq_true rfl, Nat.le_of_ble_eq_true rfl⟩ (fun v w hq => ?_)
          obtain ⟨rfl, rfl⟩ := hq
          refine j_norm (pc' := 59) (st' := [.int (b_a_all_m26 (Int32.toNatClampNeg p1))]) (ws' := [((am 28), .inr (8, [.ref a_all_m28, .int size_m28])), (a_all_m28, .inl (cI, n_a_all_m28, .inl b_a_all_m28)), ((am 25), .inr (8, [.ref a_all_m25, .int size_m25])), (a_all_m25, .inl (cI, n_a_all_m25, .inl b_a_all_m25)), (a_all_m24, .inl (cI, n_a_all_m24, .inl b_a_all_m24)), (h0, .inr (9, moF am known_h0 0 wrong_h0 lastEnd_h0 at_h0 bad_h0 levels_h0 least_h0 found_h0)), ((am 24), .inr (8, [.ref a_all_m24, .int size_m24])), ((am 26), .inr (8, [.ref a_all_m26, .int size_m26])), (a_all_m26, .inl (cI, n_a_all_m26, .inl b_a_all_m26))]) (cl' := 0) (sl' := 0) rfl rfl rfl rfl rfl rfl ?_
          refine j_goto (tgt := 79) d_Mo_node_59 (by decide) ?_
          replace h := Option.some.inj h
          subst h
          exact j_iret (w := [(h0, .inr (9, moF am known_h0 0 wrong_h0 lastEnd_h0 at_h0 bad_h0 levels_h0 least_h0 found_h0)), ((am 24), .inr (8, [.ref a_all_m24, .int size_m24])), ((am 28), .inr (8, [.ref a_all_m28, .int size_m28])), (a_all_m28, .inl (cI, n_a_all_m28, .inl b_a_all_m28)), ((am 26), .inr (8, [.ref a_all_m26, .int size_m26])), (a_all_m26, .inl (cI, n_a_all_m26, .inl b_a_all_m26)), ((am 25), .inr (8, [.ref a_all_m25, .int size_m25])), (a_all_m25, .inl (cI, n_a_all_m25, .inl b_a_all_m25)), (a_all_m24, .inl (cI, n_a_all_m24, .inl b_a_all_m24))]) hr d_Mo_node_79 [5, 6, 0, 1, 7, 8, 2, 3, 4] rfl (by decide) ⟨rfl, rfl⟩
      · replace h := it_t c6 h
        refine j_aload_n d_Mo_node_35 rfl 0 rfl ?_
        refine j_get ig_Mo rfl 7 rfl 25 (by decide) rfl m_1138 rfl d_Mo_node_36 ?_
        refine j_iload_n d_Mo_node_39 rfl 1 rfl ?_
        replace h := bd_s h
        obtain ⟨_, k11, h⟩ := h
        refine j_callV (n := 1) (As := [.int p1]) (rest := []) (wr := [((am 28), .inr (8, [.ref a_all_m28, .int size_m28])), (a_all_m28, .inl (cI, n_a_all_m28, .inl b_a_all_m28)), ((am 26), .inr (8, [.ref a_all_m26, .int size_m26])), (a_all_m26, .inl (cI, n_a_all_m26, .inl b_a_all_m26)), (a_all_m24, .inl (cI, n_a_all_m24, .inl b_a_all_m24)), (h0, .inr (9, moF am known_h0 0 wrong_h0 lastEnd_h0 at_h0 bad_h0 levels_h0 least_h0 found_h0)), ((am 24), .inr (8, [.ref a_all_m24, .int size_m24]))]) (c_Nm_at l D cI cB cJ cS (am 25) a_all_m25 p1 size_m25 n_a_all_m25 b_a_all_m25  k11) k_Mo_214 (by decide) ⟨Nat.le_of_ble_eq_true rfl, Nat.le_of_ble_eq_true rfl⟩ rfl 0 rfl [4, 5] [0, 1, 2, 3, 6, 7, 8] rfl (by decide) rfl (by decide) (by decide) rfl rfl (Nat.le_of_ble_eq_true rfl) d_Mo_node_40 ⟨Nat.le_of_ble_eq_true rfl, Nat.le_of_ble_eq_true rfl⟩ (fun v w hq => ?_)
        obtain ⟨rfl, rfl⟩ := hq
        refine j_norm (pc' := 43) (st' := [.int (b_a_all_m25 (Int32.toNatClampNeg p1))]) (ws' := [((am 28), .inr (8, [.ref a_all_m28, .int size_m28])), (a_all_m28, .inl (cI, n_a_all_m28, .inl b_a_all_m28)), ((am 26), .inr (8, [.ref a_all_m26, .int size_m26])), (a_all_m26, .inl (cI, n_a_all_m26, .inl b_a_all_m26)), (a_all_m24, .inl (cI, n_a_all_m24, .inl b_a_all_m24)), (h0, .inr (9, moF am known_h0 0 wrong_h0 lastEnd_h0 at_h0 bad_h0 levels_h0 least_h0 found_h0)), ((am 24), .inr (8, [.ref a_all_m24, .int size_m24])), ((am 25), .inr (8, [.ref a_all_m25, .int size_m25])), (a_all_m25, .inl (cI, n_a_all_m25, .inl b_a_all_m25))]) (cl' := 0) (sl' := 0) rfl rfl rfl rfl rfl rfl ?_
        refine j_goto (tgt := 79) d_Mo_node_43 (by decide) ?_
        replace h := Option.some.inj h
        subst h
        exact j_iret (w := [(h0, .inr (9, moF am known_h0 0 wrong_h0 lastEnd_h0 at_h0 bad_h0 levels_h0 least_h0 found_h0)), ((am 24), .inr (8, [.ref a_all_m24, .int size_m24])), ((am 28), .inr (8, [.ref a_all_m28, .int size_m28])), (a_all_m28, .inl (cI, n_a_all_m28, .inl b_a_all_m28)), ((am 26), .inr (8, [.ref a_all_m26, .int size_m26])), (a_all_m26, .inl (cI, n_a_all_m26, .inl b_a_all_m26)), ((am 25), .inr (8, [.ref a_all_m25, .int size_m25])), (a_all_m25, .inl (cI, n_a_all_m25, .inl b_a_all_m25)), (a_all_m24, .inl (cI, n_a_all_m24, .inl b_a_all_m24))]) hr d_Mo_node_79 [5, 6, 0, 1, 2, 3, 7, 8, 4] rfl (by decide) ⟨rfl, rfl⟩
    · replace h := it_t c5 h
      refine j_aload_n d_Mo_node_19 rfl 0 rfl ?_
      refine j_get ig_Mo rfl 7 rfl 24 (by decide) rfl m_1137 rfl d_Mo_node_20 ?_
      refine j_iload_n d_Mo_node_23 rfl 1 rfl ?_
      replace h := bd_s h
      obtain ⟨_, k12, h⟩ := h
      refine j_callV (n := 1) (As := [.int p1]) (rest := []) (wr := [((am 28), .inr (8, [.ref a_all_m28, .int size_m28])), (a_all_m28, .inl (cI, n_a_all_m28, .inl b_a_all_m28)), ((am 26), .inr (8, [.ref a_all_m26, .int size_m26])), (a_all_m26, .inl (cI, n_a_all_m26, .inl b_a_all_m26)), ((am 25), .inr (8, [.ref a_all_m25, .int size_m25])), (a_all_m25, .inl (cI, n_a_all_m25, .inl b_a_all_m25)), (h0, .inr (9, moF am known_h0 0 wrong_h0 lastEnd_h0 at_h0 bad_h0 levels_h0 least_h0 found_h0))]) (c_Nm_at l D cI cB cJ cS (am 24) a_all_m24 p1 size_m24 n_a_all_m24 b_a_all_m24  k12) k_Mo_214 (by decide) ⟨Nat.le_of_ble_eq_true rfl, Nat.le_of_ble_eq_true rfl⟩ rfl 0 rfl [8, 6] [0, 1, 2, 3, 4, 5, 7] rfl (by decide) rfl (by decide) (by decide) rfl rfl (Nat.le_of_ble_eq_true rfl) d_Mo_node_24 ⟨Nat.le_of_ble_eq_true rfl, Nat.le_of_ble_eq_true rfl⟩ (fun v w hq => ?_)
      obtain ⟨rfl, rfl⟩ := hq
      refine j_norm (pc' := 27) (st' := [.int (b_a_all_m24 (Int32.toNatClampNeg p1))]) (ws' := [((am 28), .inr (8, [.ref a_all_m28, .int size_m28])), (a_all_m28, .inl (cI, n_a_all_m28, .inl b_a_all_m28)), ((am 26), .inr (8, [.ref a_all_m26, .int size_m26])), (a_all_m26, .inl (cI, n_a_all_m26, .inl b_a_all_m26)), ((am 25), .inr (8, [.ref a_all_m25, .int size_m25])), (a_all_m25, .inl (cI, n_a_all_m25, .inl b_a_all_m25)), (h0, .inr (9, moF am known_h0 0 wrong_h0 lastEnd_h0 at_h0 bad_h0 levels_h0 least_h0 found_h0)), ((am 24), .inr (8, [.ref a_all_m24, .int size_m24])), (a_all_m24, .inl (cI, n_a_all_m24, .inl b_a_all_m24))]) (cl' := 0) (sl' := 0) rfl rfl rfl rfl rfl rfl ?_
      refine j_goto (tgt := 79) d_Mo_node_27 (by decide) ?_
      replace h := Option.some.inj h
      subst h
      exact j_iret (w := [(h0, .inr (9, moF am known_h0 0 wrong_h0 lastEnd_h0 at_h0 bad_h0 levels_h0 least_h0 found_h0)), ((am 24), .inr (8, [.ref a_all_m24, .int size_m24])), ((am 28), .inr (8, [.ref a_all_m28, .int size_m28])), (a_all_m28, .inl (cI, n_a_all_m28, .inl b_a_all_m28)), ((am 26), .inr (8, [.ref a_all_m26, .int size_m26])), (a_all_m26, .inl (cI, n_a_all_m26, .inl b_a_all_m26)), ((am 25), .inr (8, [.ref a_all_m25, .int size_m25])), (a_all_m25, .inl (cI, n_a_all_m25, .inl b_a_all_m25)), (a_all_m24, .inl (cI, n_a_all_m24, .inl b_a_all_m24))]) hr d_Mo_node_79 [6, 7, 0, 1, 2, 3, 4, 5, 8] rfl (by decide) ⟨rfl, rfl⟩
  · replace h := it_t c4 h
    refine j_iconst (v := (-1)) d_Mo_node_13 (by decide) ?_
    replace h := Option.some.inj h
    subst h
    exact j_iret (w := [(h0, .inr (9, moF am known_h0 0 wrong_h0 lastEnd_h0 at_h0 bad_h0 levels_h0 least_h0 found_h0)), ((am 24), .inr (8, [.ref a_all_m24, .int size_m24])), ((am 28), .inr (8, [.ref a_all_m28, .int size_m28])), (a_all_m28, .inl (cI, n_a_all_m28, .inl b_a_all_m28)), ((am 26), .inr (8, [.ref a_all_m26, .int size_m26])), (a_all_m26, .inl (cI, n_a_all_m26, .inl b_a_all_m26)), ((am 25), .inr (8, [.ref a_all_m25, .int size_m25])), (a_all_m25, .inl (cI, n_a_all_m25, .inl b_a_all_m25)), (a_all_m24, .inl (cI, n_a_all_m24, .inl b_a_all_m24))]) hr d_Mo_node_14 [7, 8, 0, 1, 2, 3, 4, 5, 6] rfl (by decide) ⟨rfl, rfl⟩
def F_Mo_part_43 (p2 : Int32) (size_m31 : Int32) (n_a_all_m31 : Nat) (b_a_all_m31 : Nat → Int32) : Nat → Int32 → Int32 → Option (Int32)
  | 0, _, _ => none
  | k_43 + 1, v4_43, v3_43 =>
    if p2 ≤ v4_43 then (some v3_43)
    else (Option.bind (F_Nm_at v3_43 size_m31 n_a_all_m31 b_a_all_m31) fun _ =>
      F_Mo_part_43 p2 size_m31 n_a_all_m31 b_a_all_m31  k_43 (v4_43 + 1) (b_a_all_m31 (Int32.toNatClampNeg v3_43)))
def F_Mo_part (p1 : Int32) (p2 : Int32) (known_h0 : Int32) (thrown_h0 : Int32) (wrong_h0 : Int32) (lastEnd_h0 : Int32) (at_h0 : Int32) (bad_h0 : Int32) (levels_h0 : Int32) (least_h0 : Int32) (found_h0 : Int32) (size_m24 : Int32) (size_m28 : Int32) (n_a_all_m28 : Nat) (b_a_all_m28 : Nat → Int32) (size_m29 : Int32) (n_a_all_m29 : Nat) (b_a_all_m29 : Nat → Int32) (size_m31 : Int32) (n_a_all_m31 : Nat) (b_a_all_m31 : Nat → Int32) : Option (Int32) :=
  nm (F_Mo_isNode p1 known_h0 0 wrong_h0 lastEnd_h0 at_h0 bad_h0 levels_h0 least_h0 found_h0 size_m24) fun r3 =>
  if r3 = 0 then (some (-1))
  else if p2 < 0 then (some (-1))
  else (Option.bind (F_Nm_at p1 size_m28 n_a_all_m28 b_a_all_m28) fun _ =>
    if p2 < (b_a_all_m28 (Int32.toNatClampNeg p1)) then (Option.bind (F_Nm_at p1 size_m29 n_a_all_m29 b_a_all_m29) fun _ =>
      F_Mo_part_43 p2 size_m31 n_a_all_m31 b_a_all_m31  FU 0 (b_a_all_m29 (Int32.toNatClampNeg p1)))
    else (some (-1)))
theorem d_Mo_part_0 : decode prog_12_method_84_code 0 = .ok (.aload_n 0, 1) := by decide +kernel
theorem d_Mo_part_1 : decode prog_12_method_84_code 1 = .ok (.iconst 0, 1) := by decide +kernel
theorem d_Mo_part_2 : decode prog_12_method_84_code 2 = .ok (.putfield 197, 3) := by decide +kernel
theorem d_Mo_part_5 : decode prog_12_method_84_code 5 = .ok (.aload_n 0, 1) := by decide +kernel
theorem d_Mo_part_6 : decode prog_12_method_84_code 6 = .ok (.iload_n 1, 1) := by decide +kernel
theorem d_Mo_part_7 : decode prog_12_method_84_code 7 = .ok (.invokevirtual 496, 3) := by decide +kernel
theorem d_Mo_part_10 : decode prog_12_method_84_code 10 = .ok (.ifCond .eq 19, 3) := by decide +kernel
theorem d_Mo_part_13 : decode prog_12_method_84_code 13 = .ok (.iload_n 2, 1) := by decide +kernel
theorem d_Mo_part_14 : decode prog_12_method_84_code 14 = .ok (.ifCond .lt 15, 3) := by decide +kernel
theorem d_Mo_part_17 : decode prog_12_method_84_code 17 = .ok (.iload_n 2, 1) := by decide +kernel
theorem d_Mo_part_18 : decode prog_12_method_84_code 18 = .ok (.aload_n 0, 1) := by decide +kernel
theorem d_Mo_part_19 : decode prog_12_method_84_code 19 = .ok (.getfield 163, 3) := by decide +kernel
theorem d_Mo_part_22 : decode prog_12_method_84_code 22 = .ok (.iload_n 1, 1) := by decide +kernel
theorem d_Mo_part_23 : decode prog_12_method_84_code 23 = .ok (.invokevirtual 214, 3) := by decide +kernel
theorem d_Mo_part_26 : decode prog_12_method_84_code 26 = .ok (.if_icmp .lt 5, 3) := by decide +kernel
theorem d_Mo_part_29 : decode prog_12_method_84_code 29 = .ok (.iconst (-1), 1) := by decide +kernel
theorem d_Mo_part_30 : decode prog_12_method_84_code 30 = .ok (.ireturn, 1) := by decide +kernel
theorem d_Mo_part_31 : decode prog_12_method_84_code 31 = .ok (.aload_n 0, 1) := by decide +kernel
theorem d_Mo_part_32 : decode prog_12_method_84_code 32 = .ok (.getfield 166, 3) := by decide +kernel
theorem d_Mo_part_35 : decode prog_12_method_84_code 35 = .ok (.iload_n 1, 1) := by decide +kernel
theorem d_Mo_part_36 : decode prog_12_method_84_code 36 = .ok (.invokevirtual 214, 3) := by decide +kernel
theorem d_Mo_part_39 : decode prog_12_method_84_code 39 = .ok (.istore_n 3, 1) := by decide +kernel
theorem d_Mo_part_40 : decode prog_12_method_84_code 40 = .ok (.iconst 0, 1) := by decide +kernel
theorem d_Mo_part_41 : decode prog_12_method_84_code 41 = .ok (.istore 4, 2) := by decide +kernel
theorem d_Mo_part_43 : decode prog_12_method_84_code 43 = .ok (.iload 4, 2) := by decide +kernel
theorem d_Mo_part_45 : decode prog_12_method_84_code 45 = .ok (.iload_n 2, 1) := by decide +kernel
theorem d_Mo_part_46 : decode prog_12_method_84_code 46 = .ok (.if_icmp .ge 18, 3) := by decide +kernel
theorem d_Mo_part_49 : decode prog_12_method_84_code 49 = .ok (.aload_n 0, 1) := by decide +kernel
theorem d_Mo_part_50 : decode prog_12_method_84_code 50 = .ok (.getfield 172, 3) := by decide +kernel
theorem d_Mo_part_53 : decode prog_12_method_84_code 53 = .ok (.iload_n 3, 1) := by decide +kernel
theorem d_Mo_part_54 : decode prog_12_method_84_code 54 = .ok (.invokevirtual 214, 3) := by decide +kernel
theorem d_Mo_part_57 : decode prog_12_method_84_code 57 = .ok (.istore_n 3, 1) := by decide +kernel
theorem d_Mo_part_58 : decode prog_12_method_84_code 58 = .ok (.iinc 4 1, 3) := by decide +kernel
theorem d_Mo_part_61 : decode prog_12_method_84_code 61 = .ok (.goto (-18), 3) := by decide +kernel
theorem d_Mo_part_64 : decode prog_12_method_84_code 64 = .ok (.iload_n 3, 1) := by decide +kernel
theorem d_Mo_part_65 : decode prog_12_method_84_code 65 = .ok (.ireturn, 1) := by decide +kernel
set_option maxHeartbeats 4000000 in
set_option maxRecDepth 100000 in
theorem L_Mo_part_43 (l : Launch) (D : va_G) (cI cB cJ cS : ClassId) (h0 : Nat) (am : Nat → Nat) (a_all_m24 : Nat) (a_all_m28 : Nat) (a_all_m29 : Nat) (a_all_m31 : Nat) (p1 : Int32) (p2 : Int32) (known_h0 : Int32) (thrown_h0 : Int32) (wrong_h0 : Int32) (lastEnd_h0 : Int32) (at_h0 : Int32) (bad_h0 : Int32) (levels_h0 : Int32) (least_h0 : Int32) (found_h0 : Int32) (size_m24 : Int32) (size_m28 : Int32) (n_a_all_m28 : Nat) (b_a_all_m28 : Nat → Int32) (size_m29 : Int32) (n_a_all_m29 : Nat) (b_a_all_m29 : Nat → Int32) (size_m31 : Int32) (n_a_all_m31 : Nat) (b_a_all_m31 : Nat → Int32) (ret : Int32) (p : Program) (e : Env) (s : State) (m : MethodId) (below : List Frame) (meth : Method) (c : Code) (hr : meth.sig.returnType = (Option.some Jvm.ClassFile.FieldType.int)) (hnm : meth.name = y_Mo_part.name) : ∀ (k_43 : Nat) (v4_43 : Int32) (v3_43 : Int32), F_Mo_part_43 p2 size_m31 n_a_all_m31 b_a_all_m31  k_43 v4_43 v3_43 = some ret → J (KxOf p l e { frames := 1, cells := 0, slots := 0, locals := 21 } s m [.ref h0, .int p1, .int p2].toArray below meth c D (gT cI cB cJ cS) [(h0, .inr (9, moF am known_h0 thrown_h0 wrong_h0 lastEnd_h0 at_h0 bad_h0 levels_h0 least_h0 found_h0)), ((am 24), .inr (8, [.ref a_all_m24, .int size_m24])), ((am 28), .inr (8, [.ref a_all_m28, .int size_m28])), (a_all_m28, .inl (cI, n_a_all_m28, .inl b_a_all_m28)), ((am 29), .inr (8, [.ref a_all_m29, .int size_m29])), (a_all_m29, .inl (cI, n_a_all_m29, .inl b_a_all_m29)), ((am 31), .inr (8, [.ref a_all_m31, .int size_m31])), (a_all_m31, .inl (cI, n_a_all_m31, .inl b_a_all_m31))] (fun v w => v = some (.int ret) ∧ w = [(h0, .inr (9, moF am known_h0 0 wrong_h0 lastEnd_h0 at_h0 bad_h0 levels_h0 least_h0 found_h0)), ((am 24), .inr (8, [.ref a_all_m24, .int size_m24])), ((am 28), .inr (8, [.ref a_all_m28, .int size_m28])), (a_all_m28, .inl (cI, n_a_all_m28, .inl b_a_all_m28)), ((am 29), .inr (8, [.ref a_all_m29, .int size_m29])), (a_all_m29, .inl (cI, n_a_all_m29, .inl b_a_all_m29)), ((am 31), .inr (8, [.ref a_all_m31, .int size_m31])), (a_all_m31, .inl (cI, n_a_all_m31, .inl b_a_all_m31))]) 0 0) prog_12_method_84_code 5 R_Mo 43 [(4, .int v4_43), (3, .int v3_43), (0, .ref h0), (1, .int p1), (2, .int p2)] [] [((am 31), .inr (8, [.ref a_all_m31, .int size_m31])), (a_all_m31, .inl (cI, n_a_all_m31, .inl b_a_all_m31)), (h0, .inr (9, moF am known_h0 0 wrong_h0 lastEnd_h0 at_h0 bad_h0 levels_h0 least_h0 found_h0)), ((am 24), .inr (8, [.ref a_all_m24, .int size_m24])), ((am 28), .inr (8, [.ref a_all_m28, .int size_m28])), (a_all_m28, .inl (cI, n_a_all_m28, .inl b_a_all_m28)), ((am 29), .inr (8, [.ref a_all_m29, .int size_m29])), (a_all_m29, .inl (cI, n_a_all_m29, .inl b_a_all_m29))] 0 0 := by
  intro k_43
  induction k_43 with
  | zero => intro v4_43 v3_43 h; rw [F_Mo_part_43] at h; cases h
  | succ k_43 ih_43 =>
    intro v4_43 v3_43 h
    rw [F_Mo_part_43] at h
    refine j_iload d_Mo_part_43 0 rfl ?_
    refine j_iload_n d_Mo_part_45 rfl 4 rfl ?_
    refine j_icmp_ge (tgt := 64) d_Mo_part_46 (by decide) (fun c1 => ?_) (fun c1 => ?_)
    · replace h := it_t c1 h
      refine j_iload_n d_Mo_part_64 rfl 1 rfl ?_
      replace h := Option.some.inj h
      subst h
      exact j_iret (w := [(h0, .inr (9, moF am known_h0 0 wrong_h0 lastEnd_h0 at_h0 bad_h0 levels_h0 least_h0 found_h0)), ((am 24), .inr (8, [.ref a_all_m24, .int size_m24])), ((am 28), .inr (8, [.ref a_all_m28, .int size_m28])), (a_all_m28, .inl (cI, n_a_all_m28, .inl b_a_all_m28)), ((am 29), .inr (8, [.ref a_all_m29, .int size_m29])), (a_all_m29, .inl (cI, n_a_all_m29, .inl b_a_all_m29)), ((am 31), .inr (8, [.ref a_all_m31, .int size_m31])), (a_all_m31, .inl (cI, n_a_all_m31, .inl b_a_all_m31))]) hr d_Mo_part_65 [2, 3, 4, 5, 6, 7, 0, 1] rfl (by decide) ⟨rfl, rfl⟩
    · replace h := it_f c1 h
      refine j_aload_n d_Mo_part_49 rfl 2 rfl ?_
      refine j_get ig_Mo rfl 2 rfl 31 (by decide) rfl m_1144 rfl d_Mo_part_50 ?_
      refine j_iload_n d_Mo_part_53 rfl 1 rfl ?_
      replace h := bd_s h
      obtain ⟨_, k2, h⟩ := h
      refine j_callV (n := 1) (As := [.int v3_43]) (rest := []) (wr := [(h0, .inr (9, moF am known_h0 0 wrong_h0 lastEnd_h0 at_h0 bad_h0 levels_h0 least_h0 found_h0)), ((am 24), .inr (8, [.ref a_all_m24, .int size_m24])), ((am 28), .inr (8, [.ref a_all_m28, .int size_m28])), (a_all_m28, .inl (cI, n_a_all_m28, .inl b_a_all_m28)), ((am 29), .inr (8, [.ref a_all_m29, .int size_m29])), (a_all_m29, .inl (cI, n_a_all_m29, .inl b_a_all_m29))]) (c_Nm_at l D cI cB cJ cS (am 31) a_all_m31 v3_43 size_m31 n_a_all_m31 b_a_all_m31  k2) k_Mo_214 (by decide) ⟨Nat.le_of_ble_eq_true rfl, Nat.le_of_ble_eq_true rfl⟩ rfl 0 rfl [0, 1] [2, 3, 4, 5, 6, 7] rfl (by decide) rfl (by decide) (by decide) rfl rfl (Nat.le_of_ble_eq_true rfl) d_Mo_part_54 ⟨Nat.le_of_ble_eq_true rfl, Nat.le_of_ble_eq_true rfl⟩ (fun v w hq => ?_)
      obtain ⟨rfl, rfl⟩ := hq
      refine j_norm (pc' := 57) (st' := [.int (b_a_all_m31 (Int32.toNatClampNeg v3_43))]) (ws' := [(h0, .inr (9, moF am known_h0 0 wrong_h0 lastEnd_h0 at_h0 bad_h0 levels_h0 least_h0 found_h0)), ((am 24), .inr (8, [.ref a_all_m24, .int size_m24])), ((am 28), .inr (8, [.ref a_all_m28, .int size_m28])), (a_all_m28, .inl (cI, n_a_all_m28, .inl b_a_all_m28)), ((am 29), .inr (8, [.ref a_all_m29, .int size_m29])), (a_all_m29, .inl (cI, n_a_all_m29, .inl b_a_all_m29)), ((am 31), .inr (8, [.ref a_all_m31, .int size_m31])), (a_all_m31, .inl (cI, n_a_all_m31, .inl b_a_all_m31))]) (cl' := 0) (sl' := 0) rfl rfl rfl rfl rfl rfl ?_
      refine j_istore_n (lv' := [(3, .int (b_a_all_m31 (Int32.toNatClampNeg v3_43))), (4, .int v4_43), (0, .ref h0), (1, .int p1), (2, .int p2)]) d_Mo_part_57 rfl (by decide) rfl ?_
      refine j_iinc (v := v4_43 + 1) (lv' := [(4, .int (v4_43 + 1)), (3, .int (b_a_all_m31 (Int32.toNatClampNeg v3_43))), (0, .ref h0), (1, .int p1), (2, .int p2)]) d_Mo_part_58 1 rfl rfl (by decide) rfl ?_
      refine j_goto (tgt := 43) d_Mo_part_61 (by decide) ?_
      refine j_sub (w := [((am 31), .inr (8, [.ref a_all_m31, .int size_m31])), (a_all_m31, .inl (cI, n_a_all_m31, .inl b_a_all_m31)), (h0, .inr (9, moF am known_h0 0 wrong_h0 lastEnd_h0 at_h0 bad_h0 levels_h0 least_h0 found_h0)), ((am 24), .inr (8, [.ref a_all_m24, .int size_m24])), ((am 28), .inr (8, [.ref a_all_m28, .int size_m28])), (a_all_m28, .inl (cI, n_a_all_m28, .inl b_a_all_m28)), ((am 29), .inr (8, [.ref a_all_m29, .int size_m29])), (a_all_m29, .inl (cI, n_a_all_m29, .inl b_a_all_m29))]) (lv' := [(4, .int (v4_43 + 1)), (3, .int (b_a_all_m31 (Int32.toNatClampNeg v3_43))), (0, .ref h0), (1, .int p1), (2, .int p2)]) [6, 7, 0, 1, 2, 3, 4, 5] rfl (by decide) [0, 1, 2, 3, 4] rfl ?_
      exact ih_43 (v4_43 + 1) (b_a_all_m31 (Int32.toNatClampNeg v3_43)) h
set_option maxHeartbeats 4000000 in
set_option maxRecDepth 100000 in
theorem c_Mo_part (l : Launch) (D : va_G) (cI cB cJ cS : ClassId) (h0 : Nat) (am : Nat → Nat) (a_all_m24 : Nat) (a_all_m28 : Nat) (a_all_m29 : Nat) (a_all_m31 : Nat) (p1 : Int32) (p2 : Int32) (known_h0 : Int32) (thrown_h0 : Int32) (wrong_h0 : Int32) (lastEnd_h0 : Int32) (at_h0 : Int32) (bad_h0 : Int32) (levels_h0 : Int32) (least_h0 : Int32) (found_h0 : Int32) (size_m24 : Int32) (size_m28 : Int32) (n_a_all_m28 : Nat) (b_a_all_m28 : Nat → Int32) (size_m29 : Int32) (n_a_all_m29 : Nat) (b_a_all_m29 : Nat → Int32) (size_m31 : Int32) (n_a_all_m31 : Nat) (b_a_all_m31 : Nat → Int32) (ret : Int32) (h : F_Mo_part p1 p2 known_h0 thrown_h0 wrong_h0 lastEnd_h0 at_h0 bad_h0 levels_h0 least_h0 found_h0 size_m24 size_m28 n_a_all_m28 b_a_all_m28 size_m29 n_a_all_m29 b_a_all_m29 size_m31 n_a_all_m31 b_a_all_m31 = some ret) : Ct l D (gT cI cB cJ cS) y_Mo_part prog_12_method_84_code 5 (Option.some Jvm.ClassFile.FieldType.int) 1 21 0 0 [.ref h0, .int p1, .int p2] [(h0, .inr (9, moF am known_h0 thrown_h0 wrong_h0 lastEnd_h0 at_h0 bad_h0 levels_h0 least_h0 found_h0)), ((am 24), .inr (8, [.ref a_all_m24, .int size_m24])), ((am 28), .inr (8, [.ref a_all_m28, .int size_m28])), (a_all_m28, .inl (cI, n_a_all_m28, .inl b_a_all_m28)), ((am 29), .inr (8, [.ref a_all_m29, .int size_m29])), (a_all_m29, .inl (cI, n_a_all_m29, .inl b_a_all_m29)), ((am 31), .inr (8, [.ref a_all_m31, .int size_m31])), (a_all_m31, .inl (cI, n_a_all_m31, .inl b_a_all_m31))] (fun v w => v = some (.int ret) ∧ w = [(h0, .inr (9, moF am known_h0 0 wrong_h0 lastEnd_h0 at_h0 bad_h0 levels_h0 least_h0 found_h0)), ((am 24), .inr (8, [.ref a_all_m24, .int size_m24])), ((am 28), .inr (8, [.ref a_all_m28, .int size_m28])), (a_all_m28, .inl (cI, n_a_all_m28, .inl b_a_all_m28)), ((am 29), .inr (8, [.ref a_all_m29, .int size_m29])), (a_all_m29, .inl (cI, n_a_all_m29, .inl b_a_all_m29)), ((am 31), .inr (8, [.ref a_all_m31, .int size_m31])), (a_all_m31, .inl (cI, n_a_all_m31, .inl b_a_all_m31))]) := by
  refine Ct.mk (by decide) (Nat.le_of_ble_eq_true rfl) ?_
  intro p e s m below meth c hr hnm
  refine j_norm (pc' := 0) (lv' := [(0, .ref h0), (1, .int p1), (2, .int p2)]) (st' := []) (ws' := [(h0, .inr (9, moF am known_h0 thrown_h0 wrong_h0 lastEnd_h0 at_h0 bad_h0 levels_h0 least_h0 found_h0)), ((am 24), .inr (8, [.ref a_all_m24, .int size_m24])), ((am 28), .inr (8, [.ref a_all_m28, .int size_m28])), (a_all_m28, .inl (cI, n_a_all_m28, .inl b_a_all_m28)), ((am 29), .inr (8, [.ref a_all_m29, .int size_m29])), (a_all_m29, .inl (cI, n_a_all_m29, .inl b_a_all_m29)), ((am 31), .inr (8, [.ref a_all_m31, .int size_m31])), (a_all_m31, .inl (cI, n_a_all_m31, .inl b_a_all_m31))]) (cl' := 0) (sl' := 0) rfl rfl rfl rfl rfl rfl ?_
  unfold F_Mo_part at h
  refine j_aload_n d_Mo_part_0 rfl 0 rfl ?_
  refine j_iconst (v := 0) d_Mo_part_1 (by decide) ?_
  refine j_put (ws' := [(h0, .inr (9, moF am known_h0 0 wrong_h0 lastEnd_h0 at_h0 bad_h0 levels_h0 least_h0 found_h0)), ((am 24), .inr (8, [.ref a_all_m24, .int size_m24])), ((am 28), .inr (8, [.ref a_all_m28, .int size_m28])), (a_all_m28, .inl (cI, n_a_all_m28, .inl b_a_all_m28)), ((am 29), .inr (8, [.ref a_all_m29, .int size_m29])), (a_all_m29, .inl (cI, n_a_all_m29, .inl b_a_all_m29)), ((am 31), .inr (8, [.ref a_all_m31, .int size_m31])), (a_all_m31, .inl (cI, n_a_all_m31, .inl b_a_all_m31))]) ig_Mo tk_Mo nm_Mo rfl 0 rfl 13 (by decide) rfl m_1126 rfl (tk_Mo 13 (by decide)) rfl rfl (Nat.le_of_ble_eq_true rfl) d_Mo_part_2 rfl ?_
  refine j_aload_n d_Mo_part_5 rfl 0 rfl ?_
  refine j_iload_n d_Mo_part_6 rfl 1 rfl ?_
  obtain ⟨r3, k5⟩ : ∃ z, (F_Mo_isNode p1 known_h0 0 wrong_h0 lastEnd_h0 at_h0 bad_h0 levels_h0 least_h0 found_h0 size_m24) = z := ⟨_, rfl⟩
  replace h := nm_at k5 h
  refine j_callV (n := 1) (As := [.int p1]) (rest := []) (wr := [((am 28), .inr (8, [.ref a_all_m28, .int size_m28])), (a_all_m28, .inl (cI, n_a_all_m28, .inl b_a_all_m28)), ((am 29), .inr (8, [.ref a_all_m29, .int size_m29])), (a_all_m29, .inl (cI, n_a_all_m29, .inl b_a_all_m29)), ((am 31), .inr (8, [.ref a_all_m31, .int size_m31])), (a_all_m31, .inl (cI, n_a_all_m31, .inl b_a_all_m31))]) (c_Mo_isNode l D cI cB cJ cS h0 am a_all_m24 p1 known_h0 0 wrong_h0 lastEnd_h0 at_h0 bad_h0 levels_h0 least_h0 found_h0 size_m24  r3 k5) k_Mo_496 (by decide) ⟨Nat.le_of_ble_eq_true rfl, Nat.le_of_ble_eq_true rfl⟩ rfl 0 rfl [0, 1] [2, 3, 4, 5, 6, 7] rfl (by decide) rfl (by decide) (by decide) rfl rfl (Nat.le_of_ble_eq_true rfl) d_Mo_part_7 ⟨Nat.le_of_ble_eq_true rfl, Nat.le_of_ble_eq_true rfl⟩ (fun v w hq => ?_)
  obtain ⟨rfl, z4, rfl⟩ := hq
  refine j_norm (pc' := 10) (st' := [.int r3]) (ws' := [((am 28), .inr (8, [.ref a_all_m28, .int size_m28])), (a_all_m28, .inl (cI, n_a_all_m28, .inl b_a_all_m28)), ((am 29), .inr (8, [.ref a_all_m29, .int size_m29])), (a_all_m29, .inl (cI, n_a_all_m29, .inl b_a_all_m29)), ((am 31), .inr (8, [.ref a_all_m31, .int size_m31])), (a_all_m31, .inl (cI, n_a_all_m31, .inl b_a_all_m31)), (h0, .inr (9, moF am known_h0 0 wrong_h0 lastEnd_h0 at_h0 bad_h0 levels_h0 least_h0 found_h0)), ((am 24), .inr (8, [.ref a_all_m24, .int size_m24]))]) (cl' := 0) (sl' := 0) rfl rfl rfl rfl rfl rfl ?_
  refine j_if_eq (tgt := 29) d_Mo_part_10 (by decide) (fun c6 => ?_) (fun c6 => ?_)
  · replace h := it_t c6 h
    refine j_iconst (v := (-1)) d_Mo_part_29 (by decide) ?_
    replace h := Option.some.inj h
    subst h
    exact j_iret (w := [(h0, .inr (9, moF am known_h0 0 wrong_h0 lastEnd_h0 at_h0 bad_h0 levels_h0 least_h0 found_h0)), ((am 24), .inr (8, [.ref a_all_m24, .int size_m24])), ((am 28), .inr (8, [.ref a_all_m28, .int size_m28])), (a_all_m28, .inl (cI, n_a_all_m28, .inl b_a_all_m28)), ((am 29), .inr (8, [.ref a_all_m29, .int size_m29])), (a_all_m29, .inl (cI, n_a_all_m29, .inl b_a_all_m29)), ((am 31), .inr (8, [.ref a_all_m31, .int size_m31])), (a_all_m31, .inl (cI, n_a_all_m31, .inl b_a_all_m31))]) hr d_Mo_part_30 [6, 7, 0, 1, 2, 3, 4, 5] rfl (by decide) ⟨rfl, rfl⟩
  · replace h := it_f c6 h
    refine j_iload_n d_Mo_part_13 rfl 2 rfl ?_
    refine j_if_lt (tgt := 29) d_Mo_part_14 (by decide) (fun c7 => ?_) (fun c7 => ?_)
    · replace h := it_t c7 h
      refine j_iconst (v := (-1)) d_Mo_part_29 (by decide) ?_
      replace h := Option.some.inj h
      subst h
      exact j_iret (w := [(h0, .inr (9, moF am known_h0 0 wrong_h0 lastEnd_h0 at_h0 bad_h0 levels_h0 least_h0 found_h0)), ((am 24), .inr (8, [.ref a_all_m24, .int size_m24])), ((am 28), .inr (8, [.ref a_all_m28, .int size_m28])), (a_all_m28, .inl (cI, n_a_all_m28, .inl b_a_all_m28)), ((am 29), .inr (8, [.ref a_all_m29, .int size_m29])), (a_all_m29, .inl (cI, n_a_all_m29, .inl b_a_all_m29)), ((am 31), .inr (8, [.ref a_all_m31, .int size_m31])), (a_all_m31, .inl (cI, n_a_all_m31, .inl b_a_all_m31))]) hr d_Mo_part_30 [6, 7, 0, 1, 2, 3, 4, 5] rfl (by decide) ⟨rfl, rfl⟩
    · replace h := it_f c7 h
      refine j_iload_n d_Mo_part_17 rfl 2 rfl ?_
      refine j_aload_n d_Mo_part_18 rfl 0 rfl ?_
      refine j_get ig_Mo rfl 6 rfl 28 (by decide) rfl m_1141 rfl d_Mo_part_19 ?_
      refine j_iload_n d_Mo_part_22 rfl 1 rfl ?_
      replace h := bd_s h
      obtain ⟨_, k8, h⟩ := h
      refine j_callV (n := 1) (As := [.int p1]) (rest := [.int p2]) (wr := [((am 29), .inr (8, [.ref a_all_m29, .int size_m29])), (a_all_m29, .inl (cI, n_a_all_m29, .inl b_a_all_m29)), ((am 31), .inr (8, [.ref a_all_m31, .int size_m31])), (a_all_m31, .inl (cI, n_a_all_m31, .inl b_a_all_m31)), (h0, .inr (9, moF am known_h0 0 wrong_h0 lastEnd_h0 at_h0 bad_h0 levels_h0 least_h0 found_h0)), ((am 24), .inr (8, [.ref a_all_m24, .int size_m24]))]) (c_Nm_at l D cI cB cJ cS (am 28) a_all_m28 p1 size_m28 n_a_all_m28 b_a_all_m28  k8) k_Mo_214 (by decide) ⟨Nat.le_of_ble_eq_true rfl, Nat.le_of_ble_eq_true rfl⟩ rfl 0 rfl [0, 1] [2, 3, 4, 5, 6, 7] rfl (by decide) rfl (by decide) (by decide) rfl rfl (Nat.le_of_ble_eq_true rfl) d_Mo_part_23 ⟨Nat.le_of_ble_eq_true rfl, Nat.le_of_ble_eq_true rfl⟩ (fun v w hq => ?_)
      obtain ⟨rfl, rfl⟩ := hq
      refine j_norm (pc' := 26) (st' := [.int (b_a_all_m28 (Int32.toNatClampNeg p1)), .int p2]) (ws' := [((am 29), .inr (8, [.ref a_all_m29, .int size_m29])), (a_all_m29, .inl (cI, n_a_all_m29, .inl b_a_all_m29)), ((am 31), .inr (8, [.ref a_all_m31, .int size_m31])), (a_all_m31, .inl (cI, n_a_all_m31, .inl b_a_all_m31)), (h0, .inr (9, moF am known_h0 0 wrong_h0 lastEnd_h0 at_h0 bad_h0 levels_h0 least_h0 found_h0)), ((am 24), .inr (8, [.ref a_all_m24, .int size_m24])), ((am 28), .inr (8, [.ref a_all_m28, .int size_m28])), (a_all_m28, .inl (cI, n_a_all_m28, .inl b_a_all_m28))]) (cl' := 0) (sl' := 0) rfl rfl rfl rfl rfl rfl ?_
      refine j_icmp_lt (tgt := 31) d_Mo_part_26 (by decide) (fun c9 => ?_) (fun c9 => ?_)
      · replace h := it_t c9 h
        refine j_aload_n d_Mo_part_31 rfl 0 rfl ?_
        refine j_get ig_Mo rfl 4 rfl 29 (by decide) rfl m_1142 rfl d_Mo_part_32 ?_
        refine j_iload_n d_Mo_part_35 rfl 1 rfl ?_
        replace h := bd_s h
        obtain ⟨_, k10, h⟩ := h
        refine j_callV (n := 1) (As := [.int p1]) (rest := []) (wr := [((am 31), .inr (8, [.ref a_all_m31, .int size_m31])), (a_all_m31, .inl (cI, n_a_all_m31, .inl b_a_all_m31)), (h0, .inr (9, moF am known_h0 0 wrong_h0 lastEnd_h0 at_h0 bad_h0 levels_h0 least_h0 found_h0)), ((am 24), .inr (8, [.ref a_all_m24, .int size_m24])), ((am 28), .inr (8, [.ref a_all_m28, .int size_m28])), (a_all_m28, .inl (cI, n_a_all_m28, .inl b_a_all_m28))]) (c_Nm_at l D cI cB cJ cS (am 29) a_all_m29 p1 size_m29 n_a_all_m29 b_a_all_m29  k10) k_Mo_214 (by decide) ⟨Nat.le_of_ble_eq_true rfl, Nat.le_of_ble_eq_true rfl⟩ rfl 0 rfl [0, 1] [2, 3, 4, 5, 6, 7] rfl (by decide) rfl (by decide) (by decide) rfl rfl (Nat.le_of_ble_eq_true rfl) d_Mo_part_36 ⟨Nat.le_of_ble_eq_true rfl, Nat.le_of_ble_eq_true rfl⟩ (fun v w hq => ?_)
        obtain ⟨rfl, rfl⟩ := hq
        refine j_norm (pc' := 39) (st' := [.int (b_a_all_m29 (Int32.toNatClampNeg p1))]) (ws' := [((am 31), .inr (8, [.ref a_all_m31, .int size_m31])), (a_all_m31, .inl (cI, n_a_all_m31, .inl b_a_all_m31)), (h0, .inr (9, moF am known_h0 0 wrong_h0 lastEnd_h0 at_h0 bad_h0 levels_h0 least_h0 found_h0)), ((am 24), .inr (8, [.ref a_all_m24, .int size_m24])), ((am 28), .inr (8, [.ref a_all_m28, .int size_m28])), (a_all_m28, .inl (cI, n_a_all_m28, .inl b_a_all_m28)), ((am 29), .inr (8, [.ref a_all_m29, .int size_m29])), (a_all_m29, .inl (cI, n_a_all_m29, .inl b_a_all_m29))]) (cl' := 0) (sl' := 0) rfl rfl rfl rfl rfl rfl ?_
        refine j_istore_n (lv' := [(3, .int (b_a_all_m29 (Int32.toNatClampNeg p1))), (0, .ref h0), (1, .int p1), (2, .int p2)]) d_Mo_part_39 rfl (by decide) rfl ?_
        refine j_iconst (v := 0) d_Mo_part_40 (by decide) ?_
        refine j_istore (lv' := [(4, .int 0), (3, .int (b_a_all_m29 (Int32.toNatClampNeg p1))), (0, .ref h0), (1, .int p1), (2, .int p2)]) d_Mo_part_41 (by decide) rfl ?_
        refine j_sub (w := [((am 31), .inr (8, [.ref a_all_m31, .int size_m31])), (a_all_m31, .inl (cI, n_a_all_m31, .inl b_a_all_m31)), (h0, .inr (9, moF am known_h0 0 wrong_h0 lastEnd_h0 at_h0 bad_h0 levels_h0 least_h0 found_h0)), ((am 24), .inr (8, [.ref a_all_m24, .int size_m24])), ((am 28), .inr (8, [.ref a_all_m28, .int size_m28])), (a_all_m28, .inl (cI, n_a_all_m28, .inl b_a_all_m28)), ((am 29), .inr (8, [.ref a_all_m29, .int size_m29])), (a_all_m29, .inl (cI, n_a_all_m29, .inl b_a_all_m29))]) (lv' := [(4, .int 0), (3, .int (b_a_all_m29 (Int32.toNatClampNeg p1))), (0, .ref h0), (1, .int p1), (2, .int p2)]) [0, 1, 2, 3, 4, 5, 6, 7] rfl (by decide) [0, 1, 2, 3, 4] rfl ?_
        exact L_Mo_part_43 l D cI cB cJ cS h0 am a_all_m24 a_all_m28 a_all_m29 a_all_m31 p1 p2 known_h0 thrown_h0 wrong_h0 lastEnd_h0 at_h0 bad_h0 levels_h0 least_h0 found_h0 size_m24 size_m28 n_a_all_m28 b_a_all_m28 size_m29 n_a_all_m29 b_a_all_m29 size_m31 n_a_all_m31 b_a_all_m31 ret p e s m below meth c hr hnm FU 0 (b_a_all_m29 (Int32.toNatClampNeg p1)) h
      · replace h := it_f c9 h
        refine j_iconst (v := (-1)) d_Mo_part_29 (by decide) ?_
        replace h := Option.some.inj h
        subst h
        exact j_iret (w := [(h0, .inr (9, moF am known_h0 0 wrong_h0 lastEnd_h0 at_h0 bad_h0 levels_h0 least_h0 found_h0)), ((am 24), .inr (8, [.ref a_all_m24, .int size_m24])), ((am 28), .inr (8, [.ref a_all_m28, .int size_m28])), (a_all_m28, .inl (cI, n_a_all_m28, .inl b_a_all_m28)), ((am 29), .inr (8, [.ref a_all_m29, .int size_m29])), (a_all_m29, .inl (cI, n_a_all_m29, .inl b_a_all_m29)), ((am 31), .inr (8, [.ref a_all_m31, .int size_m31])), (a_all_m31, .inl (cI, n_a_all_m31, .inl b_a_all_m31))]) hr d_Mo_part_30 [4, 5, 6, 7, 0, 1, 2, 3] rfl (by decide) ⟨rfl, rfl⟩
def F_Mo_character (p1 : Int32) (p2 : Int32) (known_h0 : Int32) (thrown_h0 : Int32) (wrong_h0 : Int32) (lastEnd_h0 : Int32) (at_h0 : Int32) (bad_h0 : Int32) (levels_h0 : Int32) (least_h0 : Int32) (found_h0 : Int32) (size_m24 : Int32) (size_m27 : Int32) (n_a_all_m27 : Nat) (b_a_all_m27 : Nat → Int32) (size_m12 : Int32) (n_a_all_m12 : Nat) (b_a_all_m12 : Nat → Int32) (size_m11 : Int32) (n_a_all_m11 : Nat) (b_a_all_m11 : Nat → Int32) (size_m9 : Int32) (n_a_all_m9 : Nat) (b_a_all_m9 : Nat → Int32) : Option (Int32) :=
  nm (F_Mo_isNode p1 known_h0 0 wrong_h0 lastEnd_h0 at_h0 bad_h0 levels_h0 least_h0 found_h0 size_m24) fun r1 =>
  if r1 = 0 then (some (-1))
  else (Option.bind (F_Nm_at p1 size_m27 n_a_all_m27 b_a_all_m27) fun _ =>
    if 0 ≤ (b_a_all_m27 (Int32.toNatClampNeg p1)) then (Option.bind (F_Nm_at p1 size_m27 n_a_all_m27 b_a_all_m27) fun _ =>
      if p2 < 0 then (some (-1))
      else (Option.bind (F_Nm_at (b_a_all_m27 (Int32.toNatClampNeg p1)) size_m12 n_a_all_m12 b_a_all_m12) fun _ =>
        Option.bind (F_Nm_at (b_a_all_m27 (Int32.toNatClampNeg p1)) size_m11 n_a_all_m11 b_a_all_m11) fun _ =>
        if ((b_a_all_m12 (Int32.toNatClampNeg (b_a_all_m27 (Int32.toNatClampNeg p1)))) - (b_a_all_m11 (Int32.toNatClampNeg (b_a_all_m27 (Int32.toNatClampNeg p1))))) ≤ p2 then (some (-1))
        else (Option.bind (F_Nm_at (b_a_all_m27 (Int32.toNatClampNeg p1)) size_m11 n_a_all_m11 b_a_all_m11) fun _ =>
          Option.bind (F_Nm_at ((b_a_all_m11 (Int32.toNatClampNeg (b_a_all_m27 (Int32.toNatClampNeg p1)))) + p2) size_m9 n_a_all_m9 b_a_all_m9) fun _ =>
          (some (b_a_all_m9 (Int32.toNatClampNeg ((b_a_all_m11 (Int32.toNatClampNeg (b_a_all_m27 (Int32.toNatClampNeg p1)))) + p2)))))))
    else (some (-1)))
theorem d_Mo_character_0 : decode prog_12_method_85_code 0 = .ok (.aload_n 0, 1) := by decide +kernel
theorem d_Mo_character_1 : decode prog_12_method_85_code 1 = .ok (.iconst 0, 1) := by decide +kernel
theorem d_Mo_character_2 : decode prog_12_method_85_code 2 = .ok (.putfield 197, 3) := by decide +kernel
theorem d_Mo_character_5 : decode prog_12_method_85_code 5 = .ok (.aload_n 0, 1) := by decide +kernel
theorem d_Mo_character_6 : decode prog_12_method_85_code 6 = .ok (.iload_n 1, 1) := by decide +kernel
theorem d_Mo_character_7 : decode prog_12_method_85_code 7 = .ok (.invokevirtual 496, 3) := by decide +kernel
theorem d_Mo_character_10 : decode prog_12_method_85_code 10 = .ok (.ifCond .eq 14, 3) := by decide +kernel
theorem d_Mo_character_13 : decode prog_12_method_85_code 13 = .ok (.aload_n 0, 1) := by decide +kernel
theorem d_Mo_character_14 : decode prog_12_method_85_code 14 = .ok (.getfield 160, 3) := by decide +kernel
theorem d_Mo_character_17 : decode prog_12_method_85_code 17 = .ok (.iload_n 1, 1) := by decide +kernel
theorem d_Mo_character_18 : decode prog_12_method_85_code 18 = .ok (.invokevirtual 214, 3) := by decide +kernel
theorem d_Mo_character_21 : decode prog_12_method_85_code 21 = .ok (.ifCond .ge 5, 3) := by decide +kernel
theorem d_Mo_character_24 : decode prog_12_method_85_code 24 = .ok (.iconst (-1), 1) := by decide +kernel
theorem d_Mo_character_25 : decode prog_12_method_85_code 25 = .ok (.ireturn, 1) := by decide +kernel
theorem d_Mo_character_26 : decode prog_12_method_85_code 26 = .ok (.aload_n 0, 1) := by decide +kernel
theorem d_Mo_character_27 : decode prog_12_method_85_code 27 = .ok (.getfield 160, 3) := by decide +kernel
theorem d_Mo_character_30 : decode prog_12_method_85_code 30 = .ok (.iload_n 1, 1) := by decide +kernel
theorem d_Mo_character_31 : decode prog_12_method_85_code 31 = .ok (.invokevirtual 214, 3) := by decide +kernel
theorem d_Mo_character_34 : decode prog_12_method_85_code 34 = .ok (.istore_n 3, 1) := by decide +kernel
theorem d_Mo_character_35 : decode prog_12_method_85_code 35 = .ok (.iload_n 2, 1) := by decide +kernel
theorem d_Mo_character_36 : decode prog_12_method_85_code 36 = .ok (.ifCond .lt 44, 3) := by decide +kernel
theorem d_Mo_character_39 : decode prog_12_method_85_code 39 = .ok (.iload_n 2, 1) := by decide +kernel
theorem d_Mo_character_40 : decode prog_12_method_85_code 40 = .ok (.aload_n 0, 1) := by decide +kernel
theorem d_Mo_character_41 : decode prog_12_method_85_code 41 = .ok (.getfield 132, 3) := by decide +kernel
theorem d_Mo_character_44 : decode prog_12_method_85_code 44 = .ok (.iload_n 3, 1) := by decide +kernel
theorem d_Mo_character_45 : decode prog_12_method_85_code 45 = .ok (.invokevirtual 214, 3) := by decide +kernel
theorem d_Mo_character_48 : decode prog_12_method_85_code 48 = .ok (.aload_n 0, 1) := by decide +kernel
theorem d_Mo_character_49 : decode prog_12_method_85_code 49 = .ok (.getfield 129, 3) := by decide +kernel
theorem d_Mo_character_52 : decode prog_12_method_85_code 52 = .ok (.iload_n 3, 1) := by decide +kernel
theorem d_Mo_character_53 : decode prog_12_method_85_code 53 = .ok (.invokevirtual 214, 3) := by decide +kernel
theorem d_Mo_character_56 : decode prog_12_method_85_code 56 = .ok (.isub, 1) := by decide +kernel
theorem d_Mo_character_57 : decode prog_12_method_85_code 57 = .ok (.if_icmp .ge 23, 3) := by decide +kernel
theorem d_Mo_character_60 : decode prog_12_method_85_code 60 = .ok (.aload_n 0, 1) := by decide +kernel
theorem d_Mo_character_61 : decode prog_12_method_85_code 61 = .ok (.getfield 123, 3) := by decide +kernel
theorem d_Mo_character_64 : decode prog_12_method_85_code 64 = .ok (.aload_n 0, 1) := by decide +kernel
theorem d_Mo_character_65 : decode prog_12_method_85_code 65 = .ok (.getfield 129, 3) := by decide +kernel
theorem d_Mo_character_68 : decode prog_12_method_85_code 68 = .ok (.iload_n 3, 1) := by decide +kernel
theorem d_Mo_character_69 : decode prog_12_method_85_code 69 = .ok (.invokevirtual 214, 3) := by decide +kernel
theorem d_Mo_character_72 : decode prog_12_method_85_code 72 = .ok (.iload_n 2, 1) := by decide +kernel
theorem d_Mo_character_73 : decode prog_12_method_85_code 73 = .ok (.iadd, 1) := by decide +kernel
theorem d_Mo_character_74 : decode prog_12_method_85_code 74 = .ok (.invokevirtual 214, 3) := by decide +kernel
theorem d_Mo_character_77 : decode prog_12_method_85_code 77 = .ok (.goto 4, 3) := by decide +kernel
theorem d_Mo_character_80 : decode prog_12_method_85_code 80 = .ok (.iconst (-1), 1) := by decide +kernel
theorem d_Mo_character_81 : decode prog_12_method_85_code 81 = .ok (.ireturn, 1) := by decide +kernel
set_option maxHeartbeats 4000000 in
set_option maxRecDepth 100000 in
theorem c_Mo_character (l : Launch) (D : va_G) (cI cB cJ cS : ClassId) (h0 : Nat) (am : Nat → Nat) (a_all_m24 : Nat) (a_all_m27 : Nat) (a_all_m12 : Nat) (a_all_m11 : Nat) (a_all_m9 : Nat) (p1 : Int32) (p2 : Int32) (known_h0 : Int32) (thrown_h0 : Int32) (wrong_h0 : Int32) (lastEnd_h0 : Int32) (at_h0 : Int32) (bad_h0 : Int32) (levels_h0 : Int32) (least_h0 : Int32) (found_h0 : Int32) (size_m24 : Int32) (size_m27 : Int32) (n_a_all_m27 : Nat) (b_a_all_m27 : Nat → Int32) (size_m12 : Int32) (n_a_all_m12 : Nat) (b_a_all_m12 : Nat → Int32) (size_m11 : Int32) (n_a_all_m11 : Nat) (b_a_all_m11 : Nat → Int32) (size_m9 : Int32) (n_a_all_m9 : Nat) (b_a_all_m9 : Nat → Int32) (ret : Int32) (h : F_Mo_character p1 p2 known_h0 thrown_h0 wrong_h0 lastEnd_h0 at_h0 bad_h0 levels_h0 least_h0 found_h0 size_m24 size_m27 n_a_all_m27 b_a_all_m27 size_m12 n_a_all_m12 b_a_all_m12 size_m11 n_a_all_m11 b_a_all_m11 size_m9 n_a_all_m9 b_a_all_m9 = some ret) : Ct l D (gT cI cB cJ cS) y_Mo_character prog_12_method_85_code 4 (Option.some Jvm.ClassFile.FieldType.int) 1 21 0 0 [.ref h0, .int p1, .int p2] [(h0, .inr (9, moF am known_h0 thrown_h0 wrong_h0 lastEnd_h0 at_h0 bad_h0 levels_h0 least_h0 found_h0)), ((am 24), .inr (8, [.ref a_all_m24, .int size_m24])), ((am 27), .inr (8, [.ref a_all_m27, .int size_m27])), (a_all_m27, .inl (cI, n_a_all_m27, .inl b_a_all_m27)), ((am 12), .inr (8, [.ref a_all_m12, .int size_m12])), (a_all_m12, .inl (cI, n_a_all_m12, .inl b_a_all_m12)), ((am 11), .inr (8, [.ref a_all_m11, .int size_m11])), (a_all_m11, .inl (cI, n_a_all_m11, .inl b_a_all_m11)), ((am 9), .inr (8, [.ref a_all_m9, .int size_m9])), (a_all_m9, .inl (cI, n_a_all_m9, .inl b_a_all_m9))] (fun v w => v = some (.int ret) ∧ w = [(h0, .inr (9, moF am known_h0 0 wrong_h0 lastEnd_h0 at_h0 bad_h0 levels_h0 least_h0 found_h0)), ((am 24), .inr (8, [.ref a_all_m24, .int size_m24])), ((am 27), .inr (8, [.ref a_all_m27, .int size_m27])), (a_all_m27, .inl (cI, n_a_all_m27, .inl b_a_all_m27)), ((am 12), .inr (8, [.ref a_all_m12, .int size_m12])), (a_all_m12, .inl (cI, n_a_all_m12, .inl b_a_all_m12)), ((am 11), .inr (8, [.ref a_all_m11, .int size_m11])), (a_all_m11, .inl (cI, n_a_all_m11, .inl b_a_all_m11)), ((am 9), .inr (8, [.ref a_all_m9, .int size_m9])), (a_all_m9, .inl (cI, n_a_all_m9, .inl b_a_all_m9))]) := by
  refine Ct.mk (by decide) (Nat.le_of_ble_eq_true rfl) ?_
  intro p e s m below meth c hr hnm
  refine j_norm (pc' := 0) (lv' := [(0, .ref h0), (1, .int p1), (2, .int p2)]) (st' := []) (ws' := [(h0, .inr (9, moF am known_h0 thrown_h0 wrong_h0 lastEnd_h0 at_h0 bad_h0 levels_h0 least_h0 found_h0)), ((am 24), .inr (8, [.ref a_all_m24, .int size_m24])), ((am 27), .inr (8, [.ref a_all_m27, .int size_m27])), (a_all_m27, .inl (cI, n_a_all_m27, .inl b_a_all_m27)), ((am 12), .inr (8, [.ref a_all_m12, .int size_m12])), (a_all_m12, .inl (cI, n_a_all_m12, .inl b_a_all_m12)), ((am 11), .inr (8, [.ref a_all_m11, .int size_m11])), (a_all_m11, .inl (cI, n_a_all_m11, .inl b_a_all_m11)), ((am 9), .inr (8, [.ref a_all_m9, .int size_m9])), (a_all_m9, .inl (cI, n_a_all_m9, .inl b_a_all_m9))]) (cl' := 0) (sl' := 0) rfl rfl rfl rfl rfl rfl ?_
  unfold F_Mo_character at h
  refine j_aload_n d_Mo_character_0 rfl 0 rfl ?_
  refine j_iconst (v := 0) d_Mo_character_1 (by decide) ?_
  refine j_put (ws' := [(h0, .inr (9, moF am known_h0 0 wrong_h0 lastEnd_h0 at_h0 bad_h0 levels_h0 least_h0 found_h0)), ((am 24), .inr (8, [.ref a_all_m24, .int size_m24])), ((am 27), .inr (8, [.ref a_all_m27, .int size_m27])), (a_all_m27, .inl (cI, n_a_all_m27, .inl b_a_all_m27)), ((am 12), .inr (8, [.ref a_all_m12, .int size_m12])), (a_all_m12, .inl (cI, n_a_all_m12, .inl b_a_all_m12)), ((am 11), .inr (8, [.ref a_all_m11, .int size_m11])), (a_all_m11, .inl (cI, n_a_all_m11, .inl b_a_all_m11)), ((am 9), .inr (8, [.ref a_all_m9, .int size_m9])), (a_all_m9, .inl (cI, n_a_all_m9, .inl b_a_all_m9))]) ig_Mo tk_Mo nm_Mo rfl 0 rfl 13 (by decide) rfl m_1126 rfl (tk_Mo 13 (by decide)) rfl rfl (Nat.le_of_ble_eq_true rfl) d_Mo_character_2 rfl ?_
  refine j_aload_n d_Mo_character_5 rfl 0 rfl ?_
  refine j_iload_n d_Mo_character_6 rfl 1 rfl ?_
  obtain ⟨r1, k3⟩ : ∃ z, (F_Mo_isNode p1 known_h0 0 wrong_h0 lastEnd_h0 at_h0 bad_h0 levels_h0 least_h0 found_h0 size_m24) = z := ⟨_, rfl⟩
  replace h := nm_at k3 h
  refine j_callV (n := 1) (As := [.int p1]) (rest := []) (wr := [((am 27), .inr (8, [.ref a_all_m27, .int size_m27])), (a_all_m27, .inl (cI, n_a_all_m27, .inl b_a_all_m27)), ((am 12), .inr (8, [.ref a_all_m12, .int size_m12])), (a_all_m12, .inl (cI, n_a_all_m12, .inl b_a_all_m12)), ((am 11), .inr (8, [.ref a_all_m11, .int size_m11])), (a_all_m11, .inl (cI, n_a_all_m11, .inl b_a_all_m11)), ((am 9), .inr (8, [.ref a_all_m9, .int size_m9])), (a_all_m9, .inl (cI, n_a_all_m9, .inl b_a_all_m9))]) (c_Mo_isNode l D cI cB cJ cS h0 am a_all_m24 p1 known_h0 0 wrong_h0 lastEnd_h0 at_h0 bad_h0 levels_h0 least_h0 found_h0 size_m24  r1 k3) k_Mo_496 (by decide) ⟨Nat.le_of_ble_eq_true rfl, Nat.le_of_ble_eq_true rfl⟩ rfl 0 rfl [0, 1] [2, 3, 4, 5, 6, 7, 8, 9] rfl (by decide) rfl (by decide) (by decide) rfl rfl (Nat.le_of_ble_eq_true rfl) d_Mo_character_7 ⟨Nat.le_of_ble_eq_true rfl, Nat.le_of_ble_eq_true rfl⟩ (fun v w hq => ?_)
  obtain ⟨rfl, z2, rfl⟩ := hq
  refine j_norm (pc' := 10) (st' := [.int r1]) (ws' := [((am 27), .inr (8, [.ref a_all_m27, .int size_m27])), (a_all_m27, .inl (cI, n_a_all_m27, .inl b_a_all_m27)), ((am 12), .inr (8, [.ref a_all_m12, .int size_m12])), (a_all_m12, .inl (cI, n_a_all_m12, .inl b_a_all_m12)), ((am 11), .inr (8, [.ref a_all_m11, .int size_m11])), (a_all_m11, .inl (cI, n_a_all_m11, .inl b_a_all_m11)), ((am 9), .inr (8, [.ref a_all_m9, .int size_m9])), (a_all_m9, .inl (cI, n_a_all_m9, .inl b_a_all_m9)), (h0, .inr (9, moF am known_h0 0 wrong_h0 lastEnd_h0 at_h0 bad_h0 levels_h0 least_h0 found_h0)), ((am 24), .inr (8, [.ref a_all_m24, .int size_m24]))]) (cl' := 0) (sl' := 0) rfl rfl rfl rfl rfl rfl ?_
  refine j_if_eq (tgt := 24) d_Mo_character_10 (by decide) (fun c4 => ?_) (fun c4 => ?_)
  · replace h := it_t c4 h
    refine j_iconst (v := (-1)) d_Mo_character_24 (by decide) ?_
    replace h := Option.some.inj h
    subst h
    exact j_iret (w := [(h0, .inr (9, moF am known_h0 0 wrong_h0 lastEnd_h0 at_h0 bad_h0 levels_h0 least_h0 found_h0)), ((am 24), .inr (8, [.ref a_all_m24, .int size_m24])), ((am 27), .inr (8, [.ref a_all_m27, .int size_m27])), (a_all_m27, .inl (cI, n_a_all_m27, .inl b_a_all_m27)), ((am 12), .inr (8, [.ref a_all_m12, .int size_m12])), (a_all_m12, .inl (cI, n_a_all_m12, .inl b_a_all_m12)), ((am 11), .inr (8, [.ref a_all_m11, .int size_m11])), (a_all_m11, .inl (cI, n_a_all_m11, .inl b_a_all_m11)), ((am 9), .inr (8, [.ref a_all_m9, .int size_m9])), (a_all_m9, .inl (cI, n_a_all_m9, .inl b_a_all_m9))]) hr d_Mo_character_25 [8, 9, 0, 1, 2, 3, 4, 5, 6, 7] rfl (by decide) ⟨rfl, rfl⟩
  · replace h := it_f c4 h
    refine j_aload_n d_Mo_character_13 rfl 0 rfl ?_
    refine j_get ig_Mo rfl 8 rfl 27 (by decide) rfl m_1140 rfl d_Mo_character_14 ?_
    refine j_iload_n d_Mo_character_17 rfl 1 rfl ?_
    replace h := bd_s h
    obtain ⟨_, k5, h⟩ := h
    refine j_callV (n := 1) (As := [.int p1]) (rest := []) (wr := [((am 12), .inr (8, [.ref a_all_m12, .int size_m12])), (a_all_m12, .inl (cI, n_a_all_m12, .inl b_a_all_m12)), ((am 11), .inr (8, [.ref a_all_m11, .int size_m11])), (a_all_m11, .inl (cI, n_a_all_m11, .inl b_a_all_m11)), ((am 9), .inr (8, [.ref a_all_m9, .int size_m9])), (a_all_m9, .inl (cI, n_a_all_m9, .inl b_a_all_m9)), (h0, .inr (9, moF am known_h0 0 wrong_h0 lastEnd_h0 at_h0 bad_h0 levels_h0 least_h0 found_h0)), ((am 24), .inr (8, [.ref a_all_m24, .int size_m24]))]) (c_Nm_at l D cI cB cJ cS (am 27) a_all_m27 p1 size_m27 n_a_all_m27 b_a_all_m27  k5) k_Mo_214 (by decide) ⟨Nat.le_of_ble_eq_true rfl, Nat.le_of_ble_eq_true rfl⟩ rfl 0 rfl [0, 1] [2, 3, 4, 5, 6, 7, 8, 9] rfl (by decide) rfl (by decide) (by decide) rfl rfl (Nat.le_of_ble_eq_true rfl) d_Mo_character_18 ⟨Nat.le_of_ble_eq_true rfl, Nat.le_of_ble_eq_true rfl⟩ (fun v w hq => ?_)
    obtain ⟨rfl, rfl⟩ := hq
    refine j_norm (pc' := 21) (st' := [.int (b_a_all_m27 (Int32.toNatClampNeg p1))]) (ws' := [((am 12), .inr (8, [.ref a_all_m12, .int size_m12])), (a_all_m12, .inl (cI, n_a_all_m12, .inl b_a_all_m12)), ((am 11), .inr (8, [.ref a_all_m11, .int size_m11])), (a_all_m11, .inl (cI, n_a_all_m11, .inl b_a_all_m11)), ((am 9), .inr (8, [.ref a_all_m9, .int size_m9])), (a_all_m9, .inl (cI, n_a_all_m9, .inl b_a_all_m9)), (h0, .inr (9, moF am known_h0 0 wrong_h0 lastEnd_h0 at_h0 bad_h0 levels_h0 least_h0 found_h0)), ((am 24), .inr (8, [.ref a_all_m24, .int size_m24])), ((am 27), .inr (8, [.ref a_all_m27, .int size_m27])), (a_all_m27, .inl (cI, n_a_all_m27, .inl b_a_all_m27))]) (cl' := 0) (sl' := 0) rfl rfl rfl rfl rfl rfl ?_
    refine j_if_ge (tgt := 26) d_Mo_character_21 (by decide) (fun c6 => ?_) (fun c6 => ?_)
    · replace h := it_t c6 h
      refine j_aload_n d_Mo_character_26 rfl 0 rfl ?_
      refine j_get ig_Mo rfl 6 rfl 27 (by decide) rfl m_1140 rfl d_Mo_character_27 ?_
      refine j_iload_n d_Mo_character_30 rfl 1 rfl ?_
      replace h := bd_s h
      obtain ⟨_, k7, h⟩ := h
      refine j_callV (n := 1) (As := [.int p1]) (rest := []) (wr := [((am 12), .inr (8, [.ref a_all_m12, .int size_m12])), (a_all_m12, .inl (cI, n_a_all_m12, .inl b_a_all_m12)), ((am 11), .inr (8, [.ref a_all_m11, .int size_m11])), (a_all_m11, .inl (cI, n_a_all_m11, .inl b_a_all_m11)), ((am 9), .inr (8, [.ref a_all_m9, .int size_m9])), (a_all_m9, .inl (cI, n_a_all_m9, .inl b_a_all_m9)), (h0, .inr (9, moF am known_h0 0 wrong_h0 lastEnd_h0 at_h0 bad_h0 levels_h0 least_h0 found_h0)), ((am 24), .inr (8, [.ref a_all_m24, .int size_m24]))]) (c_Nm_at l D cI cB cJ cS (am 27) a_all_m27 p1 size_m27 n_a_all_m27 b_a_all_m27  k7) k_Mo_214 (by decide) ⟨Nat.le_of_ble_eq_true rfl, Nat.le_of_ble_eq_true rfl⟩ rfl 0 rfl [8, 9] [0, 1, 2, 3, 4, 5, 6, 7] rfl (by decide) rfl (by decide) (by decide) rfl rfl (Nat.le_of_ble_eq_true rfl) d_Mo_character_31 ⟨Nat.le_of_ble_eq_true rfl, Nat.le_of_ble_eq_true rfl⟩ (fun v w hq => ?_)
      obtain ⟨rfl, rfl⟩ := hq
      refine j_norm (pc' := 34) (st' := [.int (b_a_all_m27 (Int32.toNatClampNeg p1))]) (ws' := [((am 12), .inr (8, [.ref a_all_m12, .int size_m12])), (a_all_m12, .inl (cI, n_a_all_m12, .inl b_a_all_m12)), ((am 11), .inr (8, [.ref a_all_m11, .int size_m11])), (a_all_m11, .inl (cI, n_a_all_m11, .inl b_a_all_m11)), ((am 9), .inr (8, [.ref a_all_m9, .int size_m9])), (a_all_m9, .inl (cI, n_a_all_m9, .inl b_a_all_m9)), (h0, .inr (9, moF am known_h0 0 wrong_h0 lastEnd_h0 at_h0 bad_h0 levels_h0 least_h0 found_h0)), ((am 24), .inr (8, [.ref a_all_m24, .int size_m24])), ((am 27), .inr (8, [.ref a_all_m27, .int size_m27])), (a_all_m27, .inl (cI, n_a_all_m27, .inl b_a_all_m27))]) (cl' := 0) (sl' := 0) rfl rfl rfl rfl rfl rfl ?_
      refine j_istore_n (lv' := [(3, .int (b_a_all_m27 (Int32.toNatClampNeg p1))), (0, .ref h0), (1, .int p1), (2, .int p2)]) d_Mo_character_34 rfl (by decide) rfl ?_
      refine j_iload_n d_Mo_character_35 rfl 3 rfl ?_
      refine j_if_lt (tgt := 80) d_Mo_character_36 (by decide) (fun c8 => ?_) (fun c8 => ?_)
      · replace h := it_t c8 h
        refine j_iconst (v := (-1)) d_Mo_character_80 (by decide) ?_
        replace h := Option.some.inj h
        subst h
        exact j_iret (w := [(h0, .inr (9, moF am known_h0 0 wrong_h0 lastEnd_h0 at_h0 bad_h0 levels_h0 least_h0 found_h0)), ((am 24), .inr (8, [.ref a_all_m24, .int size_m24])), ((am 27), .inr (8, [.ref a_all_m27, .int size_m27])), (a_all_m27, .inl (cI, n_a_all_m27, .inl b_a_all_m27)), ((am 12), .inr (8, [.ref a_all_m12, .int size_m12])), (a_all_m12, .inl (cI, n_a_all_m12, .inl b_a_all_m12)), ((am 11), .inr (8, [.ref a_all_m11, .int size_m11])), (a_all_m11, .inl (cI, n_a_all_m11, .inl b_a_all_m11)), ((am 9), .inr (8, [.ref a_all_m9, .int size_m9])), (a_all_m9, .inl (cI, n_a_all_m9, .inl b_a_all_m9))]) hr d_Mo_character_81 [6, 7, 8, 9, 0, 1, 2, 3, 4, 5] rfl (by decide) ⟨rfl, rfl⟩
      · replace h := it_f c8 h
        refine j_iload_n d_Mo_character_39 rfl 3 rfl ?_
        refine j_aload_n d_Mo_character_40 rfl 1 rfl ?_
        refine j_get ig_Mo rfl 6 rfl 12 (by decide) rfl m_1125 rfl d_Mo_character_41 ?_
        refine j_iload_n d_Mo_character_44 rfl 0 rfl ?_
        replace h := bd_s h
        obtain ⟨_, k9, h⟩ := h
        refine j_callV (n := 1) (As := [.int (b_a_all_m27 (Int32.toNatClampNeg p1))]) (rest := [.int p2]) (wr := [((am 11), .inr (8, [.ref a_all_m11, .int size_m11])), (a_all_m11, .inl (cI, n_a_all_m11, .inl b_a_all_m11)), ((am 9), .inr (8, [.ref a_all_m9, .int size_m9])), (a_all_m9, .inl (cI, n_a_all_m9, .inl b_a_all_m9)), (h0, .inr (9, moF am known_h0 0 wrong_h0 lastEnd_h0 at_h0 bad_h0 levels_h0 least_h0 found_h0)), ((am 24), .inr (8, [.ref a_all_m24, .int size_m24])), ((am 27), .inr (8, [.ref a_all_m27, .int size_m27])), (a_all_m27, .inl (cI, n_a_all_m27, .inl b_a_all_m27))]) (c_Nm_at l D cI cB cJ cS (am 12) a_all_m12 (b_a_all_m27 (Int32.toNatClampNeg p1)) size_m12 n_a_all_m12 b_a_all_m12  k9) k_Mo_214 (by decide) ⟨Nat.le_of_ble_eq_true rfl, Nat.le_of_ble_eq_true rfl⟩ rfl 0 rfl [0, 1] [2, 3, 4, 5, 6, 7, 8, 9] rfl (by decide) rfl (by decide) (by decide) rfl rfl (Nat.le_of_ble_eq_true rfl) d_Mo_character_45 ⟨Nat.le_of_ble_eq_true rfl, Nat.le_of_ble_eq_true rfl⟩ (fun v w hq => ?_)
        obtain ⟨rfl, rfl⟩ := hq
        refine j_norm (pc' := 48) (st' := [.int (b_a_all_m12 (Int32.toNatClampNeg (b_a_all_m27 (Int32.toNatClampNeg p1)))), .int p2]) (ws' := [((am 11), .inr (8, [.ref a_all_m11, .int size_m11])), (a_all_m11, .inl (cI, n_a_all_m11, .inl b_a_all_m11)), ((am 9), .inr (8, [.ref a_all_m9, .int size_m9])), (a_all_m9, .inl (cI, n_a_all_m9, .inl b_a_all_m9)), (h0, .inr (9, moF am known_h0 0 wrong_h0 lastEnd_h0 at_h0 bad_h0 levels_h0 least_h0 found_h0)), ((am 24), .inr (8, [.ref a_all_m24, .int size_m24])), ((am 27), .inr (8, [.ref a_all_m27, .int size_m27])), (a_all_m27, .inl (cI, n_a_all_m27, .inl b_a_all_m27)), ((am 12), .inr (8, [.ref a_all_m12, .int size_m12])), (a_all_m12, .inl (cI, n_a_all_m12, .inl b_a_all_m12))]) (cl' := 0) (sl' := 0) rfl rfl rfl rfl rfl rfl ?_
        refine j_aload_n d_Mo_character_48 rfl 1 rfl ?_
        refine j_get ig_Mo rfl 4 rfl 11 (by decide) rfl m_1124 rfl d_Mo_character_49 ?_
        refine j_iload_n d_Mo_character_52 rfl 0 rfl ?_
        replace h := bd_s h
        obtain ⟨_, k10, h⟩ := h
        refine j_callV (n := 1) (As := [.int (b_a_all_m27 (Int32.toNatClampNeg p1))]) (rest := [.int (b_a_all_m12 (Int32.toNatClampNeg (b_a_all_m27 (Int32.toNatClampNeg p1)))), .int p2]) (wr := [((am 9), .inr (8, [.ref a_all_m9, .int size_m9])), (a_all_m9, .inl (cI, n_a_all_m9, .inl b_a_all_m9)), (h0, .inr (9, moF am known_h0 0 wrong_h0 lastEnd_h0 at_h0 bad_h0 levels_h0 least_h0 found_h0)), ((am 24), .inr (8, [.ref a_all_m24, .int size_m24])), ((am 27), .inr (8, [.ref a_all_m27, .int size_m27])), (a_all_m27, .inl (cI, n_a_all_m27, .inl b_a_all_m27)), ((am 12), .inr (8, [.ref a_all_m12, .int size_m12])), (a_all_m12, .inl (cI, n_a_all_m12, .inl b_a_all_m12))]) (c_Nm_at l D cI cB cJ cS (am 11) a_all_m11 (b_a_all_m27 (Int32.toNatClampNeg p1)) size_m11 n_a_all_m11 b_a_all_m11  k10) k_Mo_214 (by decide) ⟨Nat.le_of_ble_eq_true rfl, Nat.le_of_ble_eq_true rfl⟩ rfl 0 rfl [0, 1] [2, 3, 4, 5, 6, 7, 8, 9] rfl (by decide) rfl (by decide) (by decide) rfl rfl (Nat.le_of_ble_eq_true rfl) d_Mo_character_53 ⟨Nat.le_of_ble_eq_true rfl, Nat.le_of_ble_eq_true rfl⟩ (fun v w hq => ?_)
        obtain ⟨rfl, rfl⟩ := hq
        refine j_norm (pc' := 56) (st' := [.int (b_a_all_m11 (Int32.toNatClampNeg (b_a_all_m27 (Int32.toNatClampNeg p1)))), .int (b_a_all_m12 (Int32.toNatClampNeg (b_a_all_m27 (Int32.toNatClampNeg p1)))), .int p2]) (ws' := [((am 9), .inr (8, [.ref a_all_m9, .int size_m9])), (a_all_m9, .inl (cI, n_a_all_m9, .inl b_a_all_m9)), (h0, .inr (9, moF am known_h0 0 wrong_h0 lastEnd_h0 at_h0 bad_h0 levels_h0 least_h0 found_h0)), ((am 24), .inr (8, [.ref a_all_m24, .int size_m24])), ((am 27), .inr (8, [.ref a_all_m27, .int size_m27])), (a_all_m27, .inl (cI, n_a_all_m27, .inl b_a_all_m27)), ((am 12), .inr (8, [.ref a_all_m12, .int size_m12])), (a_all_m12, .inl (cI, n_a_all_m12, .inl b_a_all_m12)), ((am 11), .inr (8, [.ref a_all_m11, .int size_m11])), (a_all_m11, .inl (cI, n_a_all_m11, .inl b_a_all_m11))]) (cl' := 0) (sl' := 0) rfl rfl rfl rfl rfl rfl ?_
        refine j_isub d_Mo_character_56 ?_
        refine j_icmp_ge (tgt := 80) d_Mo_character_57 (by decide) (fun c11 => ?_) (fun c11 => ?_)
        · replace h := it_t c11 h
          refine j_iconst (v := (-1)) d_Mo_character_80 (by decide) ?_
          replace h := Option.some.inj h
          subst h
          exact j_iret (w := [(h0, .inr (9, moF am known_h0 0 wrong_h0 lastEnd_h0 at_h0 bad_h0 levels_h0 least_h0 found_h0)), ((am 24), .inr (8, [.ref a_all_m24, .int size_m24])), ((am 27), .inr (8, [.ref a_all_m27, .int size_m27])), (a_all_m27, .inl (cI, n_a_all_m27, .inl b_a_all_m27)), ((am 12), .inr (8, [.ref a_all_m12, .int size_m12])), (a_all_m12, .inl (cI, n_a_all_m12, .inl b_a_all_m12)), ((am 11), .inr (8, [.ref a_all_m11, .int size_m11])), (a_all_m11, .inl (cI, n_a_all_m11, .inl b_a_all_m11)), ((am 9), .inr (8, [.ref a_all_m9, .int size_m9])), (a_all_m9, .inl (cI, n_a_all_m9, .inl b_a_all_m9))]) hr d_Mo_character_81 [2, 3, 4, 5, 6, 7, 8, 9, 0, 1] rfl (by decide) ⟨rfl, rfl⟩
        · replace h := it_f c11 h
          refine j_aload_n d_Mo_character_60 rfl 1 rfl ?_
          refine j_get ig_Mo rfl 2 rfl 9 (by decide) rfl m_1122 rfl d_Mo_character_61 ?_
          refine j_aload_n d_Mo_character_64 rfl 1 rfl ?_
          refine j_get ig_Mo rfl 2 rfl 11 (by decide) rfl m_1124 rfl d_Mo_character_65 ?_
          refine j_iload_n d_Mo_character_68 rfl 0 rfl ?_
          replace h := bd_s h
          obtain ⟨_, k12, h⟩ := h
          refine j_callV (n := 1) (As := [.int (b_a_all_m27 (Int32.toNatClampNeg p1))]) (rest := [.ref (am 9)]) (wr := [((am 9), .inr (8, [.ref a_all_m9, .int size_m9])), (a_all_m9, .inl (cI, n_a_all_m9, .inl b_a_all_m9)), (h0, .inr (9, moF am known_h0 0 wrong_h0 lastEnd_h0 at_h0 bad_h0 levels_h0 least_h0 found_h0)), ((am 24), .inr (8, [.ref a_all_m24, .int size_m24])), ((am 27), .inr (8, [.ref a_all_m27, .int size_m27])), (a_all_m27, .inl (cI, n_a_all_m27, .inl b_a_all_m27)), ((am 12), .inr (8, [.ref a_all_m12, .int size_m12])), (a_all_m12, .inl (cI, n_a_all_m12, .inl b_a_all_m12))]) (c_Nm_at l D cI cB cJ cS (am 11) a_all_m11 (b_a_all_m27 (Int32.toNatClampNeg p1)) size_m11 n_a_all_m11 b_a_all_m11  k12) k_Mo_214 (by decide) ⟨Nat.le_of_ble_eq_true rfl, Nat.le_of_ble_eq_true rfl⟩ rfl 0 rfl [8, 9] [0, 1, 2, 3, 4, 5, 6, 7] rfl (by decide) rfl (by decide) (by decide) rfl rfl (Nat.le_of_ble_eq_true rfl) d_Mo_character_69 ⟨Nat.le_of_ble_eq_true rfl, Nat.le_of_ble_eq_true rfl⟩ (fun v w hq => ?_)
          obtain ⟨rfl, rfl⟩ := hq
          refine j_norm (pc' := 72) (st' := [.int (b_a_all_m11 (Int32.toNatClampNeg (b_a_all_m27 (Int32.toNatClampNeg p1)))), .ref (am 9)]) (ws' := [((am 9), .inr (8, [.ref a_all_m9, .int size_m9])), (a_all_m9, .inl (cI, n_a_all_m9, .inl b_a_all_m9)), (h0, .inr (9, moF am known_h0 0 wrong_h0 lastEnd_h0 at_h0 bad_h0 levels_h0 least_h0 found_h0)), ((am 24), .inr (8, [.ref a_all_m24, .int size_m24])), ((am 27), .inr (8, [.ref a_all_m27, .int size_m27])), (a_all_m27, .inl (cI, n_a_all_m27, .inl b_a_all_m27)), ((am 12), .inr (8, [.ref a_all_m12, .int size_m12])), (a_all_m12, .inl (cI, n_a_all_m12, .inl b_a_all_m12)), ((am 11), .inr (8, [.ref a_all_m11, .int size_m11])), (a_all_m11, .inl (cI, n_a_all_m11, .inl b_a_all_m11))]) (cl' := 0) (sl' := 0) rfl rfl rfl rfl rfl rfl ?_
          refine j_iload_n d_Mo_character_72 rfl 3 rfl ?_
          refine j_iadd d_Mo_character_73 ?_
          replace h := bd_s h
          obtain ⟨_, k13, h⟩ := h
          refine j_callV (n := 1) (As := [.int ((b_a_all_m11 (Int32.toNatClampNeg (b_a_all_m27 (Int32.toNatClampNeg p1)))) + p2)]) (rest := []) (wr := [(h0, .inr (9, moF am known_h0 0 wrong_h0 lastEnd_h0 at_h0 bad_h0 levels_h0 least_h0 found_h0)), ((am 24), .inr (8, [.ref a_all_m24, .int size_m24])), ((am 27), .inr (8, [.ref a_all_m27, .int size_m27])), (a_all_m27, .inl (cI, n_a_all_m27, .inl b_a_all_m27)), ((am 12), .inr (8, [.ref a_all_m12, .int size_m12])), (a_all_m12, .inl (cI, n_a_all_m12, .inl b_a_all_m12)), ((am 11), .inr (8, [.ref a_all_m11, .int size_m11])), (a_all_m11, .inl (cI, n_a_all_m11, .inl b_a_all_m11))]) (c_Nm_at l D cI cB cJ cS (am 9) a_all_m9 ((b_a_all_m11 (Int32.toNatClampNeg (b_a_all_m27 (Int32.toNatClampNeg p1)))) + p2) size_m9 n_a_all_m9 b_a_all_m9  k13) k_Mo_214 (by decide) ⟨Nat.le_of_ble_eq_true rfl, Nat.le_of_ble_eq_true rfl⟩ rfl 0 rfl [0, 1] [2, 3, 4, 5, 6, 7, 8, 9] rfl (by decide) rfl (by decide) (by decide) rfl rfl (Nat.le_of_ble_eq_true rfl) d_Mo_character_74 ⟨Nat.le_of_ble_eq_true rfl, Nat.le_of_ble_eq_true rfl⟩ (fun v w hq => ?_)
          obtain ⟨rfl, rfl⟩ := hq
          refine j_norm (pc' := 77) (st' := [.int (b_a_all_m9 (Int32.toNatClampNeg ((b_a_all_m11 (Int32.toNatClampNeg (b_a_all_m27 (Int32.toNatClampNeg p1)))) + p2)))]) (ws' := [(h0, .inr (9, moF am known_h0 0 wrong_h0 lastEnd_h0 at_h0 bad_h0 levels_h0 least_h0 found_h0)), ((am 24), .inr (8, [.ref a_all_m24, .int size_m24])), ((am 27), .inr (8, [.ref a_all_m27, .int size_m27])), (a_all_m27, .inl (cI, n_a_all_m27, .inl b_a_all_m27)), ((am 12), .inr (8, [.ref a_all_m12, .int size_m12])), (a_all_m12, .inl (cI, n_a_all_m12, .inl b_a_all_m12)), ((am 11), .inr (8, [.ref a_all_m11, .int size_m11])), (a_all_m11, .inl (cI, n_a_all_m11, .inl b_a_all_m11)), ((am 9), .inr (8, [.ref a_all_m9, .int size_m9])), (a_all_m9, .inl (cI, n_a_all_m9, .inl b_a_all_m9))]) (cl' := 0) (sl' := 0) rfl rfl rfl rfl rfl rfl ?_
          refine j_goto (tgt := 81) d_Mo_character_77 (by decide) ?_
          replace h := Option.some.inj h
          subst h
          exact j_iret (w := [(h0, .inr (9, moF am known_h0 0 wrong_h0 lastEnd_h0 at_h0 bad_h0 levels_h0 least_h0 found_h0)), ((am 24), .inr (8, [.ref a_all_m24, .int size_m24])), ((am 27), .inr (8, [.ref a_all_m27, .int size_m27])), (a_all_m27, .inl (cI, n_a_all_m27, .inl b_a_all_m27)), ((am 12), .inr (8, [.ref a_all_m12, .int size_m12])), (a_all_m12, .inl (cI, n_a_all_m12, .inl b_a_all_m12)), ((am 11), .inr (8, [.ref a_all_m11, .int size_m11])), (a_all_m11, .inl (cI, n_a_all_m11, .inl b_a_all_m11)), ((am 9), .inr (8, [.ref a_all_m9, .int size_m9])), (a_all_m9, .inl (cI, n_a_all_m9, .inl b_a_all_m9))]) hr d_Mo_character_81 [0, 1, 2, 3, 4, 5, 6, 7, 8, 9] rfl (by decide) ⟨rfl, rfl⟩
    · replace h := it_f c6 h
      refine j_iconst (v := (-1)) d_Mo_character_24 (by decide) ?_
      replace h := Option.some.inj h
      subst h
      exact j_iret (w := [(h0, .inr (9, moF am known_h0 0 wrong_h0 lastEnd_h0 at_h0 bad_h0 levels_h0 least_h0 found_h0)), ((am 24), .inr (8, [.ref a_all_m24, .int size_m24])), ((am 27), .inr (8, [.ref a_all_m27, .int size_m27])), (a_all_m27, .inl (cI, n_a_all_m27, .inl b_a_all_m27)), ((am 12), .inr (8, [.ref a_all_m12, .int size_m12])), (a_all_m12, .inl (cI, n_a_all_m12, .inl b_a_all_m12)), ((am 11), .inr (8, [.ref a_all_m11, .int size_m11])), (a_all_m11, .inl (cI, n_a_all_m11, .inl b_a_all_m11)), ((am 9), .inr (8, [.ref a_all_m9, .int size_m9])), (a_all_m9, .inl (cI, n_a_all_m9, .inl b_a_all_m9))]) hr d_Mo_character_25 [6, 7, 8, 9, 0, 1, 2, 3, 4, 5] rfl (by decide) ⟨rfl, rfl⟩
noncomputable def F_Mo_say_2 (s1 : Nat) : Nat → Int32 → Int32 → Nat → (Nat → Int32) → Option ((Int32 × Nat × (Nat → Int32)) × Nat × Nat)
  | 0, _, _, _, _ => none
  | k_2 + 1, v2_2, f1_1_2, n2_2, b2_2 =>
    sin s1 (if (nI (gB s1).length) ≤ v2_2 then (some ((f1_1_2, n2_2, b2_2), 0, 0))
    else (sin s1 (inb v2_2 (gB s1).length (bw (F_Nm_add (sch s1 v2_2) f1_1_2 n2_2 b2_2) fun ⟨r6, r7⟩ =>
      F_Mo_say_2 s1  k_2 (v2_2 + 1) (f1_1_2 + 1) r6 r7))))
noncomputable def F_Mo_say (s1 : Nat) (known_h0 : Int32) (thrown_h0 : Int32) (wrong_h0 : Int32) (lastEnd_h0 : Int32) (at_h0 : Int32) (bad_h0 : Int32) (levels_h0 : Int32) (least_h0 : Int32) (found_h0 : Int32) (size_m38 : Int32) (n_a_all_m38 : Nat) (b_a_all_m38 : Nat → Int32) : Option ((Int32 × Nat × (Nat → Int32)) × Nat × Nat) :=
  F_Mo_say_2 s1  FU 0 size_m38 n_a_all_m38 b_a_all_m38
theorem d_Mo_say_0 : decode prog_12_method_86_code 0 = .ok (.iconst 0, 1) := by decide +kernel
theorem d_Mo_say_1 : decode prog_12_method_86_code 1 = .ok (.istore_n 2, 1) := by decide +kernel
theorem d_Mo_say_2 : decode prog_12_method_86_code 2 = .ok (.iload_n 2, 1) := by decide +kernel
theorem d_Mo_say_3 : decode prog_12_method_86_code 3 = .ok (.aload_n 1, 1) := by decide +kernel
theorem d_Mo_say_4 : decode prog_12_method_86_code 4 = .ok (.invokevirtual 231, 3) := by decide +kernel
theorem d_Mo_say_7 : decode prog_12_method_86_code 7 = .ok (.if_icmp .ge 21, 3) := by decide +kernel
theorem d_Mo_say_10 : decode prog_12_method_86_code 10 = .ok (.aload_n 0, 1) := by decide +kernel
theorem d_Mo_say_11 : decode prog_12_method_86_code 11 = .ok (.getfield 190, 3) := by decide +kernel
theorem d_Mo_say_14 : decode prog_12_method_86_code 14 = .ok (.aload_n 1, 1) := by decide +kernel
theorem d_Mo_say_15 : decode prog_12_method_86_code 15 = .ok (.iload_n 2, 1) := by decide +kernel
theorem d_Mo_say_16 : decode prog_12_method_86_code 16 = .ok (.invokevirtual 235, 3) := by decide +kernel
theorem d_Mo_say_19 : decode prog_12_method_86_code 19 = .ok (.invokevirtual 200, 3) := by decide +kernel
theorem d_Mo_say_22 : decode prog_12_method_86_code 22 = .ok (.iinc 2 1, 3) := by decide +kernel
theorem d_Mo_say_25 : decode prog_12_method_86_code 25 = .ok (.goto (-23), 3) := by decide +kernel
theorem d_Mo_say_28 : decode prog_12_method_86_code 28 = .ok (.return_, 1) := by decide +kernel
set_option maxHeartbeats 4000000 in
set_option maxRecDepth 100000 in
theorem L_Mo_say_2 (l : Launch) (D : va_G) (cI cB cJ cS : ClassId) (h0 : Nat) (am : Nat → Nat) (a_all_m38 : Nat) (s1 : Nat) (known_h0 : Int32) (thrown_h0 : Int32) (wrong_h0 : Int32) (lastEnd_h0 : Int32) (at_h0 : Int32) (bad_h0 : Int32) (levels_h0 : Int32) (least_h0 : Int32) (found_h0 : Int32) (size_m38 : Int32) (n_a_all_m38 : Nat) (b_a_all_m38 : Nat → Int32) (o_1_1 : Int32) (on_nq_1_0 : Nat) (ob_nq_1_0 : Nat → Int32) (mc ms : Nat) (p : Program) (e : Env) (s : State) (m : MethodId) (below : List Frame) (meth : Method) (c : Code) (hr : meth.sig.returnType = (Option.none : Option Jvm.ClassFile.FieldType)) (hnm : meth.name = y_Mo_say.name) : ∀ (k_2 : Nat) (q1_0_2 : Nat) (v2_2 : Int32) (f1_1_2 : Int32) (n2_2 : Nat) (b2_2 : Nat → Int32) (cl_2 sl_2 C_2 S_2 : Nat), F_Mo_say_2 s1  k_2 v2_2 f1_1_2 n2_2 b2_2 = some ((o_1_1, on_nq_1_0, ob_nq_1_0), C_2, S_2) → cl_2 + C_2 ≤ mc → sl_2 + S_2 ≤ ms → J (KxOf p l e { frames := 4, cells := mc, slots := ms, locals := 85 } s m [.ref h0, .ref (sA D s1)].toArray below meth c D (gT cI cB cJ cS) [(h0, .inr (9, moF am known_h0 thrown_h0 wrong_h0 lastEnd_h0 at_h0 bad_h0 levels_h0 least_h0 found_h0)), ((am 38), .inr (8, [.ref a_all_m38, .int size_m38])), (a_all_m38, .inl (cI, n_a_all_m38, .inl b_a_all_m38))] (fun v w => ∃ nq_1_0 : Nat, v = none ∧ w = [(h0, .inr (9, moF am known_h0 thrown_h0 wrong_h0 lastEnd_h0 at_h0 bad_h0 levels_h0 least_h0 found_h0)), ((am 38), .inr (8, [.ref nq_1_0, .int o_1_1])), (nq_1_0, .inl (cI, on_nq_1_0, .inl ob_nq_1_0))]) mc ms) prog_12_method_86_code 3 R_Mo 2 [(2, .int v2_2), (0, .ref h0), (1, .ref (sA D s1))] [] [(h0, .inr (9, moF am known_h0 thrown_h0 wrong_h0 lastEnd_h0 at_h0 bad_h0 levels_h0 least_h0 found_h0)), ((am 38), .inr (8, [.ref q1_0_2, .int f1_1_2])), (q1_0_2, .inl (cI, n2_2, .inl b2_2))] cl_2 sl_2 := by
  intro k_2
  induction k_2 with
  | zero => intro q1_0_2 v2_2 f1_1_2 n2_2 b2_2 cl_2 sl_2 C_2 S_2 h; rw [F_Mo_say_2] at h; cases h
  | succ k_2 ih_2 =>
    intro q1_0_2 v2_2 f1_1_2 n2_2 b2_2 cl_2 sl_2 C_2 S_2 h hC hS
    rw [F_Mo_say_2] at h
    refine j_iload_n d_Mo_say_2 rfl 0 rfl ?_
    refine j_aload_n d_Mo_say_3 rfl 2 rfl ?_
    replace h := sin_s h
    obtain ⟨i1, h⟩ := h
    refine j_len (i := s1) i1 k_Mo_231 ⟨Nat.le_of_ble_eq_true rfl, Nat.le_of_ble_eq_true rfl⟩ (Nat.le_of_ble_eq_true rfl) ⟨show cl_2 ≤ mc by omega, show sl_2 ≤ ms by omega⟩ d_Mo_say_4 ?_
    refine j_icmp_ge (tgt := 28) d_Mo_say_7 (by decide) (fun c3 => ?_) (fun c3 => ?_)
    · replace h := it_t c3 h
      replace h := lf_s h
      obtain ⟨h, e1, e2⟩ := h
      replace h := Prod.mk.inj h
      obtain ⟨h9, h⟩ := h
      subst h9
      replace h := Prod.mk.inj h
      obtain ⟨h9, h⟩ := h
      subst h9
      subst h
      refine j_widen (cl' := mc) (sl' := ms) (by omega) (by omega) ?_
      exact j_vret (w := [(h0, .inr (9, moF am known_h0 thrown_h0 wrong_h0 lastEnd_h0 at_h0 bad_h0 levels_h0 least_h0 found_h0)), ((am 38), .inr (8, [.ref q1_0_2, .int f1_1_2])), (q1_0_2, .inl (cI, n2_2, .inl b2_2))]) hr d_Mo_say_28 [0, 1, 2] rfl (by decide) ⟨q1_0_2, rfl, rfl⟩
    · replace h := it_f c3 h
      refine j_aload_n d_Mo_say_10 rfl 1 rfl ?_
      refine j_get ig_Mo rfl 0 rfl 38 (by decide) rfl m_1151 rfl d_Mo_say_11 ?_
      refine j_aload_n d_Mo_say_14 rfl 2 rfl ?_
      refine j_iload_n d_Mo_say_15 rfl 0 rfl ?_
      replace h := sin_s h
      obtain ⟨i4, h⟩ := h
      replace h := inb_s h
      obtain ⟨i5, h⟩ := h
      refine j_chr (i := s1) i4 i5 k_Mo_235 ⟨Nat.le_of_ble_eq_true rfl, Nat.le_of_ble_eq_true rfl⟩ (Nat.le_of_ble_eq_true rfl) ⟨show cl_2 ≤ mc by omega, show sl_2 ≤ ms by omega⟩ d_Mo_say_16 ?_
      replace h := bw_s h
      obtain ⟨⟨r6, r7⟩, C9, S10, C11, S12, k13, h, e1, e2⟩ := h
      replace hC : cl_2 + C9 + C11 ≤ mc := by omega
      replace hS : sl_2 + S10 + S12 ≤ ms := by omega
      clear e1 e2
      refine j_callV (n := 1) (As := [.int (sch s1 v2_2)]) (rest := []) (wr := [(h0, .inr (9, moF am known_h0 thrown_h0 wrong_h0 lastEnd_h0 at_h0 bad_h0 levels_h0 least_h0 found_h0))]) (c_Nm_add l D cI cB cJ cS (am 38) q1_0_2 (sch s1 v2_2) f1_1_2 n2_2 b2_2  r6 r7 C9 S10 k13) k_Mo_200 (by decide) ⟨Nat.le_of_ble_eq_true rfl, Nat.le_of_ble_eq_true rfl⟩ rfl 0 rfl [1, 2] [0] rfl (by decide) rfl (by decide) (by decide) rfl rfl (Nat.le_of_ble_eq_true rfl) d_Mo_say_19 ⟨show cl_2 + C9 ≤ mc by omega, show sl_2 + S10 ≤ ms by omega⟩ (fun v w hq => ?_)
      obtain ⟨q8, rfl, rfl⟩ := hq
      refine j_norm (pc' := 22) (st' := []) (ws' := [(h0, .inr (9, moF am known_h0 thrown_h0 wrong_h0 lastEnd_h0 at_h0 bad_h0 levels_h0 least_h0 found_h0)), ((am 38), .inr (8, [.ref q8, .int (f1_1_2 + 1)])), (q8, .inl (cI, r6, .inl r7))]) (cl' := cl_2 + C9) (sl' := sl_2 + S10) rfl rfl rfl rfl rfl rfl ?_
      refine j_iinc (v := v2_2 + 1) (lv' := [(2, .int (v2_2 + 1)), (0, .ref h0), (1, .ref (sA D s1))]) d_Mo_say_22 0 rfl rfl (by decide) rfl ?_
      refine j_goto (tgt := 2) d_Mo_say_25 (by decide) ?_
      refine j_sub (w := [(h0, .inr (9, moF am known_h0 thrown_h0 wrong_h0 lastEnd_h0 at_h0 bad_h0 levels_h0 least_h0 found_h0)), ((am 38), .inr (8, [.ref q8, .int (f1_1_2 + 1)])), (q8, .inl (cI, r6, .inl r7))]) (lv' := [(2, .int (v2_2 + 1)), (0, .ref h0), (1, .ref (sA D s1))]) [0, 1, 2] rfl (by decide) [0, 1, 2] rfl ?_
      exact ih_2 q8 (v2_2 + 1) (f1_1_2 + 1) r6 r7 (cl_2 + C9) (sl_2 + S10) C11 S12 h hC hS
set_option maxHeartbeats 4000000 in
set_option maxRecDepth 100000 in
theorem c_Mo_say (l : Launch) (D : va_G) (cI cB cJ cS : ClassId) (h0 : Nat) (am : Nat → Nat) (a_all_m38 : Nat) (s1 : Nat) (known_h0 : Int32) (thrown_h0 : Int32) (wrong_h0 : Int32) (lastEnd_h0 : Int32) (at_h0 : Int32) (bad_h0 : Int32) (levels_h0 : Int32) (least_h0 : Int32) (found_h0 : Int32) (size_m38 : Int32) (n_a_all_m38 : Nat) (b_a_all_m38 : Nat → Int32) (o_1_1 : Int32) (on_nq_1_0 : Nat) (ob_nq_1_0 : Nat → Int32) (mc ms : Nat) (h : F_Mo_say s1 known_h0 thrown_h0 wrong_h0 lastEnd_h0 at_h0 bad_h0 levels_h0 least_h0 found_h0 size_m38 n_a_all_m38 b_a_all_m38 = some ((o_1_1, on_nq_1_0, ob_nq_1_0), mc, ms)) : Ct l D (gT cI cB cJ cS) y_Mo_say prog_12_method_86_code 3 (Option.none : Option Jvm.ClassFile.FieldType) 4 85 mc ms [.ref h0, .ref (sA D s1)] [(h0, .inr (9, moF am known_h0 thrown_h0 wrong_h0 lastEnd_h0 at_h0 bad_h0 levels_h0 least_h0 found_h0)), ((am 38), .inr (8, [.ref a_all_m38, .int size_m38])), (a_all_m38, .inl (cI, n_a_all_m38, .inl b_a_all_m38))] (fun v w => ∃ nq_1_0 : Nat, v = none ∧ w = [(h0, .inr (9, moF am known_h0 thrown_h0 wrong_h0 lastEnd_h0 at_h0 bad_h0 levels_h0 least_h0 found_h0)), ((am 38), .inr (8, [.ref nq_1_0, .int o_1_1])), (nq_1_0, .inl (cI, on_nq_1_0, .inl ob_nq_1_0))]) := by
  refine Ct.mk (by decide) (Nat.le_of_ble_eq_true rfl) ?_
  intro p e s m below meth c hr hnm
  refine j_norm (pc' := 0) (lv' := [(0, .ref h0), (1, .ref (sA D s1))]) (st' := []) (ws' := [(h0, .inr (9, moF am known_h0 thrown_h0 wrong_h0 lastEnd_h0 at_h0 bad_h0 levels_h0 least_h0 found_h0)), ((am 38), .inr (8, [.ref a_all_m38, .int size_m38])), (a_all_m38, .inl (cI, n_a_all_m38, .inl b_a_all_m38))]) (cl' := 0) (sl' := 0) rfl rfl rfl rfl rfl rfl ?_
  unfold F_Mo_say at h
  have hC : 0 + mc ≤ mc := by omega
  have hS : 0 + ms ≤ ms := by omega
  refine j_iconst (v := 0) d_Mo_say_0 (by decide) ?_
  refine j_istore_n (lv' := [(2, .int 0), (0, .ref h0), (1, .ref (sA D s1))]) d_Mo_say_1 rfl (by decide) rfl ?_
  refine j_sub (w := [(h0, .inr (9, moF am known_h0 thrown_h0 wrong_h0 lastEnd_h0 at_h0 bad_h0 levels_h0 least_h0 found_h0)), ((am 38), .inr (8, [.ref a_all_m38, .int size_m38])), (a_all_m38, .inl (cI, n_a_all_m38, .inl b_a_all_m38))]) (lv' := [(2, .int 0), (0, .ref h0), (1, .ref (sA D s1))]) [0, 1, 2] rfl (by decide) [0, 1, 2] rfl ?_
  exact L_Mo_say_2 l D cI cB cJ cS h0 am a_all_m38 s1 known_h0 thrown_h0 wrong_h0 lastEnd_h0 at_h0 bad_h0 levels_h0 least_h0 found_h0 size_m38 n_a_all_m38 b_a_all_m38 o_1_1 on_nq_1_0 ob_nq_1_0 mc ms p e s m below meth c hr hnm FU a_all_m38 0 size_m38 n_a_all_m38 b_a_all_m38 0 0 mc ms h hC hS
noncomputable def F_Mo_sayToken_9 (p1 : Int32) (size_m7 : Int32) (n_a_all_m7 : Nat) (b_a_all_m7 : Nat → Int32) (size_m4 : Int32) (n_a_all_m4 : Nat) (b_a_all_m4 : Nat → Int32) : Nat → Int32 → Int32 → Nat → (Nat → Int32) → Option ((Int32 × Nat × (Nat → Int32)) × Nat × Nat)
  | 0, _, _, _, _ => none
  | k_9 + 1, v2_9, f5_1_9, n6_9, b6_9 =>
    Option.bind (F_Nm_at p1 size_m7 n_a_all_m7 b_a_all_m7) fun _ =>
    if (b_a_all_m7 (Int32.toNatClampNeg p1)) ≤ v2_9 then (some ((f5_1_9, n6_9, b6_9), 0, 0))
    else (Option.bind (F_Nm_at v2_9 size_m4 n_a_all_m4 b_a_all_m4) fun _ =>
      bw (F_Nm_add (b_a_all_m4 (Int32.toNatClampNeg v2_9)) f5_1_9 n6_9 b6_9) fun ⟨r4, r5⟩ =>
      F_Mo_sayToken_9 p1 size_m7 n_a_all_m7 b_a_all_m7 size_m4 n_a_all_m4 b_a_all_m4  k_9 (v2_9 + 1) (f5_1_9 + 1) r4 r5)
noncomputable def F_Mo_sayToken (p1 : Int32) (known_h0 : Int32) (thrown_h0 : Int32) (wrong_h0 : Int32) (lastEnd_h0 : Int32) (at_h0 : Int32) (bad_h0 : Int32) (levels_h0 : Int32) (least_h0 : Int32) (found_h0 : Int32) (size_m6 : Int32) (n_a_all_m6 : Nat) (b_a_all_m6 : Nat → Int32) (size_m7 : Int32) (n_a_all_m7 : Nat) (b_a_all_m7 : Nat → Int32) (size_m4 : Int32) (n_a_all_m4 : Nat) (b_a_all_m4 : Nat → Int32) (size_m38 : Int32) (n_a_all_m38 : Nat) (b_a_all_m38 : Nat → Int32) : Option ((Int32 × Nat × (Nat → Int32)) × Nat × Nat) :=
  Option.bind (F_Nm_at p1 size_m6 n_a_all_m6 b_a_all_m6) fun _ =>
  F_Mo_sayToken_9 p1 size_m7 n_a_all_m7 b_a_all_m7 size_m4 n_a_all_m4 b_a_all_m4  FU (b_a_all_m6 (Int32.toNatClampNeg p1)) size_m38 n_a_all_m38 b_a_all_m38
theorem d_Mo_sayToken_0 : decode prog_12_method_87_code 0 = .ok (.aload_n 0, 1) := by decide +kernel
theorem d_Mo_sayToken_1 : decode prog_12_method_87_code 1 = .ok (.getfield 117, 3) := by decide +kernel
theorem d_Mo_sayToken_4 : decode prog_12_method_87_code 4 = .ok (.iload_n 1, 1) := by decide +kernel
theorem d_Mo_sayToken_5 : decode prog_12_method_87_code 5 = .ok (.invokevirtual 214, 3) := by decide +kernel
theorem d_Mo_sayToken_8 : decode prog_12_method_87_code 8 = .ok (.istore_n 2, 1) := by decide +kernel
theorem d_Mo_sayToken_9 : decode prog_12_method_87_code 9 = .ok (.iload_n 2, 1) := by decide +kernel
theorem d_Mo_sayToken_10 : decode prog_12_method_87_code 10 = .ok (.aload_n 0, 1) := by decide +kernel
theorem d_Mo_sayToken_11 : decode prog_12_method_87_code 11 = .ok (.getfield 120, 3) := by decide +kernel
theorem d_Mo_sayToken_14 : decode prog_12_method_87_code 14 = .ok (.iload_n 1, 1) := by decide +kernel
theorem d_Mo_sayToken_15 : decode prog_12_method_87_code 15 = .ok (.invokevirtual 214, 3) := by decide +kernel
theorem d_Mo_sayToken_18 : decode prog_12_method_87_code 18 = .ok (.if_icmp .ge 24, 3) := by decide +kernel
theorem d_Mo_sayToken_21 : decode prog_12_method_87_code 21 = .ok (.aload_n 0, 1) := by decide +kernel
theorem d_Mo_sayToken_22 : decode prog_12_method_87_code 22 = .ok (.getfield 190, 3) := by decide +kernel
theorem d_Mo_sayToken_25 : decode prog_12_method_87_code 25 = .ok (.aload_n 0, 1) := by decide +kernel
theorem d_Mo_sayToken_26 : decode prog_12_method_87_code 26 = .ok (.getfield 111, 3) := by decide +kernel
theorem d_Mo_sayToken_29 : decode prog_12_method_87_code 29 = .ok (.iload_n 2, 1) := by decide +kernel
theorem d_Mo_sayToken_30 : decode prog_12_method_87_code 30 = .ok (.invokevirtual 214, 3) := by decide +kernel
theorem d_Mo_sayToken_33 : decode prog_12_method_87_code 33 = .ok (.invokevirtual 200, 3) := by decide +kernel
theorem d_Mo_sayToken_36 : decode prog_12_method_87_code 36 = .ok (.iinc 2 1, 3) := by decide +kernel
theorem d_Mo_sayToken_39 : decode prog_12_method_87_code 39 = .ok (.goto (-30), 3) := by decide +kernel
theorem d_Mo_sayToken_42 : decode prog_12_method_87_code 42 = .ok (.return_, 1) := by decide +kernel
set_option maxHeartbeats 4000000 in
set_option maxRecDepth 100000 in
theorem L_Mo_sayToken_9 (l : Launch) (D : va_G) (cI cB cJ cS : ClassId) (h0 : Nat) (am : Nat → Nat) (a_all_m6 : Nat) (a_all_m7 : Nat) (a_all_m4 : Nat) (a_all_m38 : Nat) (p1 : Int32) (known_h0 : Int32) (thrown_h0 : Int32) (wrong_h0 : Int32) (lastEnd_h0 : Int32) (at_h0 : Int32) (bad_h0 : Int32) (levels_h0 : Int32) (least_h0 : Int32) (found_h0 : Int32) (size_m6 : Int32) (n_a_all_m6 : Nat) (b_a_all_m6 : Nat → Int32) (size_m7 : Int32) (n_a_all_m7 : Nat) (b_a_all_m7 : Nat → Int32) (size_m4 : Int32) (n_a_all_m4 : Nat) (b_a_all_m4 : Nat → Int32) (size_m38 : Int32) (n_a_all_m38 : Nat) (b_a_all_m38 : Nat → Int32) (o_7_1 : Int32) (on_nq_7_0 : Nat) (ob_nq_7_0 : Nat → Int32) (mc ms : Nat) (p : Program) (e : Env) (s : State) (m : MethodId) (below : List Frame) (meth : Method) (c : Code) (hr : meth.sig.returnType = (Option.none : Option Jvm.ClassFile.FieldType)) (hnm : meth.name = y_Mo_sayToken.name) : ∀ (k_9 : Nat) (q5_0_9 : Nat) (v2_9 : Int32) (f5_1_9 : Int32) (n6_9 : Nat) (b6_9 : Nat → Int32) (cl_9 sl_9 C_9 S_9 : Nat), F_Mo_sayToken_9 p1 size_m7 n_a_all_m7 b_a_all_m7 size_m4 n_a_all_m4 b_a_all_m4  k_9 v2_9 f5_1_9 n6_9 b6_9 = some ((o_7_1, on_nq_7_0, ob_nq_7_0), C_9, S_9) → cl_9 + C_9 ≤ mc → sl_9 + S_9 ≤ ms → J (KxOf p l e { frames := 1, cells := mc, slots := ms, locals := 23 } s m [.ref h0, .int p1].toArray below meth c D (gT cI cB cJ cS) [(h0, .inr (9, moF am known_h0 thrown_h0 wrong_h0 lastEnd_h0 at_h0 bad_h0 levels_h0 least_h0 found_h0)), ((am 6), .inr (8, [.ref a_all_m6, .int size_m6])), (a_all_m6, .inl (cI, n_a_all_m6, .inl b_a_all_m6)), ((am 7), .inr (8, [.ref a_all_m7, .int size_m7])), (a_all_m7, .inl (cI, n_a_all_m7, .inl b_a_all_m7)), ((am 4), .inr (8, [.ref a_all_m4, .int size_m4])), (a_all_m4, .inl (cI, n_a_all_m4, .inl b_a_all_m4)), ((am 38), .inr (8, [.ref a_all_m38, .int size_m38])), (a_all_m38, .inl (cI, n_a_all_m38, .inl b_a_all_m38))] (fun v w => ∃ nq_7_0 : Nat, v = none ∧ w = [(h0, .inr (9, moF am known_h0 thrown_h0 wrong_h0 lastEnd_h0 at_h0 bad_h0 levels_h0 least_h0 found_h0)), ((am 6), .inr (8, [.ref a_all_m6, .int size_m6])), (a_all_m6, .inl (cI, n_a_all_m6, .inl b_a_all_m6)), ((am 7), .inr (8, [.ref a_all_m7, .int size_m7])), (a_all_m7, .inl (cI, n_a_all_m7, .inl b_a_all_m7)), ((am 4), .inr (8, [.ref a_all_m4, .int size_m4])), (a_all_m4, .inl (cI, n_a_all_m4, .inl b_a_all_m4)), ((am 38), .inr (8, [.ref nq_7_0, .int o_7_1])), (nq_7_0, .inl (cI, on_nq_7_0, .inl ob_nq_7_0))]) mc ms) prog_12_method_87_code 3 R_Mo 9 [(2, .int v2_9), (0, .ref h0), (1, .int p1)] [] [(h0, .inr (9, moF am known_h0 thrown_h0 wrong_h0 lastEnd_h0 at_h0 bad_h0 levels_h0 least_h0 found_h0)), ((am 7), .inr (8, [.ref a_all_m7, .int size_m7])), (a_all_m7, .inl (cI, n_a_all_m7, .inl b_a_all_m7)), ((am 4), .inr (8, [.ref a_all_m4, .int size_m4])), (a_all_m4, .inl (cI, n_a_all_m4, .inl b_a_all_m4)), ((am 38), .inr (8, [.ref q5_0_9, .int f5_1_9])), (q5_0_9, .inl (cI, n6_9, .inl b6_9)), ((am 6), .inr (8, [.ref a_all_m6, .int size_m6])), (a_all_m6, .inl (cI, n_a_all_m6, .inl b_a_all_m6))] cl_9 sl_9 := by
  intro k_9
  induction k_9 with
  | zero => intro q5_0_9 v2_9 f5_1_9 n6_9 b6_9 cl_9 sl_9 C_9 S_9 h; rw [F_Mo_sayToken_9] at h; cases h
  | succ k_9 ih_9 =>
    intro q5_0_9 v2_9 f5_1_9 n6_9 b6_9 cl_9 sl_9 C_9 S_9 h hC hS
    rw [F_Mo_sayToken_9] at h
    refine j_iload_n d_Mo_sayToken_9 rfl 0 rfl ?_
    refine j_aload_n d_Mo_sayToken_10 rfl 1 rfl ?_
    refine j_get ig_Mo rfl 0 rfl 7 (by decide) rfl m_1120 rfl d_Mo_sayToken_11 ?_
    refine j_iload_n d_Mo_sayToken_14 rfl 2 rfl ?_
    replace h := bd_s h
    obtain ⟨_, k1, h⟩ := h
    refine j_callV (n := 1) (As := [.int p1]) (rest := [.int v2_9]) (wr := [(h0, .inr (9, moF am known_h0 thrown_h0 wrong_h0 lastEnd_h0 at_h0 bad_h0 levels_h0 least_h0 found_h0)), ((am 4), .inr (8, [.ref a_all_m4, .int size_m4])), (a_all_m4, .inl (cI, n_a_all_m4, .inl b_a_all_m4)), ((am 38), .inr (8, [.ref q5_0_9, .int f5_1_9])), (q5_0_9, .inl (cI, n6_9, .inl b6_9)), ((am 6), .inr (8, [.ref a_all_m6, .int size_m6])), (a_all_m6, .inl (cI, n_a_all_m6, .inl b_a_all_m6))]) (c_Nm_at l D cI cB cJ cS (am 7) a_all_m7 p1 size_m7 n_a_all_m7 b_a_all_m7  k1) k_Mo_214 (by decide) ⟨Nat.le_of_ble_eq_true rfl, Nat.le_of_ble_eq_true rfl⟩ rfl 0 rfl [1, 2] [0, 3, 4, 5, 6, 7, 8] rfl (by decide) rfl (by decide) (by decide) rfl rfl (Nat.le_of_ble_eq_true rfl) d_Mo_sayToken_15 ⟨show cl_9 + 0 ≤ mc by omega, show sl_9 + 0 ≤ ms by omega⟩ (fun v w hq => ?_)
    obtain ⟨rfl, rfl⟩ := hq
    refine j_norm (pc' := 18) (st' := [.int (b_a_all_m7 (Int32.toNatClampNeg p1)), .int v2_9]) (ws' := [(h0, .inr (9, moF am known_h0 thrown_h0 wrong_h0 lastEnd_h0 at_h0 bad_h0 levels_h0 least_h0 found_h0)), ((am 4), .inr (8, [.ref a_all_m4, .int size_m4])), (a_all_m4, .inl (cI, n_a_all_m4, .inl b_a_all_m4)), ((am 38), .inr (8, [.ref q5_0_9, .int f5_1_9])), (q5_0_9, .inl (cI, n6_9, .inl b6_9)), ((am 6), .inr (8, [.ref a_all_m6, .int size_m6])), (a_all_m6, .inl (cI, n_a_all_m6, .inl b_a_all_m6)), ((am 7), .inr (8, [.ref a_all_m7, .int size_m7])), (a_all_m7, .inl (cI, n_a_all_m7, .inl b_a_all_m7))]) (cl' := cl_9) (sl' := sl_9) rfl rfl rfl rfl rfl rfl ?_
    refine j_icmp_ge (tgt := 42) d_Mo_sayToken_18 (by decide) (fun c2 => ?_) (fun c2 => ?_)
    · replace h := it_t c2 h
      replace h := lf_s h
      obtain ⟨h, e1, e2⟩ := h
      replace h := Prod.mk.inj h
      obtain ⟨h9, h⟩ := h
      subst h9
      replace h := Prod.mk.inj h
      obtain ⟨h9, h⟩ := h
      subst h9
      subst h
      refine j_widen (cl' := mc) (sl' := ms) (by omega) (by omega) ?_
      exact j_vret (w := [(h0, .inr (9, moF am known_h0 thrown_h0 wrong_h0 lastEnd_h0 at_h0 bad_h0 levels_h0 least_h0 found_h0)), ((am 6), .inr (8, [.ref a_all_m6, .int size_m6])), (a_all_m6, .inl (cI, n_a_all_m6, .inl b_a_all_m6)), ((am 7), .inr (8, [.ref a_all_m7, .int size_m7])), (a_all_m7, .inl (cI, n_a_all_m7, .inl b_a_all_m7)), ((am 4), .inr (8, [.ref a_all_m4, .int size_m4])), (a_all_m4, .inl (cI, n_a_all_m4, .inl b_a_all_m4)), ((am 38), .inr (8, [.ref q5_0_9, .int f5_1_9])), (q5_0_9, .inl (cI, n6_9, .inl b6_9))]) hr d_Mo_sayToken_42 [0, 5, 6, 7, 8, 1, 2, 3, 4] rfl (by decide) ⟨q5_0_9, rfl, rfl⟩
    · replace h := it_f c2 h
      refine j_aload_n d_Mo_sayToken_21 rfl 1 rfl ?_
      refine j_get ig_Mo rfl 0 rfl 38 (by decide) rfl m_1151 rfl d_Mo_sayToken_22 ?_
      refine j_aload_n d_Mo_sayToken_25 rfl 1 rfl ?_
      refine j_get ig_Mo rfl 0 rfl 4 (by decide) rfl m_1117 rfl d_Mo_sayToken_26 ?_
      refine j_iload_n d_Mo_sayToken_29 rfl 0 rfl ?_
      replace h := bd_s h
      obtain ⟨_, k3, h⟩ := h
      refine j_callV (n := 1) (As := [.int v2_9]) (rest := [.ref (am 38)]) (wr := [(h0, .inr (9, moF am known_h0 thrown_h0 wrong_h0 lastEnd_h0 at_h0 bad_h0 levels_h0 least_h0 found_h0)), ((am 38), .inr (8, [.ref q5_0_9, .int f5_1_9])), (q5_0_9, .inl (cI, n6_9, .inl b6_9)), ((am 6), .inr (8, [.ref a_all_m6, .int size_m6])), (a_all_m6, .inl (cI, n_a_all_m6, .inl b_a_all_m6)), ((am 7), .inr (8, [.ref a_all_m7, .int size_m7])), (a_all_m7, .inl (cI, n_a_all_m7, .inl b_a_all_m7))]) (c_Nm_at l D cI cB cJ cS (am 4) a_all_m4 v2_9 size_m4 n_a_all_m4 b_a_all_m4  k3) k_Mo_214 (by decide) ⟨Nat.le_of_ble_eq_true rfl, Nat.le_of_ble_eq_true rfl⟩ rfl 0 rfl [1, 2] [0, 3, 4, 5, 6, 7, 8] rfl (by decide) rfl (by decide) (by decide) rfl rfl (Nat.le_of_ble_eq_true rfl) d_Mo_sayToken_30 ⟨show cl_9 + 0 ≤ mc by omega, show sl_9 + 0 ≤ ms by omega⟩ (fun v w hq => ?_)
      obtain ⟨rfl, rfl⟩ := hq
      refine j_norm (pc' := 33) (st' := [.int (b_a_all_m4 (Int32.toNatClampNeg v2_9)), .ref (am 38)]) (ws' := [(h0, .inr (9, moF am known_h0 thrown_h0 wrong_h0 lastEnd_h0 at_h0 bad_h0 levels_h0 least_h0 found_h0)), ((am 38), .inr (8, [.ref q5_0_9, .int f5_1_9])), (q5_0_9, .inl (cI, n6_9, .inl b6_9)), ((am 6), .inr (8, [.ref a_all_m6, .int size_m6])), (a_all_m6, .inl (cI, n_a_all_m6, .inl b_a_all_m6)), ((am 7), .inr (8, [.ref a_all_m7, .int size_m7])), (a_all_m7, .inl (cI, n_a_all_m7, .inl b_a_all_m7)), ((am 4), .inr (8, [.ref a_all_m4, .int size_m4])), (a_all_m4, .inl (cI, n_a_all_m4, .inl b_a_all_m4))]) (cl' := cl_9) (sl' := sl_9) rfl rfl rfl rfl rfl rfl ?_
      replace h := bw_s h
      obtain ⟨⟨r4, r5⟩, C7, S8, C9, S10, k11, h, e1, e2⟩ := h
      replace hC : cl_9 + C7 + C9 ≤ mc := by omega
      replace hS : sl_9 + S8 + S10 ≤ ms := by omega
      clear e1 e2
      refine j_callV (n := 1) (As := [.int (b_a_all_m4 (Int32.toNatClampNeg v2_9))]) (rest := []) (wr := [(h0, .inr (9, moF am known_h0 thrown_h0 wrong_h0 lastEnd_h0 at_h0 bad_h0 levels_h0 least_h0 found_h0)), ((am 6), .inr (8, [.ref a_all_m6, .int size_m6])), (a_all_m6, .inl (cI, n_a_all_m6, .inl b_a_all_m6)), ((am 7), .inr (8, [.ref a_all_m7, .int size_m7])), (a_all_m7, .inl (cI, n_a_all_m7, .inl b_a_all_m7)), ((am 4), .inr (8, [.ref a_all_m4, .int size_m4])), (a_all_m4, .inl (cI, n_a_all_m4, .inl b_a_all_m4))]) (c_Nm_add l D cI cB cJ cS (am 38) q5_0_9 (b_a_all_m4 (Int32.toNatClampNeg v2_9)) f5_1_9 n6_9 b6_9  r4 r5 C7 S8 k11) k_Mo_200 (by decide) ⟨Nat.le_of_ble_eq_true rfl, Nat.le_of_ble_eq_true rfl⟩ rfl 0 rfl [1, 2] [0, 3, 4, 5, 6, 7, 8] rfl (by decide) rfl (by decide) (by decide) rfl rfl (Nat.le_of_ble_eq_true rfl) d_Mo_sayToken_33 ⟨show cl_9 + C7 ≤ mc by omega, show sl_9 + S8 ≤ ms by omega⟩ (fun v w hq => ?_)
      obtain ⟨q6, rfl, rfl⟩ := hq
      refine j_norm (pc' := 36) (st' := []) (ws' := [(h0, .inr (9, moF am known_h0 thrown_h0 wrong_h0 lastEnd_h0 at_h0 bad_h0 levels_h0 least_h0 found_h0)), ((am 6), .inr (8, [.ref a_all_m6, .int size_m6])), (a_all_m6, .inl (cI, n_a_all_m6, .inl b_a_all_m6)), ((am 7), .inr (8, [.ref a_all_m7, .int size_m7])), (a_all_m7, .inl (cI, n_a_all_m7, .inl b_a_all_m7)), ((am 4), .inr (8, [.ref a_all_m4, .int size_m4])), (a_all_m4, .inl (cI, n_a_all_m4, .inl b_a_all_m4)), ((am 38), .inr (8, [.ref q6, .int (f5_1_9 + 1)])), (q6, .inl (cI, r4, .inl r5))]) (cl' := cl_9 + C7) (sl' := sl_9 + S8) rfl rfl rfl rfl rfl rfl ?_
      refine j_iinc (v := v2_9 + 1) (lv' := [(2, .int (v2_9 + 1)), (0, .ref h0), (1, .int p1)]) d_Mo_sayToken_36 0 rfl rfl (by decide) rfl ?_
      refine j_goto (tgt := 9) d_Mo_sayToken_39 (by decide) ?_
      refine j_sub (w := [(h0, .inr (9, moF am known_h0 thrown_h0 wrong_h0 lastEnd_h0 at_h0 bad_h0 levels_h0 least_h0 found_h0)), ((am 7), .inr (8, [.ref a_all_m7, .int size_m7])), (a_all_m7, .inl (cI, n_a_all_m7, .inl b_a_all_m7)), ((am 4), .inr (8, [.ref a_all_m4, .int size_m4])), (a_all_m4, .inl (cI, n_a_all_m4, .inl b_a_all_m4)), ((am 38), .inr (8, [.ref q6, .int (f5_1_9 + 1)])), (q6, .inl (cI, r4, .inl r5)), ((am 6), .inr (8, [.ref a_all_m6, .int size_m6])), (a_all_m6, .inl (cI, n_a_all_m6, .inl b_a_all_m6))]) (lv' := [(2, .int (v2_9 + 1)), (0, .ref h0), (1, .int p1)]) [0, 3, 4, 5, 6, 7, 8, 1, 2] rfl (by decide) [0, 1, 2] rfl ?_
      exact ih_9 q6 (v2_9 + 1) (f5_1_9 + 1) r4 r5 (cl_9 + C7) (sl_9 + S8) C9 S10 h hC hS
set_option maxHeartbeats 4000000 in
set_option maxRecDepth 100000 in
theorem c_Mo_sayToken (l : Launch) (D : va_G) (cI cB cJ cS : ClassId) (h0 : Nat) (am : Nat → Nat) (a_all_m6 : Nat) (a_all_m7 : Nat) (a_all_m4 : Nat) (a_all_m38 : Nat) (p1 : Int32) (known_h0 : Int32) (thrown_h0 : Int32) (wrong_h0 : Int32) (lastEnd_h0 : Int32) (at_h0 : Int32) (bad_h0 : Int32) (levels_h0 : Int32) (least_h0 : Int32) (found_h0 : Int32) (size_m6 : Int32) (n_a_all_m6 : Nat) (b_a_all_m6 : Nat → Int32) (size_m7 : Int32) (n_a_all_m7 : Nat) (b_a_all_m7 : Nat → Int32) (size_m4 : Int32) (n_a_all_m4 : Nat) (b_a_all_m4 : Nat → Int32) (size_m38 : Int32) (n_a_all_m38 : Nat) (b_a_all_m38 : Nat → Int32) (o_7_1 : Int32) (on_nq_7_0 : Nat) (ob_nq_7_0 : Nat → Int32) (mc ms : Nat) (h : F_Mo_sayToken p1 known_h0 thrown_h0 wrong_h0 lastEnd_h0 at_h0 bad_h0 levels_h0 least_h0 found_h0 size_m6 n_a_all_m6 b_a_all_m6 size_m7 n_a_all_m7 b_a_all_m7 size_m4 n_a_all_m4 b_a_all_m4 size_m38 n_a_all_m38 b_a_all_m38 = some ((o_7_1, on_nq_7_0, ob_nq_7_0), mc, ms)) : Ct l D (gT cI cB cJ cS) y_Mo_sayToken prog_12_method_87_code 3 (Option.none : Option Jvm.ClassFile.FieldType) 1 23 mc ms [.ref h0, .int p1] [(h0, .inr (9, moF am known_h0 thrown_h0 wrong_h0 lastEnd_h0 at_h0 bad_h0 levels_h0 least_h0 found_h0)), ((am 6), .inr (8, [.ref a_all_m6, .int size_m6])), (a_all_m6, .inl (cI, n_a_all_m6, .inl b_a_all_m6)), ((am 7), .inr (8, [.ref a_all_m7, .int size_m7])), (a_all_m7, .inl (cI, n_a_all_m7, .inl b_a_all_m7)), ((am 4), .inr (8, [.ref a_all_m4, .int size_m4])), (a_all_m4, .inl (cI, n_a_all_m4, .inl b_a_all_m4)), ((am 38), .inr (8, [.ref a_all_m38, .int size_m38])), (a_all_m38, .inl (cI, n_a_all_m38, .inl b_a_all_m38))] (fun v w => ∃ nq_7_0 : Nat, v = none ∧ w = [(h0, .inr (9, moF am known_h0 thrown_h0 wrong_h0 lastEnd_h0 at_h0 bad_h0 levels_h0 least_h0 found_h0)), ((am 6), .inr (8, [.ref a_all_m6, .int size_m6])), (a_all_m6, .inl (cI, n_a_all_m6, .inl b_a_all_m6)), ((am 7), .inr (8, [.ref a_all_m7, .int size_m7])), (a_all_m7, .inl (cI, n_a_all_m7, .inl b_a_all_m7)), ((am 4), .inr (8, [.ref a_all_m4, .int size_m4])), (a_all_m4, .inl (cI, n_a_all_m4, .inl b_a_all_m4)), ((am 38), .inr (8, [.ref nq_7_0, .int o_7_1])), (nq_7_0, .inl (cI, on_nq_7_0, .inl ob_nq_7_0))]) := by
  refine Ct.mk (by decide) (Nat.le_of_ble_eq_true rfl) ?_
  intro p e s m below meth c hr hnm
  refine j_norm (pc' := 0) (lv' := [(0, .ref h0), (1, .int p1)]) (st' := []) (ws' := [(h0, .inr (9, moF am known_h0 thrown_h0 wrong_h0 lastEnd_h0 at_h0 bad_h0 levels_h0 least_h0 found_h0)), ((am 6), .inr (8, [.ref a_all_m6, .int size_m6])), (a_all_m6, .inl (cI, n_a_all_m6, .inl b_a_all_m6)), ((am 7), .inr (8, [.ref a_all_m7, .int size_m7])), (a_all_m7, .inl (cI, n_a_all_m7, .inl b_a_all_m7)), ((am 4), .inr (8, [.ref a_all_m4, .int size_m4])), (a_all_m4, .inl (cI, n_a_all_m4, .inl b_a_all_m4)), ((am 38), .inr (8, [.ref a_all_m38, .int size_m38])), (a_all_m38, .inl (cI, n_a_all_m38, .inl b_a_all_m38))]) (cl' := 0) (sl' := 0) rfl rfl rfl rfl rfl rfl ?_
  unfold F_Mo_sayToken at h
  have hC : 0 + mc ≤ mc := by omega
  have hS : 0 + ms ≤ ms := by omega
  refine j_aload_n d_Mo_sayToken_0 rfl 0 rfl ?_
  refine j_get ig_Mo rfl 0 rfl 6 (by decide) rfl m_1119 rfl d_Mo_sayToken_1 ?_
  refine j_iload_n d_Mo_sayToken_4 rfl 1 rfl ?_
  replace h := bd_s h
  obtain ⟨_, k12, h⟩ := h
  refine j_callV (n := 1) (As := [.int p1]) (rest := []) (wr := [(h0, .inr (9, moF am known_h0 thrown_h0 wrong_h0 lastEnd_h0 at_h0 bad_h0 levels_h0 least_h0 found_h0)), ((am 7), .inr (8, [.ref a_all_m7, .int size_m7])), (a_all_m7, .inl (cI, n_a_all_m7, .inl b_a_all_m7)), ((am 4), .inr (8, [.ref a_all_m4, .int size_m4])), (a_all_m4, .inl (cI, n_a_all_m4, .inl b_a_all_m4)), ((am 38), .inr (8, [.ref a_all_m38, .int size_m38])), (a_all_m38, .inl (cI, n_a_all_m38, .inl b_a_all_m38))]) (c_Nm_at l D cI cB cJ cS (am 6) a_all_m6 p1 size_m6 n_a_all_m6 b_a_all_m6  k12) k_Mo_214 (by decide) ⟨Nat.le_of_ble_eq_true rfl, Nat.le_of_ble_eq_true rfl⟩ rfl 0 rfl [1, 2] [0, 3, 4, 5, 6, 7, 8] rfl (by decide) rfl (by decide) (by decide) rfl rfl (Nat.le_of_ble_eq_true rfl) d_Mo_sayToken_5 ⟨show 0 + 0 ≤ mc by omega, show 0 + 0 ≤ ms by omega⟩ (fun v w hq => ?_)
  obtain ⟨rfl, rfl⟩ := hq
  refine j_norm (pc' := 8) (st' := [.int (b_a_all_m6 (Int32.toNatClampNeg p1))]) (ws' := [(h0, .inr (9, moF am known_h0 thrown_h0 wrong_h0 lastEnd_h0 at_h0 bad_h0 levels_h0 least_h0 found_h0)), ((am 7), .inr (8, [.ref a_all_m7, .int size_m7])), (a_all_m7, .inl (cI, n_a_all_m7, .inl b_a_all_m7)), ((am 4), .inr (8, [.ref a_all_m4, .int size_m4])), (a_all_m4, .inl (cI, n_a_all_m4, .inl b_a_all_m4)), ((am 38), .inr (8, [.ref a_all_m38, .int size_m38])), (a_all_m38, .inl (cI, n_a_all_m38, .inl b_a_all_m38)), ((am 6), .inr (8, [.ref a_all_m6, .int size_m6])), (a_all_m6, .inl (cI, n_a_all_m6, .inl b_a_all_m6))]) (cl' := 0) (sl' := 0) rfl rfl rfl rfl rfl rfl ?_
  refine j_istore_n (lv' := [(2, .int (b_a_all_m6 (Int32.toNatClampNeg p1))), (0, .ref h0), (1, .int p1)]) d_Mo_sayToken_8 rfl (by decide) rfl ?_
  refine j_sub (w := [(h0, .inr (9, moF am known_h0 thrown_h0 wrong_h0 lastEnd_h0 at_h0 bad_h0 levels_h0 least_h0 found_h0)), ((am 7), .inr (8, [.ref a_all_m7, .int size_m7])), (a_all_m7, .inl (cI, n_a_all_m7, .inl b_a_all_m7)), ((am 4), .inr (8, [.ref a_all_m4, .int size_m4])), (a_all_m4, .inl (cI, n_a_all_m4, .inl b_a_all_m4)), ((am 38), .inr (8, [.ref a_all_m38, .int size_m38])), (a_all_m38, .inl (cI, n_a_all_m38, .inl b_a_all_m38)), ((am 6), .inr (8, [.ref a_all_m6, .int size_m6])), (a_all_m6, .inl (cI, n_a_all_m6, .inl b_a_all_m6))]) (lv' := [(2, .int (b_a_all_m6 (Int32.toNatClampNeg p1))), (0, .ref h0), (1, .int p1)]) [0, 1, 2, 3, 4, 5, 6, 7, 8] rfl (by decide) [0, 1, 2] rfl ?_
  exact L_Mo_sayToken_9 l D cI cB cJ cS h0 am a_all_m6 a_all_m7 a_all_m4 a_all_m38 p1 known_h0 thrown_h0 wrong_h0 lastEnd_h0 at_h0 bad_h0 levels_h0 least_h0 found_h0 size_m6 n_a_all_m6 b_a_all_m6 size_m7 n_a_all_m7 b_a_all_m7 size_m4 n_a_all_m4 b_a_all_m4 size_m38 n_a_all_m38 b_a_all_m38 o_7_1 on_nq_7_0 ob_nq_7_0 mc ms p e s m below meth c hr hnm FU a_all_m38 (b_a_all_m6 (Int32.toNatClampNeg p1)) size_m38 n_a_all_m38 b_a_all_m38 0 0 mc ms h hC hS
noncomputable def F_Mo_indent_2 (p1 : Int32) (known_h0 : Int32) (thrown_h0 : Int32) (wrong_h0 : Int32) (lastEnd_h0 : Int32) (at_h0 : Int32) (bad_h0 : Int32) (levels_h0 : Int32) (least_h0 : Int32) (found_h0 : Int32) : Nat → Int32 → Int32 → Nat → (Nat → Int32) → Option ((Int32 × Nat × (Nat → Int32)) × Nat × Nat)
  | 0, _, _, _, _ => none
  | k_2 + 1, v2_2, f1_1_2, n2_2, b2_2 =>
    if p1 ≤ v2_2 then (some ((f1_1_2, n2_2, b2_2), 0, 0))
    else (bw (F_Mo_say 81 known_h0 thrown_h0 wrong_h0 lastEnd_h0 at_h0 bad_h0 levels_h0 least_h0 found_h0 f1_1_2 n2_2 b2_2) fun ⟨r2, r3, r4⟩ =>
      F_Mo_indent_2 p1 known_h0 thrown_h0 wrong_h0 lastEnd_h0 at_h0 bad_h0 levels_h0 least_h0 found_h0  k_2 (v2_2 + 1) r2 r3 r4)
noncomputable def F_Mo_indent (p1 : Int32) (known_h0 : Int32) (thrown_h0 : Int32) (wrong_h0 : Int32) (lastEnd_h0 : Int32) (at_h0 : Int32) (bad_h0 : Int32) (levels_h0 : Int32) (least_h0 : Int32) (found_h0 : Int32) (size_m38 : Int32) (n_a_all_m38 : Nat) (b_a_all_m38 : Nat → Int32) : Option ((Int32 × Nat × (Nat → Int32)) × Nat × Nat) :=
  F_Mo_indent_2 p1 known_h0 thrown_h0 wrong_h0 lastEnd_h0 at_h0 bad_h0 levels_h0 least_h0 found_h0  FU 0 size_m38 n_a_all_m38 b_a_all_m38
theorem d_Mo_indent_0 : decode prog_12_method_88_code 0 = .ok (.iconst 0, 1) := by decide +kernel
theorem d_Mo_indent_1 : decode prog_12_method_88_code 1 = .ok (.istore_n 2, 1) := by decide +kernel
theorem d_Mo_indent_2 : decode prog_12_method_88_code 2 = .ok (.iload_n 2, 1) := by decide +kernel
theorem d_Mo_indent_3 : decode prog_12_method_88_code 3 = .ok (.iload_n 1, 1) := by decide +kernel
theorem d_Mo_indent_4 : decode prog_12_method_88_code 4 = .ok (.if_icmp .ge 16, 3) := by decide +kernel
theorem d_Mo_indent_7 : decode prog_12_method_88_code 7 = .ok (.aload_n 0, 1) := by decide +kernel
theorem d_Mo_indent_8 : decode prog_12_method_88_code 8 = .ok (.ldc_w 499, 3) := by decide +kernel
theorem d_Mo_indent_11 : decode prog_12_method_88_code 11 = .ok (.invokevirtual 501, 3) := by decide +kernel
theorem d_Mo_indent_14 : decode prog_12_method_88_code 14 = .ok (.iinc 2 1, 3) := by decide +kernel
theorem d_Mo_indent_17 : decode prog_12_method_88_code 17 = .ok (.goto (-15), 3) := by decide +kernel
theorem d_Mo_indent_20 : decode prog_12_method_88_code 20 = .ok (.return_, 1) := by decide +kernel
set_option maxHeartbeats 4000000 in
set_option maxRecDepth 100000 in
theorem L_Mo_indent_2 (l : Launch) (D : va_G) (cI cB cJ cS : ClassId) (h0 : Nat) (am : Nat → Nat) (a_all_m38 : Nat) (p1 : Int32) (known_h0 : Int32) (thrown_h0 : Int32) (wrong_h0 : Int32) (lastEnd_h0 : Int32) (at_h0 : Int32) (bad_h0 : Int32) (levels_h0 : Int32) (least_h0 : Int32) (found_h0 : Int32) (size_m38 : Int32) (n_a_all_m38 : Nat) (b_a_all_m38 : Nat → Int32) (o_1_1 : Int32) (on_nq_1_0 : Nat) (ob_nq_1_0 : Nat → Int32) (mc ms : Nat) (p : Program) (e : Env) (s : State) (m : MethodId) (below : List Frame) (meth : Method) (c : Code) (hr : meth.sig.returnType = (Option.none : Option Jvm.ClassFile.FieldType)) (hnm : meth.name = y_Mo_indent.name) : ∀ (k_2 : Nat) (q1_0_2 : Nat) (v2_2 : Int32) (f1_1_2 : Int32) (n2_2 : Nat) (b2_2 : Nat → Int32) (cl_2 sl_2 C_2 S_2 : Nat), F_Mo_indent_2 p1 known_h0 thrown_h0 wrong_h0 lastEnd_h0 at_h0 bad_h0 levels_h0 least_h0 found_h0  k_2 v2_2 f1_1_2 n2_2 b2_2 = some ((o_1_1, on_nq_1_0, ob_nq_1_0), C_2, S_2) → cl_2 + C_2 ≤ mc → sl_2 + S_2 ≤ ms → J (KxOf p l e { frames := 5, cells := mc, slots := ms, locals := 107 } s m [.ref h0, .int p1].toArray below meth c D (gT cI cB cJ cS) [(h0, .inr (9, moF am known_h0 thrown_h0 wrong_h0 lastEnd_h0 at_h0 bad_h0 levels_h0 least_h0 found_h0)), ((am 38), .inr (8, [.ref a_all_m38, .int size_m38])), (a_all_m38, .inl (cI, n_a_all_m38, .inl b_a_all_m38))] (fun v w => ∃ nq_1_0 : Nat, v = none ∧ w = [(h0, .inr (9, moF am known_h0 thrown_h0 wrong_h0 lastEnd_h0 at_h0 bad_h0 levels_h0 least_h0 found_h0)), ((am 38), .inr (8, [.ref nq_1_0, .int o_1_1])), (nq_1_0, .inl (cI, on_nq_1_0, .inl ob_nq_1_0))]) mc ms) prog_12_method_88_code 3 R_Mo 2 [(2, .int v2_2), (0, .ref h0), (1, .int p1)] [] [(h0, .inr (9, moF am known_h0 thrown_h0 wrong_h0 lastEnd_h0 at_h0 bad_h0 levels_h0 least_h0 found_h0)), ((am 38), .inr (8, [.ref q1_0_2, .int f1_1_2])), (q1_0_2, .inl (cI, n2_2, .inl b2_2))] cl_2 sl_2 := by
  intro k_2
  induction k_2 with
  | zero => intro q1_0_2 v2_2 f1_1_2 n2_2 b2_2 cl_2 sl_2 C_2 S_2 h; rw [F_Mo_indent_2] at h; cases h
  | succ k_2 ih_2 =>
    intro q1_0_2 v2_2 f1_1_2 n2_2 b2_2 cl_2 sl_2 C_2 S_2 h hC hS
    rw [F_Mo_indent_2] at h
    refine j_iload_n d_Mo_indent_2 rfl 0 rfl ?_
    refine j_iload_n d_Mo_indent_3 rfl 2 rfl ?_
    refine j_icmp_ge (tgt := 20) d_Mo_indent_4 (by decide) (fun c1 => ?_) (fun c1 => ?_)
    · replace h := it_t c1 h
      replace h := lf_s h
      obtain ⟨h, e1, e2⟩ := h
      replace h := Prod.mk.inj h
      obtain ⟨h9, h⟩ := h
      subst h9
      replace h := Prod.mk.inj h
      obtain ⟨h9, h⟩ := h
      subst h9
      subst h
      refine j_widen (cl' := mc) (sl' := ms) (by omega) (by omega) ?_
      exact j_vret (w := [(h0, .inr (9, moF am known_h0 thrown_h0 wrong_h0 lastEnd_h0 at_h0 bad_h0 levels_h0 least_h0 found_h0)), ((am 38), .inr (8, [.ref q1_0_2, .int f1_1_2])), (q1_0_2, .inl (cI, n2_2, .inl b2_2))]) hr d_Mo_indent_20 [0, 1, 2] rfl (by decide) ⟨q1_0_2, rfl, rfl⟩
    · replace h := it_f c1 h
      refine j_aload_n d_Mo_indent_7 rfl 1 rfl ?_
      refine j_ldcW (i := 81) rfl d_Mo_indent_8 ?_
      replace h := bw_s h
      obtain ⟨⟨r2, r3, r4⟩, C6, S7, C8, S9, k10, h, e1, e2⟩ := h
      replace hC : cl_2 + C6 + C8 ≤ mc := by omega
      replace hS : sl_2 + S7 + S9 ≤ ms := by omega
      clear e1 e2
      refine j_callV (n := 1) (As := [.ref (sA D 81)]) (rest := []) (wr := []) (c_Mo_say l D cI cB cJ cS h0 am q1_0_2 81 known_h0 thrown_h0 wrong_h0 lastEnd_h0 at_h0 bad_h0 levels_h0 least_h0 found_h0 f1_1_2 n2_2 b2_2  r2 r3 r4 C6 S7 k10) k_Mo_501 (by decide) ⟨Nat.le_of_ble_eq_true rfl, Nat.le_of_ble_eq_true rfl⟩ rfl 0 rfl [0, 1, 2] [] rfl (by decide) rfl (by decide) (by decide) rfl rfl (Nat.le_of_ble_eq_true rfl) d_Mo_indent_11 ⟨show cl_2 + C6 ≤ mc by omega, show sl_2 + S7 ≤ ms by omega⟩ (fun v w hq => ?_)
      obtain ⟨q5, rfl, rfl⟩ := hq
      refine j_norm (pc' := 14) (st' := []) (ws' := [(h0, .inr (9, moF am known_h0 thrown_h0 wrong_h0 lastEnd_h0 at_h0 bad_h0 levels_h0 least_h0 found_h0)), ((am 38), .inr (8, [.ref q5, .int r2])), (q5, .inl (cI, r3, .inl r4))]) (cl' := cl_2 + C6) (sl' := sl_2 + S7) rfl rfl rfl rfl rfl rfl ?_
      refine j_iinc (v := v2_2 + 1) (lv' := [(2, .int (v2_2 + 1)), (0, .ref h0), (1, .int p1)]) d_Mo_indent_14 0 rfl rfl (by decide) rfl ?_
      refine j_goto (tgt := 2) d_Mo_indent_17 (by decide) ?_
      refine j_sub (w := [(h0, .inr (9, moF am known_h0 thrown_h0 wrong_h0 lastEnd_h0 at_h0 bad_h0 levels_h0 least_h0 found_h0)), ((am 38), .inr (8, [.ref q5, .int r2])), (q5, .inl (cI, r3, .inl r4))]) (lv' := [(2, .int (v2_2 + 1)), (0, .ref h0), (1, .int p1)]) [0, 1, 2] rfl (by decide) [0, 1, 2] rfl ?_
      exact ih_2 q5 (v2_2 + 1) r2 r3 r4 (cl_2 + C6) (sl_2 + S7) C8 S9 h hC hS
set_option maxHeartbeats 4000000 in
set_option maxRecDepth 100000 in
theorem c_Mo_indent (l : Launch) (D : va_G) (cI cB cJ cS : ClassId) (h0 : Nat) (am : Nat → Nat) (a_all_m38 : Nat) (p1 : Int32) (known_h0 : Int32) (thrown_h0 : Int32) (wrong_h0 : Int32) (lastEnd_h0 : Int32) (at_h0 : Int32) (bad_h0 : Int32) (levels_h0 : Int32) (least_h0 : Int32) (found_h0 : Int32) (size_m38 : Int32) (n_a_all_m38 : Nat) (b_a_all_m38 : Nat → Int32) (o_1_1 : Int32) (on_nq_1_0 : Nat) (ob_nq_1_0 : Nat → Int32) (mc ms : Nat) (h : F_Mo_indent p1 known_h0 thrown_h0 wrong_h0 lastEnd_h0 at_h0 bad_h0 levels_h0 least_h0 found_h0 size_m38 n_a_all_m38 b_a_all_m38 = some ((o_1_1, on_nq_1_0, ob_nq_1_0), mc, ms)) : Ct l D (gT cI cB cJ cS) y_Mo_indent prog_12_method_88_code 3 (Option.none : Option Jvm.ClassFile.FieldType) 5 107 mc ms [.ref h0, .int p1] [(h0, .inr (9, moF am known_h0 thrown_h0 wrong_h0 lastEnd_h0 at_h0 bad_h0 levels_h0 least_h0 found_h0)), ((am 38), .inr (8, [.ref a_all_m38, .int size_m38])), (a_all_m38, .inl (cI, n_a_all_m38, .inl b_a_all_m38))] (fun v w => ∃ nq_1_0 : Nat, v = none ∧ w = [(h0, .inr (9, moF am known_h0 thrown_h0 wrong_h0 lastEnd_h0 at_h0 bad_h0 levels_h0 least_h0 found_h0)), ((am 38), .inr (8, [.ref nq_1_0, .int o_1_1])), (nq_1_0, .inl (cI, on_nq_1_0, .inl ob_nq_1_0))]) := by
  refine Ct.mk (by decide) (Nat.le_of_ble_eq_true rfl) ?_
  intro p e s m below meth c hr hnm
  refine j_norm (pc' := 0) (lv' := [(0, .ref h0), (1, .int p1)]) (st' := []) (ws' := [(h0, .inr (9, moF am known_h0 thrown_h0 wrong_h0 lastEnd_h0 at_h0 bad_h0 levels_h0 least_h0 found_h0)), ((am 38), .inr (8, [.ref a_all_m38, .int size_m38])), (a_all_m38, .inl (cI, n_a_all_m38, .inl b_a_all_m38))]) (cl' := 0) (sl' := 0) rfl rfl rfl rfl rfl rfl ?_
  unfold F_Mo_indent at h
  have hC : 0 + mc ≤ mc := by omega
  have hS : 0 + ms ≤ ms := by omega
  refine j_iconst (v := 0) d_Mo_indent_0 (by decide) ?_
  refine j_istore_n (lv' := [(2, .int 0), (0, .ref h0), (1, .int p1)]) d_Mo_indent_1 rfl (by decide) rfl ?_
  refine j_sub (w := [(h0, .inr (9, moF am known_h0 thrown_h0 wrong_h0 lastEnd_h0 at_h0 bad_h0 levels_h0 least_h0 found_h0)), ((am 38), .inr (8, [.ref a_all_m38, .int size_m38])), (a_all_m38, .inl (cI, n_a_all_m38, .inl b_a_all_m38))]) (lv' := [(2, .int 0), (0, .ref h0), (1, .int p1)]) [0, 1, 2] rfl (by decide) [0, 1, 2] rfl ?_
  exact L_Mo_indent_2 l D cI cB cJ cS h0 am a_all_m38 p1 known_h0 thrown_h0 wrong_h0 lastEnd_h0 at_h0 bad_h0 levels_h0 least_h0 found_h0 size_m38 n_a_all_m38 b_a_all_m38 o_1_1 on_nq_1_0 ob_nq_1_0 mc ms p e s m below meth c hr hnm FU a_all_m38 0 size_m38 n_a_all_m38 b_a_all_m38 0 0 mc ms h hC hS
