noncomputable def F_Mo_buildBlock (p1 : Int32) (p2 : Int32) (p3 : Int32) (p4 : Int32) (known_h0 : Int32) (thrown_h0 : Int32) (wrong_h0 : Int32) (lastEnd_h0 : Int32) (at_h0 : Int32) (bad_h0 : Int32) (levels_h0 : Int32) (least_h0 : Int32) (found_h0 : Int32) (size_m6 : Int32) (n_a_all_m6 : Nat) (b_a_all_m6 : Nat → Int32) (size_m24 : Int32) (n_a_all_m24 : Nat) (b_a_all_m24 : Nat → Int32) (size_m25 : Int32) (n_a_all_m25 : Nat) (b_a_all_m25 : Nat → Int32) (size_m26 : Int32) (n_a_all_m26 : Nat) (b_a_all_m26 : Nat → Int32) (size_m27 : Int32) (n_a_all_m27 : Nat) (b_a_all_m27 : Nat → Int32) (size_m28 : Int32) (n_a_all_m28 : Nat) (b_a_all_m28 : Nat → Int32) (size_m29 : Int32) (n_a_all_m29 : Nat) (b_a_all_m29 : Nat → Int32) (size_m30 : Int32) (n_a_all_m30 : Nat) (b_a_all_m30 : Nat → Int32) (size_m31 : Int32) (n_a_all_m31 : Nat) (b_a_all_m31 : Nat → Int32) (size_m33 : Int32) (n_a_all_m33 : Nat) (b_a_all_m33 : Nat → Int32) : Option ((Int32 × Int32 × Int32 × Nat × (Nat → Int32) × Nat × (Nat → Int32) × Nat × (Nat → Int32) × Nat × (Nat → Int32) × Nat × (Nat → Int32) × Nat × (Nat → Int32) × Nat × (Nat → Int32) × Nat × (Nat → Int32) × Nat × (Nat → Int32)) × Nat × Nat) :=
  Option.bind (F_Mo_placeOf p4 known_h0 thrown_h0 wrong_h0 lastEnd_h0 at_h0 bad_h0 levels_h0 least_h0 found_h0 size_m6 n_a_all_m6 b_a_all_m6) fun _ =>
  bw (F_Mo_newNode p1 3 (b_a_all_m6 (Int32.toNatClampNeg p4)) (-1) (-1) known_h0 thrown_h0 wrong_h0 lastEnd_h0 at_h0 bad_h0 levels_h0 least_h0 found_h0 size_m24 n_a_all_m24 b_a_all_m24 size_m25 n_a_all_m25 b_a_all_m25 size_m26 n_a_all_m26 b_a_all_m26 size_m27 n_a_all_m27 b_a_all_m27 size_m28 n_a_all_m28 b_a_all_m28 size_m29 n_a_all_m29 b_a_all_m29 size_m30 n_a_all_m30 b_a_all_m30 size_m31 n_a_all_m31 b_a_all_m31) fun ⟨r2, r3, r4, r5, r6, r7, r8, r9, r10, r11, r12, r13, r14, r15, r16, r17, r18, r19, r20⟩ =>
  bw (F_Mo_task 0 size_m24 p2 p3 0 known_h0 thrown_h0 wrong_h0 lastEnd_h0 at_h0 bad_h0 levels_h0 least_h0 found_h0 size_m33 n_a_all_m33 b_a_all_m33) fun ⟨r34, r35⟩ =>
  (some ((r2, r3, r4, r5, r6, r7, r8, r9, r10, r11, r12, r13, r14, r15, r16, r17, r18, r19, r20, r34, r35), 0, 0))
theorem d_Mo_buildBlock_0 : decode prog_12_method_55_code 0 = .ok (.aload_n 0, 1) := by decide +kernel
theorem d_Mo_buildBlock_1 : decode prog_12_method_55_code 1 = .ok (.iload_n 1, 1) := by decide +kernel
theorem d_Mo_buildBlock_2 : decode prog_12_method_55_code 2 = .ok (.iconst 3, 1) := by decide +kernel
theorem d_Mo_buildBlock_3 : decode prog_12_method_55_code 3 = .ok (.aload_n 0, 1) := by decide +kernel
theorem d_Mo_buildBlock_4 : decode prog_12_method_55_code 4 = .ok (.iload 4, 2) := by decide +kernel
theorem d_Mo_buildBlock_6 : decode prog_12_method_55_code 6 = .ok (.invokevirtual 411, 3) := by decide +kernel
theorem d_Mo_buildBlock_9 : decode prog_12_method_55_code 9 = .ok (.iconst (-1), 1) := by decide +kernel
theorem d_Mo_buildBlock_10 : decode prog_12_method_55_code 10 = .ok (.iconst (-1), 1) := by decide +kernel
theorem d_Mo_buildBlock_11 : decode prog_12_method_55_code 11 = .ok (.invokevirtual 386, 3) := by decide +kernel
theorem d_Mo_buildBlock_14 : decode prog_12_method_55_code 14 = .ok (.istore 5, 2) := by decide +kernel
theorem d_Mo_buildBlock_16 : decode prog_12_method_55_code 16 = .ok (.aload_n 0, 1) := by decide +kernel
theorem d_Mo_buildBlock_17 : decode prog_12_method_55_code 17 = .ok (.iconst 0, 1) := by decide +kernel
theorem d_Mo_buildBlock_18 : decode prog_12_method_55_code 18 = .ok (.iload 5, 2) := by decide +kernel
theorem d_Mo_buildBlock_20 : decode prog_12_method_55_code 20 = .ok (.iload_n 2, 1) := by decide +kernel
theorem d_Mo_buildBlock_21 : decode prog_12_method_55_code 21 = .ok (.iload_n 3, 1) := by decide +kernel
theorem d_Mo_buildBlock_22 : decode prog_12_method_55_code 22 = .ok (.iconst 0, 1) := by decide +kernel
theorem d_Mo_buildBlock_23 : decode prog_12_method_55_code 23 = .ok (.invokevirtual 390, 3) := by decide +kernel
theorem d_Mo_buildBlock_26 : decode prog_12_method_55_code 26 = .ok (.return_, 1) := by decide +kernel
set_option maxHeartbeats 4000000 in
set_option maxRecDepth 100000 in
theorem c_Mo_buildBlock (l : Launch) (D : va_G) (cI cB cJ cS : ClassId) (h0 : Nat) (am : Nat → Nat) (a_all_m6 : Nat) (a_all_m24 : Nat) (a_all_m25 : Nat) (a_all_m26 : Nat) (a_all_m27 : Nat) (a_all_m28 : Nat) (a_all_m29 : Nat) (a_all_m30 : Nat) (a_all_m31 : Nat) (a_all_m33 : Nat) (p1 : Int32) (p2 : Int32) (p3 : Int32) (p4 : Int32) (known_h0 : Int32) (thrown_h0 : Int32) (wrong_h0 : Int32) (lastEnd_h0 : Int32) (at_h0 : Int32) (bad_h0 : Int32) (levels_h0 : Int32) (least_h0 : Int32) (found_h0 : Int32) (size_m6 : Int32) (n_a_all_m6 : Nat) (b_a_all_m6 : Nat → Int32) (size_m24 : Int32) (n_a_all_m24 : Nat) (b_a_all_m24 : Nat → Int32) (size_m25 : Int32) (n_a_all_m25 : Nat) (b_a_all_m25 : Nat → Int32) (size_m26 : Int32) (n_a_all_m26 : Nat) (b_a_all_m26 : Nat → Int32) (size_m27 : Int32) (n_a_all_m27 : Nat) (b_a_all_m27 : Nat → Int32) (size_m28 : Int32) (n_a_all_m28 : Nat) (b_a_all_m28 : Nat → Int32) (size_m29 : Int32) (n_a_all_m29 : Nat) (b_a_all_m29 : Nat → Int32) (size_m30 : Int32) (n_a_all_m30 : Nat) (b_a_all_m30 : Nat → Int32) (size_m31 : Int32) (n_a_all_m31 : Nat) (b_a_all_m31 : Nat → Int32) (size_m33 : Int32) (n_a_all_m33 : Nat) (b_a_all_m33 : Nat → Int32) (o_11_1 : Int32) (o_13_1 : Int32) (o_15_1 : Int32) (on_nq_3_0 : Nat) (ob_nq_3_0 : Nat → Int32) (on_nq_5_0 : Nat) (ob_nq_5_0 : Nat → Int32) (on_nq_7_0 : Nat) (ob_nq_7_0 : Nat → Int32) (on_nq_9_0 : Nat) (ob_nq_9_0 : Nat → Int32) (on_nq_11_0 : Nat) (ob_nq_11_0 : Nat → Int32) (on_nq_13_0 : Nat) (ob_nq_13_0 : Nat → Int32) (on_nq_15_0 : Nat) (ob_nq_15_0 : Nat → Int32) (on_nq_17_0 : Nat) (ob_nq_17_0 : Nat → Int32) (on_nq_19_0 : Nat) (ob_nq_19_0 : Nat → Int32) (mc ms : Nat) (h : F_Mo_buildBlock p1 p2 p3 p4 known_h0 thrown_h0 wrong_h0 lastEnd_h0 at_h0 bad_h0 levels_h0 least_h0 found_h0 size_m6 n_a_all_m6 b_a_all_m6 size_m24 n_a_all_m24 b_a_all_m24 size_m25 n_a_all_m25 b_a_all_m25 size_m26 n_a_all_m26 b_a_all_m26 size_m27 n_a_all_m27 b_a_all_m27 size_m28 n_a_all_m28 b_a_all_m28 size_m29 n_a_all_m29 b_a_all_m29 size_m30 n_a_all_m30 b_a_all_m30 size_m31 n_a_all_m31 b_a_all_m31 size_m33 n_a_all_m33 b_a_all_m33 = some ((o_11_1, o_13_1, o_15_1, on_nq_3_0, ob_nq_3_0, on_nq_5_0, ob_nq_5_0, on_nq_7_0, ob_nq_7_0, on_nq_9_0, ob_nq_9_0, on_nq_11_0, ob_nq_11_0, on_nq_13_0, ob_nq_13_0, on_nq_15_0, ob_nq_15_0, on_nq_17_0, ob_nq_17_0, on_nq_19_0, ob_nq_19_0), mc, ms)) : Ct l D (gT cI cB cJ cS) y_Mo_buildBlock prog_12_method_55_code 6 (Option.none : Option Jvm.ClassFile.FieldType) 2 49 mc ms [.ref h0, .int p1, .int p2, .int p3, .int p4] [(h0, .inr (9, moF am known_h0 thrown_h0 wrong_h0 lastEnd_h0 at_h0 bad_h0 levels_h0 least_h0 found_h0)), ((am 6), .inr (8, [.ref a_all_m6, .int size_m6])), (a_all_m6, .inl (cI, n_a_all_m6, .inl b_a_all_m6)), ((am 24), .inr (8, [.ref a_all_m24, .int size_m24])), (a_all_m24, .inl (cI, n_a_all_m24, .inl b_a_all_m24)), ((am 25), .inr (8, [.ref a_all_m25, .int size_m25])), (a_all_m25, .inl (cI, n_a_all_m25, .inl b_a_all_m25)), ((am 26), .inr (8, [.ref a_all_m26, .int size_m26])), (a_all_m26, .inl (cI, n_a_all_m26, .inl b_a_all_m26)), ((am 27), .inr (8, [.ref a_all_m27, .int size_m27])), (a_all_m27, .inl (cI, n_a_all_m27, .inl b_a_all_m27)), ((am 28), .inr (8, [.ref a_all_m28, .int size_m28])), (a_all_m28, .inl (cI, n_a_all_m28, .inl b_a_all_m28)), ((am 29), .inr (8, [.ref a_all_m29, .int size_m29])), (a_all_m29, .inl (cI, n_a_all_m29, .inl b_a_all_m29)), ((am 30), .inr (8, [.ref a_all_m30, .int size_m30])), (a_all_m30, .inl (cI, n_a_all_m30, .inl b_a_all_m30)), ((am 31), .inr (8, [.ref a_all_m31, .int size_m31])), (a_all_m31, .inl (cI, n_a_all_m31, .inl b_a_all_m31)), ((am 33), .inr (8, [.ref a_all_m33, .int size_m33])), (a_all_m33, .inl (cI, n_a_all_m33, .inl b_a_all_m33))] (fun v w => ∃ nq_3_0 : Nat, ∃ nq_5_0 : Nat, ∃ nq_7_0 : Nat, ∃ nq_9_0 : Nat, ∃ nq_11_0 : Nat, ∃ nq_13_0 : Nat, ∃ nq_15_0 : Nat, ∃ nq_17_0 : Nat, ∃ nq_19_0 : Nat, v = none ∧ w = [(h0, .inr (9, moF am known_h0 thrown_h0 wrong_h0 lastEnd_h0 at_h0 bad_h0 levels_h0 least_h0 found_h0)), ((am 6), .inr (8, [.ref a_all_m6, .int size_m6])), (a_all_m6, .inl (cI, n_a_all_m6, .inl b_a_all_m6)), ((am 24), .inr (8, [.ref nq_3_0, .int (size_m24 + 1)])), ((am 25), .inr (8, [.ref nq_5_0, .int (size_m25 + 1)])), ((am 26), .inr (8, [.ref nq_7_0, .int (size_m26 + 1)])), ((am 27), .inr (8, [.ref nq_9_0, .int (size_m27 + 1)])), ((am 28), .inr (8, [.ref nq_11_0, .int o_11_1])), ((am 29), .inr (8, [.ref nq_13_0, .int o_13_1])), ((am 30), .inr (8, [.ref nq_15_0, .int o_15_1])), ((am 31), .inr (8, [.ref nq_17_0, .int (size_m31 + 1)])), ((am 33), .inr (8, [.ref nq_19_0, .int (((((size_m33 + 1) + 1) + 1) + 1) + 1)])), (nq_3_0, .inl (cI, on_nq_3_0, .inl ob_nq_3_0)), (nq_5_0, .inl (cI, on_nq_5_0, .inl ob_nq_5_0)), (nq_7_0, .inl (cI, on_nq_7_0, .inl ob_nq_7_0)), (nq_9_0, .inl (cI, on_nq_9_0, .inl ob_nq_9_0)), (nq_11_0, .inl (cI, on_nq_11_0, .inl ob_nq_11_0)), (nq_13_0, .inl (cI, on_nq_13_0, .inl ob_nq_13_0)), (nq_15_0, .inl (cI, on_nq_15_0, .inl ob_nq_15_0)), (nq_17_0, .inl (cI, on_nq_17_0, .inl ob_nq_17_0)), (nq_19_0, .inl (cI, on_nq_19_0, .inl ob_nq_19_0))]) := by
  refine Ct.mk (by decide) (Nat.le_of_ble_eq_true rfl) ?_
  intro p e s m below meth c hr hnm
  refine j_norm (pc' := 0) (lv' := [(0, .ref h0), (1, .int p1), (2, .int p2), (3, .int p3), (4, .int p4)]) (st' := []) (ws' := [(h0, .inr (9, moF am known_h0 thrown_h0 wrong_h0 lastEnd_h0 at_h0 bad_h0 levels_h0 least_h0 found_h0)), ((am 6), .inr (8, [.ref a_all_m6, .int size_m6])), (a_all_m6, .inl (cI, n_a_all_m6, .inl b_a_all_m6)), ((am 24), .inr (8, [.ref a_all_m24, .int size_m24])), (a_all_m24, .inl (cI, n_a_all_m24, .inl b_a_all_m24)), ((am 25), .inr (8, [.ref a_all_m25, .int size_m25])), (a_all_m25, .inl (cI, n_a_all_m25, .inl b_a_all_m25)), ((am 26), .inr (8, [.ref a_all_m26, .int size_m26])), (a_all_m26, .inl (cI, n_a_all_m26, .inl b_a_all_m26)), ((am 27), .inr (8, [.ref a_all_m27, .int size_m27])), (a_all_m27, .inl (cI, n_a_all_m27, .inl b_a_all_m27)), ((am 28), .inr (8, [.ref a_all_m28, .int size_m28])), (a_all_m28, .inl (cI, n_a_all_m28, .inl b_a_all_m28)), ((am 29), .inr (8, [.ref a_all_m29, .int size_m29])), (a_all_m29, .inl (cI, n_a_all_m29, .inl b_a_all_m29)), ((am 30), .inr (8, [.ref a_all_m30, .int size_m30])), (a_all_m30, .inl (cI, n_a_all_m30, .inl b_a_all_m30)), ((am 31), .inr (8, [.ref a_all_m31, .int size_m31])), (a_all_m31, .inl (cI, n_a_all_m31, .inl b_a_all_m31)), ((am 33), .inr (8, [.ref a_all_m33, .int size_m33])), (a_all_m33, .inl (cI, n_a_all_m33, .inl b_a_all_m33))]) (cl' := 0) (sl' := 0) rfl rfl rfl rfl rfl rfl ?_
  unfold F_Mo_buildBlock at h
  have hC : 0 + mc ≤ mc := by omega
  have hS : 0 + ms ≤ ms := by omega
  refine j_aload_n d_Mo_buildBlock_0 rfl 0 rfl ?_
  refine j_iload_n d_Mo_buildBlock_1 rfl 1 rfl ?_
  refine j_iconst (v := 3) d_Mo_buildBlock_2 (by decide) ?_
  refine j_aload_n d_Mo_buildBlock_3 rfl 0 rfl ?_
  refine j_iload d_Mo_buildBlock_4 4 rfl ?_
  replace h := bd_s h
  obtain ⟨_, k1, h⟩ := h
  refine j_callV (n := 1) (As := [.int p4]) (rest := [.int 3, .int p1, .ref h0]) (wr := [((am 24), .inr (8, [.ref a_all_m24, .int size_m24])), (a_all_m24, .inl (cI, n_a_all_m24, .inl b_a_all_m24)), ((am 25), .inr (8, [.ref a_all_m25, .int size_m25])), (a_all_m25, .inl (cI, n_a_all_m25, .inl b_a_all_m25)), ((am 26), .inr (8, [.ref a_all_m26, .int size_m26])), (a_all_m26, .inl (cI, n_a_all_m26, .inl b_a_all_m26)), ((am 27), .inr (8, [.ref a_all_m27, .int size_m27])), (a_all_m27, .inl (cI, n_a_all_m27, .inl b_a_all_m27)), ((am 28), .inr (8, [.ref a_all_m28, .int size_m28])), (a_all_m28, .inl (cI, n_a_all_m28, .inl b_a_all_m28)), ((am 29), .inr (8, [.ref a_all_m29, .int size_m29])), (a_all_m29, .inl (cI, n_a_all_m29, .inl b_a_all_m29)), ((am 30), .inr (8, [.ref a_all_m30, .int size_m30])), (a_all_m30, .inl (cI, n_a_all_m30, .inl b_a_all_m30)), ((am 31), .inr (8, [.ref a_all_m31, .int size_m31])), (a_all_m31, .inl (cI, n_a_all_m31, .inl b_a_all_m31)), ((am 33), .inr (8, [.ref a_all_m33, .int size_m33])), (a_all_m33, .inl (cI, n_a_all_m33, .inl b_a_all_m33))]) (c_Mo_placeOf l D cI cB cJ cS h0 am a_all_m6 p4 known_h0 thrown_h0 wrong_h0 lastEnd_h0 at_h0 bad_h0 levels_h0 least_h0 found_h0 size_m6 n_a_all_m6 b_a_all_m6  k1) k_Mo_411 (by decide) ⟨Nat.le_of_ble_eq_true rfl, Nat.le_of_ble_eq_true rfl⟩ rfl 0 rfl [0, 1, 2] [3, 4, 5, 6, 7, 8, 9, 10, 11, 12, 13, 14, 15, 16, 17, 18, 19, 20] rfl (by decide +kernel) rfl (by decide +kernel) (by decide +kernel) rfl rfl (Nat.le_of_ble_eq_true rfl) d_Mo_buildBlock_6 ⟨show 0 + 0 ≤ mc by omega, show 0 + 0 ≤ ms by omega⟩ (fun v w hq => ?_)
  obtain ⟨rfl, rfl⟩ := hq
  refine j_norm (pc' := 9) (st' := [.int (b_a_all_m6 (Int32.toNatClampNeg p4)), .int 3, .int p1, .ref h0]) (ws' := [((am 24), .inr (8, [.ref a_all_m24, .int size_m24])), (a_all_m24, .inl (cI, n_a_all_m24, .inl b_a_all_m24)), ((am 25), .inr (8, [.ref a_all_m25, .int size_m25])), (a_all_m25, .inl (cI, n_a_all_m25, .inl b_a_all_m25)), ((am 26), .inr (8, [.ref a_all_m26, .int size_m26])), (a_all_m26, .inl (cI, n_a_all_m26, .inl b_a_all_m26)), ((am 27), .inr (8, [.ref a_all_m27, .int size_m27])), (a_all_m27, .inl (cI, n_a_all_m27, .inl b_a_all_m27)), ((am 28), .inr (8, [.ref a_all_m28, .int size_m28])), (a_all_m28, .inl (cI, n_a_all_m28, .inl b_a_all_m28)), ((am 29), .inr (8, [.ref a_all_m29, .int size_m29])), (a_all_m29, .inl (cI, n_a_all_m29, .inl b_a_all_m29)), ((am 30), .inr (8, [.ref a_all_m30, .int size_m30])), (a_all_m30, .inl (cI, n_a_all_m30, .inl b_a_all_m30)), ((am 31), .inr (8, [.ref a_all_m31, .int size_m31])), (a_all_m31, .inl (cI, n_a_all_m31, .inl b_a_all_m31)), ((am 33), .inr (8, [.ref a_all_m33, .int size_m33])), (a_all_m33, .inl (cI, n_a_all_m33, .inl b_a_all_m33)), (h0, .inr (9, moF am known_h0 thrown_h0 wrong_h0 lastEnd_h0 at_h0 bad_h0 levels_h0 least_h0 found_h0)), ((am 6), .inr (8, [.ref a_all_m6, .int size_m6])), (a_all_m6, .inl (cI, n_a_all_m6, .inl b_a_all_m6))]) (cl' := 0) (sl' := 0) rfl rfl rfl rfl rfl rfl ?_
  refine j_iconst (v := (-1)) d_Mo_buildBlock_9 (by decide) ?_
  refine j_iconst (v := (-1)) d_Mo_buildBlock_10 (by decide) ?_
  replace h := bw_s h
  obtain ⟨⟨r2, r3, r4, r5, r6, r7, r8, r9, r10, r11, r12, r13, r14, r15, r16, r17, r18, r19, r20⟩, C29, S30, C31, S32, k33, h, e1, e2⟩ := h
  replace hC : 0 + C29 + C31 ≤ mc := by omega
  replace hS : 0 + S30 + S32 ≤ ms := by omega
  clear e1 e2
  refine j_callV (n := 5) (As := [.int p1, .int 3, .int (b_a_all_m6 (Int32.toNatClampNeg p4)), .int (-1), .int (-1)]) (rest := []) (wr := [((am 33), .inr (8, [.ref a_all_m33, .int size_m33])), (a_all_m33, .inl (cI, n_a_all_m33, .inl b_a_all_m33)), ((am 6), .inr (8, [.ref a_all_m6, .int size_m6])), (a_all_m6, .inl (cI, n_a_all_m6, .inl b_a_all_m6))]) (c_Mo_newNode l D cI cB cJ cS h0 am a_all_m24 a_all_m25 a_all_m26 a_all_m27 a_all_m28 a_all_m29 a_all_m30 a_all_m31 p1 3 (b_a_all_m6 (Int32.toNatClampNeg p4)) (-1) (-1) known_h0 thrown_h0 wrong_h0 lastEnd_h0 at_h0 bad_h0 levels_h0 least_h0 found_h0 size_m24 n_a_all_m24 b_a_all_m24 size_m25 n_a_all_m25 b_a_all_m25 size_m26 n_a_all_m26 b_a_all_m26 size_m27 n_a_all_m27 b_a_all_m27 size_m28 n_a_all_m28 b_a_all_m28 size_m29 n_a_all_m29 b_a_all_m29 size_m30 n_a_all_m30 b_a_all_m30 size_m31 n_a_all_m31 b_a_all_m31  r2 r3 r4 r5 r6 r7 r8 r9 r10 r11 r12 r13 r14 r15 r16 r17 r18 r19 r20 C29 S30 k33) k_Mo_386 (by decide) ⟨Nat.le_of_ble_eq_true rfl, Nat.le_of_ble_eq_true rfl⟩ rfl 0 rfl [18, 0, 1, 2, 3, 4, 5, 6, 7, 8, 9, 10, 11, 12, 13, 14, 15] [16, 17, 19, 20] rfl (by decide +kernel) rfl (by decide +kernel) (by decide +kernel) rfl rfl (Nat.le_of_ble_eq_true rfl) d_Mo_buildBlock_11 ⟨show 0 + C29 ≤ mc by omega, show 0 + S30 ≤ ms by omega⟩ (fun v w hq => ?_)
  obtain ⟨q21, q22, q23, q24, q25, q26, q27, q28, rfl, rfl⟩ := hq
  refine j_norm (pc' := 14) (st' := [.int size_m24]) (ws' := [((am 33), .inr (8, [.ref a_all_m33, .int size_m33])), (a_all_m33, .inl (cI, n_a_all_m33, .inl b_a_all_m33)), ((am 6), .inr (8, [.ref a_all_m6, .int size_m6])), (a_all_m6, .inl (cI, n_a_all_m6, .inl b_a_all_m6)), (h0, .inr (9, moF am known_h0 thrown_h0 wrong_h0 lastEnd_h0 at_h0 bad_h0 levels_h0 least_h0 found_h0)), ((am 24), .inr (8, [.ref q21, .int (size_m24 + 1)])), ((am 25), .inr (8, [.ref q22, .int (size_m25 + 1)])), ((am 26), .inr (8, [.ref q23, .int (size_m26 + 1)])), ((am 27), .inr (8, [.ref q24, .int (size_m27 + 1)])), ((am 28), .inr (8, [.ref q25, .int r2])), ((am 29), .inr (8, [.ref q26, .int r3])), ((am 30), .inr (8, [.ref q27, .int r4])), ((am 31), .inr (8, [.ref q28, .int (size_m31 + 1)])), (q21, .inl (cI, r5, .inl r6)), (q22, .inl (cI, r7, .inl r8)), (q23, .inl (cI, r9, .inl r10)), (q24, .inl (cI, r11, .inl r12)), (q25, .inl (cI, r13, .inl r14)), (q26, .inl (cI, r15, .inl r16)), (q27, .inl (cI, r17, .inl r18)), (q28, .inl (cI, r19, .inl r20))]) (cl' := 0 + C29) (sl' := 0 + S30) rfl rfl rfl rfl rfl rfl ?_
  refine j_istore (lv' := [(5, .int size_m24), (0, .ref h0), (1, .int p1), (2, .int p2), (3, .int p3), (4, .int p4)]) d_Mo_buildBlock_14 (by decide) rfl ?_
  refine j_aload_n d_Mo_buildBlock_16 rfl 1 rfl ?_
  refine j_iconst (v := 0) d_Mo_buildBlock_17 (by decide) ?_
  refine j_iload d_Mo_buildBlock_18 0 rfl ?_
  refine j_iload_n d_Mo_buildBlock_20 rfl 3 rfl ?_
  refine j_iload_n d_Mo_buildBlock_21 rfl 4 rfl ?_
  refine j_iconst (v := 0) d_Mo_buildBlock_22 (by decide) ?_
  replace h := bw_s h
  obtain ⟨⟨r34, r35⟩, C37, S38, C39, S40, k41, h, e1, e2⟩ := h
  replace hC : 0 + C29 + C37 + C39 ≤ mc := by omega
  replace hS : 0 + S30 + S38 + S40 ≤ ms := by omega
  clear e1 e2
  refine j_callV (n := 5) (As := [.int 0, .int size_m24, .int p2, .int p3, .int 0]) (rest := []) (wr := [((am 6), .inr (8, [.ref a_all_m6, .int size_m6])), (a_all_m6, .inl (cI, n_a_all_m6, .inl b_a_all_m6)), ((am 24), .inr (8, [.ref q21, .int (size_m24 + 1)])), ((am 25), .inr (8, [.ref q22, .int (size_m25 + 1)])), ((am 26), .inr (8, [.ref q23, .int (size_m26 + 1)])), ((am 27), .inr (8, [.ref q24, .int (size_m27 + 1)])), ((am 28), .inr (8, [.ref q25, .int r2])), ((am 29), .inr (8, [.ref q26, .int r3])), ((am 30), .inr (8, [.ref q27, .int r4])), ((am 31), .inr (8, [.ref q28, .int (size_m31 + 1)])), (q21, .inl (cI, r5, .inl r6)), (q22, .inl (cI, r7, .inl r8)), (q23, .inl (cI, r9, .inl r10)), (q24, .inl (cI, r11, .inl r12)), (q25, .inl (cI, r13, .inl r14)), (q26, .inl (cI, r15, .inl r16)), (q27, .inl (cI, r17, .inl r18)), (q28, .inl (cI, r19, .inl r20))]) (c_Mo_task l D cI cB cJ cS h0 am a_all_m33 0 size_m24 p2 p3 0 known_h0 thrown_h0 wrong_h0 lastEnd_h0 at_h0 bad_h0 levels_h0 least_h0 found_h0 size_m33 n_a_all_m33 b_a_all_m33  r34 r35 C37 S38 k41) k_Mo_390 (by decide) ⟨Nat.le_of_ble_eq_true rfl, Nat.le_of_ble_eq_true rfl⟩ rfl 0 rfl [4, 0, 1] [2, 3, 5, 6, 7, 8, 9, 10, 11, 12, 13, 14, 15, 16, 17, 18, 19, 20] rfl (by decide +kernel) rfl (by decide +kernel) (by decide +kernel) rfl rfl (Nat.le_of_ble_eq_true rfl) d_Mo_buildBlock_23 ⟨show 0 + C29 + C37 ≤ mc by omega, show 0 + S30 + S38 ≤ ms by omega⟩ (fun v w hq => ?_)
  obtain ⟨q36, rfl, rfl⟩ := hq
  refine j_norm (pc' := 26) (st' := []) (ws' := [((am 6), .inr (8, [.ref a_all_m6, .int size_m6])), (a_all_m6, .inl (cI, n_a_all_m6, .inl b_a_all_m6)), ((am 24), .inr (8, [.ref q21, .int (size_m24 + 1)])), ((am 25), .inr (8, [.ref q22, .int (size_m25 + 1)])), ((am 26), .inr (8, [.ref q23, .int (size_m26 + 1)])), ((am 27), .inr (8, [.ref q24, .int (size_m27 + 1)])), ((am 28), .inr (8, [.ref q25, .int r2])), ((am 29), .inr (8, [.ref q26, .int r3])), ((am 30), .inr (8, [.ref q27, .int r4])), ((am 31), .inr (8, [.ref q28, .int (size_m31 + 1)])), (q21, .inl (cI, r5, .inl r6)), (q22, .inl (cI, r7, .inl r8)), (q23, .inl (cI, r9, .inl r10)), (q24, .inl (cI, r11, .inl r12)), (q25, .inl (cI, r13, .inl r14)), (q26, .inl (cI, r15, .inl r16)), (q27, .inl (cI, r17, .inl r18)), (q28, .inl (cI, r19, .inl r20)), (h0, .inr (9, moF am known_h0 thrown_h0 wrong_h0 lastEnd_h0 at_h0 bad_h0 levels_h0 least_h0 found_h0)), ((am 33), .inr (8, [.ref q36, .int (((((size_m33 + 1) + 1) + 1) + 1) + 1)])), (q36, .inl (cI, r34, .inl r35))]) (cl' := 0 + C29 + C37) (sl' := 0 + S30 + S38) rfl rfl rfl rfl rfl rfl ?_
  replace h := lf_s h
  obtain ⟨h, e1, e2⟩ := h
  replace h := Prod.mk.inj h
  obtain ⟨h9, h⟩ := h
  subst h9
  replace h := Prod.mk.inj h
  obtain ⟨h9, h⟩ := h
  subst h9
  replace h := Prod.mk.inj h
  obtain ⟨h9, h⟩ := h
  subst h9
  replace h := Prod.mk.inj h
  obtain ⟨h9, h⟩ := h
  subst h9
  replace h := Prod.mk.inj h
  obtain ⟨h9, h⟩ := h
  subst h9
  replace h := Prod.mk.inj h
  obtain ⟨h9, h⟩ := h
  subst h9
  replace h := Prod.mk.inj h
  obtain ⟨h9, h⟩ := h
  subst h9
  replace h := Prod.mk.inj h
  obtain ⟨h9, h⟩ := h
  subst h9
  replace h := Prod.mk.inj h
  obtain ⟨h9, h⟩ := h
  subst h9
  replace h := Prod.mk.inj h
  obtain ⟨h9, h⟩ := h
  subst h9
  replace h := Prod.mk.inj h
  obtain ⟨h9, h⟩ := h
  subst h9
  replace h := Prod.mk.inj h
  obtain ⟨h9, h⟩ := h
  subst h9
  replace h := Prod.mk.inj h
  obtain ⟨h9, h⟩ := h
  subst h9
  replace h := Prod.mk.inj h
  obtain ⟨h9, h⟩ := h
  subst h9
  replace h := Prod.mk.inj h
  obtain ⟨h9, h⟩ := h
  subst h9
  replace h := Prod.mk.inj h
  obtain ⟨h9, h⟩ := h
  subst h9
  replace h := Prod.mk.inj h
  obtain ⟨h9, h⟩ := h
  subst h9
  replace h := Prod.mk.inj h
  obtain ⟨h9, h⟩ := h
  subst h9
  replace h := Prod.mk.inj h
  obtain ⟨h9, h⟩ := h
  subst h9
  replace h := Prod.mk.inj h
  obtain ⟨h9, h⟩ := h
  subst h9
  subst h
  refine j_widen (cl' := mc) (sl' := ms) (by omega) (by omega) ?_
  exact j_vret (w := [(h0, .inr (9, moF am known_h0 thrown_h0 wrong_h0 lastEnd_h0 at_h0 bad_h0 levels_h0 least_h0 found_h0)), ((am 6), .inr (8, [.ref a_all_m6, .int size_m6])), (a_all_m6, .inl (cI, n_a_all_m6, .inl b_a_all_m6)), ((am 24), .inr (8, [.ref q21, .int (size_m24 + 1)])), ((am 25), .inr (8, [.ref q22, .int (size_m25 + 1)])), ((am 26), .inr (8, [.ref q23, .int (size_m26 + 1)])), ((am 27), .inr (8, [.ref q24, .int (size_m27 + 1)])), ((am 28), .inr (8, [.ref q25, .int r2])), ((am 29), .inr (8, [.ref q26, .int r3])), ((am 30), .inr (8, [.ref q27, .int r4])), ((am 31), .inr (8, [.ref q28, .int (size_m31 + 1)])), ((am 33), .inr (8, [.ref q36, .int (((((size_m33 + 1) + 1) + 1) + 1) + 1)])), (q21, .inl (cI, r5, .inl r6)), (q22, .inl (cI, r7, .inl r8)), (q23, .inl (cI, r9, .inl r10)), (q24, .inl (cI, r11, .inl r12)), (q25, .inl (cI, r13, .inl r14)), (q26, .inl (cI, r15, .inl r16)), (q27, .inl (cI, r17, .inl r18)), (q28, .inl (cI, r19, .inl r20)), (q36, .inl (cI, r34, .inl r35))]) hr d_Mo_buildBlock_26 [18, 0, 1, 2, 3, 4, 5, 6, 7, 8, 9, 19, 10, 11, 12, 13, 14, 15, 16, 17, 20] rfl (by decide) ⟨q21, q22, q23, q24, q25, q26, q27, q28, q36, rfl, rfl⟩
def F_Mo_opensBlock (p1 : Int32) : (Int32) :=
  if p1 = 19 then 1
  else if p1 = 10 then 1
  else if p1 = 14 then 1
  else if p1 = 15 then 1
  else if p1 = 22 then 1
  else 0
theorem d_Mo_opensBlock_0 : decode prog_12_method_57_code 0 = .ok (.iload_n 0, 1) := by decide +kernel
theorem d_Mo_opensBlock_1 : decode prog_12_method_57_code 1 = .ok (.bipush 19, 2) := by decide +kernel
theorem d_Mo_opensBlock_3 : decode prog_12_method_57_code 3 = .ok (.if_icmp .eq 27, 3) := by decide +kernel
theorem d_Mo_opensBlock_6 : decode prog_12_method_57_code 6 = .ok (.iload_n 0, 1) := by decide +kernel
theorem d_Mo_opensBlock_7 : decode prog_12_method_57_code 7 = .ok (.bipush 10, 2) := by decide +kernel
theorem d_Mo_opensBlock_9 : decode prog_12_method_57_code 9 = .ok (.if_icmp .eq 21, 3) := by decide +kernel
theorem d_Mo_opensBlock_12 : decode prog_12_method_57_code 12 = .ok (.iload_n 0, 1) := by decide +kernel
theorem d_Mo_opensBlock_13 : decode prog_12_method_57_code 13 = .ok (.bipush 14, 2) := by decide +kernel
theorem d_Mo_opensBlock_15 : decode prog_12_method_57_code 15 = .ok (.if_icmp .eq 15, 3) := by decide +kernel
theorem d_Mo_opensBlock_18 : decode prog_12_method_57_code 18 = .ok (.iload_n 0, 1) := by decide +kernel
theorem d_Mo_opensBlock_19 : decode prog_12_method_57_code 19 = .ok (.bipush 15, 2) := by decide +kernel
theorem d_Mo_opensBlock_21 : decode prog_12_method_57_code 21 = .ok (.if_icmp .eq 9, 3) := by decide +kernel
theorem d_Mo_opensBlock_24 : decode prog_12_method_57_code 24 = .ok (.iload_n 0, 1) := by decide +kernel
theorem d_Mo_opensBlock_25 : decode prog_12_method_57_code 25 = .ok (.bipush 22, 2) := by decide +kernel
theorem d_Mo_opensBlock_27 : decode prog_12_method_57_code 27 = .ok (.if_icmp .ne 7, 3) := by decide +kernel
theorem d_Mo_opensBlock_30 : decode prog_12_method_57_code 30 = .ok (.iconst 1, 1) := by decide +kernel
theorem d_Mo_opensBlock_31 : decode prog_12_method_57_code 31 = .ok (.goto 4, 3) := by decide +kernel
theorem d_Mo_opensBlock_34 : decode prog_12_method_57_code 34 = .ok (.iconst 0, 1) := by decide +kernel
theorem d_Mo_opensBlock_35 : decode prog_12_method_57_code 35 = .ok (.ireturn, 1) := by decide +kernel
set_option maxHeartbeats 4000000 in
set_option maxRecDepth 100000 in
theorem c_Mo_opensBlock (l : Launch) (D : va_G) (cI cB cJ cS : ClassId) (p1 : Int32) (ret : Int32) (h : F_Mo_opensBlock p1 = ret) : Ct l D (gT cI cB cJ cS) y_Mo_opensBlock prog_12_method_57_code 1 (Option.some Jvm.ClassFile.FieldType.boolean) 0 0 0 0 [.int p1] [] (fun v w => v = some (.int ret) ∧ zb ret ∧ w = []) := by
  refine Ct.mk (by decide) (Nat.le_of_ble_eq_true rfl) ?_
  intro p e s m below meth c hr hnm
  refine j_norm (pc' := 0) (lv' := [(0, .int p1)]) (st' := []) (ws' := []) (cl' := 0) (sl' := 0) rfl rfl rfl rfl rfl rfl ?_
  unfold F_Mo_opensBlock at h
  refine j_iload_n d_Mo_opensBlock_0 rfl 0 rfl ?_
  refine j_bipush (v := 19) d_Mo_opensBlock_1 (by decide) ?_
  refine j_icmp_eq (tgt := 30) d_Mo_opensBlock_3 (by decide) (fun c1 => ?_) (fun c1 => ?_)
  · replace h := it_t c1 h
    refine j_iconst (v := 1) d_Mo_opensBlock_30 (by decide) ?_
    refine j_goto (tgt := 35) d_Mo_opensBlock_31 (by decide) ?_
    subst h
    exact j_zret (w := []) hr (zb_n zb1) d_Mo_opensBlock_35 [] rfl (by decide) ⟨rfl, zb1, rfl⟩
  · replace h := it_f c1 h
    refine j_iload_n d_Mo_opensBlock_6 rfl 0 rfl ?_
    refine j_bipush (v := 10) d_Mo_opensBlock_7 (by decide) ?_
    refine j_icmp_eq (tgt := 30) d_Mo_opensBlock_9 (by decide) (fun c2 => ?_) (fun c2 => ?_)
    · replace h := it_t c2 h
      refine j_iconst (v := 1) d_Mo_opensBlock_30 (by decide) ?_
      refine j_goto (tgt := 35) d_Mo_opensBlock_31 (by decide) ?_
      subst h
      exact j_zret (w := []) hr (zb_n zb1) d_Mo_opensBlock_35 [] rfl (by decide) ⟨rfl, zb1, rfl⟩
    · replace h := it_f c2 h
      refine j_iload_n d_Mo_opensBlock_12 rfl 0 rfl ?_
      refine j_bipush (v := 14) d_Mo_opensBlock_13 (by decide) ?_
      refine j_icmp_eq (tgt := 30) d_Mo_opensBlock_15 (by decide) (fun c3 => ?_) (fun c3 => ?_)
      · replace h := it_t c3 h
        refine j_iconst (v := 1) d_Mo_opensBlock_30 (by decide) ?_
        refine j_goto (tgt := 35) d_Mo_opensBlock_31 (by decide) ?_
        subst h
        exact j_zret (w := []) hr (zb_n zb1) d_Mo_opensBlock_35 [] rfl (by decide) ⟨rfl, zb1, rfl⟩
      · replace h := it_f c3 h
        refine j_iload_n d_Mo_opensBlock_18 rfl 0 rfl ?_
        refine j_bipush (v := 15) d_Mo_opensBlock_19 (by decide) ?_
        refine j_icmp_eq (tgt := 30) d_Mo_opensBlock_21 (by decide) (fun c4 => ?_) (fun c4 => ?_)
        · replace h := it_t c4 h
          refine j_iconst (v := 1) d_Mo_opensBlock_30 (by decide) ?_
          refine j_goto (tgt := 35) d_Mo_opensBlock_31 (by decide) ?_
          subst h
          exact j_zret (w := []) hr (zb_n zb1) d_Mo_opensBlock_35 [] rfl (by decide) ⟨rfl, zb1, rfl⟩
        · replace h := it_f c4 h
          refine j_iload_n d_Mo_opensBlock_24 rfl 0 rfl ?_
          refine j_bipush (v := 22) d_Mo_opensBlock_25 (by decide) ?_
          refine j_icmp_ne (tgt := 34) d_Mo_opensBlock_27 (by decide) (fun c5 => ?_) (fun c5 => ?_)
          · replace h := it_f c5 h
            refine j_iconst (v := 0) d_Mo_opensBlock_34 (by decide) ?_
            subst h
            exact j_zret (w := []) hr (zb_n zb0) d_Mo_opensBlock_35 [] rfl (by decide) ⟨rfl, zb0, rfl⟩
          · replace h := it_t c5 h
            refine j_iconst (v := 1) d_Mo_opensBlock_30 (by decide) ?_
            refine j_goto (tgt := 35) d_Mo_opensBlock_31 (by decide) ?_
            subst h
            exact j_zret (w := []) hr (zb_n zb1) d_Mo_opensBlock_35 [] rfl (by decide) ⟨rfl, zb1, rfl⟩
def F_Mo_stopOf_2 (known_h0 : Int32) (thrown_h0 : Int32) (wrong_h0 : Int32) (lastEnd_h0 : Int32) (at_h0 : Int32) (bad_h0 : Int32) (levels_h0 : Int32) (least_h0 : Int32) (found_h0 : Int32) (size_m5 : Int32) (n_a_all_m5 : Nat) (b_a_all_m5 : Nat → Int32) : Nat → Int32 → Option (Int32)
  | 0, _ => none
  | k_2 + 1, v2_2 =>
    Option.bind (F_Nm_at v2_2 size_m5 n_a_all_m5 b_a_all_m5) fun _ =>
    if (b_a_all_m5 (Int32.toNatClampNeg v2_2)) = 55 then (some v2_2)
    else (Option.bind (F_Nm_at v2_2 size_m5 n_a_all_m5 b_a_all_m5) fun _ =>
      if (b_a_all_m5 (Int32.toNatClampNeg v2_2)) = 50 then (Option.bind (F_Mo_closing v2_2 known_h0 thrown_h0 wrong_h0 lastEnd_h0 at_h0 bad_h0 levels_h0 least_h0 found_h0 size_m5 n_a_all_m5 b_a_all_m5) fun r5 =>
        F_Mo_stopOf_2 known_h0 thrown_h0 wrong_h0 lastEnd_h0 at_h0 bad_h0 levels_h0 least_h0 found_h0 size_m5 n_a_all_m5 b_a_all_m5  k_2 (r5 + 1))
      else (Option.bind (F_Nm_at v2_2 size_m5 n_a_all_m5 b_a_all_m5) fun _ =>
        if (b_a_all_m5 (Int32.toNatClampNeg v2_2)) = 52 then (Option.bind (F_Mo_closing v2_2 known_h0 thrown_h0 wrong_h0 lastEnd_h0 at_h0 bad_h0 levels_h0 least_h0 found_h0 size_m5 n_a_all_m5 b_a_all_m5) fun r9 =>
          F_Mo_stopOf_2 known_h0 thrown_h0 wrong_h0 lastEnd_h0 at_h0 bad_h0 levels_h0 least_h0 found_h0 size_m5 n_a_all_m5 b_a_all_m5  k_2 (r9 + 1))
        else (F_Mo_stopOf_2 known_h0 thrown_h0 wrong_h0 lastEnd_h0 at_h0 bad_h0 levels_h0 least_h0 found_h0 size_m5 n_a_all_m5 b_a_all_m5  k_2 (v2_2 + 1))))
def F_Mo_stopOf (p1 : Int32) (known_h0 : Int32) (thrown_h0 : Int32) (wrong_h0 : Int32) (lastEnd_h0 : Int32) (at_h0 : Int32) (bad_h0 : Int32) (levels_h0 : Int32) (least_h0 : Int32) (found_h0 : Int32) (size_m5 : Int32) (n_a_all_m5 : Nat) (b_a_all_m5 : Nat → Int32) : Option (Int32) :=
  F_Mo_stopOf_2 known_h0 thrown_h0 wrong_h0 lastEnd_h0 at_h0 bad_h0 levels_h0 least_h0 found_h0 size_m5 n_a_all_m5 b_a_all_m5  FU p1
theorem d_Mo_stopOf_0 : decode prog_12_method_59_code 0 = .ok (.iload_n 1, 1) := by decide +kernel
theorem d_Mo_stopOf_1 : decode prog_12_method_59_code 1 = .ok (.istore_n 2, 1) := by decide +kernel
theorem d_Mo_stopOf_2 : decode prog_12_method_59_code 2 = .ok (.aload_n 0, 1) := by decide +kernel
theorem d_Mo_stopOf_3 : decode prog_12_method_59_code 3 = .ok (.getfield 114, 3) := by decide +kernel
theorem d_Mo_stopOf_6 : decode prog_12_method_59_code 6 = .ok (.iload_n 2, 1) := by decide +kernel
theorem d_Mo_stopOf_7 : decode prog_12_method_59_code 7 = .ok (.invokevirtual 214, 3) := by decide +kernel
theorem d_Mo_stopOf_10 : decode prog_12_method_59_code 10 = .ok (.bipush 55, 2) := by decide +kernel
theorem d_Mo_stopOf_12 : decode prog_12_method_59_code 12 = .ok (.if_icmp .eq 46, 3) := by decide +kernel
theorem d_Mo_stopOf_15 : decode prog_12_method_59_code 15 = .ok (.aload_n 0, 1) := by decide +kernel
theorem d_Mo_stopOf_16 : decode prog_12_method_59_code 16 = .ok (.getfield 114, 3) := by decide +kernel
theorem d_Mo_stopOf_19 : decode prog_12_method_59_code 19 = .ok (.iload_n 2, 1) := by decide +kernel
theorem d_Mo_stopOf_20 : decode prog_12_method_59_code 20 = .ok (.invokevirtual 214, 3) := by decide +kernel
theorem d_Mo_stopOf_23 : decode prog_12_method_59_code 23 = .ok (.bipush 50, 2) := by decide +kernel
theorem d_Mo_stopOf_25 : decode prog_12_method_59_code 25 = .ok (.if_icmp .eq 16, 3) := by decide +kernel
theorem d_Mo_stopOf_28 : decode prog_12_method_59_code 28 = .ok (.aload_n 0, 1) := by decide +kernel
theorem d_Mo_stopOf_29 : decode prog_12_method_59_code 29 = .ok (.getfield 114, 3) := by decide +kernel
theorem d_Mo_stopOf_32 : decode prog_12_method_59_code 32 = .ok (.iload_n 2, 1) := by decide +kernel
theorem d_Mo_stopOf_33 : decode prog_12_method_59_code 33 = .ok (.invokevirtual 214, 3) := by decide +kernel
theorem d_Mo_stopOf_36 : decode prog_12_method_59_code 36 = .ok (.bipush 52, 2) := by decide +kernel
theorem d_Mo_stopOf_38 : decode prog_12_method_59_code 38 = .ok (.if_icmp .ne 13, 3) := by decide +kernel
theorem d_Mo_stopOf_41 : decode prog_12_method_59_code 41 = .ok (.aload_n 0, 1) := by decide +kernel
theorem d_Mo_stopOf_42 : decode prog_12_method_59_code 42 = .ok (.iload_n 2, 1) := by decide +kernel
theorem d_Mo_stopOf_43 : decode prog_12_method_59_code 43 = .ok (.invokevirtual 350, 3) := by decide +kernel
theorem d_Mo_stopOf_46 : decode prog_12_method_59_code 46 = .ok (.iconst 1, 1) := by decide +kernel
theorem d_Mo_stopOf_47 : decode prog_12_method_59_code 47 = .ok (.iadd, 1) := by decide +kernel
theorem d_Mo_stopOf_48 : decode prog_12_method_59_code 48 = .ok (.goto 6, 3) := by decide +kernel
theorem d_Mo_stopOf_51 : decode prog_12_method_59_code 51 = .ok (.iload_n 2, 1) := by decide +kernel
theorem d_Mo_stopOf_52 : decode prog_12_method_59_code 52 = .ok (.iconst 1, 1) := by decide +kernel
theorem d_Mo_stopOf_53 : decode prog_12_method_59_code 53 = .ok (.iadd, 1) := by decide +kernel
theorem d_Mo_stopOf_54 : decode prog_12_method_59_code 54 = .ok (.istore_n 2, 1) := by decide +kernel
theorem d_Mo_stopOf_55 : decode prog_12_method_59_code 55 = .ok (.goto (-53), 3) := by decide +kernel
theorem d_Mo_stopOf_58 : decode prog_12_method_59_code 58 = .ok (.iload_n 2, 1) := by decide +kernel
theorem d_Mo_stopOf_59 : decode prog_12_method_59_code 59 = .ok (.ireturn, 1) := by decide +kernel
set_option maxHeartbeats 4000000 in
set_option maxRecDepth 100000 in
theorem L_Mo_stopOf_2 (l : Launch) (D : va_G) (cI cB cJ cS : ClassId) (h0 : Nat) (am : Nat → Nat) (a_all_m5 : Nat) (p1 : Int32) (known_h0 : Int32) (thrown_h0 : Int32) (wrong_h0 : Int32) (lastEnd_h0 : Int32) (at_h0 : Int32) (bad_h0 : Int32) (levels_h0 : Int32) (least_h0 : Int32) (found_h0 : Int32) (size_m5 : Int32) (n_a_all_m5 : Nat) (b_a_all_m5 : Nat → Int32) (ret : Int32) (p : Program) (e : Env) (s : State) (m : MethodId) (below : List Frame) (meth : Method) (c : Code) (hr : meth.sig.returnType = (Option.some Jvm.ClassFile.FieldType.int)) (hnm : meth.name = y_Mo_stopOf.name) : ∀ (k_2 : Nat) (v2_2 : Int32), F_Mo_stopOf_2 known_h0 thrown_h0 wrong_h0 lastEnd_h0 at_h0 bad_h0 levels_h0 least_h0 found_h0 size_m5 n_a_all_m5 b_a_all_m5  k_2 v2_2 = some ret → J (KxOf p l e { frames := 2, cells := 0, slots := 0, locals := 45 } s m [.ref h0, .int p1].toArray below meth c D (gT cI cB cJ cS) [(h0, .inr (9, moF am known_h0 thrown_h0 wrong_h0 lastEnd_h0 at_h0 bad_h0 levels_h0 least_h0 found_h0)), ((am 5), .inr (8, [.ref a_all_m5, .int size_m5])), (a_all_m5, .inl (cI, n_a_all_m5, .inl b_a_all_m5))] (fun v w => v = some (.int ret) ∧ w = [(h0, .inr (9, moF am known_h0 thrown_h0 wrong_h0 lastEnd_h0 at_h0 bad_h0 levels_h0 least_h0 found_h0)), ((am 5), .inr (8, [.ref a_all_m5, .int size_m5])), (a_all_m5, .inl (cI, n_a_all_m5, .inl b_a_all_m5))]) 0 0) prog_12_method_59_code 3 R_Mo 2 [(2, .int v2_2), (0, .ref h0), (1, .int p1)] [] [(h0, .inr (9, moF am known_h0 thrown_h0 wrong_h0 lastEnd_h0 at_h0 bad_h0 levels_h0 least_h0 found_h0)), ((am 5), .inr (8, [.ref a_all_m5, .int size_m5])), (a_all_m5, .inl (cI, n_a_all_m5, .inl b_a_all_m5))] 0 0 := by
  intro k_2
  induction k_2 with
  | zero => intro v2_2 h; rw [F_Mo_stopOf_2] at h; cases h
  | succ k_2 ih_2 =>
    intro v2_2 h
    rw [F_Mo_stopOf_2] at h
    refine j_aload_n d_Mo_stopOf_2 rfl 1 rfl ?_
    refine j_get ig_Mo rfl 0 rfl 5 (by decide) rfl m_1118 rfl d_Mo_stopOf_3 ?_
    refine j_iload_n d_Mo_stopOf_6 rfl 0 rfl ?_
    replace h := bd_s h
    obtain ⟨_, k1, h⟩ := h
    refine j_callV (n := 1) (As := [.int v2_2]) (rest := []) (wr := [(h0, .inr (9, moF am known_h0 thrown_h0 wrong_h0 lastEnd_h0 at_h0 bad_h0 levels_h0 least_h0 found_h0))]) (c_Nm_at l D cI cB cJ cS (am 5) a_all_m5 v2_2 size_m5 n_a_all_m5 b_a_all_m5  k1) k_Mo_214 (by decide) ⟨Nat.le_of_ble_eq_true rfl, Nat.le_of_ble_eq_true rfl⟩ rfl 0 rfl [1, 2] [0] rfl (by decide) rfl (by decide) (by decide) rfl rfl (Nat.le_of_ble_eq_true rfl) d_Mo_stopOf_7 ⟨Nat.le_of_ble_eq_true rfl, Nat.le_of_ble_eq_true rfl⟩ (fun v w hq => ?_)
    obtain ⟨rfl, rfl⟩ := hq
    refine j_norm (pc' := 10) (st' := [.int (b_a_all_m5 (Int32.toNatClampNeg v2_2))]) (ws' := [(h0, .inr (9, moF am known_h0 thrown_h0 wrong_h0 lastEnd_h0 at_h0 bad_h0 levels_h0 least_h0 found_h0)), ((am 5), .inr (8, [.ref a_all_m5, .int size_m5])), (a_all_m5, .inl (cI, n_a_all_m5, .inl b_a_all_m5))]) (cl' := 0) (sl' := 0) rfl rfl rfl rfl rfl rfl ?_
    refine j_bipush (v := 55) d_Mo_stopOf_10 (by decide) ?_
    refine j_icmp_eq (tgt := 58) d_Mo_stopOf_12 (by decide) (fun c2 => ?_) (fun c2 => ?_)
    · replace h := it_t c2 h
      refine j_iload_n d_Mo_stopOf_58 rfl 0 rfl ?_
      replace h := Option.some.inj h
      subst h
      exact j_iret (w := [(h0, .inr (9, moF am known_h0 thrown_h0 wrong_h0 lastEnd_h0 at_h0 bad_h0 levels_h0 least_h0 found_h0)), ((am 5), .inr (8, [.ref a_all_m5, .int size_m5])), (a_all_m5, .inl (cI, n_a_all_m5, .inl b_a_all_m5))]) hr d_Mo_stopOf_59 [0, 1, 2] rfl (by decide) ⟨rfl, rfl⟩
    · replace h := it_f c2 h
      refine j_aload_n d_Mo_stopOf_15 rfl 1 rfl ?_
      refine j_get ig_Mo rfl 0 rfl 5 (by decide) rfl m_1118 rfl d_Mo_stopOf_16 ?_
      refine j_iload_n d_Mo_stopOf_19 rfl 0 rfl ?_
      replace h := bd_s h
      obtain ⟨_, k3, h⟩ := h
      refine j_callV (n := 1) (As := [.int v2_2]) (rest := []) (wr := [(h0, .inr (9, moF am known_h0 thrown_h0 wrong_h0 lastEnd_h0 at_h0 bad_h0 levels_h0 least_h0 found_h0))]) (c_Nm_at l D cI cB cJ cS (am 5) a_all_m5 v2_2 size_m5 n_a_all_m5 b_a_all_m5  k3) k_Mo_214 (by decide) ⟨Nat.le_of_ble_eq_true rfl, Nat.le_of_ble_eq_true rfl⟩ rfl 0 rfl [1, 2] [0] rfl (by decide) rfl (by decide) (by decide) rfl rfl (Nat.le_of_ble_eq_true rfl) d_Mo_stopOf_20 ⟨Nat.le_of_ble_eq_true rfl, Nat.le_of_ble_eq_true rfl⟩ (fun v w hq => ?_)
      obtain ⟨rfl, rfl⟩ := hq
      refine j_norm (pc' := 23) (st' := [.int (b_a_all_m5 (Int32.toNatClampNeg v2_2))]) (ws' := [(h0, .inr (9, moF am known_h0 thrown_h0 wrong_h0 lastEnd_h0 at_h0 bad_h0 levels_h0 least_h0 found_h0)), ((am 5), .inr (8, [.ref a_all_m5, .int size_m5])), (a_all_m5, .inl (cI, n_a_all_m5, .inl b_a_all_m5))]) (cl' := 0) (sl' := 0) rfl rfl rfl rfl rfl rfl ?_
      refine j_bipush (v := 50) d_Mo_stopOf_23 (by decide) ?_
      refine j_icmp_eq (tgt := 41) d_Mo_stopOf_25 (by decide) (fun c4 => ?_) (fun c4 => ?_)
      · replace h := it_t c4 h
        refine j_aload_n d_Mo_stopOf_41 rfl 1 rfl ?_
        refine j_iload_n d_Mo_stopOf_42 rfl 0 rfl ?_
        replace h := bd_s h
        obtain ⟨r5, k6, h⟩ := h
        refine j_callV (n := 1) (As := [.int v2_2]) (rest := []) (wr := []) (c_Mo_closing l D cI cB cJ cS h0 am a_all_m5 v2_2 known_h0 thrown_h0 wrong_h0 lastEnd_h0 at_h0 bad_h0 levels_h0 least_h0 found_h0 size_m5 n_a_all_m5 b_a_all_m5  r5 k6) k_Mo_350 (by decide) ⟨Nat.le_of_ble_eq_true rfl, Nat.le_of_ble_eq_true rfl⟩ rfl 0 rfl [0, 1, 2] [] rfl (by decide) rfl (by decide) (by decide) rfl rfl (Nat.le_of_ble_eq_true rfl) d_Mo_stopOf_43 ⟨Nat.le_of_ble_eq_true rfl, Nat.le_of_ble_eq_true rfl⟩ (fun v w hq => ?_)
        obtain ⟨rfl, rfl⟩ := hq
        refine j_norm (pc' := 46) (st' := [.int r5]) (ws' := [(h0, .inr (9, moF am known_h0 thrown_h0 wrong_h0 lastEnd_h0 at_h0 bad_h0 levels_h0 least_h0 found_h0)), ((am 5), .inr (8, [.ref a_all_m5, .int size_m5])), (a_all_m5, .inl (cI, n_a_all_m5, .inl b_a_all_m5))]) (cl' := 0) (sl' := 0) rfl rfl rfl rfl rfl rfl ?_
        refine j_iconst (v := 1) d_Mo_stopOf_46 (by decide) ?_
        refine j_iadd d_Mo_stopOf_47 ?_
        refine j_goto (tgt := 54) d_Mo_stopOf_48 (by decide) ?_
        refine j_istore_n (lv' := [(2, .int (r5 + 1)), (0, .ref h0), (1, .int p1)]) d_Mo_stopOf_54 rfl (by decide) rfl ?_
        refine j_goto (tgt := 2) d_Mo_stopOf_55 (by decide) ?_
        refine j_sub (w := [(h0, .inr (9, moF am known_h0 thrown_h0 wrong_h0 lastEnd_h0 at_h0 bad_h0 levels_h0 least_h0 found_h0)), ((am 5), .inr (8, [.ref a_all_m5, .int size_m5])), (a_all_m5, .inl (cI, n_a_all_m5, .inl b_a_all_m5))]) (lv' := [(2, .int (r5 + 1)), (0, .ref h0), (1, .int p1)]) [0, 1, 2] rfl (by decide) [0, 1, 2] rfl ?_
        exact ih_2 (r5 + 1) h
      · replace h := it_f c4 h
        refine j_aload_n d_Mo_stopOf_28 rfl 1 rfl ?_
        refine j_get ig_Mo rfl 0 rfl 5 (by decide) rfl m_1118 rfl d_Mo_stopOf_29 ?_
        refine j_iload_n d_Mo_stopOf_32 rfl 0 rfl ?_
        replace h := bd_s h
        obtain ⟨_, k7, h⟩ := h
        refine j_callV (n := 1) (As := [.int v2_2]) (rest := []) (wr := [(h0, .inr (9, moF am known_h0 thrown_h0 wrong_h0 lastEnd_h0 at_h0 bad_h0 levels_h0 least_h0 found_h0))]) (c_Nm_at l D cI cB cJ cS (am 5) a_all_m5 v2_2 size_m5 n_a_all_m5 b_a_all_m5  k7) k_Mo_214 (by decide) ⟨Nat.le_of_ble_eq_true rfl, Nat.le_of_ble_eq_true rfl⟩ rfl 0 rfl [1, 2] [0] rfl (by decide) rfl (by decide) (by decide) rfl rfl (Nat.le_of_ble_eq_true rfl) d_Mo_stopOf_33 ⟨Nat.le_of_ble_eq_true rfl, Nat.le_of_ble_eq_true rfl⟩ (fun v w hq => ?_)
        obtain ⟨rfl, rfl⟩ := hq
        refine j_norm (pc' := 36) (st' := [.int (b_a_all_m5 (Int32.toNatClampNeg v2_2))]) (ws' := [(h0, .inr (9, moF am known_h0 thrown_h0 wrong_h0 lastEnd_h0 at_h0 bad_h0 levels_h0 least_h0 found_h0)), ((am 5), .inr (8, [.ref a_all_m5, .int size_m5])), (a_all_m5, .inl (cI, n_a_all_m5, .inl b_a_all_m5))]) (cl' := 0) (sl' := 0) rfl rfl rfl rfl rfl rfl ?_
        refine j_bipush (v := 52) d_Mo_stopOf_36 (by decide) ?_
        refine j_icmp_ne (tgt := 51) d_Mo_stopOf_38 (by decide) (fun c8 => ?_) (fun c8 => ?_)
        · replace h := it_f c8 h
          refine j_iload_n d_Mo_stopOf_51 rfl 0 rfl ?_
          refine j_iconst (v := 1) d_Mo_stopOf_52 (by decide) ?_
          refine j_iadd d_Mo_stopOf_53 ?_
          refine j_istore_n (lv' := [(2, .int (v2_2 + 1)), (0, .ref h0), (1, .int p1)]) d_Mo_stopOf_54 rfl (by decide) rfl ?_
          refine j_goto (tgt := 2) d_Mo_stopOf_55 (by decide) ?_
          refine j_sub (w := [(h0, .inr (9, moF am known_h0 thrown_h0 wrong_h0 lastEnd_h0 at_h0 bad_h0 levels_h0 least_h0 found_h0)), ((am 5), .inr (8, [.ref a_all_m5, .int size_m5])), (a_all_m5, .inl (cI, n_a_all_m5, .inl b_a_all_m5))]) (lv' := [(2, .int (v2_2 + 1)), (0, .ref h0), (1, .int p1)]) [0, 1, 2] rfl (by decide) [0, 1, 2] rfl ?_
          exact ih_2 (v2_2 + 1) h
        · replace h := it_t c8 h
          refine j_aload_n d_Mo_stopOf_41 rfl 1 rfl ?_
          refine j_iload_n d_Mo_stopOf_42 rfl 0 rfl ?_
          replace h := bd_s h
          obtain ⟨r9, k10, h⟩ := h
          refine j_callV (n := 1) (As := [.int v2_2]) (rest := []) (wr := []) (c_Mo_closing l D cI cB cJ cS h0 am a_all_m5 v2_2 known_h0 thrown_h0 wrong_h0 lastEnd_h0 at_h0 bad_h0 levels_h0 least_h0 found_h0 size_m5 n_a_all_m5 b_a_all_m5  r9 k10) k_Mo_350 (by decide) ⟨Nat.le_of_ble_eq_true rfl, Nat.le_of_ble_eq_true rfl⟩ rfl 0 rfl [0, 1, 2] [] rfl (by decide) rfl (by decide) (by decide) rfl rfl (Nat.le_of_ble_eq_true rfl) d_Mo_stopOf_43 ⟨Nat.le_of_ble_eq_true rfl, Nat.le_of_ble_eq_true rfl⟩ (fun v w hq => ?_)
          obtain ⟨rfl, rfl⟩ := hq
          refine j_norm (pc' := 46) (st' := [.int r9]) (ws' := [(h0, .inr (9, moF am known_h0 thrown_h0 wrong_h0 lastEnd_h0 at_h0 bad_h0 levels_h0 least_h0 found_h0)), ((am 5), .inr (8, [.ref a_all_m5, .int size_m5])), (a_all_m5, .inl (cI, n_a_all_m5, .inl b_a_all_m5))]) (cl' := 0) (sl' := 0) rfl rfl rfl rfl rfl rfl ?_
          refine j_iconst (v := 1) d_Mo_stopOf_46 (by decide) ?_
          refine j_iadd d_Mo_stopOf_47 ?_
          refine j_goto (tgt := 54) d_Mo_stopOf_48 (by decide) ?_
          refine j_istore_n (lv' := [(2, .int (r9 + 1)), (0, .ref h0), (1, .int p1)]) d_Mo_stopOf_54 rfl (by decide) rfl ?_
          refine j_goto (tgt := 2) d_Mo_stopOf_55 (by decide) ?_
          refine j_sub (w := [(h0, .inr (9, moF am known_h0 thrown_h0 wrong_h0 lastEnd_h0 at_h0 bad_h0 levels_h0 least_h0 found_h0)), ((am 5), .inr (8, [.ref a_all_m5, .int size_m5])), (a_all_m5, .inl (cI, n_a_all_m5, .inl b_a_all_m5))]) (lv' := [(2, .int (r9 + 1)), (0, .ref h0), (1, .int p1)]) [0, 1, 2] rfl (by decide) [0, 1, 2] rfl ?_
          exact ih_2 (r9 + 1) h
set_option maxHeartbeats 4000000 in
set_option maxRecDepth 100000 in
theorem c_Mo_stopOf (l : Launch) (D : va_G) (cI cB cJ cS : ClassId) (h0 : Nat) (am : Nat → Nat) (a_all_m5 : Nat) (p1 : Int32) (known_h0 : Int32) (thrown_h0 : Int32) (wrong_h0 : Int32) (lastEnd_h0 : Int32) (at_h0 : Int32) (bad_h0 : Int32) (levels_h0 : Int32) (least_h0 : Int32) (found_h0 : Int32) (size_m5 : Int32) (n_a_all_m5 : Nat) (b_a_all_m5 : Nat → Int32) (ret : Int32) (h : F_Mo_stopOf p1 known_h0 thrown_h0 wrong_h0 lastEnd_h0 at_h0 bad_h0 levels_h0 least_h0 found_h0 size_m5 n_a_all_m5 b_a_all_m5 = some ret) : Ct l D (gT cI cB cJ cS) y_Mo_stopOf prog_12_method_59_code 3 (Option.some Jvm.ClassFile.FieldType.int) 2 45 0 0 [.ref h0, .int p1] [(h0, .inr (9, moF am known_h0 thrown_h0 wrong_h0 lastEnd_h0 at_h0 bad_h0 levels_h0 least_h0 found_h0)), ((am 5), .inr (8, [.ref a_all_m5, .int size_m5])), (a_all_m5, .inl (cI, n_a_all_m5, .inl b_a_all_m5))] (fun v w => v = some (.int ret) ∧ w = [(h0, .inr (9, moF am known_h0 thrown_h0 wrong_h0 lastEnd_h0 at_h0 bad_h0 levels_h0 least_h0 found_h0)), ((am 5), .inr (8, [.ref a_all_m5, .int size_m5])), (a_all_m5, .inl (cI, n_a_all_m5, .inl b_a_all_m5))]) := by
  refine Ct.mk (by decide) (Nat.le_of_ble_eq_true rfl) ?_
  intro p e s m below meth c hr hnm
  refine j_norm (pc' := 0) (lv' := [(0, .ref h0), (1, .int p1)]) (st' := []) (ws' := [(h0, .inr (9, moF am known_h0 thrown_h0 wrong_h0 lastEnd_h0 at_h0 bad_h0 levels_h0 least_h0 found_h0)), ((am 5), .inr (8, [.ref a_all_m5, .int size_m5])), (a_all_m5, .inl (cI, n_a_all_m5, .inl b_a_all_m5))]) (cl' := 0) (sl' := 0) rfl rfl rfl rfl rfl rfl ?_
  unfold F_Mo_stopOf at h
  refine j_iload_n d_Mo_stopOf_0 rfl 1 rfl ?_
  refine j_istore_n (lv' := [(2, .int p1), (0, .ref h0), (1, .int p1)]) d_Mo_stopOf_1 rfl (by decide) rfl ?_
  refine j_sub (w := [(h0, .inr (9, moF am known_h0 thrown_h0 wrong_h0 lastEnd_h0 at_h0 bad_h0 levels_h0 least_h0 found_h0)), ((am 5), .inr (8, [.ref a_all_m5, .int size_m5])), (a_all_m5, .inl (cI, n_a_all_m5, .inl b_a_all_m5))]) (lv' := [(2, .int p1), (0, .ref h0), (1, .int p1)]) [0, 1, 2] rfl (by decide) [0, 1, 2] rfl ?_
  exact L_Mo_stopOf_2 l D cI cB cJ cS h0 am a_all_m5 p1 known_h0 thrown_h0 wrong_h0 lastEnd_h0 at_h0 bad_h0 levels_h0 least_h0 found_h0 size_m5 n_a_all_m5 b_a_all_m5 ret p e s m below meth c hr hnm FU p1 h
def F_Mo_branchEnd_48 (known_h0 : Int32) (thrown_h0 : Int32) (wrong_h0 : Int32) (lastEnd_h0 : Int32) (at_h0 : Int32) (bad_h0 : Int32) (levels_h0 : Int32) (least_h0 : Int32) (found_h0 : Int32) (size_m5 : Int32) (n_a_all_m5 : Nat) (b_a_all_m5 : Nat → Int32) (v3_4 : Int32) (v2_4 : Int32) (K_4 : Int32 → Int32 → Option (Int32)) : Option (Int32) :=
    if (b_a_all_m5 (Int32.toNatClampNeg v2_4)) = 50 then (Option.bind (F_Mo_closing v2_4 known_h0 thrown_h0 wrong_h0 lastEnd_h0 at_h0 bad_h0 levels_h0 least_h0 found_h0 size_m5 n_a_all_m5 b_a_all_m5) fun r2 =>
      K_4 v3_4 (r2 + 1))
    else if (b_a_all_m5 (Int32.toNatClampNeg v2_4)) = 52 then (Option.bind (F_Mo_closing v2_4 known_h0 thrown_h0 wrong_h0 lastEnd_h0 at_h0 bad_h0 levels_h0 least_h0 found_h0 size_m5 n_a_all_m5 b_a_all_m5) fun r10 =>
      K_4 v3_4 (r10 + 1))
    else (nm (F_Mo_opensBlock (b_a_all_m5 (Int32.toNatClampNeg v2_4))) fun r5 =>
      if r5 = 0 then (if (b_a_all_m5 (Int32.toNatClampNeg v2_4)) = 13 then (K_4 (v3_4 - 1) (v2_4 + 1))
        else (K_4 v3_4 (v2_4 + 1)))
      else (K_4 (v3_4 + 1) (v2_4 + 1)))
def F_Mo_branchEnd_4 (known_h0 : Int32) (thrown_h0 : Int32) (wrong_h0 : Int32) (lastEnd_h0 : Int32) (at_h0 : Int32) (bad_h0 : Int32) (levels_h0 : Int32) (least_h0 : Int32) (found_h0 : Int32) (size_m5 : Int32) (n_a_all_m5 : Nat) (b_a_all_m5 : Nat → Int32) : Nat → Int32 → Int32 → Option (Int32)
  | 0, _, _ => none
  | k_4 + 1, v3_4, v2_4 =>
    Option.bind (F_Nm_at v2_4 size_m5 n_a_all_m5 b_a_all_m5) fun _ =>
    if v3_4 = 0 then (if (b_a_all_m5 (Int32.toNatClampNeg v2_4)) = 12 then (some v2_4)
      else if (b_a_all_m5 (Int32.toNatClampNeg v2_4)) = 11 then (some v2_4)
      else if (b_a_all_m5 (Int32.toNatClampNeg v2_4)) = 23 then (some v2_4)
      else if (b_a_all_m5 (Int32.toNatClampNeg v2_4)) = 13 then (some v2_4)
      else (F_Mo_branchEnd_48 known_h0 thrown_h0 wrong_h0 lastEnd_h0 at_h0 bad_h0 levels_h0 least_h0 found_h0 size_m5 n_a_all_m5 b_a_all_m5 v3_4 v2_4 (F_Mo_branchEnd_4 known_h0 thrown_h0 wrong_h0 lastEnd_h0 at_h0 bad_h0 levels_h0 least_h0 found_h0 size_m5 n_a_all_m5 b_a_all_m5  k_4)  ))
    else (F_Mo_branchEnd_48 known_h0 thrown_h0 wrong_h0 lastEnd_h0 at_h0 bad_h0 levels_h0 least_h0 found_h0 size_m5 n_a_all_m5 b_a_all_m5 v3_4 v2_4 (F_Mo_branchEnd_4 known_h0 thrown_h0 wrong_h0 lastEnd_h0 at_h0 bad_h0 levels_h0 least_h0 found_h0 size_m5 n_a_all_m5 b_a_all_m5  k_4)  )
def F_Mo_branchEnd (p1 : Int32) (known_h0 : Int32) (thrown_h0 : Int32) (wrong_h0 : Int32) (lastEnd_h0 : Int32) (at_h0 : Int32) (bad_h0 : Int32) (levels_h0 : Int32) (least_h0 : Int32) (found_h0 : Int32) (size_m5 : Int32) (n_a_all_m5 : Nat) (b_a_all_m5 : Nat → Int32) : Option (Int32) :=
  F_Mo_branchEnd_4 known_h0 thrown_h0 wrong_h0 lastEnd_h0 at_h0 bad_h0 levels_h0 least_h0 found_h0 size_m5 n_a_all_m5 b_a_all_m5  FU 0 p1
theorem d_Mo_branchEnd_0 : decode prog_12_method_60_code 0 = .ok (.iload_n 1, 1) := by decide +kernel
theorem d_Mo_branchEnd_1 : decode prog_12_method_60_code 1 = .ok (.istore_n 2, 1) := by decide +kernel
theorem d_Mo_branchEnd_2 : decode prog_12_method_60_code 2 = .ok (.iconst 0, 1) := by decide +kernel
theorem d_Mo_branchEnd_3 : decode prog_12_method_60_code 3 = .ok (.istore_n 3, 1) := by decide +kernel
theorem d_Mo_branchEnd_4 : decode prog_12_method_60_code 4 = .ok (.aload_n 0, 1) := by decide +kernel
theorem d_Mo_branchEnd_5 : decode prog_12_method_60_code 5 = .ok (.getfield 114, 3) := by decide +kernel
theorem d_Mo_branchEnd_8 : decode prog_12_method_60_code 8 = .ok (.iload_n 2, 1) := by decide +kernel
theorem d_Mo_branchEnd_9 : decode prog_12_method_60_code 9 = .ok (.invokevirtual 214, 3) := by decide +kernel
theorem d_Mo_branchEnd_12 : decode prog_12_method_60_code 12 = .ok (.istore 4, 2) := by decide +kernel
theorem d_Mo_branchEnd_14 : decode prog_12_method_60_code 14 = .ok (.iload_n 3, 1) := by decide +kernel
theorem d_Mo_branchEnd_15 : decode prog_12_method_60_code 15 = .ok (.ifCond .ne 33, 3) := by decide +kernel
theorem d_Mo_branchEnd_18 : decode prog_12_method_60_code 18 = .ok (.iload 4, 2) := by decide +kernel
theorem d_Mo_branchEnd_20 : decode prog_12_method_60_code 20 = .ok (.bipush 12, 2) := by decide +kernel
theorem d_Mo_branchEnd_22 : decode prog_12_method_60_code 22 = .ok (.if_icmp .eq 24, 3) := by decide +kernel
theorem d_Mo_branchEnd_25 : decode prog_12_method_60_code 25 = .ok (.iload 4, 2) := by decide +kernel
theorem d_Mo_branchEnd_27 : decode prog_12_method_60_code 27 = .ok (.bipush 11, 2) := by decide +kernel
theorem d_Mo_branchEnd_29 : decode prog_12_method_60_code 29 = .ok (.if_icmp .eq 17, 3) := by decide +kernel
theorem d_Mo_branchEnd_32 : decode prog_12_method_60_code 32 = .ok (.iload 4, 2) := by decide +kernel
theorem d_Mo_branchEnd_34 : decode prog_12_method_60_code 34 = .ok (.bipush 23, 2) := by decide +kernel
theorem d_Mo_branchEnd_36 : decode prog_12_method_60_code 36 = .ok (.if_icmp .eq 10, 3) := by decide +kernel
theorem d_Mo_branchEnd_39 : decode prog_12_method_60_code 39 = .ok (.iload 4, 2) := by decide +kernel
theorem d_Mo_branchEnd_41 : decode prog_12_method_60_code 41 = .ok (.bipush 13, 2) := by decide +kernel
theorem d_Mo_branchEnd_43 : decode prog_12_method_60_code 43 = .ok (.if_icmp .ne 5, 3) := by decide +kernel
theorem d_Mo_branchEnd_46 : decode prog_12_method_60_code 46 = .ok (.iload_n 2, 1) := by decide +kernel
theorem d_Mo_branchEnd_47 : decode prog_12_method_60_code 47 = .ok (.ireturn, 1) := by decide +kernel
theorem d_Mo_branchEnd_48 : decode prog_12_method_60_code 48 = .ok (.iload 4, 2) := by decide +kernel
theorem d_Mo_branchEnd_50 : decode prog_12_method_60_code 50 = .ok (.bipush 50, 2) := by decide +kernel
theorem d_Mo_branchEnd_52 : decode prog_12_method_60_code 52 = .ok (.if_icmp .eq 10, 3) := by decide +kernel
theorem d_Mo_branchEnd_55 : decode prog_12_method_60_code 55 = .ok (.iload 4, 2) := by decide +kernel
theorem d_Mo_branchEnd_57 : decode prog_12_method_60_code 57 = .ok (.bipush 52, 2) := by decide +kernel
theorem d_Mo_branchEnd_59 : decode prog_12_method_60_code 59 = .ok (.if_icmp .ne 12, 3) := by decide +kernel
theorem d_Mo_branchEnd_62 : decode prog_12_method_60_code 62 = .ok (.aload_n 0, 1) := by decide +kernel
theorem d_Mo_branchEnd_63 : decode prog_12_method_60_code 63 = .ok (.iload_n 2, 1) := by decide +kernel
theorem d_Mo_branchEnd_64 : decode prog_12_method_60_code 64 = .ok (.invokevirtual 350, 3) := by decide +kernel
theorem d_Mo_branchEnd_67 : decode prog_12_method_60_code 67 = .ok (.istore_n 2, 1) := by decide +kernel
theorem d_Mo_branchEnd_68 : decode prog_12_method_60_code 68 = .ok (.goto 32, 3) := by decide +kernel
theorem d_Mo_branchEnd_71 : decode prog_12_method_60_code 71 = .ok (.iload 4, 2) := by decide +kernel
theorem d_Mo_branchEnd_73 : decode prog_12_method_60_code 73 = .ok (.invokestatic 420, 3) := by decide +kernel
theorem d_Mo_branchEnd_76 : decode prog_12_method_60_code 76 = .ok (.ifCond .eq 9, 3) := by decide +kernel
theorem d_Mo_branchEnd_79 : decode prog_12_method_60_code 79 = .ok (.iload_n 3, 1) := by decide +kernel
theorem d_Mo_branchEnd_80 : decode prog_12_method_60_code 80 = .ok (.iconst 1, 1) := by decide +kernel
theorem d_Mo_branchEnd_81 : decode prog_12_method_60_code 81 = .ok (.iadd, 1) := by decide +kernel
theorem d_Mo_branchEnd_82 : decode prog_12_method_60_code 82 = .ok (.goto 17, 3) := by decide +kernel
theorem d_Mo_branchEnd_85 : decode prog_12_method_60_code 85 = .ok (.iload 4, 2) := by decide +kernel
theorem d_Mo_branchEnd_87 : decode prog_12_method_60_code 87 = .ok (.bipush 13, 2) := by decide +kernel
theorem d_Mo_branchEnd_89 : decode prog_12_method_60_code 89 = .ok (.if_icmp .ne 9, 3) := by decide +kernel
theorem d_Mo_branchEnd_92 : decode prog_12_method_60_code 92 = .ok (.iload_n 3, 1) := by decide +kernel
theorem d_Mo_branchEnd_93 : decode prog_12_method_60_code 93 = .ok (.iconst 1, 1) := by decide +kernel
theorem d_Mo_branchEnd_94 : decode prog_12_method_60_code 94 = .ok (.isub, 1) := by decide +kernel
theorem d_Mo_branchEnd_95 : decode prog_12_method_60_code 95 = .ok (.goto 4, 3) := by decide +kernel
theorem d_Mo_branchEnd_98 : decode prog_12_method_60_code 98 = .ok (.iload_n 3, 1) := by decide +kernel
theorem d_Mo_branchEnd_99 : decode prog_12_method_60_code 99 = .ok (.istore_n 3, 1) := by decide +kernel
theorem d_Mo_branchEnd_100 : decode prog_12_method_60_code 100 = .ok (.iinc 2 1, 3) := by decide +kernel
theorem d_Mo_branchEnd_103 : decode prog_12_method_60_code 103 = .ok (.goto (-99), 3) := by decide +kernel
set_option maxHeartbeats 4000000 in
set_option maxRecDepth 100000 in
theorem L_Mo_branchEnd_4 (l : Launch) (D : va_G) (cI cB cJ cS : ClassId) (h0 : Nat) (am : Nat → Nat) (a_all_m5 : Nat) (p1 : Int32) (known_h0 : Int32) (thrown_h0 : Int32) (wrong_h0 : Int32) (lastEnd_h0 : Int32) (at_h0 : Int32) (bad_h0 : Int32) (levels_h0 : Int32) (least_h0 : Int32) (found_h0 : Int32) (size_m5 : Int32) (n_a_all_m5 : Nat) (b_a_all_m5 : Nat → Int32) (ret : Int32) (p : Program) (e : Env) (s : State) (m : MethodId) (below : List Frame) (meth : Method) (c : Code) (hr : meth.sig.returnType = (Option.some Jvm.ClassFile.FieldType.int)) (hnm : meth.name = y_Mo_branchEnd.name) : ∀ (k_4 : Nat) (v3_4 : Int32) (v2_4 : Int32), F_Mo_branchEnd_4 known_h0 thrown_h0 wrong_h0 lastEnd_h0 at_h0 bad_h0 levels_h0 least_h0 found_h0 size_m5 n_a_all_m5 b_a_all_m5  k_4 v3_4 v2_4 = some ret → J (KxOf p l e { frames := 2, cells := 0, slots := 0, locals := 45 } s m [.ref h0, .int p1].toArray below meth c D (gT cI cB cJ cS) [(h0, .inr (9, moF am known_h0 thrown_h0 wrong_h0 lastEnd_h0 at_h0 bad_h0 levels_h0 least_h0 found_h0)), ((am 5), .inr (8, [.ref a_all_m5, .int size_m5])), (a_all_m5, .inl (cI, n_a_all_m5, .inl b_a_all_m5))] (fun v w => v = some (.int ret) ∧ w = [(h0, .inr (9, moF am known_h0 thrown_h0 wrong_h0 lastEnd_h0 at_h0 bad_h0 levels_h0 least_h0 found_h0)), ((am 5), .inr (8, [.ref a_all_m5, .int size_m5])), (a_all_m5, .inl (cI, n_a_all_m5, .inl b_a_all_m5))]) 0 0) prog_12_method_60_code 5 R_Mo 4 [(3, .int v3_4), (2, .int v2_4), (0, .ref h0), (1, .int p1)] [] [(h0, .inr (9, moF am known_h0 thrown_h0 wrong_h0 lastEnd_h0 at_h0 bad_h0 levels_h0 least_h0 found_h0)), ((am 5), .inr (8, [.ref a_all_m5, .int size_m5])), (a_all_m5, .inl (cI, n_a_all_m5, .inl b_a_all_m5))] 0 0 := by
  intro k_4
  induction k_4 with
  | zero => intro v3_4 v2_4 h; rw [F_Mo_branchEnd_4] at h; cases h
  | succ k_4 ih_4 =>
    intro v3_4 v2_4 h
    rw [F_Mo_branchEnd_4] at h
    have L_48 : F_Mo_branchEnd_48 known_h0 thrown_h0 wrong_h0 lastEnd_h0 at_h0 bad_h0 levels_h0 least_h0 found_h0 size_m5 n_a_all_m5 b_a_all_m5 v3_4 v2_4 (F_Mo_branchEnd_4 known_h0 thrown_h0 wrong_h0 lastEnd_h0 at_h0 bad_h0 levels_h0 least_h0 found_h0 size_m5 n_a_all_m5 b_a_all_m5  k_4)   = some ret → J (KxOf p l e { frames := 2, cells := 0, slots := 0, locals := 45 } s m [.ref h0, .int p1].toArray below meth c D (gT cI cB cJ cS) [(h0, .inr (9, moF am known_h0 thrown_h0 wrong_h0 lastEnd_h0 at_h0 bad_h0 levels_h0 least_h0 found_h0)), ((am 5), .inr (8, [.ref a_all_m5, .int size_m5])), (a_all_m5, .inl (cI, n_a_all_m5, .inl b_a_all_m5))] (fun v w => v = some (.int ret) ∧ w = [(h0, .inr (9, moF am known_h0 thrown_h0 wrong_h0 lastEnd_h0 at_h0 bad_h0 levels_h0 least_h0 found_h0)), ((am 5), .inr (8, [.ref a_all_m5, .int size_m5])), (a_all_m5, .inl (cI, n_a_all_m5, .inl b_a_all_m5))]) 0 0) prog_12_method_60_code 5 R_Mo 48 [(4, .int (b_a_all_m5 (Int32.toNatClampNeg v2_4))), (3, .int v3_4), (2, .int v2_4), (0, .ref h0), (1, .int p1)] [] [(h0, .inr (9, moF am known_h0 thrown_h0 wrong_h0 lastEnd_h0 at_h0 bad_h0 levels_h0 least_h0 found_h0)), ((am 5), .inr (8, [.ref a_all_m5, .int size_m5])), (a_all_m5, .inl (cI, n_a_all_m5, .inl b_a_all_m5))] 0 0 := by
      clear h
      intro  h
      unfold F_Mo_branchEnd_48 at h
      refine j_iload d_Mo_branchEnd_48 0 rfl ?_
      refine j_bipush (v := 50) d_Mo_branchEnd_50 (by decide) ?_
      refine j_icmp_eq (tgt := 62) d_Mo_branchEnd_52 (by decide) (fun c1 => ?_) (fun c1 => ?_)
      · replace h := it_t c1 h
        refine j_aload_n d_Mo_branchEnd_62 rfl 3 rfl ?_
        refine j_iload_n d_Mo_branchEnd_63 rfl 2 rfl ?_
        replace h := bd_s h
        obtain ⟨r2, k3, h⟩ := h
        refine j_callV (n := 1) (As := [.int v2_4]) (rest := []) (wr := []) (c_Mo_closing l D cI cB cJ cS h0 am a_all_m5 v2_4 known_h0 thrown_h0 wrong_h0 lastEnd_h0 at_h0 bad_h0 levels_h0 least_h0 found_h0 size_m5 n_a_all_m5 b_a_all_m5  r2 k3) k_Mo_350 (by decide) ⟨Nat.le_of_ble_eq_true rfl, Nat.le_of_ble_eq_true rfl⟩ rfl 0 rfl [0, 1, 2] [] rfl (by decide) rfl (by decide) (by decide) rfl rfl (Nat.le_of_ble_eq_true rfl) d_Mo_branchEnd_64 ⟨Nat.le_of_ble_eq_true rfl, Nat.le_of_ble_eq_true rfl⟩ (fun v w hq => ?_)
        obtain ⟨rfl, rfl⟩ := hq
        refine j_norm (pc' := 67) (st' := [.int r2]) (ws' := [(h0, .inr (9, moF am known_h0 thrown_h0 wrong_h0 lastEnd_h0 at_h0 bad_h0 levels_h0 least_h0 found_h0)), ((am 5), .inr (8, [.ref a_all_m5, .int size_m5])), (a_all_m5, .inl (cI, n_a_all_m5, .inl b_a_all_m5))]) (cl' := 0) (sl' := 0) rfl rfl rfl rfl rfl rfl ?_
        refine j_istore_n (lv' := [(2, .int r2), (4, .int (b_a_all_m5 (Int32.toNatClampNeg v2_4))), (3, .int v3_4), (0, .ref h0), (1, .int p1)]) d_Mo_branchEnd_67 rfl (by decide) rfl ?_
        refine j_goto (tgt := 100) d_Mo_branchEnd_68 (by decide) ?_
        refine j_iinc (v := r2 + 1) (lv' := [(2, .int (r2 + 1)), (4, .int (b_a_all_m5 (Int32.toNatClampNeg v2_4))), (3, .int v3_4), (0, .ref h0), (1, .int p1)]) d_Mo_branchEnd_100 0 rfl rfl (by decide) rfl ?_
        refine j_goto (tgt := 4) d_Mo_branchEnd_103 (by decide) ?_
        refine j_sub (w := [(h0, .inr (9, moF am known_h0 thrown_h0 wrong_h0 lastEnd_h0 at_h0 bad_h0 levels_h0 least_h0 found_h0)), ((am 5), .inr (8, [.ref a_all_m5, .int size_m5])), (a_all_m5, .inl (cI, n_a_all_m5, .inl b_a_all_m5))]) (lv' := [(3, .int v3_4), (2, .int (r2 + 1)), (0, .ref h0), (1, .int p1)]) [0, 1, 2] rfl (by decide) [2, 0, 3, 4] rfl ?_
        exact ih_4 v3_4 (r2 + 1) h
      · replace h := it_f c1 h
        refine j_iload d_Mo_branchEnd_55 0 rfl ?_
        refine j_bipush (v := 52) d_Mo_branchEnd_57 (by decide) ?_
        refine j_icmp_ne (tgt := 71) d_Mo_branchEnd_59 (by decide) (fun c4 => ?_) (fun c4 => ?_)
        · replace h := it_f c4 h
          refine j_iload d_Mo_branchEnd_71 0 rfl ?_
          obtain ⟨r5, k7⟩ : ∃ z, (F_Mo_opensBlock (b_a_all_m5 (Int32.toNatClampNeg v2_4))) = z := ⟨_, rfl⟩
          replace h := nm_at k7 h
          refine j_callS (n := 1) (As := [.int (b_a_all_m5 (Int32.toNatClampNeg v2_4))]) (rest := []) (wr := [(h0, .inr (9, moF am known_h0 thrown_h0 wrong_h0 lastEnd_h0 at_h0 bad_h0 levels_h0 least_h0 found_h0)), ((am 5), .inr (8, [.ref a_all_m5, .int size_m5])), (a_all_m5, .inl (cI, n_a_all_m5, .inl b_a_all_m5))]) (c_Mo_opensBlock l D cI cB cJ cS (b_a_all_m5 (Int32.toNatClampNeg v2_4))  r5 k7) k_Mo_420 (by decide) ⟨Nat.le_of_ble_eq_true rfl, Nat.le_of_ble_eq_true rfl⟩ [] [0, 1, 2] rfl (by decide) rfl (by decide) (by decide) rfl rfl (Nat.le_of_ble_eq_true rfl) d_Mo_branchEnd_73 ⟨Nat.le_of_ble_eq_true rfl, Nat.le_of_ble_eq_true rfl⟩ (fun v w hq => ?_)
          obtain ⟨rfl, z6, rfl⟩ := hq
          refine j_norm (pc' := 76) (st' := [.int r5]) (ws' := [(h0, .inr (9, moF am known_h0 thrown_h0 wrong_h0 lastEnd_h0 at_h0 bad_h0 levels_h0 least_h0 found_h0)), ((am 5), .inr (8, [.ref a_all_m5, .int size_m5])), (a_all_m5, .inl (cI, n_a_all_m5, .inl b_a_all_m5))]) (cl' := 0) (sl' := 0) rfl rfl rfl rfl rfl rfl ?_
          refine j_if_eq (tgt := 85) d_Mo_branchEnd_76 (by decide) (fun c8 => ?_) (fun c8 => ?_)
          · replace h := it_t c8 h
            refine j_iload d_Mo_branchEnd_85 0 rfl ?_
            refine j_bipush (v := 13) d_Mo_branchEnd_87 (by decide) ?_
            refine j_icmp_ne (tgt := 98) d_Mo_branchEnd_89 (by decide) (fun c9 => ?_) (fun c9 => ?_)
            · replace h := it_f c9 h
              refine j_iload_n d_Mo_branchEnd_98 rfl 1 rfl ?_
              refine j_istore_n (lv' := [(3, .int v3_4), (4, .int (b_a_all_m5 (Int32.toNatClampNeg v2_4))), (2, .int v2_4), (0, .ref h0), (1, .int p1)]) d_Mo_branchEnd_99 rfl (by decide) rfl ?_
              refine j_iinc (v := v2_4 + 1) (lv' := [(2, .int (v2_4 + 1)), (3, .int v3_4), (4, .int (b_a_all_m5 (Int32.toNatClampNeg v2_4))), (0, .ref h0), (1, .int p1)]) d_Mo_branchEnd_100 2 rfl rfl (by decide) rfl ?_
              refine j_goto (tgt := 4) d_Mo_branchEnd_103 (by decide) ?_
              refine j_sub (w := [(h0, .inr (9, moF am known_h0 thrown_h0 wrong_h0 lastEnd_h0 at_h0 bad_h0 levels_h0 least_h0 found_h0)), ((am 5), .inr (8, [.ref a_all_m5, .int size_m5])), (a_all_m5, .inl (cI, n_a_all_m5, .inl b_a_all_m5))]) (lv' := [(3, .int v3_4), (2, .int (v2_4 + 1)), (0, .ref h0), (1, .int p1)]) [0, 1, 2] rfl (by decide) [1, 0, 3, 4] rfl ?_
              exact ih_4 v3_4 (v2_4 + 1) h
            · replace h := it_t c9 h
              refine j_iload_n d_Mo_branchEnd_92 rfl 1 rfl ?_
              refine j_iconst (v := 1) d_Mo_branchEnd_93 (by decide) ?_
              refine j_isub d_Mo_branchEnd_94 ?_
              refine j_goto (tgt := 99) d_Mo_branchEnd_95 (by decide) ?_
              refine j_istore_n (lv' := [(3, .int (v3_4 - 1)), (4, .int (b_a_all_m5 (Int32.toNatClampNeg v2_4))), (2, .int v2_4), (0, .ref h0), (1, .int p1)]) d_Mo_branchEnd_99 rfl (by decide) rfl ?_
              refine j_iinc (v := v2_4 + 1) (lv' := [(2, .int (v2_4 + 1)), (3, .int (v3_4 - 1)), (4, .int (b_a_all_m5 (Int32.toNatClampNeg v2_4))), (0, .ref h0), (1, .int p1)]) d_Mo_branchEnd_100 2 rfl rfl (by decide) rfl ?_
              refine j_goto (tgt := 4) d_Mo_branchEnd_103 (by decide) ?_
              refine j_sub (w := [(h0, .inr (9, moF am known_h0 thrown_h0 wrong_h0 lastEnd_h0 at_h0 bad_h0 levels_h0 least_h0 found_h0)), ((am 5), .inr (8, [.ref a_all_m5, .int size_m5])), (a_all_m5, .inl (cI, n_a_all_m5, .inl b_a_all_m5))]) (lv' := [(3, .int (v3_4 - 1)), (2, .int (v2_4 + 1)), (0, .ref h0), (1, .int p1)]) [0, 1, 2] rfl (by decide) [1, 0, 3, 4] rfl ?_
              exact ih_4 (v3_4 - 1) (v2_4 + 1) h
          · replace h := it_f c8 h
            refine j_iload_n d_Mo_branchEnd_79 rfl 1 rfl ?_
            refine j_iconst (v := 1) d_Mo_branchEnd_80 (by decide) ?_
            refine j_iadd d_Mo_branchEnd_81 ?_
            refine j_goto (tgt := 99) d_Mo_branchEnd_82 (by decide) ?_
            refine j_istore_n (lv' := [(3, .int (v3_4 + 1)), (4, .int (b_a_all_m5 (Int32.toNatClampNeg v2_4))), (2, .int v2_4), (0, .ref h0), (1, .int p1)]) d_Mo_branchEnd_99 rfl (by decide) rfl ?_
            refine j_iinc (v := v2_4 + 1) (lv' := [(2, .int (v2_4 + 1)), (3, .int (v3_4 + 1)), (4, .int (b_a_all_m5 (Int32.toNatClampNeg v2_4))), (0, .ref h0), (1, .int p1)]) d_Mo_branchEnd_100 2 rfl rfl (by decide) rfl ?_
            refine j_goto (tgt := 4) d_Mo_branchEnd_103 (by decide) ?_
            refine j_sub (w := [(h0, .inr (9, moF am known_h0 thrown_h0 wrong_h0 lastEnd_h0 at_h0 bad_h0 levels_h0 least_h0 found_h0)), ((am 5), .inr (8, [.ref a_all_m5, .int size_m5])), (a_all_m5, .inl (cI, n_a_all_m5, .inl b_a_all_m5))]) (lv' := [(3, .int (v3_4 + 1)), (2, .int (v2_4 + 1)), (0, .ref h0), (1, .int p1)]) [0, 1, 2] rfl (by decide) [1, 0, 3, 4] rfl ?_
            exact ih_4 (v3_4 + 1) (v2_4 + 1) h
        · replace h := it_t c4 h
          refine j_aload_n d_Mo_branchEnd_62 rfl 3 rfl ?_
          refine j_iload_n d_Mo_branchEnd_63 rfl 2 rfl ?_
          replace h := bd_s h
          obtain ⟨r10, k11, h⟩ := h
          refine j_callV (n := 1) (As := [.int v2_4]) (rest := []) (wr := []) (c_Mo_closing l D cI cB cJ cS h0 am a_all_m5 v2_4 known_h0 thrown_h0 wrong_h0 lastEnd_h0 at_h0 bad_h0 levels_h0 least_h0 found_h0 size_m5 n_a_all_m5 b_a_all_m5  r10 k11) k_Mo_350 (by decide) ⟨Nat.le_of_ble_eq_true rfl, Nat.le_of_ble_eq_true rfl⟩ rfl 0 rfl [0, 1, 2] [] rfl (by decide) rfl (by decide) (by decide) rfl rfl (Nat.le_of_ble_eq_true rfl) d_Mo_branchEnd_64 ⟨Nat.le_of_ble_eq_true rfl, Nat.le_of_ble_eq_true rfl⟩ (fun v w hq => ?_)
          obtain ⟨rfl, rfl⟩ := hq
          refine j_norm (pc' := 67) (st' := [.int r10]) (ws' := [(h0, .inr (9, moF am known_h0 thrown_h0 wrong_h0 lastEnd_h0 at_h0 bad_h0 levels_h0 least_h0 found_h0)), ((am 5), .inr (8, [.ref a_all_m5, .int size_m5])), (a_all_m5, .inl (cI, n_a_all_m5, .inl b_a_all_m5))]) (cl' := 0) (sl' := 0) rfl rfl rfl rfl rfl rfl ?_
          refine j_istore_n (lv' := [(2, .int r10), (4, .int (b_a_all_m5 (Int32.toNatClampNeg v2_4))), (3, .int v3_4), (0, .ref h0), (1, .int p1)]) d_Mo_branchEnd_67 rfl (by decide) rfl ?_
          refine j_goto (tgt := 100) d_Mo_branchEnd_68 (by decide) ?_
          refine j_iinc (v := r10 + 1) (lv' := [(2, .int (r10 + 1)), (4, .int (b_a_all_m5 (Int32.toNatClampNeg v2_4))), (3, .int v3_4), (0, .ref h0), (1, .int p1)]) d_Mo_branchEnd_100 0 rfl rfl (by decide) rfl ?_
          refine j_goto (tgt := 4) d_Mo_branchEnd_103 (by decide) ?_
          refine j_sub (w := [(h0, .inr (9, moF am known_h0 thrown_h0 wrong_h0 lastEnd_h0 at_h0 bad_h0 levels_h0 least_h0 found_h0)), ((am 5), .inr (8, [.ref a_all_m5, .int size_m5])), (a_all_m5, .inl (cI, n_a_all_m5, .inl b_a_all_m5))]) (lv' := [(3, .int v3_4), (2, .int (r10 + 1)), (0, .ref h0), (1, .int p1)]) [0, 1, 2] rfl (by decide) [2, 0, 3, 4] rfl ?_
          exact ih_4 v3_4 (r10 + 1) h
    refine j_aload_n d_Mo_branchEnd_4 rfl 2 rfl ?_
    refine j_get ig_Mo rfl 0 rfl 5 (by decide) rfl m_1118 rfl d_Mo_branchEnd_5 ?_
    refine j_iload_n d_Mo_branchEnd_8 rfl 1 rfl ?_
    replace h := bd_s h
    obtain ⟨_, k12, h⟩ := h
    refine j_callV (n := 1) (As := [.int v2_4]) (rest := []) (wr := [(h0, .inr (9, moF am known_h0 thrown_h0 wrong_h0 lastEnd_h0 at_h0 bad_h0 levels_h0 least_h0 found_h0))]) (c_Nm_at l D cI cB cJ cS (am 5) a_all_m5 v2_4 size_m5 n_a_all_m5 b_a_all_m5  k12) k_Mo_214 (by decide) ⟨Nat.le_of_ble_eq_true rfl, Nat.le_of_ble_eq_true rfl⟩ rfl 0 rfl [1, 2] [0] rfl (by decide) rfl (by decide) (by decide) rfl rfl (Nat.le_of_ble_eq_true rfl) d_Mo_branchEnd_9 ⟨Nat.le_of_ble_eq_true rfl, Nat.le_of_ble_eq_true rfl⟩ (fun v w hq => ?_)
    obtain ⟨rfl, rfl⟩ := hq
    refine j_norm (pc' := 12) (st' := [.int (b_a_all_m5 (Int32.toNatClampNeg v2_4))]) (ws' := [(h0, .inr (9, moF am known_h0 thrown_h0 wrong_h0 lastEnd_h0 at_h0 bad_h0 levels_h0 least_h0 found_h0)), ((am 5), .inr (8, [.ref a_all_m5, .int size_m5])), (a_all_m5, .inl (cI, n_a_all_m5, .inl b_a_all_m5))]) (cl' := 0) (sl' := 0) rfl rfl rfl rfl rfl rfl ?_
    refine j_istore (lv' := [(4, .int (b_a_all_m5 (Int32.toNatClampNeg v2_4))), (3, .int v3_4), (2, .int v2_4), (0, .ref h0), (1, .int p1)]) d_Mo_branchEnd_12 (by decide) rfl ?_
    refine j_iload_n d_Mo_branchEnd_14 rfl 1 rfl ?_
    refine j_if_ne (tgt := 48) d_Mo_branchEnd_15 (by decide) (fun c13 => ?_) (fun c13 => ?_)
    · replace h := it_f c13 h
      refine j_sub (w := [(h0, .inr (9, moF am known_h0 thrown_h0 wrong_h0 lastEnd_h0 at_h0 bad_h0 levels_h0 least_h0 found_h0)), ((am 5), .inr (8, [.ref a_all_m5, .int size_m5])), (a_all_m5, .inl (cI, n_a_all_m5, .inl b_a_all_m5))]) (lv' := [(4, .int (b_a_all_m5 (Int32.toNatClampNeg v2_4))), (3, .int v3_4), (2, .int v2_4), (0, .ref h0), (1, .int p1)]) [0, 1, 2] rfl (by decide) [0, 1, 2, 3, 4] rfl ?_
      exact L_48  h
    · replace h := it_t c13 h
      refine j_iload d_Mo_branchEnd_18 0 rfl ?_
      refine j_bipush (v := 12) d_Mo_branchEnd_20 (by decide) ?_
      refine j_icmp_eq (tgt := 46) d_Mo_branchEnd_22 (by decide) (fun c14 => ?_) (fun c14 => ?_)
      · replace h := it_t c14 h
        refine j_iload_n d_Mo_branchEnd_46 rfl 2 rfl ?_
        replace h := Option.some.inj h
        subst h
        exact j_iret (w := [(h0, .inr (9, moF am known_h0 thrown_h0 wrong_h0 lastEnd_h0 at_h0 bad_h0 levels_h0 least_h0 found_h0)), ((am 5), .inr (8, [.ref a_all_m5, .int size_m5])), (a_all_m5, .inl (cI, n_a_all_m5, .inl b_a_all_m5))]) hr d_Mo_branchEnd_47 [0, 1, 2] rfl (by decide) ⟨rfl, rfl⟩
      · replace h := it_f c14 h
        refine j_iload d_Mo_branchEnd_25 0 rfl ?_
        refine j_bipush (v := 11) d_Mo_branchEnd_27 (by decide) ?_
        refine j_icmp_eq (tgt := 46) d_Mo_branchEnd_29 (by decide) (fun c15 => ?_) (fun c15 => ?_)
        · replace h := it_t c15 h
          refine j_iload_n d_Mo_branchEnd_46 rfl 2 rfl ?_
          replace h := Option.some.inj h
          subst h
          exact j_iret (w := [(h0, .inr (9, moF am known_h0 thrown_h0 wrong_h0 lastEnd_h0 at_h0 bad_h0 levels_h0 least_h0 found_h0)), ((am 5), .inr (8, [.ref a_all_m5, .int size_m5])), (a_all_m5, .inl (cI, n_a_all_m5, .inl b_a_all_m5))]) hr d_Mo_branchEnd_47 [0, 1, 2] rfl (by decide) ⟨rfl, rfl⟩
        · replace h := it_f c15 h
          refine j_iload d_Mo_branchEnd_32 0 rfl ?_
          refine j_bipush (v := 23) d_Mo_branchEnd_34 (by decide) ?_
          refine j_icmp_eq (tgt := 46) d_Mo_branchEnd_36 (by decide) (fun c16 => ?_) (fun c16 => ?_)
          · replace h := it_t c16 h
            refine j_iload_n d_Mo_branchEnd_46 rfl 2 rfl ?_
            replace h := Option.some.inj h
            subst h
            exact j_iret (w := [(h0, .inr (9, moF am known_h0 thrown_h0 wrong_h0 lastEnd_h0 at_h0 bad_h0 levels_h0 least_h0 found_h0)), ((am 5), .inr (8, [.ref a_all_m5, .int size_m5])), (a_all_m5, .inl (cI, n_a_all_m5, .inl b_a_all_m5))]) hr d_Mo_branchEnd_47 [0, 1, 2] rfl (by decide) ⟨rfl, rfl⟩
          · replace h := it_f c16 h
            refine j_iload d_Mo_branchEnd_39 0 rfl ?_
            refine j_bipush (v := 13) d_Mo_branchEnd_41 (by decide) ?_
            refine j_icmp_ne (tgt := 48) d_Mo_branchEnd_43 (by decide) (fun c17 => ?_) (fun c17 => ?_)
            · replace h := it_f c17 h
              refine j_sub (w := [(h0, .inr (9, moF am known_h0 thrown_h0 wrong_h0 lastEnd_h0 at_h0 bad_h0 levels_h0 least_h0 found_h0)), ((am 5), .inr (8, [.ref a_all_m5, .int size_m5])), (a_all_m5, .inl (cI, n_a_all_m5, .inl b_a_all_m5))]) (lv' := [(4, .int (b_a_all_m5 (Int32.toNatClampNeg v2_4))), (3, .int v3_4), (2, .int v2_4), (0, .ref h0), (1, .int p1)]) [0, 1, 2] rfl (by decide) [0, 1, 2, 3, 4] rfl ?_
              exact L_48  h
            · replace h := it_t c17 h
              refine j_iload_n d_Mo_branchEnd_46 rfl 2 rfl ?_
              replace h := Option.some.inj h
              subst h
              exact j_iret (w := [(h0, .inr (9, moF am known_h0 thrown_h0 wrong_h0 lastEnd_h0 at_h0 bad_h0 levels_h0 least_h0 found_h0)), ((am 5), .inr (8, [.ref a_all_m5, .int size_m5])), (a_all_m5, .inl (cI, n_a_all_m5, .inl b_a_all_m5))]) hr d_Mo_branchEnd_47 [0, 1, 2] rfl (by decide) ⟨rfl, rfl⟩
set_option maxHeartbeats 4000000 in
set_option maxRecDepth 100000 in
theorem c_Mo_branchEnd (l : Launch) (D : va_G) (cI cB cJ cS : ClassId) (h0 : Nat) (am : Nat → Nat) (a_all_m5 : Nat) (p1 : Int32) (known_h0 : Int32) (thrown_h0 : Int32) (wrong_h0 : Int32) (lastEnd_h0 : Int32) (at_h0 : Int32) (bad_h0 : Int32) (levels_h0 : Int32) (least_h0 : Int32) (found_h0 : Int32) (size_m5 : Int32) (n_a_all_m5 : Nat) (b_a_all_m5 : Nat → Int32) (ret : Int32) (h : F_Mo_branchEnd p1 known_h0 thrown_h0 wrong_h0 lastEnd_h0 at_h0 bad_h0 levels_h0 least_h0 found_h0 size_m5 n_a_all_m5 b_a_all_m5 = some ret) : Ct l D (gT cI cB cJ cS) y_Mo_branchEnd prog_12_method_60_code 5 (Option.some Jvm.ClassFile.FieldType.int) 2 45 0 0 [.ref h0, .int p1] [(h0, .inr (9, moF am known_h0 thrown_h0 wrong_h0 lastEnd_h0 at_h0 bad_h0 levels_h0 least_h0 found_h0)), ((am 5), .inr (8, [.ref a_all_m5, .int size_m5])), (a_all_m5, .inl (cI, n_a_all_m5, .inl b_a_all_m5))] (fun v w => v = some (.int ret) ∧ w = [(h0, .inr (9, moF am known_h0 thrown_h0 wrong_h0 lastEnd_h0 at_h0 bad_h0 levels_h0 least_h0 found_h0)), ((am 5), .inr (8, [.ref a_all_m5, .int size_m5])), (a_all_m5, .inl (cI, n_a_all_m5, .inl b_a_all_m5))]) := by
  refine Ct.mk (by decide) (Nat.le_of_ble_eq_true rfl) ?_
  intro p e s m below meth c hr hnm
  refine j_norm (pc' := 0) (lv' := [(0, .ref h0), (1, .int p1)]) (st' := []) (ws' := [(h0, .inr (9, moF am known_h0 thrown_h0 wrong_h0 lastEnd_h0 at_h0 bad_h0 levels_h0 least_h0 found_h0)), ((am 5), .inr (8, [.ref a_all_m5, .int size_m5])), (a_all_m5, .inl (cI, n_a_all_m5, .inl b_a_all_m5))]) (cl' := 0) (sl' := 0) rfl rfl rfl rfl rfl rfl ?_
  unfold F_Mo_branchEnd at h
  refine j_iload_n d_Mo_branchEnd_0 rfl 1 rfl ?_
  refine j_istore_n (lv' := [(2, .int p1), (0, .ref h0), (1, .int p1)]) d_Mo_branchEnd_1 rfl (by decide) rfl ?_
  refine j_iconst (v := 0) d_Mo_branchEnd_2 (by decide) ?_
  refine j_istore_n (lv' := [(3, .int 0), (2, .int p1), (0, .ref h0), (1, .int p1)]) d_Mo_branchEnd_3 rfl (by decide) rfl ?_
  refine j_sub (w := [(h0, .inr (9, moF am known_h0 thrown_h0 wrong_h0 lastEnd_h0 at_h0 bad_h0 levels_h0 least_h0 found_h0)), ((am 5), .inr (8, [.ref a_all_m5, .int size_m5])), (a_all_m5, .inl (cI, n_a_all_m5, .inl b_a_all_m5))]) (lv' := [(3, .int 0), (2, .int p1), (0, .ref h0), (1, .int p1)]) [0, 1, 2] rfl (by decide) [0, 1, 2, 3] rfl ?_
  exact L_Mo_branchEnd_4 l D cI cB cJ cS h0 am a_all_m5 p1 known_h0 thrown_h0 wrong_h0 lastEnd_h0 at_h0 bad_h0 levels_h0 least_h0 found_h0 size_m5 n_a_all_m5 b_a_all_m5 ret p e s m below meth c hr hnm FU 0 p1 h
noncomputable def F_Mo_expressions_47 (known_h0 : Int32) (thrown_h0 : Int32) (wrong_h0 : Int32) (lastEnd_h0 : Int32) (at_h0 : Int32) (bad_h0 : Int32) (levels_h0 : Int32) (least_h0 : Int32) (found_h0 : Int32) (size_m5 : Int32) (n_a_all_m5 : Nat) (b_a_all_m5 : Nat → Int32) (v4_6 : Int32) (K_6 : Int32 → Int32 → Int32 → Nat → (Nat → Int32) → Option ((Int32 × Nat × (Nat → Int32)) × Nat × Nat)) (v5_47 : Int32) (f1_1_47 : Int32) (n2_47 : Nat) (b2_47 : Nat → Int32) : Option ((Int32 × Nat × (Nat → Int32)) × Nat × Nat) :=
    if (b_a_all_m5 (Int32.toNatClampNeg v4_6)) = 50 then (Option.bind (F_Mo_closing v4_6 known_h0 thrown_h0 wrong_h0 lastEnd_h0 at_h0 bad_h0 levels_h0 least_h0 found_h0 size_m5 n_a_all_m5 b_a_all_m5) fun r2 =>
      K_6 v5_47 (r2 + 1) f1_1_47 n2_47 b2_47)
    else if (b_a_all_m5 (Int32.toNatClampNeg v4_6)) = 52 then (Option.bind (F_Mo_closing v4_6 known_h0 thrown_h0 wrong_h0 lastEnd_h0 at_h0 bad_h0 levels_h0 least_h0 found_h0 size_m5 n_a_all_m5 b_a_all_m5) fun r5 =>
      K_6 v5_47 (r5 + 1) f1_1_47 n2_47 b2_47)
    else (K_6 v5_47 (v4_6 + 1) f1_1_47 n2_47 b2_47)
noncomputable def F_Mo_expressions_6 (p1 : Int32) (p3 : Int32) (known_h0 : Int32) (thrown_h0 : Int32) (wrong_h0 : Int32) (lastEnd_h0 : Int32) (at_h0 : Int32) (bad_h0 : Int32) (levels_h0 : Int32) (least_h0 : Int32) (found_h0 : Int32) (size_m5 : Int32) (n_a_all_m5 : Nat) (b_a_all_m5 : Nat → Int32) : Nat → Int32 → Int32 → Int32 → Nat → (Nat → Int32) → Option ((Int32 × Nat × (Nat → Int32)) × Nat × Nat)
  | 0, _, _, _, _, _ => none
  | k_6 + 1, v5_6, v4_6, f1_1_6, n2_6, b2_6 =>
    if p3 ≤ v4_6 then (if p3 ≤ v5_6 then (some ((f1_1_6, n2_6, b2_6), 0, 0))
      else (bw (F_Mo_task 1 p1 v5_6 p3 1 known_h0 thrown_h0 wrong_h0 lastEnd_h0 at_h0 bad_h0 levels_h0 least_h0 found_h0 f1_1_6 n2_6 b2_6) fun ⟨r9, r10⟩ =>
        (some ((((((f1_1_6 + 1) + 1) + 1) + 1) + 1, r9, r10), 0, 0))))
    else (Option.bind (F_Nm_at v4_6 size_m5 n_a_all_m5 b_a_all_m5) fun _ =>
      if (b_a_all_m5 (Int32.toNatClampNeg v4_6)) = 54 then (bw (F_Mo_task 1 p1 v5_6 v4_6 1 known_h0 thrown_h0 wrong_h0 lastEnd_h0 at_h0 bad_h0 levels_h0 least_h0 found_h0 f1_1_6 n2_6 b2_6) fun ⟨r19, r20⟩ =>
        F_Mo_expressions_47 known_h0 thrown_h0 wrong_h0 lastEnd_h0 at_h0 bad_h0 levels_h0 least_h0 found_h0 size_m5 n_a_all_m5 b_a_all_m5 v4_6 (F_Mo_expressions_6 p1 p3 known_h0 thrown_h0 wrong_h0 lastEnd_h0 at_h0 bad_h0 levels_h0 least_h0 found_h0 size_m5 n_a_all_m5 b_a_all_m5  k_6)  (v4_6 + 1) (((((f1_1_6 + 1) + 1) + 1) + 1) + 1) r19 r20)
      else (F_Mo_expressions_47 known_h0 thrown_h0 wrong_h0 lastEnd_h0 at_h0 bad_h0 levels_h0 least_h0 found_h0 size_m5 n_a_all_m5 b_a_all_m5 v4_6 (F_Mo_expressions_6 p1 p3 known_h0 thrown_h0 wrong_h0 lastEnd_h0 at_h0 bad_h0 levels_h0 least_h0 found_h0 size_m5 n_a_all_m5 b_a_all_m5  k_6)  v5_6 f1_1_6 n2_6 b2_6))
noncomputable def F_Mo_expressions (p1 : Int32) (p2 : Int32) (p3 : Int32) (known_h0 : Int32) (thrown_h0 : Int32) (wrong_h0 : Int32) (lastEnd_h0 : Int32) (at_h0 : Int32) (bad_h0 : Int32) (levels_h0 : Int32) (least_h0 : Int32) (found_h0 : Int32) (size_m33 : Int32) (n_a_all_m33 : Nat) (b_a_all_m33 : Nat → Int32) (size_m5 : Int32) (n_a_all_m5 : Nat) (b_a_all_m5 : Nat → Int32) : Option ((Int32 × Nat × (Nat → Int32)) × Nat × Nat) :=
  F_Mo_expressions_6 p1 p3 known_h0 thrown_h0 wrong_h0 lastEnd_h0 at_h0 bad_h0 levels_h0 least_h0 found_h0 size_m5 n_a_all_m5 b_a_all_m5  FU p2 p2 size_m33 n_a_all_m33 b_a_all_m33
theorem d_Mo_expressions_0 : decode prog_12_method_61_code 0 = .ok (.iload_n 2, 1) := by decide +kernel
theorem d_Mo_expressions_1 : decode prog_12_method_61_code 1 = .ok (.istore 4, 2) := by decide +kernel
theorem d_Mo_expressions_3 : decode prog_12_method_61_code 3 = .ok (.iload_n 2, 1) := by decide +kernel
theorem d_Mo_expressions_4 : decode prog_12_method_61_code 4 = .ok (.istore 5, 2) := by decide +kernel
theorem d_Mo_expressions_6 : decode prog_12_method_61_code 6 = .ok (.iload 4, 2) := by decide +kernel
theorem d_Mo_expressions_8 : decode prog_12_method_61_code 8 = .ok (.iload_n 3, 1) := by decide +kernel
theorem d_Mo_expressions_9 : decode prog_12_method_61_code 9 = .ok (.if_icmp .ge 72, 3) := by decide +kernel
theorem d_Mo_expressions_12 : decode prog_12_method_61_code 12 = .ok (.aload_n 0, 1) := by decide +kernel
theorem d_Mo_expressions_13 : decode prog_12_method_61_code 13 = .ok (.getfield 114, 3) := by decide +kernel
theorem d_Mo_expressions_16 : decode prog_12_method_61_code 16 = .ok (.iload 4, 2) := by decide +kernel
theorem d_Mo_expressions_18 : decode prog_12_method_61_code 18 = .ok (.invokevirtual 214, 3) := by decide +kernel
theorem d_Mo_expressions_21 : decode prog_12_method_61_code 21 = .ok (.istore 6, 2) := by decide +kernel
theorem d_Mo_expressions_23 : decode prog_12_method_61_code 23 = .ok (.iload 6, 2) := by decide +kernel
theorem d_Mo_expressions_25 : decode prog_12_method_61_code 25 = .ok (.bipush 54, 2) := by decide +kernel
theorem d_Mo_expressions_27 : decode prog_12_method_61_code 27 = .ok (.if_icmp .ne 20, 3) := by decide +kernel
theorem d_Mo_expressions_30 : decode prog_12_method_61_code 30 = .ok (.aload_n 0, 1) := by decide +kernel
theorem d_Mo_expressions_31 : decode prog_12_method_61_code 31 = .ok (.iconst 1, 1) := by decide +kernel
theorem d_Mo_expressions_32 : decode prog_12_method_61_code 32 = .ok (.iload_n 1, 1) := by decide +kernel
theorem d_Mo_expressions_33 : decode prog_12_method_61_code 33 = .ok (.iload 5, 2) := by decide +kernel
theorem d_Mo_expressions_35 : decode prog_12_method_61_code 35 = .ok (.iload 4, 2) := by decide +kernel
theorem d_Mo_expressions_37 : decode prog_12_method_61_code 37 = .ok (.iconst 1, 1) := by decide +kernel
theorem d_Mo_expressions_38 : decode prog_12_method_61_code 38 = .ok (.invokevirtual 390, 3) := by decide +kernel
theorem d_Mo_expressions_41 : decode prog_12_method_61_code 41 = .ok (.iload 4, 2) := by decide +kernel
theorem d_Mo_expressions_43 : decode prog_12_method_61_code 43 = .ok (.iconst 1, 1) := by decide +kernel
theorem d_Mo_expressions_44 : decode prog_12_method_61_code 44 = .ok (.iadd, 1) := by decide +kernel
theorem d_Mo_expressions_45 : decode prog_12_method_61_code 45 = .ok (.istore 5, 2) := by decide +kernel
theorem d_Mo_expressions_47 : decode prog_12_method_61_code 47 = .ok (.iload 6, 2) := by decide +kernel
theorem d_Mo_expressions_49 : decode prog_12_method_61_code 49 = .ok (.bipush 50, 2) := by decide +kernel
theorem d_Mo_expressions_51 : decode prog_12_method_61_code 51 = .ok (.if_icmp .eq 10, 3) := by decide +kernel
theorem d_Mo_expressions_54 : decode prog_12_method_61_code 54 = .ok (.iload 6, 2) := by decide +kernel
theorem d_Mo_expressions_56 : decode prog_12_method_61_code 56 = .ok (.bipush 52, 2) := by decide +kernel
theorem d_Mo_expressions_58 : decode prog_12_method_61_code 58 = .ok (.if_icmp .ne 14, 3) := by decide +kernel
theorem d_Mo_expressions_61 : decode prog_12_method_61_code 61 = .ok (.aload_n 0, 1) := by decide +kernel
theorem d_Mo_expressions_62 : decode prog_12_method_61_code 62 = .ok (.iload 4, 2) := by decide +kernel
theorem d_Mo_expressions_64 : decode prog_12_method_61_code 64 = .ok (.invokevirtual 350, 3) := by decide +kernel
theorem d_Mo_expressions_67 : decode prog_12_method_61_code 67 = .ok (.iconst 1, 1) := by decide +kernel
theorem d_Mo_expressions_68 : decode prog_12_method_61_code 68 = .ok (.iadd, 1) := by decide +kernel
theorem d_Mo_expressions_69 : decode prog_12_method_61_code 69 = .ok (.goto 7, 3) := by decide +kernel
theorem d_Mo_expressions_72 : decode prog_12_method_61_code 72 = .ok (.iload 4, 2) := by decide +kernel
theorem d_Mo_expressions_74 : decode prog_12_method_61_code 74 = .ok (.iconst 1, 1) := by decide +kernel
theorem d_Mo_expressions_75 : decode prog_12_method_61_code 75 = .ok (.iadd, 1) := by decide +kernel
theorem d_Mo_expressions_76 : decode prog_12_method_61_code 76 = .ok (.istore 4, 2) := by decide +kernel
theorem d_Mo_expressions_78 : decode prog_12_method_61_code 78 = .ok (.goto (-72), 3) := by decide +kernel
theorem d_Mo_expressions_81 : decode prog_12_method_61_code 81 = .ok (.iload 5, 2) := by decide +kernel
theorem d_Mo_expressions_83 : decode prog_12_method_61_code 83 = .ok (.iload_n 3, 1) := by decide +kernel
theorem d_Mo_expressions_84 : decode prog_12_method_61_code 84 = .ok (.if_icmp .ge 13, 3) := by decide +kernel
theorem d_Mo_expressions_87 : decode prog_12_method_61_code 87 = .ok (.aload_n 0, 1) := by decide +kernel
theorem d_Mo_expressions_88 : decode prog_12_method_61_code 88 = .ok (.iconst 1, 1) := by decide +kernel
theorem d_Mo_expressions_89 : decode prog_12_method_61_code 89 = .ok (.iload_n 1, 1) := by decide +kernel
theorem d_Mo_expressions_90 : decode prog_12_method_61_code 90 = .ok (.iload 5, 2) := by decide +kernel
theorem d_Mo_expressions_92 : decode prog_12_method_61_code 92 = .ok (.iload_n 3, 1) := by decide +kernel
theorem d_Mo_expressions_93 : decode prog_12_method_61_code 93 = .ok (.iconst 1, 1) := by decide +kernel
theorem d_Mo_expressions_94 : decode prog_12_method_61_code 94 = .ok (.invokevirtual 390, 3) := by decide +kernel
theorem d_Mo_expressions_97 : decode prog_12_method_61_code 97 = .ok (.return_, 1) := by decide +kernel
set_option maxHeartbeats 4000000 in
set_option maxRecDepth 100000 in
theorem L_Mo_expressions_6 (l : Launch) (D : va_G) (cI cB cJ cS : ClassId) (h0 : Nat) (am : Nat → Nat) (a_all_m33 : Nat) (a_all_m5 : Nat) (p1 : Int32) (p2 : Int32) (p3 : Int32) (known_h0 : Int32) (thrown_h0 : Int32) (wrong_h0 : Int32) (lastEnd_h0 : Int32) (at_h0 : Int32) (bad_h0 : Int32) (levels_h0 : Int32) (least_h0 : Int32) (found_h0 : Int32) (size_m33 : Int32) (n_a_all_m33 : Nat) (b_a_all_m33 : Nat → Int32) (size_m5 : Int32) (n_a_all_m5 : Nat) (b_a_all_m5 : Nat → Int32) (o_1_1 : Int32) (on_nq_1_0 : Nat) (ob_nq_1_0 : Nat → Int32) (mc ms : Nat) (p : Program) (e : Env) (s : State) (m : MethodId) (below : List Frame) (meth : Method) (c : Code) (hr : meth.sig.returnType = (Option.none : Option Jvm.ClassFile.FieldType)) (hnm : meth.name = y_Mo_expressions.name) : ∀ (k_6 : Nat) (q1_0_6 : Nat) (v5_6 : Int32) (v4_6 : Int32) (f1_1_6 : Int32) (n2_6 : Nat) (b2_6 : Nat → Int32) (cl_6 sl_6 C_6 S_6 : Nat), F_Mo_expressions_6 p1 p3 known_h0 thrown_h0 wrong_h0 lastEnd_h0 at_h0 bad_h0 levels_h0 least_h0 found_h0 size_m5 n_a_all_m5 b_a_all_m5  k_6 v5_6 v4_6 f1_1_6 n2_6 b2_6 = some ((o_1_1, on_nq_1_0, ob_nq_1_0), C_6, S_6) → cl_6 + C_6 ≤ mc → sl_6 + S_6 ≤ ms → J (KxOf p l e { frames := 2, cells := mc, slots := ms, locals := 48 } s m [.ref h0, .int p1, .int p2, .int p3].toArray below meth c D (gT cI cB cJ cS) [(h0, .inr (9, moF am known_h0 thrown_h0 wrong_h0 lastEnd_h0 at_h0 bad_h0 levels_h0 least_h0 found_h0)), ((am 33), .inr (8, [.ref a_all_m33, .int size_m33])), (a_all_m33, .inl (cI, n_a_all_m33, .inl b_a_all_m33)), ((am 5), .inr (8, [.ref a_all_m5, .int size_m5])), (a_all_m5, .inl (cI, n_a_all_m5, .inl b_a_all_m5))] (fun v w => ∃ nq_1_0 : Nat, v = none ∧ w = [(h0, .inr (9, moF am known_h0 thrown_h0 wrong_h0 lastEnd_h0 at_h0 bad_h0 levels_h0 least_h0 found_h0)), ((am 33), .inr (8, [.ref nq_1_0, .int o_1_1])), ((am 5), .inr (8, [.ref a_all_m5, .int size_m5])), (a_all_m5, .inl (cI, n_a_all_m5, .inl b_a_all_m5)), (nq_1_0, .inl (cI, on_nq_1_0, .inl ob_nq_1_0))]) mc ms) prog_12_method_61_code 7 R_Mo 6 [(5, .int v5_6), (4, .int v4_6), (0, .ref h0), (1, .int p1), (2, .int p2), (3, .int p3)] [] [(h0, .inr (9, moF am known_h0 thrown_h0 wrong_h0 lastEnd_h0 at_h0 bad_h0 levels_h0 least_h0 found_h0)), ((am 33), .inr (8, [.ref q1_0_6, .int f1_1_6])), (q1_0_6, .inl (cI, n2_6, .inl b2_6)), ((am 5), .inr (8, [.ref a_all_m5, .int size_m5])), (a_all_m5, .inl (cI, n_a_all_m5, .inl b_a_all_m5))] cl_6 sl_6 := by
  intro k_6
  induction k_6 with
  | zero => intro q1_0_6 v5_6 v4_6 f1_1_6 n2_6 b2_6 cl_6 sl_6 C_6 S_6 h; rw [F_Mo_expressions_6] at h; cases h
  | succ k_6 ih_6 =>
    intro q1_0_6 v5_6 v4_6 f1_1_6 n2_6 b2_6 cl_6 sl_6 C_6 S_6 h hC hS
    rw [F_Mo_expressions_6] at h
    have L_47 : ∀ (q1_0_47 : Nat) (v5_47 : Int32) (f1_1_47 : Int32) (n2_47 : Nat) (b2_47 : Nat → Int32) (cl_47 sl_47 C_47 S_47 : Nat), F_Mo_expressions_47 known_h0 thrown_h0 wrong_h0 lastEnd_h0 at_h0 bad_h0 levels_h0 least_h0 found_h0 size_m5 n_a_all_m5 b_a_all_m5 v4_6 (F_Mo_expressions_6 p1 p3 known_h0 thrown_h0 wrong_h0 lastEnd_h0 at_h0 bad_h0 levels_h0 least_h0 found_h0 size_m5 n_a_all_m5 b_a_all_m5  k_6)  v5_47 f1_1_47 n2_47 b2_47 = some ((o_1_1, on_nq_1_0, ob_nq_1_0), C_47, S_47) → cl_47 + C_47 ≤ mc → sl_47 + S_47 ≤ ms → J (KxOf p l e { frames := 2, cells := mc, slots := ms, locals := 48 } s m [.ref h0, .int p1, .int p2, .int p3].toArray below meth c D (gT cI cB cJ cS) [(h0, .inr (9, moF am known_h0 thrown_h0 wrong_h0 lastEnd_h0 at_h0 bad_h0 levels_h0 least_h0 found_h0)), ((am 33), .inr (8, [.ref a_all_m33, .int size_m33])), (a_all_m33, .inl (cI, n_a_all_m33, .inl b_a_all_m33)), ((am 5), .inr (8, [.ref a_all_m5, .int size_m5])), (a_all_m5, .inl (cI, n_a_all_m5, .inl b_a_all_m5))] (fun v w => ∃ nq_1_0 : Nat, v = none ∧ w = [(h0, .inr (9, moF am known_h0 thrown_h0 wrong_h0 lastEnd_h0 at_h0 bad_h0 levels_h0 least_h0 found_h0)), ((am 33), .inr (8, [.ref nq_1_0, .int o_1_1])), ((am 5), .inr (8, [.ref a_all_m5, .int size_m5])), (a_all_m5, .inl (cI, n_a_all_m5, .inl b_a_all_m5)), (nq_1_0, .inl (cI, on_nq_1_0, .inl ob_nq_1_0))]) mc ms) prog_12_method_61_code 7 R_Mo 47 [(6, .int (b_a_all_m5 (Int32.toNatClampNeg v4_6))), (5, .int v5_47), (4, .int v4_6), (0, .ref h0), (1, .int p1), (2, .int p2), (3, .int p3)] [] [(h0, .inr (9, moF am known_h0 thrown_h0 wrong_h0 lastEnd_h0 at_h0 bad_h0 levels_h0 least_h0 found_h0)), ((am 33), .inr (8, [.ref q1_0_47, .int f1_1_47])), (q1_0_47, .inl (cI, n2_47, .inl b2_47)), ((am 5), .inr (8, [.ref a_all_m5, .int size_m5])), (a_all_m5, .inl (cI, n_a_all_m5, .inl b_a_all_m5))] cl_47 sl_47 := by
      clear h
      intro q1_0_47 v5_47 f1_1_47 n2_47 b2_47 cl_47 sl_47 C_47 S_47 h hC hS
      unfold F_Mo_expressions_47 at h
      refine j_iload d_Mo_expressions_47 0 rfl ?_
      refine j_bipush (v := 50) d_Mo_expressions_49 (by decide) ?_
      refine j_icmp_eq (tgt := 61) d_Mo_expressions_51 (by decide) (fun c1 => ?_) (fun c1 => ?_)
      · replace h := it_t c1 h
        refine j_aload_n d_Mo_expressions_61 rfl 3 rfl ?_
        refine j_iload d_Mo_expressions_62 2 rfl ?_
        replace h := bd_s h
        obtain ⟨r2, k3, h⟩ := h
        refine j_callV (n := 1) (As := [.int v4_6]) (rest := []) (wr := [((am 33), .inr (8, [.ref q1_0_47, .int f1_1_47])), (q1_0_47, .inl (cI, n2_47, .inl b2_47))]) (c_Mo_closing l D cI cB cJ cS h0 am a_all_m5 v4_6 known_h0 thrown_h0 wrong_h0 lastEnd_h0 at_h0 bad_h0 levels_h0 least_h0 found_h0 size_m5 n_a_all_m5 b_a_all_m5  r2 k3) k_Mo_350 (by decide) ⟨Nat.le_of_ble_eq_true rfl, Nat.le_of_ble_eq_true rfl⟩ rfl 0 rfl [0, 3, 4] [1, 2] rfl (by decide) rfl (by decide) (by decide) rfl rfl (Nat.le_of_ble_eq_true rfl) d_Mo_expressions_64 ⟨show cl_47 + 0 ≤ mc by omega, show sl_47 + 0 ≤ ms by omega⟩ (fun v w hq => ?_)
        obtain ⟨rfl, rfl⟩ := hq
        refine j_norm (pc' := 67) (st' := [.int r2]) (ws' := [((am 33), .inr (8, [.ref q1_0_47, .int f1_1_47])), (q1_0_47, .inl (cI, n2_47, .inl b2_47)), (h0, .inr (9, moF am known_h0 thrown_h0 wrong_h0 lastEnd_h0 at_h0 bad_h0 levels_h0 least_h0 found_h0)), ((am 5), .inr (8, [.ref a_all_m5, .int size_m5])), (a_all_m5, .inl (cI, n_a_all_m5, .inl b_a_all_m5))]) (cl' := cl_47) (sl' := sl_47) rfl rfl rfl rfl rfl rfl ?_
        refine j_iconst (v := 1) d_Mo_expressions_67 (by decide) ?_
        refine j_iadd d_Mo_expressions_68 ?_
        refine j_goto (tgt := 76) d_Mo_expressions_69 (by decide) ?_
        refine j_istore (lv' := [(4, .int (r2 + 1)), (6, .int (b_a_all_m5 (Int32.toNatClampNeg v4_6))), (5, .int v5_47), (0, .ref h0), (1, .int p1), (2, .int p2), (3, .int p3)]) d_Mo_expressions_76 (by decide) rfl ?_
        refine j_goto (tgt := 6) d_Mo_expressions_78 (by decide) ?_
        refine j_sub (w := [(h0, .inr (9, moF am known_h0 thrown_h0 wrong_h0 lastEnd_h0 at_h0 bad_h0 levels_h0 least_h0 found_h0)), ((am 33), .inr (8, [.ref q1_0_47, .int f1_1_47])), (q1_0_47, .inl (cI, n2_47, .inl b2_47)), ((am 5), .inr (8, [.ref a_all_m5, .int size_m5])), (a_all_m5, .inl (cI, n_a_all_m5, .inl b_a_all_m5))]) (lv' := [(5, .int v5_47), (4, .int (r2 + 1)), (0, .ref h0), (1, .int p1), (2, .int p2), (3, .int p3)]) [2, 0, 1, 3, 4] rfl (by decide) [2, 0, 3, 4, 5, 6] rfl ?_
        exact ih_6 q1_0_47 v5_47 (r2 + 1) f1_1_47 n2_47 b2_47 cl_47 sl_47 C_47 S_47 h hC hS
      · replace h := it_f c1 h
        refine j_iload d_Mo_expressions_54 0 rfl ?_
        refine j_bipush (v := 52) d_Mo_expressions_56 (by decide) ?_
        refine j_icmp_ne (tgt := 72) d_Mo_expressions_58 (by decide) (fun c4 => ?_) (fun c4 => ?_)
        · replace h := it_f c4 h
          refine j_iload d_Mo_expressions_72 2 rfl ?_
          refine j_iconst (v := 1) d_Mo_expressions_74 (by decide) ?_
          refine j_iadd d_Mo_expressions_75 ?_
          refine j_istore (lv' := [(4, .int (v4_6 + 1)), (6, .int (b_a_all_m5 (Int32.toNatClampNeg v4_6))), (5, .int v5_47), (0, .ref h0), (1, .int p1), (2, .int p2), (3, .int p3)]) d_Mo_expressions_76 (by decide) rfl ?_
          refine j_goto (tgt := 6) d_Mo_expressions_78 (by decide) ?_
          refine j_sub (w := [(h0, .inr (9, moF am known_h0 thrown_h0 wrong_h0 lastEnd_h0 at_h0 bad_h0 levels_h0 least_h0 found_h0)), ((am 33), .inr (8, [.ref q1_0_47, .int f1_1_47])), (q1_0_47, .inl (cI, n2_47, .inl b2_47)), ((am 5), .inr (8, [.ref a_all_m5, .int size_m5])), (a_all_m5, .inl (cI, n_a_all_m5, .inl b_a_all_m5))]) (lv' := [(5, .int v5_47), (4, .int (v4_6 + 1)), (0, .ref h0), (1, .int p1), (2, .int p2), (3, .int p3)]) [0, 1, 2, 3, 4] rfl (by decide) [2, 0, 3, 4, 5, 6] rfl ?_
          exact ih_6 q1_0_47 v5_47 (v4_6 + 1) f1_1_47 n2_47 b2_47 cl_47 sl_47 C_47 S_47 h hC hS
        · replace h := it_t c4 h
          refine j_aload_n d_Mo_expressions_61 rfl 3 rfl ?_
          refine j_iload d_Mo_expressions_62 2 rfl ?_
          replace h := bd_s h
          obtain ⟨r5, k6, h⟩ := h
          refine j_callV (n := 1) (As := [.int v4_6]) (rest := []) (wr := [((am 33), .inr (8, [.ref q1_0_47, .int f1_1_47])), (q1_0_47, .inl (cI, n2_47, .inl b2_47))]) (c_Mo_closing l D cI cB cJ cS h0 am a_all_m5 v4_6 known_h0 thrown_h0 wrong_h0 lastEnd_h0 at_h0 bad_h0 levels_h0 least_h0 found_h0 size_m5 n_a_all_m5 b_a_all_m5  r5 k6) k_Mo_350 (by decide) ⟨Nat.le_of_ble_eq_true rfl, Nat.le_of_ble_eq_true rfl⟩ rfl 0 rfl [0, 3, 4] [1, 2] rfl (by decide) rfl (by decide) (by decide) rfl rfl (Nat.le_of_ble_eq_true rfl) d_Mo_expressions_64 ⟨show cl_47 + 0 ≤ mc by omega, show sl_47 + 0 ≤ ms by omega⟩ (fun v w hq => ?_)
          obtain ⟨rfl, rfl⟩ := hq
          refine j_norm (pc' := 67) (st' := [.int r5]) (ws' := [((am 33), .inr (8, [.ref q1_0_47, .int f1_1_47])), (q1_0_47, .inl (cI, n2_47, .inl b2_47)), (h0, .inr (9, moF am known_h0 thrown_h0 wrong_h0 lastEnd_h0 at_h0 bad_h0 levels_h0 least_h0 found_h0)), ((am 5), .inr (8, [.ref a_all_m5, .int size_m5])), (a_all_m5, .inl (cI, n_a_all_m5, .inl b_a_all_m5))]) (cl' := cl_47) (sl' := sl_47) rfl rfl rfl rfl rfl rfl ?_
          refine j_iconst (v := 1) d_Mo_expressions_67 (by decide) ?_
          refine j_iadd d_Mo_expressions_68 ?_
          refine j_goto (tgt := 76) d_Mo_expressions_69 (by decide) ?_
          refine j_istore (lv' := [(4, .int (r5 + 1)), (6, .int (b_a_all_m5 (Int32.toNatClampNeg v4_6))), (5, .int v5_47), (0, .ref h0), (1, .int p1), (2, .int p2), (3, .int p3)]) d_Mo_expressions_76 (by decide) rfl ?_
          refine j_goto (tgt := 6) d_Mo_expressions_78 (by decide) ?_
          refine j_sub (w := [(h0, .inr (9, moF am known_h0 thrown_h0 wrong_h0 lastEnd_h0 at_h0 bad_h0 levels_h0 least_h0 found_h0)), ((am 33), .inr (8, [.ref q1_0_47, .int f1_1_47])), (q1_0_47, .inl (cI, n2_47, .inl b2_47)), ((am 5), .inr (8, [.ref a_all_m5, .int size_m5])), (a_all_m5, .inl (cI, n_a_all_m5, .inl b_a_all_m5))]) (lv' := [(5, .int v5_47), (4, .int (r5 + 1)), (0, .ref h0), (1, .int p1), (2, .int p2), (3, .int p3)]) [2, 0, 1, 3, 4] rfl (by decide) [2, 0, 3, 4, 5, 6] rfl ?_
          exact ih_6 q1_0_47 v5_47 (r5 + 1) f1_1_47 n2_47 b2_47 cl_47 sl_47 C_47 S_47 h hC hS
    refine j_iload d_Mo_expressions_6 1 rfl ?_
    refine j_iload_n d_Mo_expressions_8 rfl 5 rfl ?_
    refine j_icmp_ge (tgt := 81) d_Mo_expressions_9 (by decide) (fun c7 => ?_) (fun c7 => ?_)
    · replace h := it_t c7 h
      refine j_iload d_Mo_expressions_81 0 rfl ?_
      refine j_iload_n d_Mo_expressions_83 rfl 5 rfl ?_
      refine j_icmp_ge (tgt := 97) d_Mo_expressions_84 (by decide) (fun c8 => ?_) (fun c8 => ?_)
      · replace h := it_t c8 h
        replace h := lf_s h
        obtain ⟨h, e1, e2⟩ := h
        replace h := Prod.mk.inj h
        obtain ⟨h9, h⟩ := h
        subst h9
        replace h := Prod.mk.inj h
        obtain ⟨h9, h⟩ := h
        subst h9
        subst h
        refine j_widen (cl' := mc) (sl' := ms) (by omega) (by omega) ?_
        exact j_vret (w := [(h0, .inr (9, moF am known_h0 thrown_h0 wrong_h0 lastEnd_h0 at_h0 bad_h0 levels_h0 least_h0 found_h0)), ((am 33), .inr (8, [.ref q1_0_6, .int f1_1_6])), ((am 5), .inr (8, [.ref a_all_m5, .int size_m5])), (a_all_m5, .inl (cI, n_a_all_m5, .inl b_a_all_m5)), (q1_0_6, .inl (cI, n2_6, .inl b2_6))]) hr d_Mo_expressions_97 [0, 1, 3, 4, 2] rfl (by decide) ⟨q1_0_6, rfl, rfl⟩
      · replace h := it_f c8 h
        refine j_aload_n d_Mo_expressions_87 rfl 2 rfl ?_
        refine j_iconst (v := 1) d_Mo_expressions_88 (by decide) ?_
        refine j_iload_n d_Mo_expressions_89 rfl 3 rfl ?_
        refine j_iload d_Mo_expressions_90 0 rfl ?_
        refine j_iload_n d_Mo_expressions_92 rfl 5 rfl ?_
        refine j_iconst (v := 1) d_Mo_expressions_93 (by decide) ?_
        replace h := bw_s h
        obtain ⟨⟨r9, r10⟩, C12, S13, C14, S15, k16, h, e1, e2⟩ := h
        replace hC : cl_6 + C12 + C14 ≤ mc := by omega
        replace hS : sl_6 + S13 + S15 ≤ ms := by omega
        clear e1 e2
        refine j_callV (n := 5) (As := [.int 1, .int p1, .int v5_6, .int p3, .int 1]) (rest := []) (wr := [((am 5), .inr (8, [.ref a_all_m5, .int size_m5])), (a_all_m5, .inl (cI, n_a_all_m5, .inl b_a_all_m5))]) (c_Mo_task l D cI cB cJ cS h0 am q1_0_6 1 p1 v5_6 p3 1 known_h0 thrown_h0 wrong_h0 lastEnd_h0 at_h0 bad_h0 levels_h0 least_h0 found_h0 f1_1_6 n2_6 b2_6  r9 r10 C12 S13 k16) k_Mo_390 (by decide) ⟨Nat.le_of_ble_eq_true rfl, Nat.le_of_ble_eq_true rfl⟩ rfl 0 rfl [0, 1, 2] [3, 4] rfl (by decide) rfl (by decide) (by decide) rfl rfl (Nat.le_of_ble_eq_true rfl) d_Mo_expressions_94 ⟨show cl_6 + C12 ≤ mc by omega, show sl_6 + S13 ≤ ms by omega⟩ (fun v w hq => ?_)
        obtain ⟨q11, rfl, rfl⟩ := hq
        refine j_norm (pc' := 97) (st' := []) (ws' := [((am 5), .inr (8, [.ref a_all_m5, .int size_m5])), (a_all_m5, .inl (cI, n_a_all_m5, .inl b_a_all_m5)), (h0, .inr (9, moF am known_h0 thrown_h0 wrong_h0 lastEnd_h0 at_h0 bad_h0 levels_h0 least_h0 found_h0)), ((am 33), .inr (8, [.ref q11, .int (((((f1_1_6 + 1) + 1) + 1) + 1) + 1)])), (q11, .inl (cI, r9, .inl r10))]) (cl' := cl_6 + C12) (sl' := sl_6 + S13) rfl rfl rfl rfl rfl rfl ?_
        replace h := lf_s h
        obtain ⟨h, e1, e2⟩ := h
        replace h := Prod.mk.inj h
        obtain ⟨h9, h⟩ := h
        subst h9
        replace h := Prod.mk.inj h
        obtain ⟨h9, h⟩ := h
        subst h9
        subst h
        refine j_widen (cl' := mc) (sl' := ms) (by omega) (by omega) ?_
        exact j_vret (w := [(h0, .inr (9, moF am known_h0 thrown_h0 wrong_h0 lastEnd_h0 at_h0 bad_h0 levels_h0 least_h0 found_h0)), ((am 33), .inr (8, [.ref q11, .int (((((f1_1_6 + 1) + 1) + 1) + 1) + 1)])), ((am 5), .inr (8, [.ref a_all_m5, .int size_m5])), (a_all_m5, .inl (cI, n_a_all_m5, .inl b_a_all_m5)), (q11, .inl (cI, r9, .inl r10))]) hr d_Mo_expressions_97 [2, 3, 0, 1, 4] rfl (by decide) ⟨q11, rfl, rfl⟩
    · replace h := it_f c7 h
      refine j_aload_n d_Mo_expressions_12 rfl 2 rfl ?_
      refine j_get ig_Mo rfl 0 rfl 5 (by decide) rfl m_1118 rfl d_Mo_expressions_13 ?_
      refine j_iload d_Mo_expressions_16 1 rfl ?_
      replace h := bd_s h
      obtain ⟨_, k17, h⟩ := h
      refine j_callV (n := 1) (As := [.int v4_6]) (rest := []) (wr := [(h0, .inr (9, moF am known_h0 thrown_h0 wrong_h0 lastEnd_h0 at_h0 bad_h0 levels_h0 least_h0 found_h0)), ((am 33), .inr (8, [.ref q1_0_6, .int f1_1_6])), (q1_0_6, .inl (cI, n2_6, .inl b2_6))]) (c_Nm_at l D cI cB cJ cS (am 5) a_all_m5 v4_6 size_m5 n_a_all_m5 b_a_all_m5  k17) k_Mo_214 (by decide) ⟨Nat.le_of_ble_eq_true rfl, Nat.le_of_ble_eq_true rfl⟩ rfl 0 rfl [3, 4] [0, 1, 2] rfl (by decide) rfl (by decide) (by decide) rfl rfl (Nat.le_of_ble_eq_true rfl) d_Mo_expressions_18 ⟨show cl_6 + 0 ≤ mc by omega, show sl_6 + 0 ≤ ms by omega⟩ (fun v w hq => ?_)
      obtain ⟨rfl, rfl⟩ := hq
      refine j_norm (pc' := 21) (st' := [.int (b_a_all_m5 (Int32.toNatClampNeg v4_6))]) (ws' := [(h0, .inr (9, moF am known_h0 thrown_h0 wrong_h0 lastEnd_h0 at_h0 bad_h0 levels_h0 least_h0 found_h0)), ((am 33), .inr (8, [.ref q1_0_6, .int f1_1_6])), (q1_0_6, .inl (cI, n2_6, .inl b2_6)), ((am 5), .inr (8, [.ref a_all_m5, .int size_m5])), (a_all_m5, .inl (cI, n_a_all_m5, .inl b_a_all_m5))]) (cl' := cl_6) (sl' := sl_6) rfl rfl rfl rfl rfl rfl ?_
      refine j_istore (lv' := [(6, .int (b_a_all_m5 (Int32.toNatClampNeg v4_6))), (5, .int v5_6), (4, .int v4_6), (0, .ref h0), (1, .int p1), (2, .int p2), (3, .int p3)]) d_Mo_expressions_21 (by decide) rfl ?_
      refine j_iload d_Mo_expressions_23 0 rfl ?_
      refine j_bipush (v := 54) d_Mo_expressions_25 (by decide) ?_
      refine j_icmp_ne (tgt := 47) d_Mo_expressions_27 (by decide) (fun c18 => ?_) (fun c18 => ?_)
      · replace h := it_f c18 h
        refine j_sub (w := [(h0, .inr (9, moF am known_h0 thrown_h0 wrong_h0 lastEnd_h0 at_h0 bad_h0 levels_h0 least_h0 found_h0)), ((am 33), .inr (8, [.ref q1_0_6, .int f1_1_6])), (q1_0_6, .inl (cI, n2_6, .inl b2_6)), ((am 5), .inr (8, [.ref a_all_m5, .int size_m5])), (a_all_m5, .inl (cI, n_a_all_m5, .inl b_a_all_m5))]) (lv' := [(6, .int (b_a_all_m5 (Int32.toNatClampNeg v4_6))), (5, .int v5_6), (4, .int v4_6), (0, .ref h0), (1, .int p1), (2, .int p2), (3, .int p3)]) [0, 1, 2, 3, 4] rfl (by decide) [0, 1, 2, 3, 4, 5, 6] rfl ?_
        exact L_47 q1_0_6 v5_6 f1_1_6 n2_6 b2_6 cl_6 sl_6 C_6 S_6 h hC hS
      · replace h := it_t c18 h
        refine j_aload_n d_Mo_expressions_30 rfl 3 rfl ?_
        refine j_iconst (v := 1) d_Mo_expressions_31 (by decide) ?_
        refine j_iload_n d_Mo_expressions_32 rfl 4 rfl ?_
        refine j_iload d_Mo_expressions_33 1 rfl ?_
        refine j_iload d_Mo_expressions_35 2 rfl ?_
        refine j_iconst (v := 1) d_Mo_expressions_37 (by decide) ?_
        replace h := bw_s h
        obtain ⟨⟨r19, r20⟩, C22, S23, C24, S25, k26, h, e1, e2⟩ := h
        replace hC : cl_6 + C22 + C24 ≤ mc := by omega
        replace hS : sl_6 + S23 + S25 ≤ ms := by omega
        clear e1 e2
        refine j_callV (n := 5) (As := [.int 1, .int p1, .int v5_6, .int v4_6, .int 1]) (rest := []) (wr := [((am 5), .inr (8, [.ref a_all_m5, .int size_m5])), (a_all_m5, .inl (cI, n_a_all_m5, .inl b_a_all_m5))]) (c_Mo_task l D cI cB cJ cS h0 am q1_0_6 1 p1 v5_6 v4_6 1 known_h0 thrown_h0 wrong_h0 lastEnd_h0 at_h0 bad_h0 levels_h0 least_h0 found_h0 f1_1_6 n2_6 b2_6  r19 r20 C22 S23 k26) k_Mo_390 (by decide) ⟨Nat.le_of_ble_eq_true rfl, Nat.le_of_ble_eq_true rfl⟩ rfl 0 rfl [0, 1, 2] [3, 4] rfl (by decide) rfl (by decide) (by decide) rfl rfl (Nat.le_of_ble_eq_true rfl) d_Mo_expressions_38 ⟨show cl_6 + C22 ≤ mc by omega, show sl_6 + S23 ≤ ms by omega⟩ (fun v w hq => ?_)
        obtain ⟨q21, rfl, rfl⟩ := hq
        refine j_norm (pc' := 41) (st' := []) (ws' := [((am 5), .inr (8, [.ref a_all_m5, .int size_m5])), (a_all_m5, .inl (cI, n_a_all_m5, .inl b_a_all_m5)), (h0, .inr (9, moF am known_h0 thrown_h0 wrong_h0 lastEnd_h0 at_h0 bad_h0 levels_h0 least_h0 found_h0)), ((am 33), .inr (8, [.ref q21, .int (((((f1_1_6 + 1) + 1) + 1) + 1) + 1)])), (q21, .inl (cI, r19, .inl r20))]) (cl' := cl_6 + C22) (sl' := sl_6 + S23) rfl rfl rfl rfl rfl rfl ?_
        refine j_iload d_Mo_expressions_41 2 rfl ?_
        refine j_iconst (v := 1) d_Mo_expressions_43 (by decide) ?_
        refine j_iadd d_Mo_expressions_44 ?_
        refine j_istore (lv' := [(5, .int (v4_6 + 1)), (6, .int (b_a_all_m5 (Int32.toNatClampNeg v4_6))), (4, .int v4_6), (0, .ref h0), (1, .int p1), (2, .int p2), (3, .int p3)]) d_Mo_expressions_45 (by decide) rfl ?_
        refine j_sub (w := [(h0, .inr (9, moF am known_h0 thrown_h0 wrong_h0 lastEnd_h0 at_h0 bad_h0 levels_h0 least_h0 found_h0)), ((am 33), .inr (8, [.ref q21, .int (((((f1_1_6 + 1) + 1) + 1) + 1) + 1)])), (q21, .inl (cI, r19, .inl r20)), ((am 5), .inr (8, [.ref a_all_m5, .int size_m5])), (a_all_m5, .inl (cI, n_a_all_m5, .inl b_a_all_m5))]) (lv' := [(6, .int (b_a_all_m5 (Int32.toNatClampNeg v4_6))), (5, .int (v4_6 + 1)), (4, .int v4_6), (0, .ref h0), (1, .int p1), (2, .int p2), (3, .int p3)]) [2, 3, 4, 0, 1] rfl (by decide) [1, 0, 2, 3, 4, 5, 6] rfl ?_
        exact L_47 q21 (v4_6 + 1) (((((f1_1_6 + 1) + 1) + 1) + 1) + 1) r19 r20 (cl_6 + C22) (sl_6 + S23) C24 S25 h hC hS
set_option maxHeartbeats 4000000 in
set_option maxRecDepth 100000 in
theorem c_Mo_expressions (l : Launch) (D : va_G) (cI cB cJ cS : ClassId) (h0 : Nat) (am : Nat → Nat) (a_all_m33 : Nat) (a_all_m5 : Nat) (p1 : Int32) (p2 : Int32) (p3 : Int32) (known_h0 : Int32) (thrown_h0 : Int32) (wrong_h0 : Int32) (lastEnd_h0 : Int32) (at_h0 : Int32) (bad_h0 : Int32) (levels_h0 : Int32) (least_h0 : Int32) (found_h0 : Int32) (size_m33 : Int32) (n_a_all_m33 : Nat) (b_a_all_m33 : Nat → Int32) (size_m5 : Int32) (n_a_all_m5 : Nat) (b_a_all_m5 : Nat → Int32) (o_1_1 : Int32) (on_nq_1_0 : Nat) (ob_nq_1_0 : Nat → Int32) (mc ms : Nat) (h : F_Mo_expressions p1 p2 p3 known_h0 thrown_h0 wrong_h0 lastEnd_h0 at_h0 bad_h0 levels_h0 least_h0 found_h0 size_m33 n_a_all_m33 b_a_all_m33 size_m5 n_a_all_m5 b_a_all_m5 = some ((o_1_1, on_nq_1_0, ob_nq_1_0), mc, ms)) : Ct l D (gT cI cB cJ cS) y_Mo_expressions prog_12_method_61_code 7 (Option.none : Option Jvm.ClassFile.FieldType) 2 48 mc ms [.ref h0, .int p1, .int p2, .int p3] [(h0, .inr (9, moF am known_h0 thrown_h0 wrong_h0 lastEnd_h0 at_h0 bad_h0 levels_h0 least_h0 found_h0)), ((am 33), .inr (8, [.ref a_all_m33, .int size_m33])), (a_all_m33, .inl (cI, n_a_all_m33, .inl b_a_all_m33)), ((am 5), .inr (8, [.ref a_all_m5, .int size_m5])), (a_all_m5, .inl (cI, n_a_all_m5, .inl b_a_all_m5))] (fun v w => ∃ nq_1_0 : Nat, v = none ∧ w = [(h0, .inr (9, moF am known_h0 thrown_h0 wrong_h0 lastEnd_h0 at_h0 bad_h0 levels_h0 least_h0 found_h0)), ((am 33), .inr (8, [.ref nq_1_0, .int o_1_1])), ((am 5), .inr (8, [.ref a_all_m5, .int size_m5])), (a_all_m5, .inl (cI, n_a_all_m5, .inl b_a_all_m5)), (nq_1_0, .inl (cI, on_nq_1_0, .inl ob_nq_1_0))]) := by
  refine Ct.mk (by decide) (Nat.le_of_ble_eq_true rfl) ?_
  intro p e s m below meth c hr hnm
  refine j_norm (pc' := 0) (lv' := [(0, .ref h0), (1, .int p1), (2, .int p2), (3, .int p3)]) (st' := []) (ws' := [(h0, .inr (9, moF am known_h0 thrown_h0 wrong_h0 lastEnd_h0 at_h0 bad_h0 levels_h0 least_h0 found_h0)), ((am 33), .inr (8, [.ref a_all_m33, .int size_m33])), (a_all_m33, .inl (cI, n_a_all_m33, .inl b_a_all_m33)), ((am 5), .inr (8, [.ref a_all_m5, .int size_m5])), (a_all_m5, .inl (cI, n_a_all_m5, .inl b_a_all_m5))]) (cl' := 0) (sl' := 0) rfl rfl rfl rfl rfl rfl ?_
  unfold F_Mo_expressions at h
  have hC : 0 + mc ≤ mc := by omega
  have hS : 0 + ms ≤ ms := by omega
  refine j_iload_n d_Mo_expressions_0 rfl 2 rfl ?_
  refine j_istore (lv' := [(4, .int p2), (0, .ref h0), (1, .int p1), (2, .int p2), (3, .int p3)]) d_Mo_expressions_1 (by decide) rfl ?_
  refine j_iload_n d_Mo_expressions_3 rfl 3 rfl ?_
  refine j_istore (lv' := [(5, .int p2), (4, .int p2), (0, .ref h0), (1, .int p1), (2, .int p2), (3, .int p3)]) d_Mo_expressions_4 (by decide) rfl ?_
  refine j_sub (w := [(h0, .inr (9, moF am known_h0 thrown_h0 wrong_h0 lastEnd_h0 at_h0 bad_h0 levels_h0 least_h0 found_h0)), ((am 33), .inr (8, [.ref a_all_m33, .int size_m33])), (a_all_m33, .inl (cI, n_a_all_m33, .inl b_a_all_m33)), ((am 5), .inr (8, [.ref a_all_m5, .int size_m5])), (a_all_m5, .inl (cI, n_a_all_m5, .inl b_a_all_m5))]) (lv' := [(5, .int p2), (4, .int p2), (0, .ref h0), (1, .int p1), (2, .int p2), (3, .int p3)]) [0, 1, 2, 3, 4] rfl (by decide) [0, 1, 2, 3, 4, 5] rfl ?_
  exact L_Mo_expressions_6 l D cI cB cJ cS h0 am a_all_m33 a_all_m5 p1 p2 p3 known_h0 thrown_h0 wrong_h0 lastEnd_h0 at_h0 bad_h0 levels_h0 least_h0 found_h0 size_m33 n_a_all_m33 b_a_all_m33 size_m5 n_a_all_m5 b_a_all_m5 o_1_1 on_nq_1_0 ob_nq_1_0 mc ms p e s m below meth c hr hnm FU a_all_m33 p2 p2 size_m33 n_a_all_m33 b_a_all_m33 0 0 mc ms h hC hS
noncomputable def F_Mo_leafNode (p1 : Int32) (p2 : Int32) (p3 : Int32) (known_h0 : Int32) (thrown_h0 : Int32) (wrong_h0 : Int32) (lastEnd_h0 : Int32) (at_h0 : Int32) (bad_h0 : Int32) (levels_h0 : Int32) (least_h0 : Int32) (found_h0 : Int32) (size_m6 : Int32) (n_a_all_m6 : Nat) (b_a_all_m6 : Nat → Int32) (size_m24 : Int32) (n_a_all_m24 : Nat) (b_a_all_m24 : Nat → Int32) (size_m25 : Int32) (n_a_all_m25 : Nat) (b_a_all_m25 : Nat → Int32) (size_m26 : Int32) (n_a_all_m26 : Nat) (b_a_all_m26 : Nat → Int32) (size_m27 : Int32) (n_a_all_m27 : Nat) (b_a_all_m27 : Nat → Int32) (size_m28 : Int32) (n_a_all_m28 : Nat) (b_a_all_m28 : Nat → Int32) (size_m29 : Int32) (n_a_all_m29 : Nat) (b_a_all_m29 : Nat → Int32) (size_m30 : Int32) (n_a_all_m30 : Nat) (b_a_all_m30 : Nat → Int32) (size_m31 : Int32) (n_a_all_m31 : Nat) (b_a_all_m31 : Nat → Int32) : Option ((Int32 × Int32 × Int32 × Nat × (Nat → Int32) × Nat × (Nat → Int32) × Nat × (Nat → Int32) × Nat × (Nat → Int32) × Nat × (Nat → Int32) × Nat × (Nat → Int32) × Nat × (Nat → Int32) × Nat × (Nat → Int32)) × Nat × Nat) :=
  Option.bind (F_Mo_placeOf p3 known_h0 thrown_h0 wrong_h0 lastEnd_h0 at_h0 bad_h0 levels_h0 least_h0 found_h0 size_m6 n_a_all_m6 b_a_all_m6) fun _ =>
  bw (F_Mo_newNode p1 p2 (b_a_all_m6 (Int32.toNatClampNeg p3)) (-1) p3 known_h0 thrown_h0 wrong_h0 lastEnd_h0 at_h0 bad_h0 levels_h0 least_h0 found_h0 size_m24 n_a_all_m24 b_a_all_m24 size_m25 n_a_all_m25 b_a_all_m25 size_m26 n_a_all_m26 b_a_all_m26 size_m27 n_a_all_m27 b_a_all_m27 size_m28 n_a_all_m28 b_a_all_m28 size_m29 n_a_all_m29 b_a_all_m29 size_m30 n_a_all_m30 b_a_all_m30 size_m31 n_a_all_m31 b_a_all_m31) fun ⟨r2, r3, r4, r5, r6, r7, r8, r9, r10, r11, r12, r13, r14, r15, r16, r17, r18, r19, r20⟩ =>
  (some ((r2, r3, r4, r5, r6, r7, r8, r9, r10, r11, r12, r13, r14, r15, r16, r17, r18, r19, r20), 0, 0))
theorem d_Mo_leafNode_0 : decode prog_12_method_62_code 0 = .ok (.aload_n 0, 1) := by decide +kernel
theorem d_Mo_leafNode_1 : decode prog_12_method_62_code 1 = .ok (.iload_n 1, 1) := by decide +kernel
theorem d_Mo_leafNode_2 : decode prog_12_method_62_code 2 = .ok (.iload_n 2, 1) := by decide +kernel
theorem d_Mo_leafNode_3 : decode prog_12_method_62_code 3 = .ok (.aload_n 0, 1) := by decide +kernel
theorem d_Mo_leafNode_4 : decode prog_12_method_62_code 4 = .ok (.iload_n 3, 1) := by decide +kernel
theorem d_Mo_leafNode_5 : decode prog_12_method_62_code 5 = .ok (.invokevirtual 411, 3) := by decide +kernel
theorem d_Mo_leafNode_8 : decode prog_12_method_62_code 8 = .ok (.iconst (-1), 1) := by decide +kernel
theorem d_Mo_leafNode_9 : decode prog_12_method_62_code 9 = .ok (.iload_n 3, 1) := by decide +kernel
theorem d_Mo_leafNode_10 : decode prog_12_method_62_code 10 = .ok (.invokevirtual 386, 3) := by decide +kernel
theorem d_Mo_leafNode_13 : decode prog_12_method_62_code 13 = .ok (.ireturn, 1) := by decide +kernel
set_option maxHeartbeats 4000000 in
set_option maxRecDepth 100000 in
theorem c_Mo_leafNode (l : Launch) (D : va_G) (cI cB cJ cS : ClassId) (h0 : Nat) (am : Nat → Nat) (a_all_m6 : Nat) (a_all_m24 : Nat) (a_all_m25 : Nat) (a_all_m26 : Nat) (a_all_m27 : Nat) (a_all_m28 : Nat) (a_all_m29 : Nat) (a_all_m30 : Nat) (a_all_m31 : Nat) (p1 : Int32) (p2 : Int32) (p3 : Int32) (known_h0 : Int32) (thrown_h0 : Int32) (wrong_h0 : Int32) (lastEnd_h0 : Int32) (at_h0 : Int32) (bad_h0 : Int32) (levels_h0 : Int32) (least_h0 : Int32) (found_h0 : Int32) (size_m6 : Int32) (n_a_all_m6 : Nat) (b_a_all_m6 : Nat → Int32) (size_m24 : Int32) (n_a_all_m24 : Nat) (b_a_all_m24 : Nat → Int32) (size_m25 : Int32) (n_a_all_m25 : Nat) (b_a_all_m25 : Nat → Int32) (size_m26 : Int32) (n_a_all_m26 : Nat) (b_a_all_m26 : Nat → Int32) (size_m27 : Int32) (n_a_all_m27 : Nat) (b_a_all_m27 : Nat → Int32) (size_m28 : Int32) (n_a_all_m28 : Nat) (b_a_all_m28 : Nat → Int32) (size_m29 : Int32) (n_a_all_m29 : Nat) (b_a_all_m29 : Nat → Int32) (size_m30 : Int32) (n_a_all_m30 : Nat) (b_a_all_m30 : Nat → Int32) (size_m31 : Int32) (n_a_all_m31 : Nat) (b_a_all_m31 : Nat → Int32) (o_11_1 : Int32) (o_13_1 : Int32) (o_15_1 : Int32) (on_nq_3_0 : Nat) (ob_nq_3_0 : Nat → Int32) (on_nq_5_0 : Nat) (ob_nq_5_0 : Nat → Int32) (on_nq_7_0 : Nat) (ob_nq_7_0 : Nat → Int32) (on_nq_9_0 : Nat) (ob_nq_9_0 : Nat → Int32) (on_nq_11_0 : Nat) (ob_nq_11_0 : Nat → Int32) (on_nq_13_0 : Nat) (ob_nq_13_0 : Nat → Int32) (on_nq_15_0 : Nat) (ob_nq_15_0 : Nat → Int32) (on_nq_17_0 : Nat) (ob_nq_17_0 : Nat → Int32) (mc ms : Nat) (h : F_Mo_leafNode p1 p2 p3 known_h0 thrown_h0 wrong_h0 lastEnd_h0 at_h0 bad_h0 levels_h0 least_h0 found_h0 size_m6 n_a_all_m6 b_a_all_m6 size_m24 n_a_all_m24 b_a_all_m24 size_m25 n_a_all_m25 b_a_all_m25 size_m26 n_a_all_m26 b_a_all_m26 size_m27 n_a_all_m27 b_a_all_m27 size_m28 n_a_all_m28 b_a_all_m28 size_m29 n_a_all_m29 b_a_all_m29 size_m30 n_a_all_m30 b_a_all_m30 size_m31 n_a_all_m31 b_a_all_m31 = some ((o_11_1, o_13_1, o_15_1, on_nq_3_0, ob_nq_3_0, on_nq_5_0, ob_nq_5_0, on_nq_7_0, ob_nq_7_0, on_nq_9_0, ob_nq_9_0, on_nq_11_0, ob_nq_11_0, on_nq_13_0, ob_nq_13_0, on_nq_15_0, ob_nq_15_0, on_nq_17_0, ob_nq_17_0), mc, ms)) : Ct l D (gT cI cB cJ cS) y_Mo_leafNode prog_12_method_62_code 4 (Option.some Jvm.ClassFile.FieldType.int) 2 49 mc ms [.ref h0, .int p1, .int p2, .int p3] [(h0, .inr (9, moF am known_h0 thrown_h0 wrong_h0 lastEnd_h0 at_h0 bad_h0 levels_h0 least_h0 found_h0)), ((am 6), .inr (8, [.ref a_all_m6, .int size_m6])), (a_all_m6, .inl (cI, n_a_all_m6, .inl b_a_all_m6)), ((am 24), .inr (8, [.ref a_all_m24, .int size_m24])), (a_all_m24, .inl (cI, n_a_all_m24, .inl b_a_all_m24)), ((am 25), .inr (8, [.ref a_all_m25, .int size_m25])), (a_all_m25, .inl (cI, n_a_all_m25, .inl b_a_all_m25)), ((am 26), .inr (8, [.ref a_all_m26, .int size_m26])), (a_all_m26, .inl (cI, n_a_all_m26, .inl b_a_all_m26)), ((am 27), .inr (8, [.ref a_all_m27, .int size_m27])), (a_all_m27, .inl (cI, n_a_all_m27, .inl b_a_all_m27)), ((am 28), .inr (8, [.ref a_all_m28, .int size_m28])), (a_all_m28, .inl (cI, n_a_all_m28, .inl b_a_all_m28)), ((am 29), .inr (8, [.ref a_all_m29, .int size_m29])), (a_all_m29, .inl (cI, n_a_all_m29, .inl b_a_all_m29)), ((am 30), .inr (8, [.ref a_all_m30, .int size_m30])), (a_all_m30, .inl (cI, n_a_all_m30, .inl b_a_all_m30)), ((am 31), .inr (8, [.ref a_all_m31, .int size_m31])), (a_all_m31, .inl (cI, n_a_all_m31, .inl b_a_all_m31))] (fun v w => ∃ nq_3_0 : Nat, ∃ nq_5_0 : Nat, ∃ nq_7_0 : Nat, ∃ nq_9_0 : Nat, ∃ nq_11_0 : Nat, ∃ nq_13_0 : Nat, ∃ nq_15_0 : Nat, ∃ nq_17_0 : Nat, v = some (.int size_m24) ∧ w = [(h0, .inr (9, moF am known_h0 thrown_h0 wrong_h0 lastEnd_h0 at_h0 bad_h0 levels_h0 least_h0 found_h0)), ((am 6), .inr (8, [.ref a_all_m6, .int size_m6])), (a_all_m6, .inl (cI, n_a_all_m6, .inl b_a_all_m6)), ((am 24), .inr (8, [.ref nq_3_0, .int (size_m24 + 1)])), ((am 25), .inr (8, [.ref nq_5_0, .int (size_m25 + 1)])), ((am 26), .inr (8, [.ref nq_7_0, .int (size_m26 + 1)])), ((am 27), .inr (8, [.ref nq_9_0, .int (size_m27 + 1)])), ((am 28), .inr (8, [.ref nq_11_0, .int o_11_1])), ((am 29), .inr (8, [.ref nq_13_0, .int o_13_1])), ((am 30), .inr (8, [.ref nq_15_0, .int o_15_1])), ((am 31), .inr (8, [.ref nq_17_0, .int (size_m31 + 1)])), (nq_3_0, .inl (cI, on_nq_3_0, .inl ob_nq_3_0)), (nq_5_0, .inl (cI, on_nq_5_0, .inl ob_nq_5_0)), (nq_7_0, .inl (cI, on_nq_7_0, .inl ob_nq_7_0)), (nq_9_0, .inl (cI, on_nq_9_0, .inl ob_nq_9_0)), (nq_11_0, .inl (cI, on_nq_11_0, .inl ob_nq_11_0)), (nq_13_0, .inl (cI, on_nq_13_0, .inl ob_nq_13_0)), (nq_15_0, .inl (cI, on_nq_15_0, .inl ob_nq_15_0)), (nq_17_0, .inl (cI, on_nq_17_0, .inl ob_nq_17_0))]) := by
  refine Ct.mk (by decide) (Nat.le_of_ble_eq_true rfl) ?_
  intro p e s m below meth c hr hnm
  refine j_norm (pc' := 0) (lv' := [(0, .ref h0), (1, .int p1), (2, .int p2), (3, .int p3)]) (st' := []) (ws' := [(h0, .inr (9, moF am known_h0 thrown_h0 wrong_h0 lastEnd_h0 at_h0 bad_h0 levels_h0 least_h0 found_h0)), ((am 6), .inr (8, [.ref a_all_m6, .int size_m6])), (a_all_m6, .inl (cI, n_a_all_m6, .inl b_a_all_m6)), ((am 24), .inr (8, [.ref a_all_m24, .int size_m24])), (a_all_m24, .inl (cI, n_a_all_m24, .inl b_a_all_m24)), ((am 25), .inr (8, [.ref a_all_m25, .int size_m25])), (a_all_m25, .inl (cI, n_a_all_m25, .inl b_a_all_m25)), ((am 26), .inr (8, [.ref a_all_m26, .int size_m26])), (a_all_m26, .inl (cI, n_a_all_m26, .inl b_a_all_m26)), ((am 27), .inr (8, [.ref a_all_m27, .int size_m27])), (a_all_m27, .inl (cI, n_a_all_m27, .inl b_a_all_m27)), ((am 28), .inr (8, [.ref a_all_m28, .int size_m28])), (a_all_m28, .inl (cI, n_a_all_m28, .inl b_a_all_m28)), ((am 29), .inr (8, [.ref a_all_m29, .int size_m29])), (a_all_m29, .inl (cI, n_a_all_m29, .inl b_a_all_m29)), ((am 30), .inr (8, [.ref a_all_m30, .int size_m30])), (a_all_m30, .inl (cI, n_a_all_m30, .inl b_a_all_m30)), ((am 31), .inr (8, [.ref a_all_m31, .int size_m31])), (a_all_m31, .inl (cI, n_a_all_m31, .inl b_a_all_m31))]) (cl' := 0) (sl' := 0) rfl rfl rfl rfl rfl rfl ?_
  unfold F_Mo_leafNode at h
  have hC : 0 + mc ≤ mc := by omega
  have hS : 0 + ms ≤ ms := by omega
  refine j_aload_n d_Mo_leafNode_0 rfl 0 rfl ?_
  refine j_iload_n d_Mo_leafNode_1 rfl 1 rfl ?_
  refine j_iload_n d_Mo_leafNode_2 rfl 2 rfl ?_
  refine j_aload_n d_Mo_leafNode_3 rfl 0 rfl ?_
  refine j_iload_n d_Mo_leafNode_4 rfl 3 rfl ?_
  replace h := bd_s h
  obtain ⟨_, k1, h⟩ := h
  refine j_callV (n := 1) (As := [.int p3]) (rest := [.int p2, .int p1, .ref h0]) (wr := [((am 24), .inr (8, [.ref a_all_m24, .int size_m24])), (a_all_m24, .inl (cI, n_a_all_m24, .inl b_a_all_m24)), ((am 25), .inr (8, [.ref a_all_m25, .int size_m25])), (a_all_m25, .inl (cI, n_a_all_m25, .inl b_a_all_m25)), ((am 26), .inr (8, [.ref a_all_m26, .int size_m26])), (a_all_m26, .inl (cI, n_a_all_m26, .inl b_a_all_m26)), ((am 27), .inr (8, [.ref a_all_m27, .int size_m27])), (a_all_m27, .inl (cI, n_a_all_m27, .inl b_a_all_m27)), ((am 28), .inr (8, [.ref a_all_m28, .int size_m28])), (a_all_m28, .inl (cI, n_a_all_m28, .inl b_a_all_m28)), ((am 29), .inr (8, [.ref a_all_m29, .int size_m29])), (a_all_m29, .inl (cI, n_a_all_m29, .inl b_a_all_m29)), ((am 30), .inr (8, [.ref a_all_m30, .int size_m30])), (a_all_m30, .inl (cI, n_a_all_m30, .inl b_a_all_m30)), ((am 31), .inr (8, [.ref a_all_m31, .int size_m31])), (a_all_m31, .inl (cI, n_a_all_m31, .inl b_a_all_m31))]) (c_Mo_placeOf l D cI cB cJ cS h0 am a_all_m6 p3 known_h0 thrown_h0 wrong_h0 lastEnd_h0 at_h0 bad_h0 levels_h0 least_h0 found_h0 size_m6 n_a_all_m6 b_a_all_m6  k1) k_Mo_411 (by decide) ⟨Nat.le_of_ble_eq_true rfl, Nat.le_of_ble_eq_true rfl⟩ rfl 0 rfl [0, 1, 2] [3, 4, 5, 6, 7, 8, 9, 10, 11, 12, 13, 14, 15, 16, 17, 18] rfl (by decide +kernel) rfl (by decide +kernel) (by decide +kernel) rfl rfl (Nat.le_of_ble_eq_true rfl) d_Mo_leafNode_5 ⟨show 0 + 0 ≤ mc by omega, show 0 + 0 ≤ ms by omega⟩ (fun v w hq => ?_)
  obtain ⟨rfl, rfl⟩ := hq
  refine j_norm (pc' := 8) (st' := [.int (b_a_all_m6 (Int32.toNatClampNeg p3)), .int p2, .int p1, .ref h0]) (ws' := [((am 24), .inr (8, [.ref a_all_m24, .int size_m24])), (a_all_m24, .inl (cI, n_a_all_m24, .inl b_a_all_m24)), ((am 25), .inr (8, [.ref a_all_m25, .int size_m25])), (a_all_m25, .inl (cI, n_a_all_m25, .inl b_a_all_m25)), ((am 26), .inr (8, [.ref a_all_m26, .int size_m26])), (a_all_m26, .inl (cI, n_a_all_m26, .inl b_a_all_m26)), ((am 27), .inr (8, [.ref a_all_m27, .int size_m27])), (a_all_m27, .inl (cI, n_a_all_m27, .inl b_a_all_m27)), ((am 28), .inr (8, [.ref a_all_m28, .int size_m28])), (a_all_m28, .inl (cI, n_a_all_m28, .inl b_a_all_m28)), ((am 29), .inr (8, [.ref a_all_m29, .int size_m29])), (a_all_m29, .inl (cI, n_a_all_m29, .inl b_a_all_m29)), ((am 30), .inr (8, [.ref a_all_m30, .int size_m30])), (a_all_m30, .inl (cI, n_a_all_m30, .inl b_a_all_m30)), ((am 31), .inr (8, [.ref a_all_m31, .int size_m31])), (a_all_m31, .inl (cI, n_a_all_m31, .inl b_a_all_m31)), (h0, .inr (9, moF am known_h0 thrown_h0 wrong_h0 lastEnd_h0 at_h0 bad_h0 levels_h0 least_h0 found_h0)), ((am 6), .inr (8, [.ref a_all_m6, .int size_m6])), (a_all_m6, .inl (cI, n_a_all_m6, .inl b_a_all_m6))]) (cl' := 0) (sl' := 0) rfl rfl rfl rfl rfl rfl ?_
  refine j_iconst (v := (-1)) d_Mo_leafNode_8 (by decide) ?_
  refine j_iload_n d_Mo_leafNode_9 rfl 3 rfl ?_
  replace h := bw_s h
  obtain ⟨⟨r2, r3, r4, r5, r6, r7, r8, r9, r10, r11, r12, r13, r14, r15, r16, r17, r18, r19, r20⟩, C29, S30, C31, S32, k33, h, e1, e2⟩ := h
  replace hC : 0 + C29 + C31 ≤ mc := by omega
  replace hS : 0 + S30 + S32 ≤ ms := by omega
  clear e1 e2
  refine j_callV (n := 5) (As := [.int p1, .int p2, .int (b_a_all_m6 (Int32.toNatClampNeg p3)), .int (-1), .int p3]) (rest := []) (wr := [((am 6), .inr (8, [.ref a_all_m6, .int size_m6])), (a_all_m6, .inl (cI, n_a_all_m6, .inl b_a_all_m6))]) (c_Mo_newNode l D cI cB cJ cS h0 am a_all_m24 a_all_m25 a_all_m26 a_all_m27 a_all_m28 a_all_m29 a_all_m30 a_all_m31 p1 p2 (b_a_all_m6 (Int32.toNatClampNeg p3)) (-1) p3 known_h0 thrown_h0 wrong_h0 lastEnd_h0 at_h0 bad_h0 levels_h0 least_h0 found_h0 size_m24 n_a_all_m24 b_a_all_m24 size_m25 n_a_all_m25 b_a_all_m25 size_m26 n_a_all_m26 b_a_all_m26 size_m27 n_a_all_m27 b_a_all_m27 size_m28 n_a_all_m28 b_a_all_m28 size_m29 n_a_all_m29 b_a_all_m29 size_m30 n_a_all_m30 b_a_all_m30 size_m31 n_a_all_m31 b_a_all_m31  r2 r3 r4 r5 r6 r7 r8 r9 r10 r11 r12 r13 r14 r15 r16 r17 r18 r19 r20 C29 S30 k33) k_Mo_386 (by decide) ⟨Nat.le_of_ble_eq_true rfl, Nat.le_of_ble_eq_true rfl⟩ rfl 0 rfl [16, 0, 1, 2, 3, 4, 5, 6, 7, 8, 9, 10, 11, 12, 13, 14, 15] [17, 18] rfl (by decide +kernel) rfl (by decide +kernel) (by decide +kernel) rfl rfl (Nat.le_of_ble_eq_true rfl) d_Mo_leafNode_10 ⟨show 0 + C29 ≤ mc by omega, show 0 + S30 ≤ ms by omega⟩ (fun v w hq => ?_)
  obtain ⟨q21, q22, q23, q24, q25, q26, q27, q28, rfl, rfl⟩ := hq
  refine j_norm (pc' := 13) (st' := [.int size_m24]) (ws' := [((am 6), .inr (8, [.ref a_all_m6, .int size_m6])), (a_all_m6, .inl (cI, n_a_all_m6, .inl b_a_all_m6)), (h0, .inr (9, moF am known_h0 thrown_h0 wrong_h0 lastEnd_h0 at_h0 bad_h0 levels_h0 least_h0 found_h0)), ((am 24), .inr (8, [.ref q21, .int (size_m24 + 1)])), ((am 25), .inr (8, [.ref q22, .int (size_m25 + 1)])), ((am 26), .inr (8, [.ref q23, .int (size_m26 + 1)])), ((am 27), .inr (8, [.ref q24, .int (size_m27 + 1)])), ((am 28), .inr (8, [.ref q25, .int r2])), ((am 29), .inr (8, [.ref q26, .int r3])), ((am 30), .inr (8, [.ref q27, .int r4])), ((am 31), .inr (8, [.ref q28, .int (size_m31 + 1)])), (q21, .inl (cI, r5, .inl r6)), (q22, .inl (cI, r7, .inl r8)), (q23, .inl (cI, r9, .inl r10)), (q24, .inl (cI, r11, .inl r12)), (q25, .inl (cI, r13, .inl r14)), (q26, .inl (cI, r15, .inl r16)), (q27, .inl (cI, r17, .inl r18)), (q28, .inl (cI, r19, .inl r20))]) (cl' := 0 + C29) (sl' := 0 + S30) rfl rfl rfl rfl rfl rfl ?_
  replace h := lf_s h
  obtain ⟨h, e1, e2⟩ := h
  replace h := Prod.mk.inj h
  obtain ⟨h9, h⟩ := h
  subst h9
  replace h := Prod.mk.inj h
  obtain ⟨h9, h⟩ := h
  subst h9
  replace h := Prod.mk.inj h
  obtain ⟨h9, h⟩ := h
  subst h9
  replace h := Prod.mk.inj h
  obtain ⟨h9, h⟩ := h
  subst h9
  replace h := Prod.mk.inj h
  obtain ⟨h9, h⟩ := h
  subst h9
  replace h := Prod.mk.inj h
  obtain ⟨h9, h⟩ := h
  subst h9
  replace h := Prod.mk.inj h
  obtain ⟨h9, h⟩ := h
  subst h9
  replace h := Prod.mk.inj h
  obtain ⟨h9, h⟩ := h
  subst h9
  replace h := Prod.mk.inj h
  obtain ⟨h9, h⟩ := h
  subst h9
  replace h := Prod.mk.inj h
  obtain ⟨h9, h⟩ := h
  subst h9
  replace h := Prod.mk.inj h
  obtain ⟨h9, h⟩ := h
  subst h9
  replace h := Prod.mk.inj h
  obtain ⟨h9, h⟩ := h
  subst h9
  replace h := Prod.mk.inj h
  obtain ⟨h9, h⟩ := h
  subst h9
  replace h := Prod.mk.inj h
  obtain ⟨h9, h⟩ := h
  subst h9
  replace h := Prod.mk.inj h
  obtain ⟨h9, h⟩ := h
  subst h9
  replace h := Prod.mk.inj h
  obtain ⟨h9, h⟩ := h
  subst h9
  replace h := Prod.mk.inj h
  obtain ⟨h9, h⟩ := h
  subst h9
  replace h := Prod.mk.inj h
  obtain ⟨h9, h⟩ := h
  subst h9
  subst h
  refine j_widen (cl' := mc) (sl' := ms) (by omega) (by omega) ?_
  exact j_iret (w := [(h0, .inr (9, moF am known_h0 thrown_h0 wrong_h0 lastEnd_h0 at_h0 bad_h0 levels_h0 least_h0 found_h0)), ((am 6), .inr (8, [.ref a_all_m6, .int size_m6])), (a_all_m6, .inl (cI, n_a_all_m6, .inl b_a_all_m6)), ((am 24), .inr (8, [.ref q21, .int (size_m24 + 1)])), ((am 25), .inr (8, [.ref q22, .int (size_m25 + 1)])), ((am 26), .inr (8, [.ref q23, .int (size_m26 + 1)])), ((am 27), .inr (8, [.ref q24, .int (size_m27 + 1)])), ((am 28), .inr (8, [.ref q25, .int r2])), ((am 29), .inr (8, [.ref q26, .int r3])), ((am 30), .inr (8, [.ref q27, .int r4])), ((am 31), .inr (8, [.ref q28, .int (size_m31 + 1)])), (q21, .inl (cI, r5, .inl r6)), (q22, .inl (cI, r7, .inl r8)), (q23, .inl (cI, r9, .inl r10)), (q24, .inl (cI, r11, .inl r12)), (q25, .inl (cI, r13, .inl r14)), (q26, .inl (cI, r15, .inl r16)), (q27, .inl (cI, r17, .inl r18)), (q28, .inl (cI, r19, .inl r20))]) hr d_Mo_leafNode_13 [2, 0, 1, 3, 4, 5, 6, 7, 8, 9, 10, 11, 12, 13, 14, 15, 16, 17, 18] rfl (by decide) ⟨q21, q22, q23, q24, q25, q26, q27, q28, rfl, rfl⟩
noncomputable def F_Mo_nameNodes_3 (p1 : Int32) (p3 : Int32) (known_h0 : Int32) (thrown_h0 : Int32) (wrong_h0 : Int32) (lastEnd_h0 : Int32) (at_h0 : Int32) (bad_h0 : Int32) (levels_h0 : Int32) (least_h0 : Int32) (found_h0 : Int32) (size_m5 : Int32) (n_a_all_m5 : Nat) (b_a_all_m5 : Nat → Int32) (size_m6 : Int32) (n_a_all_m6 : Nat) (b_a_all_m6 : Nat → Int32) : Nat → Int32 → Int32 → Nat → (Nat → Int32) → Int32 → Nat → (Nat → Int32) → Int32 → Nat → (Nat → Int32) → Int32 → Nat → (Nat → Int32) → Int32 → Nat → (Nat → Int32) → Int32 → Nat → (Nat → Int32) → Int32 → Nat → (Nat → Int32) → Int32 → Nat → (Nat → Int32) → Option ((Int32 × Int32 × Int32 × Int32 × Int32 × Int32 × Int32 × Int32 × Nat × (Nat → Int32) × Nat × (Nat → Int32) × Nat × (Nat → Int32) × Nat × (Nat → Int32) × Nat × (Nat → Int32) × Nat × (Nat → Int32) × Nat × (Nat → Int32) × Nat × (Nat → Int32)) × Nat × Nat)
  | 0, _, _, _, _, _, _, _, _, _, _, _, _, _, _, _, _, _, _, _, _, _, _, _, _, _ => none
  | k_3 + 1, v4_3, f5_1_3, n6_3, b6_3, f7_1_3, n8_3, b8_3, f9_1_3, n10_3, b10_3, f11_1_3, n12_3, b12_3, f13_1_3, n14_3, b14_3, f15_1_3, n16_3, b16_3, f17_1_3, n18_3, b18_3, f19_1_3, n20_3, b20_3 =>
    if p3 ≤ v4_3 then (some ((f5_1_3, f7_1_3, f9_1_3, f11_1_3, f13_1_3, f15_1_3, f17_1_3, f19_1_3, n6_3, b6_3, n8_3, b8_3, n10_3, b10_3, n12_3, b12_3, n14_3, b14_3, n16_3, b16_3, n18_3, b18_3, n20_3, b20_3), 0, 0))
    else (Option.bind (F_Nm_at v4_3 size_m5 n_a_all_m5 b_a_all_m5) fun _ =>
      if (b_a_all_m5 (Int32.toNatClampNeg v4_3)) = 2 then (bw (F_Mo_leafNode p1 32 v4_3 known_h0 thrown_h0 wrong_h0 lastEnd_h0 at_h0 bad_h0 levels_h0 least_h0 found_h0 size_m6 n_a_all_m6 b_a_all_m6 f5_1_3 n6_3 b6_3 f7_1_3 n8_3 b8_3 f9_1_3 n10_3 b10_3 f11_1_3 n12_3 b12_3 f13_1_3 n14_3 b14_3 f15_1_3 n16_3 b16_3 f17_1_3 n18_3 b18_3 f19_1_3 n20_3 b20_3) fun ⟨r36, r37, r38, r39, r40, r41, r42, r43, r44, r45, r46, r47, r48, r49, r50, r51, r52, r53, r54⟩ =>
        F_Mo_nameNodes_3 p1 p3 known_h0 thrown_h0 wrong_h0 lastEnd_h0 at_h0 bad_h0 levels_h0 least_h0 found_h0 size_m5 n_a_all_m5 b_a_all_m5 size_m6 n_a_all_m6 b_a_all_m6  k_3 (v4_3 + 2) (f5_1_3 + 1) r39 r40 (f7_1_3 + 1) r41 r42 (f9_1_3 + 1) r43 r44 (f11_1_3 + 1) r45 r46 r36 r47 r48 r37 r49 r50 r38 r51 r52 (f19_1_3 + 1) r53 r54)
      else (bw (F_Mo_leafNode p1 5 v4_3 known_h0 thrown_h0 wrong_h0 lastEnd_h0 at_h0 bad_h0 levels_h0 least_h0 found_h0 size_m6 n_a_all_m6 b_a_all_m6 f5_1_3 n6_3 b6_3 f7_1_3 n8_3 b8_3 f9_1_3 n10_3 b10_3 f11_1_3 n12_3 b12_3 f13_1_3 n14_3 b14_3 f15_1_3 n16_3 b16_3 f17_1_3 n18_3 b18_3 f19_1_3 n20_3 b20_3) fun ⟨r4, r5, r6, r7, r8, r9, r10, r11, r12, r13, r14, r15, r16, r17, r18, r19, r20, r21, r22⟩ =>
        F_Mo_nameNodes_3 p1 p3 known_h0 thrown_h0 wrong_h0 lastEnd_h0 at_h0 bad_h0 levels_h0 least_h0 found_h0 size_m5 n_a_all_m5 b_a_all_m5 size_m6 n_a_all_m6 b_a_all_m6  k_3 (v4_3 + 2) (f5_1_3 + 1) r7 r8 (f7_1_3 + 1) r9 r10 (f9_1_3 + 1) r11 r12 (f11_1_3 + 1) r13 r14 r4 r15 r16 r5 r17 r18 r6 r19 r20 (f19_1_3 + 1) r21 r22))
noncomputable def F_Mo_nameNodes (p1 : Int32) (p2 : Int32) (p3 : Int32) (known_h0 : Int32) (thrown_h0 : Int32) (wrong_h0 : Int32) (lastEnd_h0 : Int32) (at_h0 : Int32) (bad_h0 : Int32) (levels_h0 : Int32) (least_h0 : Int32) (found_h0 : Int32) (size_m5 : Int32) (n_a_all_m5 : Nat) (b_a_all_m5 : Nat → Int32) (size_m6 : Int32) (n_a_all_m6 : Nat) (b_a_all_m6 : Nat → Int32) (size_m24 : Int32) (n_a_all_m24 : Nat) (b_a_all_m24 : Nat → Int32) (size_m25 : Int32) (n_a_all_m25 : Nat) (b_a_all_m25 : Nat → Int32) (size_m26 : Int32) (n_a_all_m26 : Nat) (b_a_all_m26 : Nat → Int32) (size_m27 : Int32) (n_a_all_m27 : Nat) (b_a_all_m27 : Nat → Int32) (size_m28 : Int32) (n_a_all_m28 : Nat) (b_a_all_m28 : Nat → Int32) (size_m29 : Int32) (n_a_all_m29 : Nat) (b_a_all_m29 : Nat → Int32) (size_m30 : Int32) (n_a_all_m30 : Nat) (b_a_all_m30 : Nat → Int32) (size_m31 : Int32) (n_a_all_m31 : Nat) (b_a_all_m31 : Nat → Int32) : Option ((Int32 × Int32 × Int32 × Int32 × Int32 × Int32 × Int32 × Int32 × Nat × (Nat → Int32) × Nat × (Nat → Int32) × Nat × (Nat → Int32) × Nat × (Nat → Int32) × Nat × (Nat → Int32) × Nat × (Nat → Int32) × Nat × (Nat → Int32) × Nat × (Nat → Int32)) × Nat × Nat) :=
  F_Mo_nameNodes_3 p1 p3 known_h0 thrown_h0 wrong_h0 lastEnd_h0 at_h0 bad_h0 levels_h0 least_h0 found_h0 size_m5 n_a_all_m5 b_a_all_m5 size_m6 n_a_all_m6 b_a_all_m6  FU p2 size_m24 n_a_all_m24 b_a_all_m24 size_m25 n_a_all_m25 b_a_all_m25 size_m26 n_a_all_m26 b_a_all_m26 size_m27 n_a_all_m27 b_a_all_m27 size_m28 n_a_all_m28 b_a_all_m28 size_m29 n_a_all_m29 b_a_all_m29 size_m30 n_a_all_m30 b_a_all_m30 size_m31 n_a_all_m31 b_a_all_m31
theorem d_Mo_nameNodes_0 : decode prog_12_method_63_code 0 = .ok (.iload_n 2, 1) := by decide +kernel
theorem d_Mo_nameNodes_1 : decode prog_12_method_63_code 1 = .ok (.istore 4, 2) := by decide +kernel
theorem d_Mo_nameNodes_3 : decode prog_12_method_63_code 3 = .ok (.iload 4, 2) := by decide +kernel
theorem d_Mo_nameNodes_5 : decode prog_12_method_63_code 5 = .ok (.iload_n 3, 1) := by decide +kernel
theorem d_Mo_nameNodes_6 : decode prog_12_method_63_code 6 = .ok (.if_icmp .ge 40, 3) := by decide +kernel
theorem d_Mo_nameNodes_9 : decode prog_12_method_63_code 9 = .ok (.aload_n 0, 1) := by decide +kernel
theorem d_Mo_nameNodes_10 : decode prog_12_method_63_code 10 = .ok (.iload_n 1, 1) := by decide +kernel
theorem d_Mo_nameNodes_11 : decode prog_12_method_63_code 11 = .ok (.aload_n 0, 1) := by decide +kernel
theorem d_Mo_nameNodes_12 : decode prog_12_method_63_code 12 = .ok (.getfield 114, 3) := by decide +kernel
theorem d_Mo_nameNodes_15 : decode prog_12_method_63_code 15 = .ok (.iload 4, 2) := by decide +kernel
theorem d_Mo_nameNodes_17 : decode prog_12_method_63_code 17 = .ok (.invokevirtual 214, 3) := by decide +kernel
theorem d_Mo_nameNodes_20 : decode prog_12_method_63_code 20 = .ok (.iconst 2, 1) := by decide +kernel
theorem d_Mo_nameNodes_21 : decode prog_12_method_63_code 21 = .ok (.if_icmp .ne 8, 3) := by decide +kernel
theorem d_Mo_nameNodes_24 : decode prog_12_method_63_code 24 = .ok (.bipush 32, 2) := by decide +kernel
theorem d_Mo_nameNodes_26 : decode prog_12_method_63_code 26 = .ok (.goto 4, 3) := by decide +kernel
theorem d_Mo_nameNodes_29 : decode prog_12_method_63_code 29 = .ok (.iconst 5, 1) := by decide +kernel
theorem d_Mo_nameNodes_30 : decode prog_12_method_63_code 30 = .ok (.iload 4, 2) := by decide +kernel
theorem d_Mo_nameNodes_32 : decode prog_12_method_63_code 32 = .ok (.invokevirtual 426, 3) := by decide +kernel
theorem d_Mo_nameNodes_35 : decode prog_12_method_63_code 35 = .ok (.istore 5, 2) := by decide +kernel
theorem d_Mo_nameNodes_37 : decode prog_12_method_63_code 37 = .ok (.iload 4, 2) := by decide +kernel
theorem d_Mo_nameNodes_39 : decode prog_12_method_63_code 39 = .ok (.iconst 2, 1) := by decide +kernel
theorem d_Mo_nameNodes_40 : decode prog_12_method_63_code 40 = .ok (.iadd, 1) := by decide +kernel
theorem d_Mo_nameNodes_41 : decode prog_12_method_63_code 41 = .ok (.istore 4, 2) := by decide +kernel
theorem d_Mo_nameNodes_43 : decode prog_12_method_63_code 43 = .ok (.goto (-40), 3) := by decide +kernel
theorem d_Mo_nameNodes_46 : decode prog_12_method_63_code 46 = .ok (.return_, 1) := by decide +kernel
set_option maxHeartbeats 4000000 in
set_option maxRecDepth 100000 in
theorem L_Mo_nameNodes_3 (l : Launch) (D : va_G) (cI cB cJ cS : ClassId) (h0 : Nat) (am : Nat → Nat) (a_all_m5 : Nat) (a_all_m6 : Nat) (a_all_m24 : Nat) (a_all_m25 : Nat) (a_all_m26 : Nat) (a_all_m27 : Nat) (a_all_m28 : Nat) (a_all_m29 : Nat) (a_all_m30 : Nat) (a_all_m31 : Nat) (p1 : Int32) (p2 : Int32) (p3 : Int32) (known_h0 : Int32) (thrown_h0 : Int32) (wrong_h0 : Int32) (lastEnd_h0 : Int32) (at_h0 : Int32) (bad_h0 : Int32) (levels_h0 : Int32) (least_h0 : Int32) (found_h0 : Int32) (size_m5 : Int32) (n_a_all_m5 : Nat) (b_a_all_m5 : Nat → Int32) (size_m6 : Int32) (n_a_all_m6 : Nat) (b_a_all_m6 : Nat → Int32) (size_m24 : Int32) (n_a_all_m24 : Nat) (b_a_all_m24 : Nat → Int32) (size_m25 : Int32) (n_a_all_m25 : Nat) (b_a_all_m25 : Nat → Int32) (size_m26 : Int32) (n_a_all_m26 : Nat) (b_a_all_m26 : Nat → Int32) (size_m27 : Int32) (n_a_all_m27 : Nat) (b_a_all_m27 : Nat → Int32) (size_m28 : Int32) (n_a_all_m28 : Nat) (b_a_all_m28 : Nat → Int32) (size_m29 : Int32) (n_a_all_m29 : Nat) (b_a_all_m29 : Nat → Int32) (size_m30 : Int32) (n_a_all_m30 : Nat) (b_a_all_m30 : Nat → Int32) (size_m31 : Int32) (n_a_all_m31 : Nat) (b_a_all_m31 : Nat → Int32) (o_5_1 : Int32) (o_7_1 : Int32) (o_9_1 : Int32) (o_11_1 : Int32) (o_13_1 : Int32) (o_15_1 : Int32) (o_17_1 : Int32) (o_19_1 : Int32) (on_nq_5_0 : Nat) (ob_nq_5_0 : Nat → Int32) (on_nq_7_0 : Nat) (ob_nq_7_0 : Nat → Int32) (on_nq_9_0 : Nat) (ob_nq_9_0 : Nat → Int32) (on_nq_11_0 : Nat) (ob_nq_11_0 : Nat → Int32) (on_nq_13_0 : Nat) (ob_nq_13_0 : Nat → Int32) (on_nq_15_0 : Nat) (ob_nq_15_0 : Nat → Int32) (on_nq_17_0 : Nat) (ob_nq_17_0 : Nat → Int32) (on_nq_19_0 : Nat) (ob_nq_19_0 : Nat → Int32) (mc ms : Nat) (p : Program) (e : Env) (s : State) (m : MethodId) (below : List Frame) (meth : Method) (c : Code) (hr : meth.sig.returnType = (Option.none : Option Jvm.ClassFile.FieldType)) (hnm : meth.name = y_Mo_nameNodes.name) : ∀ (k_3 : Nat) (q5_0_3 : Nat) (q7_0_3 : Nat) (q9_0_3 : Nat) (q11_0_3 : Nat) (q13_0_3 : Nat) (q15_0_3 : Nat) (q17_0_3 : Nat) (q19_0_3 : Nat) (v4_3 : Int32) (f5_1_3 : Int32) (n6_3 : Nat) (b6_3 : Nat → Int32) (f7_1_3 : Int32) (n8_3 : Nat) (b8_3 : Nat → Int32) (f9_1_3 : Int32) (n10_3 : Nat) (b10_3 : Nat → Int32) (f11_1_3 : Int32) (n12_3 : Nat) (b12_3 : Nat → Int32) (f13_1_3 : Int32) (n14_3 : Nat) (b14_3 : Nat → Int32) (f15_1_3 : Int32) (n16_3 : Nat) (b16_3 : Nat → Int32) (f17_1_3 : Int32) (n18_3 : Nat) (b18_3 : Nat → Int32) (f19_1_3 : Int32) (n20_3 : Nat) (b20_3 : Nat → Int32) (cl_3 sl_3 C_3 S_3 : Nat), F_Mo_nameNodes_3 p1 p3 known_h0 thrown_h0 wrong_h0 lastEnd_h0 at_h0 bad_h0 levels_h0 least_h0 found_h0 size_m5 n_a_all_m5 b_a_all_m5 size_m6 n_a_all_m6 b_a_all_m6  k_3 v4_3 f5_1_3 n6_3 b6_3 f7_1_3 n8_3 b8_3 f9_1_3 n10_3 b10_3 f11_1_3 n12_3 b12_3 f13_1_3 n14_3 b14_3 f15_1_3 n16_3 b16_3 f17_1_3 n18_3 b18_3 f19_1_3 n20_3 b20_3 = some ((o_5_1, o_7_1, o_9_1, o_11_1, o_13_1, o_15_1, o_17_1, o_19_1, on_nq_5_0, ob_nq_5_0, on_nq_7_0, ob_nq_7_0, on_nq_9_0, ob_nq_9_0, on_nq_11_0, ob_nq_11_0, on_nq_13_0, ob_nq_13_0, on_nq_15_0, ob_nq_15_0, on_nq_17_0, ob_nq_17_0, on_nq_19_0, ob_nq_19_0), C_3, S_3) → cl_3 + C_3 ≤ mc → sl_3 + S_3 ≤ ms → J (KxOf p l e { frames := 3, cells := mc, slots := ms, locals := 72 } s m [.ref h0, .int p1, .int p2, .int p3].toArray below meth c D (gT cI cB cJ cS) [(h0, .inr (9, moF am known_h0 thrown_h0 wrong_h0 lastEnd_h0 at_h0 bad_h0 levels_h0 least_h0 found_h0)), ((am 5), .inr (8, [.ref a_all_m5, .int size_m5])), (a_all_m5, .inl (cI, n_a_all_m5, .inl b_a_all_m5)), ((am 6), .inr (8, [.ref a_all_m6, .int size_m6])), (a_all_m6, .inl (cI, n_a_all_m6, .inl b_a_all_m6)), ((am 24), .inr (8, [.ref a_all_m24, .int size_m24])), (a_all_m24, .inl (cI, n_a_all_m24, .inl b_a_all_m24)), ((am 25), .inr (8, [.ref a_all_m25, .int size_m25])), (a_all_m25, .inl (cI, n_a_all_m25, .inl b_a_all_m25)), ((am 26), .inr (8, [.ref a_all_m26, .int size_m26])), (a_all_m26, .inl (cI, n_a_all_m26, .inl b_a_all_m26)), ((am 27), .inr (8, [.ref a_all_m27, .int size_m27])), (a_all_m27, .inl (cI, n_a_all_m27, .inl b_a_all_m27)), ((am 28), .inr (8, [.ref a_all_m28, .int size_m28])), (a_all_m28, .inl (cI, n_a_all_m28, .inl b_a_all_m28)), ((am 29), .inr (8, [.ref a_all_m29, .int size_m29])), (a_all_m29, .inl (cI, n_a_all_m29, .inl b_a_all_m29)), ((am 30), .inr (8, [.ref a_all_m30, .int size_m30])), (a_all_m30, .inl (cI, n_a_all_m30, .inl b_a_all_m30)), ((am 31), .inr (8, [.ref a_all_m31, .int size_m31])), (a_all_m31, .inl (cI, n_a_all_m31, .inl b_a_all_m31))] (fun v w => ∃ nq_5_0 : Nat, ∃ nq_7_0 : Nat, ∃ nq_9_0 : Nat, ∃ nq_11_0 : Nat, ∃ nq_13_0 : Nat, ∃ nq_15_0 : Nat, ∃ nq_17_0 : Nat, ∃ nq_19_0 : Nat, v = none ∧ w = [(h0, .inr (9, moF am known_h0 thrown_h0 wrong_h0 lastEnd_h0 at_h0 bad_h0 levels_h0 least_h0 found_h0)), ((am 5), .inr (8, [.ref a_all_m5, .int size_m5])), (a_all_m5, .inl (cI, n_a_all_m5, .inl b_a_all_m5)), ((am 6), .inr (8, [.ref a_all_m6, .int size_m6])), (a_all_m6, .inl (cI, n_a_all_m6, .inl b_a_all_m6)), ((am 24), .inr (8, [.ref nq_5_0, .int o_5_1])), ((am 25), .inr (8, [.ref nq_7_0, .int o_7_1])), ((am 26), .inr (8, [.ref nq_9_0, .int o_9_1])), ((am 27), .inr (8, [.ref nq_11_0, .int o_11_1])), ((am 28), .inr (8, [.ref nq_13_0, .int o_13_1])), ((am 29), .inr (8, [.ref nq_15_0, .int o_15_1])), ((am 30), .inr (8, [.ref nq_17_0, .int o_17_1])), ((am 31), .inr (8, [.ref nq_19_0, .int o_19_1])), (nq_5_0, .inl (cI, on_nq_5_0, .inl ob_nq_5_0)), (nq_7_0, .inl (cI, on_nq_7_0, .inl ob_nq_7_0)), (nq_9_0, .inl (cI, on_nq_9_0, .inl ob_nq_9_0)), (nq_11_0, .inl (cI, on_nq_11_0, .inl ob_nq_11_0)), (nq_13_0, .inl (cI, on_nq_13_0, .inl ob_nq_13_0)), (nq_15_0, .inl (cI, on_nq_15_0, .inl ob_nq_15_0)), (nq_17_0, .inl (cI, on_nq_17_0, .inl ob_nq_17_0)), (nq_19_0, .inl (cI, on_nq_19_0, .inl ob_nq_19_0))]) mc ms) prog_12_method_63_code 6 R_Mo 3 [(4, .int v4_3), (0, .ref h0), (1, .int p1), (2, .int p2), (3, .int p3)] [] [(h0, .inr (9, moF am known_h0 thrown_h0 wrong_h0 lastEnd_h0 at_h0 bad_h0 levels_h0 least_h0 found_h0)), ((am 5), .inr (8, [.ref a_all_m5, .int size_m5])), (a_all_m5, .inl (cI, n_a_all_m5, .inl b_a_all_m5)), ((am 6), .inr (8, [.ref a_all_m6, .int size_m6])), (a_all_m6, .inl (cI, n_a_all_m6, .inl b_a_all_m6)), ((am 24), .inr (8, [.ref q5_0_3, .int f5_1_3])), (q5_0_3, .inl (cI, n6_3, .inl b6_3)), ((am 25), .inr (8, [.ref q7_0_3, .int f7_1_3])), (q7_0_3, .inl (cI, n8_3, .inl b8_3)), ((am 26), .inr (8, [.ref q9_0_3, .int f9_1_3])), (q9_0_3, .inl (cI, n10_3, .inl b10_3)), ((am 27), .inr (8, [.ref q11_0_3, .int f11_1_3])), (q11_0_3, .inl (cI, n12_3, .inl b12_3)), ((am 28), .inr (8, [.ref q13_0_3, .int f13_1_3])), (q13_0_3, .inl (cI, n14_3, .inl b14_3)), ((am 29), .inr (8, [.ref q15_0_3, .int f15_1_3])), (q15_0_3, .inl (cI, n16_3, .inl b16_3)), ((am 30), .inr (8, [.ref q17_0_3, .int f17_1_3])), (q17_0_3, .inl (cI, n18_3, .inl b18_3)), ((am 31), .inr (8, [.ref q19_0_3, .int f19_1_3])), (q19_0_3, .inl (cI, n20_3, .inl b20_3))] cl_3 sl_3 := by
  intro k_3
  induction k_3 with
  | zero => intro q5_0_3 q7_0_3 q9_0_3 q11_0_3 q13_0_3 q15_0_3 q17_0_3 q19_0_3 v4_3 f5_1_3 n6_3 b6_3 f7_1_3 n8_3 b8_3 f9_1_3 n10_3 b10_3 f11_1_3 n12_3 b12_3 f13_1_3 n14_3 b14_3 f15_1_3 n16_3 b16_3 f17_1_3 n18_3 b18_3 f19_1_3 n20_3 b20_3 cl_3 sl_3 C_3 S_3 h; rw [F_Mo_nameNodes_3] at h; cases h
  | succ k_3 ih_3 =>
    intro q5_0_3 q7_0_3 q9_0_3 q11_0_3 q13_0_3 q15_0_3 q17_0_3 q19_0_3 v4_3 f5_1_3 n6_3 b6_3 f7_1_3 n8_3 b8_3 f9_1_3 n10_3 b10_3 f11_1_3 n12_3 b12_3 f13_1_3 n14_3 b14_3 f15_1_3 n16_3 b16_3 f17_1_3 n18_3 b18_3 f19_1_3 n20_3 b20_3 cl_3 sl_3 C_3 S_3 h hC hS
    rw [F_Mo_nameNodes_3] at h
    refine j_iload d_Mo_nameNodes_3 0 rfl ?_
    refine j_iload_n d_Mo_nameNodes_5 rfl 4 rfl ?_
    refine j_icmp_ge (tgt := 46) d_Mo_nameNodes_6 (by decide) (fun c1 => ?_) (fun c1 => ?_)
    · replace h := it_t c1 h
      replace h := lf_s h
      obtain ⟨h, e1, e2⟩ := h
      replace h := Prod.mk.inj h
      obtain ⟨h9, h⟩ := h
      subst h9
      replace h := Prod.mk.inj h
      obtain ⟨h9, h⟩ := h
      subst h9
      replace h := Prod.mk.inj h
      obtain ⟨h9, h⟩ := h
      subst h9
      replace h := Prod.mk.inj h
      obtain ⟨h9, h⟩ := h
      subst h9
      replace h := Prod.mk.inj h
      obtain ⟨h9, h⟩ := h
      subst h9
      replace h := Prod.mk.inj h
      obtain ⟨h9, h⟩ := h
      subst h9
      replace h := Prod.mk.inj h
      obtain ⟨h9, h⟩ := h
      subst h9
      replace h := Prod.mk.inj h
      obtain ⟨h9, h⟩ := h
      subst h9
      replace h := Prod.mk.inj h
      obtain ⟨h9, h⟩ := h
      subst h9
      replace h := Prod.mk.inj h
      obtain ⟨h9, h⟩ := h
      subst h9
      replace h := Prod.mk.inj h
      obtain ⟨h9, h⟩ := h
      subst h9
      replace h := Prod.mk.inj h
      obtain ⟨h9, h⟩ := h
      subst h9
      replace h := Prod.mk.inj h
      obtain ⟨h9, h⟩ := h
      subst h9
      replace h := Prod.mk.inj h
      obtain ⟨h9, h⟩ := h
      subst h9
      replace h := Prod.mk.inj h
      obtain ⟨h9, h⟩ := h
      subst h9
      replace h := Prod.mk.inj h
      obtain ⟨h9, h⟩ := h
      subst h9
      replace h := Prod.mk.inj h
      obtain ⟨h9, h⟩ := h
      subst h9
      replace h := Prod.mk.inj h
      obtain ⟨h9, h⟩ := h
      subst h9
      replace h := Prod.mk.inj h
      obtain ⟨h9, h⟩ := h
      subst h9
      replace h := Prod.mk.inj h
      obtain ⟨h9, h⟩ := h
      subst h9
      replace h := Prod.mk.inj h
      obtain ⟨h9, h⟩ := h
      subst h9
      replace h := Prod.mk.inj h
      obtain ⟨h9, h⟩ := h
      subst h9
      replace h := Prod.mk.inj h
      obtain ⟨h9, h⟩ := h
      subst h9
      subst h
      refine j_widen (cl' := mc) (sl' := ms) (by omega) (by omega) ?_
      exact j_vret (w := [(h0, .inr (9, moF am known_h0 thrown_h0 wrong_h0 lastEnd_h0 at_h0 bad_h0 levels_h0 least_h0 found_h0)), ((am 5), .inr (8, [.ref a_all_m5, .int size_m5])), (a_all_m5, .inl (cI, n_a_all_m5, .inl b_a_all_m5)), ((am 6), .inr (8, [.ref a_all_m6, .int size_m6])), (a_all_m6, .inl (cI, n_a_all_m6, .inl b_a_all_m6)), ((am 24), .inr (8, [.ref q5_0_3, .int f5_1_3])), ((am 25), .inr (8, [.ref q7_0_3, .int f7_1_3])), ((am 26), .inr (8, [.ref q9_0_3, .int f9_1_3])), ((am 27), .inr (8, [.ref q11_0_3, .int f11_1_3])), ((am 28), .inr (8, [.ref q13_0_3, .int f13_1_3])), ((am 29), .inr (8, [.ref q15_0_3, .int f15_1_3])), ((am 30), .inr (8, [.ref q17_0_3, .int f17_1_3])), ((am 31), .inr (8, [.ref q19_0_3, .int f19_1_3])), (q5_0_3, .inl (cI, n6_3, .inl b6_3)), (q7_0_3, .inl (cI, n8_3, .inl b8_3)), (q9_0_3, .inl (cI, n10_3, .inl b10_3)), (q11_0_3, .inl (cI, n12_3, .inl b12_3)), (q13_0_3, .inl (cI, n14_3, .inl b14_3)), (q15_0_3, .inl (cI, n16_3, .inl b16_3)), (q17_0_3, .inl (cI, n18_3, .inl b18_3)), (q19_0_3, .inl (cI, n20_3, .inl b20_3))]) hr d_Mo_nameNodes_46 [0, 1, 2, 3, 4, 5, 7, 9, 11, 13, 15, 17, 19, 6, 8, 10, 12, 14, 16, 18, 20] rfl (by decide) ⟨q5_0_3, q7_0_3, q9_0_3, q11_0_3, q13_0_3, q15_0_3, q17_0_3, q19_0_3, rfl, rfl⟩
    · replace h := it_f c1 h
      refine j_aload_n d_Mo_nameNodes_9 rfl 1 rfl ?_
      refine j_iload_n d_Mo_nameNodes_10 rfl 2 rfl ?_
      refine j_aload_n d_Mo_nameNodes_11 rfl 1 rfl ?_
      refine j_get ig_Mo rfl 0 rfl 5 (by decide) rfl m_1118 rfl d_Mo_nameNodes_12 ?_
      refine j_iload d_Mo_nameNodes_15 0 rfl ?_
      replace h := bd_s h
      obtain ⟨_, k2, h⟩ := h
      refine j_callV (n := 1) (As := [.int v4_3]) (rest := [.int p1, .ref h0]) (wr := [(h0, .inr (9, moF am known_h0 thrown_h0 wrong_h0 lastEnd_h0 at_h0 bad_h0 levels_h0 least_h0 found_h0)), ((am 6), .inr (8, [.ref a_all_m6, .int size_m6])), (a_all_m6, .inl (cI, n_a_all_m6, .inl b_a_all_m6)), ((am 24), .inr (8, [.ref q5_0_3, .int f5_1_3])), (q5_0_3, .inl (cI, n6_3, .inl b6_3)), ((am 25), .inr (8, [.ref q7_0_3, .int f7_1_3])), (q7_0_3, .inl (cI, n8_3, .inl b8_3)), ((am 26), .inr (8, [.ref q9_0_3, .int f9_1_3])), (q9_0_3, .inl (cI, n10_3, .inl b10_3)), ((am 27), .inr (8, [.ref q11_0_3, .int f11_1_3])), (q11_0_3, .inl (cI, n12_3, .inl b12_3)), ((am 28), .inr (8, [.ref q13_0_3, .int f13_1_3])), (q13_0_3, .inl (cI, n14_3, .inl b14_3)), ((am 29), .inr (8, [.ref q15_0_3, .int f15_1_3])), (q15_0_3, .inl (cI, n16_3, .inl b16_3)), ((am 30), .inr (8, [.ref q17_0_3, .int f17_1_3])), (q17_0_3, .inl (cI, n18_3, .inl b18_3)), ((am 31), .inr (8, [.ref q19_0_3, .int f19_1_3])), (q19_0_3, .inl (cI, n20_3, .inl b20_3))]) (c_Nm_at l D cI cB cJ cS (am 5) a_all_m5 v4_3 size_m5 n_a_all_m5 b_a_all_m5  k2) k_Mo_214 (by decide) ⟨Nat.le_of_ble_eq_true rfl, Nat.le_of_ble_eq_true rfl⟩ rfl 0 rfl [1, 2] [0, 3, 4, 5, 6, 7, 8, 9, 10, 11, 12, 13, 14, 15, 16, 17, 18, 19, 20] rfl (by decide +kernel) rfl (by decide +kernel) (by decide +kernel) rfl rfl (Nat.le_of_ble_eq_true rfl) d_Mo_nameNodes_17 ⟨show cl_3 + 0 ≤ mc by omega, show sl_3 + 0 ≤ ms by omega⟩ (fun v w hq => ?_)
      obtain ⟨rfl, rfl⟩ := hq
      refine j_norm (pc' := 20) (st' := [.int (b_a_all_m5 (Int32.toNatClampNeg v4_3)), .int p1, .ref h0]) (ws' := [(h0, .inr (9, moF am known_h0 thrown_h0 wrong_h0 lastEnd_h0 at_h0 bad_h0 levels_h0 least_h0 found_h0)), ((am 6), .inr (8, [.ref a_all_m6, .int size_m6])), (a_all_m6, .inl (cI, n_a_all_m6, .inl b_a_all_m6)), ((am 24), .inr (8, [.ref q5_0_3, .int f5_1_3])), (q5_0_3, .inl (cI, n6_3, .inl b6_3)), ((am 25), .inr (8, [.ref q7_0_3, .int f7_1_3])), (q7_0_3, .inl (cI, n8_3, .inl b8_3)), ((am 26), .inr (8, [.ref q9_0_3, .int f9_1_3])), (q9_0_3, .inl (cI, n10_3, .inl b10_3)), ((am 27), .inr (8, [.ref q11_0_3, .int f11_1_3])), (q11_0_3, .inl (cI, n12_3, .inl b12_3)), ((am 28), .inr (8, [.ref q13_0_3, .int f13_1_3])), (q13_0_3, .inl (cI, n14_3, .inl b14_3)), ((am 29), .inr (8, [.ref q15_0_3, .int f15_1_3])), (q15_0_3, .inl (cI, n16_3, .inl b16_3)), ((am 30), .inr (8, [.ref q17_0_3, .int f17_1_3])), (q17_0_3, .inl (cI, n18_3, .inl b18_3)), ((am 31), .inr (8, [.ref q19_0_3, .int f19_1_3])), (q19_0_3, .inl (cI, n20_3, .inl b20_3)), ((am 5), .inr (8, [.ref a_all_m5, .int size_m5])), (a_all_m5, .inl (cI, n_a_all_m5, .inl b_a_all_m5))]) (cl' := cl_3) (sl' := sl_3) rfl rfl rfl rfl rfl rfl ?_
      refine j_iconst (v := 2) d_Mo_nameNodes_20 (by decide) ?_
      refine j_icmp_ne (tgt := 29) d_Mo_nameNodes_21 (by decide) (fun c3 => ?_) (fun c3 => ?_)
      · replace h := it_f c3 h
        refine j_iconst (v := 5) d_Mo_nameNodes_29 (by decide) ?_
        refine j_iload d_Mo_nameNodes_30 0 rfl ?_
        replace h := bw_s h
        obtain ⟨⟨r4, r5, r6, r7, r8, r9, r10, r11, r12, r13, r14, r15, r16, r17, r18, r19, r20, r21, r22⟩, C31, S32, C33, S34, k35, h, e1, e2⟩ := h
        replace hC : cl_3 + C31 + C33 ≤ mc := by omega
        replace hS : sl_3 + S32 + S34 ≤ ms := by omega
        clear e1 e2
        refine j_callV (n := 3) (As := [.int p1, .int 5, .int v4_3]) (rest := []) (wr := [((am 5), .inr (8, [.ref a_all_m5, .int size_m5])), (a_all_m5, .inl (cI, n_a_all_m5, .inl b_a_all_m5))]) (c_Mo_leafNode l D cI cB cJ cS h0 am a_all_m6 q5_0_3 q7_0_3 q9_0_3 q11_0_3 q13_0_3 q15_0_3 q17_0_3 q19_0_3 p1 5 v4_3 known_h0 thrown_h0 wrong_h0 lastEnd_h0 at_h0 bad_h0 levels_h0 least_h0 found_h0 size_m6 n_a_all_m6 b_a_all_m6 f5_1_3 n6_3 b6_3 f7_1_3 n8_3 b8_3 f9_1_3 n10_3 b10_3 f11_1_3 n12_3 b12_3 f13_1_3 n14_3 b14_3 f15_1_3 n16_3 b16_3 f17_1_3 n18_3 b18_3 f19_1_3 n20_3 b20_3  r4 r5 r6 r7 r8 r9 r10 r11 r12 r13 r14 r15 r16 r17 r18 r19 r20 r21 r22 C31 S32 k35) k_Mo_426 (by decide) ⟨Nat.le_of_ble_eq_true rfl, Nat.le_of_ble_eq_true rfl⟩ rfl 0 rfl [0, 1, 2, 3, 4, 5, 6, 7, 8, 9, 10, 11, 12, 13, 14, 15, 16, 17, 18] [19, 20] rfl (by decide +kernel) rfl (by decide +kernel) (by decide +kernel) rfl rfl (Nat.le_of_ble_eq_true rfl) d_Mo_nameNodes_32 ⟨show cl_3 + C31 ≤ mc by omega, show sl_3 + S32 ≤ ms by omega⟩ (fun v w hq => ?_)
        obtain ⟨q23, q24, q25, q26, q27, q28, q29, q30, rfl, rfl⟩ := hq
        refine j_norm (pc' := 35) (st' := [.int f5_1_3]) (ws' := [((am 5), .inr (8, [.ref a_all_m5, .int size_m5])), (a_all_m5, .inl (cI, n_a_all_m5, .inl b_a_all_m5)), (h0, .inr (9, moF am known_h0 thrown_h0 wrong_h0 lastEnd_h0 at_h0 bad_h0 levels_h0 least_h0 found_h0)), ((am 6), .inr (8, [.ref a_all_m6, .int size_m6])), (a_all_m6, .inl (cI, n_a_all_m6, .inl b_a_all_m6)), ((am 24), .inr (8, [.ref q23, .int (f5_1_3 + 1)])), ((am 25), .inr (8, [.ref q24, .int (f7_1_3 + 1)])), ((am 26), .inr (8, [.ref q25, .int (f9_1_3 + 1)])), ((am 27), .inr (8, [.ref q26, .int (f11_1_3 + 1)])), ((am 28), .inr (8, [.ref q27, .int r4])), ((am 29), .inr (8, [.ref q28, .int r5])), ((am 30), .inr (8, [.ref q29, .int r6])), ((am 31), .inr (8, [.ref q30, .int (f19_1_3 + 1)])), (q23, .inl (cI, r7, .inl r8)), (q24, .inl (cI, r9, .inl r10)), (q25, .inl (cI, r11, .inl r12)), (q26, .inl (cI, r13, .inl r14)), (q27, .inl (cI, r15, .inl r16)), (q28, .inl (cI, r17, .inl r18)), (q29, .inl (cI, r19, .inl r20)), (q30, .inl (cI, r21, .inl r22))]) (cl' := cl_3 + C31) (sl' := sl_3 + S32) rfl rfl rfl rfl rfl rfl ?_
        refine j_istore (lv' := [(5, .int f5_1_3), (4, .int v4_3), (0, .ref h0), (1, .int p1), (2, .int p2), (3, .int p3)]) d_Mo_nameNodes_35 (by decide) rfl ?_
        refine j_iload d_Mo_nameNodes_37 1 rfl ?_
        refine j_iconst (v := 2) d_Mo_nameNodes_39 (by decide) ?_
        refine j_iadd d_Mo_nameNodes_40 ?_
        refine j_istore (lv' := [(4, .int (v4_3 + 2)), (5, .int f5_1_3), (0, .ref h0), (1, .int p1), (2, .int p2), (3, .int p3)]) d_Mo_nameNodes_41 (by decide) rfl ?_
        refine j_goto (tgt := 3) d_Mo_nameNodes_43 (by decide) ?_
        refine j_sub (w := [(h0, .inr (9, moF am known_h0 thrown_h0 wrong_h0 lastEnd_h0 at_h0 bad_h0 levels_h0 least_h0 found_h0)), ((am 5), .inr (8, [.ref a_all_m5, .int size_m5])), (a_all_m5, .inl (cI, n_a_all_m5, .inl b_a_all_m5)), ((am 6), .inr (8, [.ref a_all_m6, .int size_m6])), (a_all_m6, .inl (cI, n_a_all_m6, .inl b_a_all_m6)), ((am 24), .inr (8, [.ref q23, .int (f5_1_3 + 1)])), (q23, .inl (cI, r7, .inl r8)), ((am 25), .inr (8, [.ref q24, .int (f7_1_3 + 1)])), (q24, .inl (cI, r9, .inl r10)), ((am 26), .inr (8, [.ref q25, .int (f9_1_3 + 1)])), (q25, .inl (cI, r11, .inl r12)), ((am 27), .inr (8, [.ref q26, .int (f11_1_3 + 1)])), (q26, .inl (cI, r13, .inl r14)), ((am 28), .inr (8, [.ref q27, .int r4])), (q27, .inl (cI, r15, .inl r16)), ((am 29), .inr (8, [.ref q28, .int r5])), (q28, .inl (cI, r17, .inl r18)), ((am 30), .inr (8, [.ref q29, .int r6])), (q29, .inl (cI, r19, .inl r20)), ((am 31), .inr (8, [.ref q30, .int (f19_1_3 + 1)])), (q30, .inl (cI, r21, .inl r22))]) (lv' := [(4, .int (v4_3 + 2)), (0, .ref h0), (1, .int p1), (2, .int p2), (3, .int p3)]) [2, 0, 1, 3, 4, 5, 13, 6, 14, 7, 15, 8, 16, 9, 17, 10, 18, 11, 19, 12, 20] rfl (by decide +kernel) [0, 2, 3, 4, 5] rfl ?_
        exact ih_3 q23 q24 q25 q26 q27 q28 q29 q30 (v4_3 + 2) (f5_1_3 + 1) r7 r8 (f7_1_3 + 1) r9 r10 (f9_1_3 + 1) r11 r12 (f11_1_3 + 1) r13 r14 r4 r15 r16 r5 r17 r18 r6 r19 r20 (f19_1_3 + 1) r21 r22 (cl_3 + C31) (sl_3 + S32) C33 S34 h hC hS
      · replace h := it_t c3 h
        refine j_bipush (v := 32) d_Mo_nameNodes_24 (by decide) ?_
        refine j_goto (tgt := 30) d_Mo_nameNodes_26 (by decide) ?_
        refine j_iload d_Mo_nameNodes_30 0 rfl ?_
        replace h := bw_s h
        obtain ⟨⟨r36, r37, r38, r39, r40, r41, r42, r43, r44, r45, r46, r47, r48, r49, r50, r51, r52, r53, r54⟩, C63, S64, C65, S66, k67, h, e1, e2⟩ := h
        replace hC : cl_3 + C63 + C65 ≤ mc := by omega
        replace hS : sl_3 + S64 + S66 ≤ ms := by omega
        clear e1 e2
        refine j_callV (n := 3) (As := [.int p1, .int 32, .int v4_3]) (rest := []) (wr := [((am 5), .inr (8, [.ref a_all_m5, .int size_m5])), (a_all_m5, .inl (cI, n_a_all_m5, .inl b_a_all_m5))]) (c_Mo_leafNode l D cI cB cJ cS h0 am a_all_m6 q5_0_3 q7_0_3 q9_0_3 q11_0_3 q13_0_3 q15_0_3 q17_0_3 q19_0_3 p1 32 v4_3 known_h0 thrown_h0 wrong_h0 lastEnd_h0 at_h0 bad_h0 levels_h0 least_h0 found_h0 size_m6 n_a_all_m6 b_a_all_m6 f5_1_3 n6_3 b6_3 f7_1_3 n8_3 b8_3 f9_1_3 n10_3 b10_3 f11_1_3 n12_3 b12_3 f13_1_3 n14_3 b14_3 f15_1_3 n16_3 b16_3 f17_1_3 n18_3 b18_3 f19_1_3 n20_3 b20_3  r36 r37 r38 r39 r40 r41 r42 r43 r44 r45 r46 r47 r48 r49 r50 r51 r52 r53 r54 C63 S64 k67) k_Mo_426 (by decide) ⟨Nat.le_of_ble_eq_true rfl, Nat.le_of_ble_eq_true rfl⟩ rfl 0 rfl [0, 1, 2, 3, 4, 5, 6, 7, 8, 9, 10, 11, 12, 13, 14, 15, 16, 17, 18] [19, 20] rfl (by decide +kernel) rfl (by decide +kernel) (by decide +kernel) rfl rfl (Nat.le_of_ble_eq_true rfl) d_Mo_nameNodes_32 ⟨show cl_3 + C63 ≤ mc by omega, show sl_3 + S64 ≤ ms by omega⟩ (fun v w hq => ?_)
        obtain ⟨q55, q56, q57, q58, q59, q60, q61, q62, rfl, rfl⟩ := hq
        refine j_norm (pc' := 35) (st' := [.int f5_1_3]) (ws' := [((am 5), .inr (8, [.ref a_all_m5, .int size_m5])), (a_all_m5, .inl (cI, n_a_all_m5, .inl b_a_all_m5)), (h0, .inr (9, moF am known_h0 thrown_h0 wrong_h0 lastEnd_h0 at_h0 bad_h0 levels_h0 least_h0 found_h0)), ((am 6), .inr (8, [.ref a_all_m6, .int size_m6])), (a_all_m6, .inl (cI, n_a_all_m6, .inl b_a_all_m6)), ((am 24), .inr (8, [.ref q55, .int (f5_1_3 + 1)])), ((am 25), .inr (8, [.ref q56, .int (f7_1_3 + 1)])), ((am 26), .inr (8, [.ref q57, .int (f9_1_3 + 1)])), ((am 27), .inr (8, [.ref q58, .int (f11_1_3 + 1)])), ((am 28), .inr (8, [.ref q59, .int r36])), ((am 29), .inr (8, [.ref q60, .int r37])), ((am 30), .inr (8, [.ref q61, .int r38])), ((am 31), .inr (8, [.ref q62, .int (f19_1_3 + 1)])), (q55, .inl (cI, r39, .inl r40)), (q56, .inl (cI, r41, .inl r42)), (q57, .inl (cI, r43, .inl r44)), (q58, .inl (cI, r45, .inl r46)), (q59, .inl (cI, r47, .inl r48)), (q60, .inl (cI, r49, .inl r50)), (q61, .inl (cI, r51, .inl r52)), (q62, .inl (cI, r53, .inl r54))]) (cl' := cl_3 + C63) (sl' := sl_3 + S64) rfl rfl rfl rfl rfl rfl ?_
        refine j_istore (lv' := [(5, .int f5_1_3), (4, .int v4_3), (0, .ref h0), (1, .int p1), (2, .int p2), (3, .int p3)]) d_Mo_nameNodes_35 (by decide) rfl ?_
        refine j_iload d_Mo_nameNodes_37 1 rfl ?_
        refine j_iconst (v := 2) d_Mo_nameNodes_39 (by decide) ?_
        refine j_iadd d_Mo_nameNodes_40 ?_
        refine j_istore (lv' := [(4, .int (v4_3 + 2)), (5, .int f5_1_3), (0, .ref h0), (1, .int p1), (2, .int p2), (3, .int p3)]) d_Mo_nameNodes_41 (by decide) rfl ?_
        refine j_goto (tgt := 3) d_Mo_nameNodes_43 (by decide) ?_
        refine j_sub (w := [(h0, .inr (9, moF am known_h0 thrown_h0 wrong_h0 lastEnd_h0 at_h0 bad_h0 levels_h0 least_h0 found_h0)), ((am 5), .inr (8, [.ref a_all_m5, .int size_m5])), (a_all_m5, .inl (cI, n_a_all_m5, .inl b_a_all_m5)), ((am 6), .inr (8, [.ref a_all_m6, .int size_m6])), (a_all_m6, .inl (cI, n_a_all_m6, .inl b_a_all_m6)), ((am 24), .inr (8, [.ref q55, .int (f5_1_3 + 1)])), (q55, .inl (cI, r39, .inl r40)), ((am 25), .inr (8, [.ref q56, .int (f7_1_3 + 1)])), (q56, .inl (cI, r41, .inl r42)), ((am 26), .inr (8, [.ref q57, .int (f9_1_3 + 1)])), (q57, .inl (cI, r43, .inl r44)), ((am 27), .inr (8, [.ref q58, .int (f11_1_3 + 1)])), (q58, .inl (cI, r45, .inl r46)), ((am 28), .inr (8, [.ref q59, .int r36])), (q59, .inl (cI, r47, .inl r48)), ((am 29), .inr (8, [.ref q60, .int r37])), (q60, .inl (cI, r49, .inl r50)), ((am 30), .inr (8, [.ref q61, .int r38])), (q61, .inl (cI, r51, .inl r52)), ((am 31), .inr (8, [.ref q62, .int (f19_1_3 + 1)])), (q62, .inl (cI, r53, .inl r54))]) (lv' := [(4, .int (v4_3 + 2)), (0, .ref h0), (1, .int p1), (2, .int p2), (3, .int p3)]) [2, 0, 1, 3, 4, 5, 13, 6, 14, 7, 15, 8, 16, 9, 17, 10, 18, 11, 19, 12, 20] rfl (by decide +kernel) [0, 2, 3, 4, 5] rfl ?_
        exact ih_3 q55 q56 q57 q58 q59 q60 q61 q62 (v4_3 + 2) (f5_1_3 + 1) r39 r40 (f7_1_3 + 1) r41 r42 (f9_1_3 + 1) r43 r44 (f11_1_3 + 1) r45 r46 r36 r47 r48 r37 r49 r50 r38 r51 r52 (f19_1_3 + 1) r53 r54 (cl_3 + C63) (sl_3 + S64) C65 S66 h hC hS
set_option maxHeartbeats 4000000 in
set_option maxRecDepth 100000 in
theorem c_Mo_nameNodes (l : Launch) (D : va_G) (cI cB cJ cS : ClassId) (h0 : Nat) (am : Nat → Nat) (a_all_m5 : Nat) (a_all_m6 : Nat) (a_all_m24 : Nat) (a_all_m25 : Nat) (a_all_m26 : Nat) (a_all_m27 : Nat) (a_all_m28 : Nat) (a_all_m29 : Nat) (a_all_m30 : Nat) (a_all_m31 : Nat) (p1 : Int32) (p2 : Int32) (p3 : Int32) (known_h0 : Int32) (thrown_h0 : Int32) (wrong_h0 : Int32) (lastEnd_h0 : Int32) (at_h0 : Int32) (bad_h0 : Int32) (levels_h0 : Int32) (least_h0 : Int32) (found_h0 : Int32) (size_m5 : Int32) (n_a_all_m5 : Nat) (b_a_all_m5 : Nat → Int32) (size_m6 : Int32) (n_a_all_m6 : Nat) (b_a_all_m6 : Nat → Int32) (size_m24 : Int32) (n_a_all_m24 : Nat) (b_a_all_m24 : Nat → Int32) (size_m25 : Int32) (n_a_all_m25 : Nat) (b_a_all_m25 : Nat → Int32) (size_m26 : Int32) (n_a_all_m26 : Nat) (b_a_all_m26 : Nat → Int32) (size_m27 : Int32) (n_a_all_m27 : Nat) (b_a_all_m27 : Nat → Int32) (size_m28 : Int32) (n_a_all_m28 : Nat) (b_a_all_m28 : Nat → Int32) (size_m29 : Int32) (n_a_all_m29 : Nat) (b_a_all_m29 : Nat → Int32) (size_m30 : Int32) (n_a_all_m30 : Nat) (b_a_all_m30 : Nat → Int32) (size_m31 : Int32) (n_a_all_m31 : Nat) (b_a_all_m31 : Nat → Int32) (o_5_1 : Int32) (o_7_1 : Int32) (o_9_1 : Int32) (o_11_1 : Int32) (o_13_1 : Int32) (o_15_1 : Int32) (o_17_1 : Int32) (o_19_1 : Int32) (on_nq_5_0 : Nat) (ob_nq_5_0 : Nat → Int32) (on_nq_7_0 : Nat) (ob_nq_7_0 : Nat → Int32) (on_nq_9_0 : Nat) (ob_nq_9_0 : Nat → Int32) (on_nq_11_0 : Nat) (ob_nq_11_0 : Nat → Int32) (on_nq_13_0 : Nat) (ob_nq_13_0 : Nat → Int32) (on_nq_15_0 : Nat) (ob_nq_15_0 : Nat → Int32) (on_nq_17_0 : Nat) (ob_nq_17_0 : Nat → Int32) (on_nq_19_0 : Nat) (ob_nq_19_0 : Nat → Int32) (mc ms : Nat) (h : F_Mo_nameNodes p1 p2 p3 known_h0 thrown_h0 wrong_h0 lastEnd_h0 at_h0 bad_h0 levels_h0 least_h0 found_h0 size_m5 n_a_all_m5 b_a_all_m5 size_m6 n_a_all_m6 b_a_all_m6 size_m24 n_a_all_m24 b_a_all_m24 size_m25 n_a_all_m25 b_a_all_m25 size_m26 n_a_all_m26 b_a_all_m26 size_m27 n_a_all_m27 b_a_all_m27 size_m28 n_a_all_m28 b_a_all_m28 size_m29 n_a_all_m29 b_a_all_m29 size_m30 n_a_all_m30 b_a_all_m30 size_m31 n_a_all_m31 b_a_all_m31 = some ((o_5_1, o_7_1, o_9_1, o_11_1, o_13_1, o_15_1, o_17_1, o_19_1, on_nq_5_0, ob_nq_5_0, on_nq_7_0, ob_nq_7_0, on_nq_9_0, ob_nq_9_0, on_nq_11_0, ob_nq_11_0, on_nq_13_0, ob_nq_13_0, on_nq_15_0, ob_nq_15_0, on_nq_17_0, ob_nq_17_0, on_nq_19_0, ob_nq_19_0), mc, ms)) : Ct l D (gT cI cB cJ cS) y_Mo_nameNodes prog_12_method_63_code 6 (Option.none : Option Jvm.ClassFile.FieldType) 3 72 mc ms [.ref h0, .int p1, .int p2, .int p3] [(h0, .inr (9, moF am known_h0 thrown_h0 wrong_h0 lastEnd_h0 at_h0 bad_h0 levels_h0 least_h0 found_h0)), ((am 5), .inr (8, [.ref a_all_m5, .int size_m5])), (a_all_m5, .inl (cI, n_a_all_m5, .inl b_a_all_m5)), ((am 6), .inr (8, [.ref a_all_m6, .int size_m6])), (a_all_m6, .inl (cI, n_a_all_m6, .inl b_a_all_m6)), ((am 24), .inr (8, [.ref a_all_m24, .int size_m24])), (a_all_m24, .inl (cI, n_a_all_m24, .inl b_a_all_m24)), ((am 25), .inr (8, [.ref a_all_m25, .int size_m25])), (a_all_m25, .inl (cI, n_a_all_m25, .inl b_a_all_m25)), ((am 26), .inr (8, [.ref a_all_m26, .int size_m26])), (a_all_m26, .inl (cI, n_a_all_m26, .inl b_a_all_m26)), ((am 27), .inr (8, [.ref a_all_m27, .int size_m27])), (a_all_m27, .inl (cI, n_a_all_m27, .inl b_a_all_m27)), ((am 28), .inr (8, [.ref a_all_m28, .int size_m28])), (a_all_m28, .inl (cI, n_a_all_m28, .inl b_a_all_m28)), ((am 29), .inr (8, [.ref a_all_m29, .int size_m29])), (a_all_m29, .inl (cI, n_a_all_m29, .inl b_a_all_m29)), ((am 30), .inr (8, [.ref a_all_m30, .int size_m30])), (a_all_m30, .inl (cI, n_a_all_m30, .inl b_a_all_m30)), ((am 31), .inr (8, [.ref a_all_m31, .int size_m31])), (a_all_m31, .inl (cI, n_a_all_m31, .inl b_a_all_m31))] (fun v w => ∃ nq_5_0 : Nat, ∃ nq_7_0 : Nat, ∃ nq_9_0 : Nat, ∃ nq_11_0 : Nat, ∃ nq_13_0 : Nat, ∃ nq_15_0 : Nat, ∃ nq_17_0 : Nat, ∃ nq_19_0 : Nat, v = none ∧ w = [(h0, .inr (9, moF am known_h0 thrown_h0 wrong_h0 lastEnd_h0 at_h0 bad_h0 levels_h0 least_h0 found_h0)), ((am 5), .inr (8, [.ref a_all_m5, .int size_m5])), (a_all_m5, .inl (cI, n_a_all_m5, .inl b_a_all_m5)), ((am 6), .inr (8, [.ref a_all_m6, .int size_m6])), (a_all_m6, .inl (cI, n_a_all_m6, .inl b_a_all_m6)), ((am 24), .inr (8, [.ref nq_5_0, .int o_5_1])), ((am 25), .inr (8, [.ref nq_7_0, .int o_7_1])), ((am 26), .inr (8, [.ref nq_9_0, .int o_9_1])), ((am 27), .inr (8, [.ref nq_11_0, .int o_11_1])), ((am 28), .inr (8, [.ref nq_13_0, .int o_13_1])), ((am 29), .inr (8, [.ref nq_15_0, .int o_15_1])), ((am 30), .inr (8, [.ref nq_17_0, .int o_17_1])), ((am 31), .inr (8, [.ref nq_19_0, .int o_19_1])), (nq_5_0, .inl (cI, on_nq_5_0, .inl ob_nq_5_0)), (nq_7_0, .inl (cI, on_nq_7_0, .inl ob_nq_7_0)), (nq_9_0, .inl (cI, on_nq_9_0, .inl ob_nq_9_0)), (nq_11_0, .inl (cI, on_nq_11_0, .inl ob_nq_11_0)), (nq_13_0, .inl (cI, on_nq_13_0, .inl ob_nq_13_0)), (nq_15_0, .inl (cI, on_nq_15_0, .inl ob_nq_15_0)), (nq_17_0, .inl (cI, on_nq_17_0, .inl ob_nq_17_0)), (nq_19_0, .inl (cI, on_nq_19_0, .inl ob_nq_19_0))]) := by
  refine Ct.mk (by decide) (Nat.le_of_ble_eq_true rfl) ?_
  intro p e s m below meth c hr hnm
  refine j_norm (pc' := 0) (lv' := [(0, .ref h0), (1, .int p1), (2, .int p2), (3, .int p3)]) (st' := []) (ws' := [(h0, .inr (9, moF am known_h0 thrown_h0 wrong_h0 lastEnd_h0 at_h0 bad_h0 levels_h0 least_h0 found_h0)), ((am 5), .inr (8, [.ref a_all_m5, .int size_m5])), (a_all_m5, .inl (cI, n_a_all_m5, .inl b_a_all_m5)), ((am 6), .inr (8, [.ref a_all_m6, .int size_m6])), (a_all_m6, .inl (cI, n_a_all_m6, .inl b_a_all_m6)), ((am 24), .inr (8, [.ref a_all_m24, .int size_m24])), (a_all_m24, .inl (cI, n_a_all_m24, .inl b_a_all_m24)), ((am 25), .inr (8, [.ref a_all_m25, .int size_m25])), (a_all_m25, .inl (cI, n_a_all_m25, .inl b_a_all_m25)), ((am 26), .inr (8, [.ref a_all_m26, .int size_m26])), (a_all_m26, .inl (cI, n_a_all_m26, .inl b_a_all_m26)), ((am 27), .inr (8, [.ref a_all_m27, .int size_m27])), (a_all_m27, .inl (cI, n_a_all_m27, .inl b_a_all_m27)), ((am 28), .inr (8, [.ref a_all_m28, .int size_m28])), (a_all_m28, .inl (cI, n_a_all_m28, .inl b_a_all_m28)), ((am 29), .inr (8, [.ref a_all_m29, .int size_m29])), (a_all_m29, .inl (cI, n_a_all_m29, .inl b_a_all_m29)), ((am 30), .inr (8, [.ref a_all_m30, .int size_m30])), (a_all_m30, .inl (cI, n_a_all_m30, .inl b_a_all_m30)), ((am 31), .inr (8, [.ref a_all_m31, .int size_m31])), (a_all_m31, .inl (cI, n_a_all_m31, .inl b_a_all_m31))]) (cl' := 0) (sl' := 0) rfl rfl rfl rfl rfl rfl ?_
  unfold F_Mo_nameNodes at h
  have hC : 0 + mc ≤ mc := by omega
  have hS : 0 + ms ≤ ms := by omega
  refine j_iload_n d_Mo_nameNodes_0 rfl 2 rfl ?_
  refine j_istore (lv' := [(4, .int p2), (0, .ref h0), (1, .int p1), (2, .int p2), (3, .int p3)]) d_Mo_nameNodes_1 (by decide) rfl ?_
  refine j_sub (w := [(h0, .inr (9, moF am known_h0 thrown_h0 wrong_h0 lastEnd_h0 at_h0 bad_h0 levels_h0 least_h0 found_h0)), ((am 5), .inr (8, [.ref a_all_m5, .int size_m5])), (a_all_m5, .inl (cI, n_a_all_m5, .inl b_a_all_m5)), ((am 6), .inr (8, [.ref a_all_m6, .int size_m6])), (a_all_m6, .inl (cI, n_a_all_m6, .inl b_a_all_m6)), ((am 24), .inr (8, [.ref a_all_m24, .int size_m24])), (a_all_m24, .inl (cI, n_a_all_m24, .inl b_a_all_m24)), ((am 25), .inr (8, [.ref a_all_m25, .int size_m25])), (a_all_m25, .inl (cI, n_a_all_m25, .inl b_a_all_m25)), ((am 26), .inr (8, [.ref a_all_m26, .int size_m26])), (a_all_m26, .inl (cI, n_a_all_m26, .inl b_a_all_m26)), ((am 27), .inr (8, [.ref a_all_m27, .int size_m27])), (a_all_m27, .inl (cI, n_a_all_m27, .inl b_a_all_m27)), ((am 28), .inr (8, [.ref a_all_m28, .int size_m28])), (a_all_m28, .inl (cI, n_a_all_m28, .inl b_a_all_m28)), ((am 29), .inr (8, [.ref a_all_m29, .int size_m29])), (a_all_m29, .inl (cI, n_a_all_m29, .inl b_a_all_m29)), ((am 30), .inr (8, [.ref a_all_m30, .int size_m30])), (a_all_m30, .inl (cI, n_a_all_m30, .inl b_a_all_m30)), ((am 31), .inr (8, [.ref a_all_m31, .int size_m31])), (a_all_m31, .inl (cI, n_a_all_m31, .inl b_a_all_m31))]) (lv' := [(4, .int p2), (0, .ref h0), (1, .int p1), (2, .int p2), (3, .int p3)]) [0, 1, 2, 3, 4, 5, 6, 7, 8, 9, 10, 11, 12, 13, 14, 15, 16, 17, 18, 19, 20] rfl (by decide +kernel) [0, 1, 2, 3, 4] rfl ?_
  exact L_Mo_nameNodes_3 l D cI cB cJ cS h0 am a_all_m5 a_all_m6 a_all_m24 a_all_m25 a_all_m26 a_all_m27 a_all_m28 a_all_m29 a_all_m30 a_all_m31 p1 p2 p3 known_h0 thrown_h0 wrong_h0 lastEnd_h0 at_h0 bad_h0 levels_h0 least_h0 found_h0 size_m5 n_a_all_m5 b_a_all_m5 size_m6 n_a_all_m6 b_a_all_m6 size_m24 n_a_all_m24 b_a_all_m24 size_m25 n_a_all_m25 b_a_all_m25 size_m26 n_a_all_m26 b_a_all_m26 size_m27 n_a_all_m27 b_a_all_m27 size_m28 n_a_all_m28 b_a_all_m28 size_m29 n_a_all_m29 b_a_all_m29 size_m30 n_a_all_m30 b_a_all_m30 size_m31 n_a_all_m31 b_a_all_m31 o_5_1 o_7_1 o_9_1 o_11_1 o_13_1 o_15_1 o_17_1 o_19_1 on_nq_5_0 ob_nq_5_0 on_nq_7_0 ob_nq_7_0 on_nq_9_0 ob_nq_9_0 on_nq_11_0 ob_nq_11_0 on_nq_13_0 ob_nq_13_0 on_nq_15_0 ob_nq_15_0 on_nq_17_0 ob_nq_17_0 on_nq_19_0 ob_nq_19_0 mc ms p e s m below meth c hr hnm FU a_all_m24 a_all_m25 a_all_m26 a_all_m27 a_all_m28 a_all_m29 a_all_m30 a_all_m31 p2 size_m24 n_a_all_m24 b_a_all_m24 size_m25 n_a_all_m25 b_a_all_m25 size_m26 n_a_all_m26 b_a_all_m26 size_m27 n_a_all_m27 b_a_all_m27 size_m28 n_a_all_m28 b_a_all_m28 size_m29 n_a_all_m29 b_a_all_m29 size_m30 n_a_all_m30 b_a_all_m30 size_m31 n_a_all_m31 b_a_all_m31 0 0 mc ms h hC hS
