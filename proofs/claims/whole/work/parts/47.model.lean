def F_Mo_nameOf (p1 : Int32) (known_h0 : Int32) (thrown_h0 : Int32) (wrong_h0 : Int32) (lastEnd_h0 : Int32) (at_h0 : Int32) (bad_h0 : Int32) (levels_h0 : Int32) (least_h0 : Int32) (found_h0 : Int32) (size_m5 : Int32) (n_a_all_m5 : Nat) (b_a_all_m5 : Nat → Int32) : Option (Int32) :=
  Option.bind (F_Nm_at (p1 + 1) size_m5 n_a_all_m5 b_a_all_m5) fun _ =>
  if (b_a_all_m5 (Int32.toNatClampNeg (p1 + 1))) = 52 then (Option.bind (F_Mo_closing (p1 + 1) known_h0 thrown_h0 wrong_h0 lastEnd_h0 at_h0 bad_h0 levels_h0 least_h0 found_h0 size_m5 n_a_all_m5 b_a_all_m5) fun r5 =>
    (some (r5 + 2)))
  else (Option.bind (F_Nm_at (p1 + 2) size_m5 n_a_all_m5 b_a_all_m5) fun _ =>
    if (b_a_all_m5 (Int32.toNatClampNeg (p1 + 2))) = 56 then (some (p1 + 3))
    else (some (p1 + 1)))
theorem d_Mo_nameOf_0 : decode prog_12_method_67_code 0 = .ok (.aload_n 0, 1) := by decide +kernel
theorem d_Mo_nameOf_1 : decode prog_12_method_67_code 1 = .ok (.getfield 114, 3) := by decide +kernel
theorem d_Mo_nameOf_4 : decode prog_12_method_67_code 4 = .ok (.iload_n 1, 1) := by decide +kernel
theorem d_Mo_nameOf_5 : decode prog_12_method_67_code 5 = .ok (.iconst 1, 1) := by decide +kernel
theorem d_Mo_nameOf_6 : decode prog_12_method_67_code 6 = .ok (.iadd, 1) := by decide +kernel
theorem d_Mo_nameOf_7 : decode prog_12_method_67_code 7 = .ok (.invokevirtual 214, 3) := by decide +kernel
theorem d_Mo_nameOf_10 : decode prog_12_method_67_code 10 = .ok (.bipush 52, 2) := by decide +kernel
theorem d_Mo_nameOf_12 : decode prog_12_method_67_code 12 = .ok (.if_icmp .ne 13, 3) := by decide +kernel
theorem d_Mo_nameOf_15 : decode prog_12_method_67_code 15 = .ok (.aload_n 0, 1) := by decide +kernel
theorem d_Mo_nameOf_16 : decode prog_12_method_67_code 16 = .ok (.iload_n 1, 1) := by decide +kernel
theorem d_Mo_nameOf_17 : decode prog_12_method_67_code 17 = .ok (.iconst 1, 1) := by decide +kernel
theorem d_Mo_nameOf_18 : decode prog_12_method_67_code 18 = .ok (.iadd, 1) := by decide +kernel
theorem d_Mo_nameOf_19 : decode prog_12_method_67_code 19 = .ok (.invokevirtual 350, 3) := by decide +kernel
theorem d_Mo_nameOf_22 : decode prog_12_method_67_code 22 = .ok (.iconst 2, 1) := by decide +kernel
theorem d_Mo_nameOf_23 : decode prog_12_method_67_code 23 = .ok (.iadd, 1) := by decide +kernel
theorem d_Mo_nameOf_24 : decode prog_12_method_67_code 24 = .ok (.ireturn, 1) := by decide +kernel
theorem d_Mo_nameOf_25 : decode prog_12_method_67_code 25 = .ok (.aload_n 0, 1) := by decide +kernel
theorem d_Mo_nameOf_26 : decode prog_12_method_67_code 26 = .ok (.getfield 114, 3) := by decide +kernel
theorem d_Mo_nameOf_29 : decode prog_12_method_67_code 29 = .ok (.iload_n 1, 1) := by decide +kernel
theorem d_Mo_nameOf_30 : decode prog_12_method_67_code 30 = .ok (.iconst 2, 1) := by decide +kernel
theorem d_Mo_nameOf_31 : decode prog_12_method_67_code 31 = .ok (.iadd, 1) := by decide +kernel
theorem d_Mo_nameOf_32 : decode prog_12_method_67_code 32 = .ok (.invokevirtual 214, 3) := by decide +kernel
theorem d_Mo_nameOf_35 : decode prog_12_method_67_code 35 = .ok (.bipush 56, 2) := by decide +kernel
theorem d_Mo_nameOf_37 : decode prog_12_method_67_code 37 = .ok (.if_icmp .ne 9, 3) := by decide +kernel
theorem d_Mo_nameOf_40 : decode prog_12_method_67_code 40 = .ok (.iload_n 1, 1) := by decide +kernel
theorem d_Mo_nameOf_41 : decode prog_12_method_67_code 41 = .ok (.iconst 3, 1) := by decide +kernel
theorem d_Mo_nameOf_42 : decode prog_12_method_67_code 42 = .ok (.iadd, 1) := by decide +kernel
theorem d_Mo_nameOf_43 : decode prog_12_method_67_code 43 = .ok (.goto 6, 3) := by decide +kernel
theorem d_Mo_nameOf_46 : decode prog_12_method_67_code 46 = .ok (.iload_n 1, 1) := by decide +kernel
theorem d_Mo_nameOf_47 : decode prog_12_method_67_code 47 = .ok (.iconst 1, 1) := by decide +kernel
theorem d_Mo_nameOf_48 : decode prog_12_method_67_code 48 = .ok (.iadd, 1) := by decide +kernel
theorem d_Mo_nameOf_49 : decode prog_12_method_67_code 49 = .ok (.ireturn, 1) := by decide +kernel
set_option maxHeartbeats 4000000 in
set_option maxRecDepth 100000 in
theorem c_Mo_nameOf (l : Launch) (D : va_G) (cI cB cJ cS : ClassId) (h0 : Nat) (am : Nat → Nat) (a_all_m5 : Nat) (p1 : Int32) (known_h0 : Int32) (thrown_h0 : Int32) (wrong_h0 : Int32) (lastEnd_h0 : Int32) (at_h0 : Int32) (bad_h0 : Int32) (levels_h0 : Int32) (least_h0 : Int32) (found_h0 : Int32) (size_m5 : Int32) (n_a_all_m5 : Nat) (b_a_all_m5 : Nat → Int32) (ret : Int32) (h : F_Mo_nameOf p1 known_h0 thrown_h0 wrong_h0 lastEnd_h0 at_h0 bad_h0 levels_h0 least_h0 found_h0 size_m5 n_a_all_m5 b_a_all_m5 = some ret) : Ct l D (gT cI cB cJ cS) y_Mo_nameOf prog_12_method_67_code 2 (Option.some Jvm.ClassFile.FieldType.int) 2 45 0 0 [.ref h0, .int p1] [(h0, .inr (9, moF am known_h0 thrown_h0 wrong_h0 lastEnd_h0 at_h0 bad_h0 levels_h0 least_h0 found_h0)), ((am 5), .inr (8, [.ref a_all_m5, .int size_m5])), (a_all_m5, .inl (cI, n_a_all_m5, .inl b_a_all_m5))] (fun v w => v = some (.int ret) ∧ w = [(h0, .inr (9, moF am known_h0 thrown_h0 wrong_h0 lastEnd_h0 at_h0 bad_h0 levels_h0 least_h0 found_h0)), ((am 5), .inr (8, [.ref a_all_m5, .int size_m5])), (a_all_m5, .inl (cI, n_a_all_m5, .inl b_a_all_m5))]) := by
  refine Ct.mk (by decide) (Nat.le_of_ble_eq_true rfl) ?_
  intro p e s m below meth c hr hnm
  refine j_norm (pc' := 0) (lv' := [(0, .ref h0), (1, .int p1)]) (st' := []) (ws' := [(h0, .inr (9, moF am known_h0 thrown_h0 wrong_h0 lastEnd_h0 at_h0 bad_h0 levels_h0 least_h0 found_h0)), ((am 5), .inr (8, [.ref a_all_m5, .int size_m5])), (a_all_m5, .inl (cI, n_a_all_m5, .inl b_a_all_m5))]) (cl' := 0) (sl' := 0) rfl rfl rfl rfl rfl rfl ?_
  unfold F_Mo_nameOf at h
  refine j_aload_n d_Mo_nameOf_0 rfl 0 rfl ?_
  refine j_get ig_Mo rfl 0 rfl 5 (by decide) rfl m_1118 rfl d_Mo_nameOf_1 ?_
  refine j_iload_n d_Mo_nameOf_4 rfl 1 rfl ?_
  refine j_iconst (v := 1) d_Mo_nameOf_5 (by decide) ?_
  refine j_iadd d_Mo_nameOf_6 ?_
  replace h := bd_s h
  obtain ⟨_, k1, h⟩ := h
  refine j_callV (n := 1) (As := [.int (p1 + 1)]) (rest := []) (wr := [(h0, .inr (9, moF am known_h0 thrown_h0 wrong_h0 lastEnd_h0 at_h0 bad_h0 levels_h0 least_h0 found_h0))]) (c_Nm_at l D cI cB cJ cS (am 5) a_all_m5 (p1 + 1) size_m5 n_a_all_m5 b_a_all_m5  k1) k_Mo_214 (by decide) ⟨Nat.le_of_ble_eq_true rfl, Nat.le_of_ble_eq_true rfl⟩ rfl 0 rfl [1, 2] [0] rfl (by decide) rfl (by decide) (by decide) rfl rfl (Nat.le_of_ble_eq_true rfl) d_Mo_nameOf_7 ⟨Nat.le_of_ble_eq_true rfl, Nat.le_of_ble_eq_true rfl⟩ (fun v w hq => ?_)
  obtain ⟨rfl, rfl⟩ := hq
  refine j_norm (pc' := 10) (st' := [.int (b_a_all_m5 (Int32.toNatClampNeg (p1 + 1)))]) (ws' := [(h0, .inr (9, moF am known_h0 thrown_h0 wrong_h0 lastEnd_h0 at_h0 bad_h0 levels_h0 least_h0 found_h0)), ((am 5), .inr (8, [.ref a_all_m5, .int size_m5])), (a_all_m5, .inl (cI, n_a_all_m5, .inl b_a_all_m5))]) (cl' := 0) (sl' := 0) rfl rfl rfl rfl rfl rfl ?_
  refine j_bipush (v := 52) d_Mo_nameOf_10 (by decide) ?_
  refine j_icmp_ne (tgt := 25) d_Mo_nameOf_12 (by decide) (fun c2 => ?_) (fun c2 => ?_)
  · replace h := it_f c2 h
    refine j_aload_n d_Mo_nameOf_25 rfl 0 rfl ?_
    refine j_get ig_Mo rfl 0 rfl 5 (by decide) rfl m_1118 rfl d_Mo_nameOf_26 ?_
    refine j_iload_n d_Mo_nameOf_29 rfl 1 rfl ?_
    refine j_iconst (v := 2) d_Mo_nameOf_30 (by decide) ?_
    refine j_iadd d_Mo_nameOf_31 ?_
    replace h := bd_s h
    obtain ⟨_, k3, h⟩ := h
    refine j_callV (n := 1) (As := [.int (p1 + 2)]) (rest := []) (wr := [(h0, .inr (9, moF am known_h0 thrown_h0 wrong_h0 lastEnd_h0 at_h0 bad_h0 levels_h0 least_h0 found_h0))]) (c_Nm_at l D cI cB cJ cS (am 5) a_all_m5 (p1 + 2) size_m5 n_a_all_m5 b_a_all_m5  k3) k_Mo_214 (by decide) ⟨Nat.le_of_ble_eq_true rfl, Nat.le_of_ble_eq_true rfl⟩ rfl 0 rfl [1, 2] [0] rfl (by decide) rfl (by decide) (by decide) rfl rfl (Nat.le_of_ble_eq_true rfl) d_Mo_nameOf_32 ⟨Nat.le_of_ble_eq_true rfl, Nat.le_of_ble_eq_true rfl⟩ (fun v w hq => ?_)
    obtain ⟨rfl, rfl⟩ := hq
    refine j_norm (pc' := 35) (st' := [.int (b_a_all_m5 (Int32.toNatClampNeg (p1 + 2)))]) (ws' := [(h0, .inr (9, moF am known_h0 thrown_h0 wrong_h0 lastEnd_h0 at_h0 bad_h0 levels_h0 least_h0 found_h0)), ((am 5), .inr (8, [.ref a_all_m5, .int size_m5])), (a_all_m5, .inl (cI, n_a_all_m5, .inl b_a_all_m5))]) (cl' := 0) (sl' := 0) rfl rfl rfl rfl rfl rfl ?_
    refine j_bipush (v := 56) d_Mo_nameOf_35 (by decide) ?_
    refine j_icmp_ne (tgt := 46) d_Mo_nameOf_37 (by decide) (fun c4 => ?_) (fun c4 => ?_)
    · replace h := it_f c4 h
      refine j_iload_n d_Mo_nameOf_46 rfl 1 rfl ?_
      refine j_iconst (v := 1) d_Mo_nameOf_47 (by decide) ?_
      refine j_iadd d_Mo_nameOf_48 ?_
      replace h := Option.some.inj h
      subst h
      exact j_iret (w := [(h0, .inr (9, moF am known_h0 thrown_h0 wrong_h0 lastEnd_h0 at_h0 bad_h0 levels_h0 least_h0 found_h0)), ((am 5), .inr (8, [.ref a_all_m5, .int size_m5])), (a_all_m5, .inl (cI, n_a_all_m5, .inl b_a_all_m5))]) hr d_Mo_nameOf_49 [0, 1, 2] rfl (by decide) ⟨rfl, rfl⟩
    · replace h := it_t c4 h
      refine j_iload_n d_Mo_nameOf_40 rfl 1 rfl ?_
      refine j_iconst (v := 3) d_Mo_nameOf_41 (by decide) ?_
      refine j_iadd d_Mo_nameOf_42 ?_
      refine j_goto (tgt := 49) d_Mo_nameOf_43 (by decide) ?_
      replace h := Option.some.inj h
      subst h
      exact j_iret (w := [(h0, .inr (9, moF am known_h0 thrown_h0 wrong_h0 lastEnd_h0 at_h0 bad_h0 levels_h0 least_h0 found_h0)), ((am 5), .inr (8, [.ref a_all_m5, .int size_m5])), (a_all_m5, .inl (cI, n_a_all_m5, .inl b_a_all_m5))]) hr d_Mo_nameOf_49 [0, 1, 2] rfl (by decide) ⟨rfl, rfl⟩
  · replace h := it_t c2 h
    refine j_aload_n d_Mo_nameOf_15 rfl 0 rfl ?_
    refine j_iload_n d_Mo_nameOf_16 rfl 1 rfl ?_
    refine j_iconst (v := 1) d_Mo_nameOf_17 (by decide) ?_
    refine j_iadd d_Mo_nameOf_18 ?_
    replace h := bd_s h
    obtain ⟨r5, k6, h⟩ := h
    refine j_callV (n := 1) (As := [.int (p1 + 1)]) (rest := []) (wr := []) (c_Mo_closing l D cI cB cJ cS h0 am a_all_m5 (p1 + 1) known_h0 thrown_h0 wrong_h0 lastEnd_h0 at_h0 bad_h0 levels_h0 least_h0 found_h0 size_m5 n_a_all_m5 b_a_all_m5  r5 k6) k_Mo_350 (by decide) ⟨Nat.le_of_ble_eq_true rfl, Nat.le_of_ble_eq_true rfl⟩ rfl 0 rfl [0, 1, 2] [] rfl (by decide) rfl (by decide) (by decide) rfl rfl (Nat.le_of_ble_eq_true rfl) d_Mo_nameOf_19 ⟨Nat.le_of_ble_eq_true rfl, Nat.le_of_ble_eq_true rfl⟩ (fun v w hq => ?_)
    obtain ⟨rfl, rfl⟩ := hq
    refine j_norm (pc' := 22) (st' := [.int r5]) (ws' := [(h0, .inr (9, moF am known_h0 thrown_h0 wrong_h0 lastEnd_h0 at_h0 bad_h0 levels_h0 least_h0 found_h0)), ((am 5), .inr (8, [.ref a_all_m5, .int size_m5])), (a_all_m5, .inl (cI, n_a_all_m5, .inl b_a_all_m5))]) (cl' := 0) (sl' := 0) rfl rfl rfl rfl rfl rfl ?_
    refine j_iconst (v := 2) d_Mo_nameOf_22 (by decide) ?_
    refine j_iadd d_Mo_nameOf_23 ?_
    replace h := Option.some.inj h
    subst h
    exact j_iret (w := [(h0, .inr (9, moF am known_h0 thrown_h0 wrong_h0 lastEnd_h0 at_h0 bad_h0 levels_h0 least_h0 found_h0)), ((am 5), .inr (8, [.ref a_all_m5, .int size_m5])), (a_all_m5, .inl (cI, n_a_all_m5, .inl b_a_all_m5))]) hr d_Mo_nameOf_24 [0, 1, 2] rfl (by decide) ⟨rfl, rfl⟩
noncomputable def F_Mo_buildFunction_116 (p3 : Int32) (known_h0 : Int32) (thrown_h0 : Int32) (wrong_h0 : Int32) (lastEnd_h0 : Int32) (at_h0 : Int32) (bad_h0 : Int32) (levels_h0 : Int32) (least_h0 : Int32) (found_h0 : Int32) (size_m5 : Int32) (n_a_all_m5 : Nat) (b_a_all_m5 : Nat → Int32) (size_m6 : Int32) (n_a_all_m6 : Nat) (b_a_all_m6 : Nat → Int32) (size_m24 : Int32) (size_m33 : Int32) (n_a_all_m33 : Nat) (b_a_all_m33 : Nat → Int32) (v4_116 : Int32) (b1_116 : Nat → Int32) (f9_1_116 : Int32) (f10_1_116 : Int32) (f11_1_116 : Int32) (f12_1_116 : Int32) (f13_1_116 : Int32) (f14_1_116 : Int32) (f15_1_116 : Int32) (f16_1_116 : Int32) (n17_116 : Nat) (b17_116 : Nat → Int32) (n18_116 : Nat) (b18_116 : Nat → Int32) (n19_116 : Nat) (b19_116 : Nat → Int32) (n20_116 : Nat) (b20_116 : Nat → Int32) (n21_116 : Nat) (b21_116 : Nat → Int32) (n22_116 : Nat) (b22_116 : Nat → Int32) (n23_116 : Nat) (b23_116 : Nat → Int32) (n24_116 : Nat) (b24_116 : Nat → Int32) : Option ((Int32 × Int32 × Int32 × Int32 × Int32 × Int32 × Int32 × Int32 × (Nat → Int32) × Nat × (Nat → Int32) × Nat × (Nat → Int32) × Nat × (Nat → Int32) × Nat × (Nat → Int32) × Nat × (Nat → Int32) × Nat × (Nat → Int32) × Nat × (Nat → Int32) × Nat × (Nat → Int32) × Nat × (Nat → Int32)) × Nat × Nat) :=
    Option.bind (F_Mo_closing (v4_116 + 1) known_h0 thrown_h0 wrong_h0 lastEnd_h0 at_h0 bad_h0 levels_h0 least_h0 found_h0 size_m5 n_a_all_m5 b_a_all_m5) fun r1 =>
    Option.bind (F_Mo_placeOf (v4_116 + 1) known_h0 thrown_h0 wrong_h0 lastEnd_h0 at_h0 bad_h0 levels_h0 least_h0 found_h0 size_m6 n_a_all_m6 b_a_all_m6) fun _ =>
    bw (F_Mo_newNode size_m24 2 (b_a_all_m6 (Int32.toNatClampNeg (v4_116 + 1))) (-1) (-1) known_h0 thrown_h0 wrong_h0 lastEnd_h0 at_h0 bad_h0 levels_h0 least_h0 found_h0 f9_1_116 n17_116 b17_116 f10_1_116 n18_116 b18_116 f11_1_116 n19_116 b19_116 f12_1_116 n20_116 b20_116 f13_1_116 n21_116 b21_116 f14_1_116 n22_116 b22_116 f15_1_116 n23_116 b23_116 f16_1_116 n24_116 b24_116) fun ⟨r4, r5, r6, r7, r8, r9, r10, r11, r12, r13, r14, r15, r16, r17, r18, r19, r20, r21, r22⟩ =>
    bw (F_Mo_nameNodes f9_1_116 (v4_116 + 2) r1 known_h0 thrown_h0 wrong_h0 lastEnd_h0 at_h0 bad_h0 levels_h0 least_h0 found_h0 size_m5 n_a_all_m5 b_a_all_m5 size_m6 n_a_all_m6 b_a_all_m6 (f9_1_116 + 1) r7 r8 (f10_1_116 + 1) r9 r10 (f11_1_116 + 1) r11 r12 (f12_1_116 + 1) r13 r14 r4 r15 r16 r5 r17 r18 r6 r19 r20 (f16_1_116 + 1) r21 r22) fun ⟨r36, r37, r38, r39, r40, r41, r42, r43, r44, r45, r46, r47, r48, r49, r50, r51, r52, r53, r54, r55, r56, r57, r58, r59⟩ =>
    bw (F_Mo_task 2 size_m24 (r1 + 1) (p3 - 1) r1 known_h0 thrown_h0 wrong_h0 lastEnd_h0 at_h0 bad_h0 levels_h0 least_h0 found_h0 size_m33 n_a_all_m33 b_a_all_m33) fun ⟨r73, r74⟩ =>
    (some ((r36, r37, r38, r39, r40, r41, r42, r43, b1_116, r44, r45, r46, r47, r48, r49, r50, r51, r52, r53, r54, r55, r56, r57, r58, r59, r73, r74), 0, 0))
noncomputable def F_Mo_buildFunction (p1 : Int32) (p2 : Int32) (p3 : Int32) (known_h0 : Int32) (thrown_h0 : Int32) (wrong_h0 : Int32) (lastEnd_h0 : Int32) (at_h0 : Int32) (bad_h0 : Int32) (levels_h0 : Int32) (least_h0 : Int32) (found_h0 : Int32) (size_m5 : Int32) (n_a_all_m5 : Nat) (b_a_all_m5 : Nat → Int32) (size_m6 : Int32) (n_a_all_m6 : Nat) (b_a_all_m6 : Nat → Int32) (size_m24 : Int32) (n_a_all_m24 : Nat) (b_a_all_m24 : Nat → Int32) (size_m25 : Int32) (n_a_all_m25 : Nat) (b_a_all_m25 : Nat → Int32) (size_m26 : Int32) (n_a_all_m26 : Nat) (b_a_all_m26 : Nat → Int32) (size_m27 : Int32) (n_a_all_m27 : Nat) (b_a_all_m27 : Nat → Int32) (size_m28 : Int32) (n_a_all_m28 : Nat) (b_a_all_m28 : Nat → Int32) (size_m29 : Int32) (n_a_all_m29 : Nat) (b_a_all_m29 : Nat → Int32) (size_m30 : Int32) (n_a_all_m30 : Nat) (b_a_all_m30 : Nat → Int32) (size_m31 : Int32) (n_a_all_m31 : Nat) (b_a_all_m31 : Nat → Int32) (size_m34 : Int32) (n_a_all_m34 : Nat) (b_a_all_m34 : Nat → Int32) (size_m33 : Int32) (n_a_all_m33 : Nat) (b_a_all_m33 : Nat → Int32) : Option ((Int32 × Int32 × Int32 × Int32 × Int32 × Int32 × Int32 × Int32 × (Nat → Int32) × Nat × (Nat → Int32) × Nat × (Nat → Int32) × Nat × (Nat → Int32) × Nat × (Nat → Int32) × Nat × (Nat → Int32) × Nat × (Nat → Int32) × Nat × (Nat → Int32) × Nat × (Nat → Int32) × Nat × (Nat → Int32)) × Nat × Nat) :=
  Option.bind (F_Mo_nameOf p2 known_h0 thrown_h0 wrong_h0 lastEnd_h0 at_h0 bad_h0 levels_h0 least_h0 found_h0 size_m5 n_a_all_m5 b_a_all_m5) fun r81 =>
  Option.bind (F_Mo_placeOf p2 known_h0 thrown_h0 wrong_h0 lastEnd_h0 at_h0 bad_h0 levels_h0 least_h0 found_h0 size_m6 n_a_all_m6 b_a_all_m6) fun _ =>
  bw (F_Mo_newNode p1 1 (b_a_all_m6 (Int32.toNatClampNeg p2)) (-1) r81 known_h0 thrown_h0 wrong_h0 lastEnd_h0 at_h0 bad_h0 levels_h0 least_h0 found_h0 size_m24 n_a_all_m24 b_a_all_m24 size_m25 n_a_all_m25 b_a_all_m25 size_m26 n_a_all_m26 b_a_all_m26 size_m27 n_a_all_m27 b_a_all_m27 size_m28 n_a_all_m28 b_a_all_m28 size_m29 n_a_all_m29 b_a_all_m29 size_m30 n_a_all_m30 b_a_all_m30 size_m31 n_a_all_m31 b_a_all_m31) fun ⟨r84, r85, r86, r87, r88, r89, r90, r91, r92, r93, r94, r95, r96, r97, r98, r99, r100, r101, r102⟩ =>
  Option.bind (F_Mo_placeOf r81 known_h0 thrown_h0 wrong_h0 lastEnd_h0 at_h0 bad_h0 levels_h0 least_h0 found_h0 size_m6 n_a_all_m6 b_a_all_m6) fun _ =>
  bw (F_Mo_newNode size_m24 2 (b_a_all_m6 (Int32.toNatClampNeg r81)) (-1) (-1) known_h0 thrown_h0 wrong_h0 lastEnd_h0 at_h0 bad_h0 levels_h0 least_h0 found_h0 (size_m24 + 1) r87 r88 (size_m25 + 1) r89 r90 (size_m26 + 1) r91 r92 (size_m27 + 1) r93 r94 r84 r95 r96 r85 r97 r98 r86 r99 r100 (size_m31 + 1) r101 r102) fun ⟨r117, r118, r119, r120, r121, r122, r123, r124, r125, r126, r127, r128, r129, r130, r131, r132, r133, r134, r135⟩ =>
  Option.bind (F_Nm_at (p2 + 1) size_m5 n_a_all_m5 b_a_all_m5) fun _ =>
  if (b_a_all_m5 (Int32.toNatClampNeg (p2 + 1))) = 52 then (bw (F_Mo_nameNodes (size_m24 + 1) (p2 + 2) (r81 - 2) known_h0 thrown_h0 wrong_h0 lastEnd_h0 at_h0 bad_h0 levels_h0 least_h0 found_h0 size_m5 n_a_all_m5 b_a_all_m5 size_m6 n_a_all_m6 b_a_all_m6 ((size_m24 + 1) + 1) r120 r121 ((size_m25 + 1) + 1) r122 r123 ((size_m26 + 1) + 1) r124 r125 ((size_m27 + 1) + 1) r126 r127 r117 r128 r129 r118 r130 r131 r119 r132 r133 ((size_m31 + 1) + 1) r134 r135) fun ⟨r188, r189, r190, r191, r192, r193, r194, r195, r196, r197, r198, r199, r200, r201, r202, r203, r204, r205, r206, r207, r208, r209, r210, r211⟩ =>
    if r81 = (p2 + 5) then (inb (p2 + 1) n_a_all_m34 (inb (p2 + 3) n_a_all_m34 (F_Mo_buildFunction_116 p3 known_h0 thrown_h0 wrong_h0 lastEnd_h0 at_h0 bad_h0 levels_h0 least_h0 found_h0 size_m5 n_a_all_m5 b_a_all_m5 size_m6 n_a_all_m6 b_a_all_m6 size_m24 size_m33 n_a_all_m33 b_a_all_m33   r81 (upd (upd b_a_all_m34 (Int32.toNatClampNeg (p2 + 1)) 1) (Int32.toNatClampNeg (p2 + 3)) 1) r188 r189 r190 r191 r192 r193 r194 r195 r196 r197 r198 r199 r200 r201 r202 r203 r204 r205 r206 r207 r208 r209 r210 r211)))
    else (F_Mo_buildFunction_116 p3 known_h0 thrown_h0 wrong_h0 lastEnd_h0 at_h0 bad_h0 levels_h0 least_h0 found_h0 size_m5 n_a_all_m5 b_a_all_m5 size_m6 n_a_all_m6 b_a_all_m6 size_m24 size_m33 n_a_all_m33 b_a_all_m33   r81 b_a_all_m34 r188 r189 r190 r191 r192 r193 r194 r195 r196 r197 r198 r199 r200 r201 r202 r203 r204 r205 r206 r207 r208 r209 r210 r211))
  else (bw (F_Mo_nameNodes (size_m24 + 1) (p2 + 1) (r81 - 1) known_h0 thrown_h0 wrong_h0 lastEnd_h0 at_h0 bad_h0 levels_h0 least_h0 found_h0 size_m5 n_a_all_m5 b_a_all_m5 size_m6 n_a_all_m6 b_a_all_m6 ((size_m24 + 1) + 1) r120 r121 ((size_m25 + 1) + 1) r122 r123 ((size_m26 + 1) + 1) r124 r125 ((size_m27 + 1) + 1) r126 r127 r117 r128 r129 r118 r130 r131 r119 r132 r133 ((size_m31 + 1) + 1) r134 r135) fun ⟨r151, r152, r153, r154, r155, r156, r157, r158, r159, r160, r161, r162, r163, r164, r165, r166, r167, r168, r169, r170, r171, r172, r173, r174⟩ =>
    F_Mo_buildFunction_116 p3 known_h0 thrown_h0 wrong_h0 lastEnd_h0 at_h0 bad_h0 levels_h0 least_h0 found_h0 size_m5 n_a_all_m5 b_a_all_m5 size_m6 n_a_all_m6 b_a_all_m6 size_m24 size_m33 n_a_all_m33 b_a_all_m33   r81 b_a_all_m34 r151 r152 r153 r154 r155 r156 r157 r158 r159 r160 r161 r162 r163 r164 r165 r166 r167 r168 r169 r170 r171 r172 r173 r174)
theorem d_Mo_buildFunction_0 : decode prog_12_method_68_code 0 = .ok (.aload_n 0, 1) := by decide +kernel
theorem d_Mo_buildFunction_1 : decode prog_12_method_68_code 1 = .ok (.iload_n 2, 1) := by decide +kernel
theorem d_Mo_buildFunction_2 : decode prog_12_method_68_code 2 = .ok (.invokevirtual 448, 3) := by decide +kernel
theorem d_Mo_buildFunction_5 : decode prog_12_method_68_code 5 = .ok (.istore 4, 2) := by decide +kernel
theorem d_Mo_buildFunction_7 : decode prog_12_method_68_code 7 = .ok (.aload_n 0, 1) := by decide +kernel
theorem d_Mo_buildFunction_8 : decode prog_12_method_68_code 8 = .ok (.iload_n 1, 1) := by decide +kernel
theorem d_Mo_buildFunction_9 : decode prog_12_method_68_code 9 = .ok (.iconst 1, 1) := by decide +kernel
theorem d_Mo_buildFunction_10 : decode prog_12_method_68_code 10 = .ok (.aload_n 0, 1) := by decide +kernel
theorem d_Mo_buildFunction_11 : decode prog_12_method_68_code 11 = .ok (.iload_n 2, 1) := by decide +kernel
theorem d_Mo_buildFunction_12 : decode prog_12_method_68_code 12 = .ok (.invokevirtual 411, 3) := by decide +kernel
theorem d_Mo_buildFunction_15 : decode prog_12_method_68_code 15 = .ok (.iconst (-1), 1) := by decide +kernel
theorem d_Mo_buildFunction_16 : decode prog_12_method_68_code 16 = .ok (.iload 4, 2) := by decide +kernel
theorem d_Mo_buildFunction_18 : decode prog_12_method_68_code 18 = .ok (.invokevirtual 386, 3) := by decide +kernel
theorem d_Mo_buildFunction_21 : decode prog_12_method_68_code 21 = .ok (.istore 5, 2) := by decide +kernel
theorem d_Mo_buildFunction_23 : decode prog_12_method_68_code 23 = .ok (.aload_n 0, 1) := by decide +kernel
theorem d_Mo_buildFunction_24 : decode prog_12_method_68_code 24 = .ok (.iload 5, 2) := by decide +kernel
theorem d_Mo_buildFunction_26 : decode prog_12_method_68_code 26 = .ok (.iconst 2, 1) := by decide +kernel
theorem d_Mo_buildFunction_27 : decode prog_12_method_68_code 27 = .ok (.aload_n 0, 1) := by decide +kernel
theorem d_Mo_buildFunction_28 : decode prog_12_method_68_code 28 = .ok (.iload 4, 2) := by decide +kernel
theorem d_Mo_buildFunction_30 : decode prog_12_method_68_code 30 = .ok (.invokevirtual 411, 3) := by decide +kernel
theorem d_Mo_buildFunction_33 : decode prog_12_method_68_code 33 = .ok (.iconst (-1), 1) := by decide +kernel
theorem d_Mo_buildFunction_34 : decode prog_12_method_68_code 34 = .ok (.iconst (-1), 1) := by decide +kernel
theorem d_Mo_buildFunction_35 : decode prog_12_method_68_code 35 = .ok (.invokevirtual 386, 3) := by decide +kernel
theorem d_Mo_buildFunction_38 : decode prog_12_method_68_code 38 = .ok (.istore 6, 2) := by decide +kernel
theorem d_Mo_buildFunction_40 : decode prog_12_method_68_code 40 = .ok (.aload_n 0, 1) := by decide +kernel
theorem d_Mo_buildFunction_41 : decode prog_12_method_68_code 41 = .ok (.getfield 114, 3) := by decide +kernel
theorem d_Mo_buildFunction_44 : decode prog_12_method_68_code 44 = .ok (.iload_n 2, 1) := by decide +kernel
theorem d_Mo_buildFunction_45 : decode prog_12_method_68_code 45 = .ok (.iconst 1, 1) := by decide +kernel
theorem d_Mo_buildFunction_46 : decode prog_12_method_68_code 46 = .ok (.iadd, 1) := by decide +kernel
theorem d_Mo_buildFunction_47 : decode prog_12_method_68_code 47 = .ok (.invokevirtual 214, 3) := by decide +kernel
theorem d_Mo_buildFunction_50 : decode prog_12_method_68_code 50 = .ok (.bipush 52, 2) := by decide +kernel
theorem d_Mo_buildFunction_52 : decode prog_12_method_68_code 52 = .ok (.if_icmp .ne 51, 3) := by decide +kernel
theorem d_Mo_buildFunction_55 : decode prog_12_method_68_code 55 = .ok (.aload_n 0, 1) := by decide +kernel
theorem d_Mo_buildFunction_56 : decode prog_12_method_68_code 56 = .ok (.iload 6, 2) := by decide +kernel
theorem d_Mo_buildFunction_58 : decode prog_12_method_68_code 58 = .ok (.iload_n 2, 1) := by decide +kernel
theorem d_Mo_buildFunction_59 : decode prog_12_method_68_code 59 = .ok (.iconst 2, 1) := by decide +kernel
theorem d_Mo_buildFunction_60 : decode prog_12_method_68_code 60 = .ok (.iadd, 1) := by decide +kernel
theorem d_Mo_buildFunction_61 : decode prog_12_method_68_code 61 = .ok (.iload 4, 2) := by decide +kernel
theorem d_Mo_buildFunction_63 : decode prog_12_method_68_code 63 = .ok (.iconst 2, 1) := by decide +kernel
theorem d_Mo_buildFunction_64 : decode prog_12_method_68_code 64 = .ok (.isub, 1) := by decide +kernel
theorem d_Mo_buildFunction_65 : decode prog_12_method_68_code 65 = .ok (.invokevirtual 445, 3) := by decide +kernel
theorem d_Mo_buildFunction_68 : decode prog_12_method_68_code 68 = .ok (.iload 4, 2) := by decide +kernel
theorem d_Mo_buildFunction_70 : decode prog_12_method_68_code 70 = .ok (.iload_n 2, 1) := by decide +kernel
theorem d_Mo_buildFunction_71 : decode prog_12_method_68_code 71 = .ok (.iconst 5, 1) := by decide +kernel
theorem d_Mo_buildFunction_72 : decode prog_12_method_68_code 72 = .ok (.iadd, 1) := by decide +kernel
theorem d_Mo_buildFunction_73 : decode prog_12_method_68_code 73 = .ok (.if_icmp .ne 43, 3) := by decide +kernel
theorem d_Mo_buildFunction_76 : decode prog_12_method_68_code 76 = .ok (.aload_n 0, 1) := by decide +kernel
theorem d_Mo_buildFunction_77 : decode prog_12_method_68_code 77 = .ok (.getfield 181, 3) := by decide +kernel
theorem d_Mo_buildFunction_80 : decode prog_12_method_68_code 80 = .ok (.getfield 288, 3) := by decide +kernel
theorem d_Mo_buildFunction_83 : decode prog_12_method_68_code 83 = .ok (.iload_n 2, 1) := by decide +kernel
theorem d_Mo_buildFunction_84 : decode prog_12_method_68_code 84 = .ok (.iconst 1, 1) := by decide +kernel
theorem d_Mo_buildFunction_85 : decode prog_12_method_68_code 85 = .ok (.iadd, 1) := by decide +kernel
theorem d_Mo_buildFunction_86 : decode prog_12_method_68_code 86 = .ok (.iconst 1, 1) := by decide +kernel
theorem d_Mo_buildFunction_87 : decode prog_12_method_68_code 87 = .ok (.iastore, 1) := by decide +kernel
theorem d_Mo_buildFunction_88 : decode prog_12_method_68_code 88 = .ok (.aload_n 0, 1) := by decide +kernel
theorem d_Mo_buildFunction_89 : decode prog_12_method_68_code 89 = .ok (.getfield 181, 3) := by decide +kernel
theorem d_Mo_buildFunction_92 : decode prog_12_method_68_code 92 = .ok (.getfield 288, 3) := by decide +kernel
theorem d_Mo_buildFunction_95 : decode prog_12_method_68_code 95 = .ok (.iload_n 2, 1) := by decide +kernel
theorem d_Mo_buildFunction_96 : decode prog_12_method_68_code 96 = .ok (.iconst 3, 1) := by decide +kernel
theorem d_Mo_buildFunction_97 : decode prog_12_method_68_code 97 = .ok (.iadd, 1) := by decide +kernel
theorem d_Mo_buildFunction_98 : decode prog_12_method_68_code 98 = .ok (.iconst 1, 1) := by decide +kernel
theorem d_Mo_buildFunction_99 : decode prog_12_method_68_code 99 = .ok (.iastore, 1) := by decide +kernel
theorem d_Mo_buildFunction_100 : decode prog_12_method_68_code 100 = .ok (.goto 16, 3) := by decide +kernel
theorem d_Mo_buildFunction_103 : decode prog_12_method_68_code 103 = .ok (.aload_n 0, 1) := by decide +kernel
theorem d_Mo_buildFunction_104 : decode prog_12_method_68_code 104 = .ok (.iload 6, 2) := by decide +kernel
theorem d_Mo_buildFunction_106 : decode prog_12_method_68_code 106 = .ok (.iload_n 2, 1) := by decide +kernel
theorem d_Mo_buildFunction_107 : decode prog_12_method_68_code 107 = .ok (.iconst 1, 1) := by decide +kernel
theorem d_Mo_buildFunction_108 : decode prog_12_method_68_code 108 = .ok (.iadd, 1) := by decide +kernel
theorem d_Mo_buildFunction_109 : decode prog_12_method_68_code 109 = .ok (.iload 4, 2) := by decide +kernel
theorem d_Mo_buildFunction_111 : decode prog_12_method_68_code 111 = .ok (.iconst 1, 1) := by decide +kernel
theorem d_Mo_buildFunction_112 : decode prog_12_method_68_code 112 = .ok (.isub, 1) := by decide +kernel
theorem d_Mo_buildFunction_113 : decode prog_12_method_68_code 113 = .ok (.invokevirtual 445, 3) := by decide +kernel
theorem d_Mo_buildFunction_116 : decode prog_12_method_68_code 116 = .ok (.aload_n 0, 1) := by decide +kernel
theorem d_Mo_buildFunction_117 : decode prog_12_method_68_code 117 = .ok (.iload 4, 2) := by decide +kernel
theorem d_Mo_buildFunction_119 : decode prog_12_method_68_code 119 = .ok (.iconst 1, 1) := by decide +kernel
theorem d_Mo_buildFunction_120 : decode prog_12_method_68_code 120 = .ok (.iadd, 1) := by decide +kernel
theorem d_Mo_buildFunction_121 : decode prog_12_method_68_code 121 = .ok (.invokevirtual 350, 3) := by decide +kernel
theorem d_Mo_buildFunction_124 : decode prog_12_method_68_code 124 = .ok (.istore 7, 2) := by decide +kernel
theorem d_Mo_buildFunction_126 : decode prog_12_method_68_code 126 = .ok (.aload_n 0, 1) := by decide +kernel
theorem d_Mo_buildFunction_127 : decode prog_12_method_68_code 127 = .ok (.iload 5, 2) := by decide +kernel
theorem d_Mo_buildFunction_129 : decode prog_12_method_68_code 129 = .ok (.iconst 2, 1) := by decide +kernel
theorem d_Mo_buildFunction_130 : decode prog_12_method_68_code 130 = .ok (.aload_n 0, 1) := by decide +kernel
theorem d_Mo_buildFunction_131 : decode prog_12_method_68_code 131 = .ok (.iload 4, 2) := by decide +kernel
theorem d_Mo_buildFunction_133 : decode prog_12_method_68_code 133 = .ok (.iconst 1, 1) := by decide +kernel
theorem d_Mo_buildFunction_134 : decode prog_12_method_68_code 134 = .ok (.iadd, 1) := by decide +kernel
theorem d_Mo_buildFunction_135 : decode prog_12_method_68_code 135 = .ok (.invokevirtual 411, 3) := by decide +kernel
theorem d_Mo_buildFunction_138 : decode prog_12_method_68_code 138 = .ok (.iconst (-1), 1) := by decide +kernel
theorem d_Mo_buildFunction_139 : decode prog_12_method_68_code 139 = .ok (.iconst (-1), 1) := by decide +kernel
theorem d_Mo_buildFunction_140 : decode prog_12_method_68_code 140 = .ok (.invokevirtual 386, 3) := by decide +kernel
theorem d_Mo_buildFunction_143 : decode prog_12_method_68_code 143 = .ok (.istore 8, 2) := by decide +kernel
theorem d_Mo_buildFunction_145 : decode prog_12_method_68_code 145 = .ok (.aload_n 0, 1) := by decide +kernel
theorem d_Mo_buildFunction_146 : decode prog_12_method_68_code 146 = .ok (.iload 8, 2) := by decide +kernel
theorem d_Mo_buildFunction_148 : decode prog_12_method_68_code 148 = .ok (.iload 4, 2) := by decide +kernel
theorem d_Mo_buildFunction_150 : decode prog_12_method_68_code 150 = .ok (.iconst 2, 1) := by decide +kernel
theorem d_Mo_buildFunction_151 : decode prog_12_method_68_code 151 = .ok (.iadd, 1) := by decide +kernel
theorem d_Mo_buildFunction_152 : decode prog_12_method_68_code 152 = .ok (.iload 7, 2) := by decide +kernel
theorem d_Mo_buildFunction_154 : decode prog_12_method_68_code 154 = .ok (.invokevirtual 445, 3) := by decide +kernel
theorem d_Mo_buildFunction_157 : decode prog_12_method_68_code 157 = .ok (.aload_n 0, 1) := by decide +kernel
theorem d_Mo_buildFunction_158 : decode prog_12_method_68_code 158 = .ok (.iconst 2, 1) := by decide +kernel
theorem d_Mo_buildFunction_159 : decode prog_12_method_68_code 159 = .ok (.iload 5, 2) := by decide +kernel
theorem d_Mo_buildFunction_161 : decode prog_12_method_68_code 161 = .ok (.iload 7, 2) := by decide +kernel
theorem d_Mo_buildFunction_163 : decode prog_12_method_68_code 163 = .ok (.iconst 1, 1) := by decide +kernel
theorem d_Mo_buildFunction_164 : decode prog_12_method_68_code 164 = .ok (.iadd, 1) := by decide +kernel
theorem d_Mo_buildFunction_165 : decode prog_12_method_68_code 165 = .ok (.iload_n 3, 1) := by decide +kernel
theorem d_Mo_buildFunction_166 : decode prog_12_method_68_code 166 = .ok (.iconst 1, 1) := by decide +kernel
theorem d_Mo_buildFunction_167 : decode prog_12_method_68_code 167 = .ok (.isub, 1) := by decide +kernel
theorem d_Mo_buildFunction_168 : decode prog_12_method_68_code 168 = .ok (.iload 7, 2) := by decide +kernel
theorem d_Mo_buildFunction_170 : decode prog_12_method_68_code 170 = .ok (.invokevirtual 390, 3) := by decide +kernel
theorem d_Mo_buildFunction_173 : decode prog_12_method_68_code 173 = .ok (.return_, 1) := by decide +kernel
set_option maxHeartbeats 4000000 in
set_option maxRecDepth 100000 in
theorem L_Mo_buildFunction_116 (l : Launch) (D : va_G) (cI cB cJ cS : ClassId) (h0 : Nat) (am : Nat → Nat) (a_all_m5 : Nat) (a_all_m6 : Nat) (a_all_m24 : Nat) (a_all_m25 : Nat) (a_all_m26 : Nat) (a_all_m27 : Nat) (a_all_m28 : Nat) (a_all_m29 : Nat) (a_all_m30 : Nat) (a_all_m31 : Nat) (a_all_m34 : Nat) (a_all_m33 : Nat) (p1 : Int32) (p2 : Int32) (p3 : Int32) (known_h0 : Int32) (thrown_h0 : Int32) (wrong_h0 : Int32) (lastEnd_h0 : Int32) (at_h0 : Int32) (bad_h0 : Int32) (levels_h0 : Int32) (least_h0 : Int32) (found_h0 : Int32) (size_m5 : Int32) (n_a_all_m5 : Nat) (b_a_all_m5 : Nat → Int32) (size_m6 : Int32) (n_a_all_m6 : Nat) (b_a_all_m6 : Nat → Int32) (size_m24 : Int32) (n_a_all_m24 : Nat) (b_a_all_m24 : Nat → Int32) (size_m25 : Int32) (n_a_all_m25 : Nat) (b_a_all_m25 : Nat → Int32) (size_m26 : Int32) (n_a_all_m26 : Nat) (b_a_all_m26 : Nat → Int32) (size_m27 : Int32) (n_a_all_m27 : Nat) (b_a_all_m27 : Nat → Int32) (size_m28 : Int32) (n_a_all_m28 : Nat) (b_a_all_m28 : Nat → Int32) (size_m29 : Int32) (n_a_all_m29 : Nat) (b_a_all_m29 : Nat → Int32) (size_m30 : Int32) (n_a_all_m30 : Nat) (b_a_all_m30 : Nat → Int32) (size_m31 : Int32) (n_a_all_m31 : Nat) (b_a_all_m31 : Nat → Int32) (size_m34 : Int32) (n_a_all_m34 : Nat) (b_a_all_m34 : Nat → Int32) (size_m33 : Int32) (n_a_all_m33 : Nat) (b_a_all_m33 : Nat → Int32) (o_5_1 : Int32) (o_7_1 : Int32) (o_9_1 : Int32) (o_11_1 : Int32) (o_13_1 : Int32) (o_15_1 : Int32) (o_17_1 : Int32) (o_19_1 : Int32) (ob_22 : Nat → Int32) (on_nq_5_0 : Nat) (ob_nq_5_0 : Nat → Int32) (on_nq_7_0 : Nat) (ob_nq_7_0 : Nat → Int32) (on_nq_9_0 : Nat) (ob_nq_9_0 : Nat → Int32) (on_nq_11_0 : Nat) (ob_nq_11_0 : Nat → Int32) (on_nq_13_0 : Nat) (ob_nq_13_0 : Nat → Int32) (on_nq_15_0 : Nat) (ob_nq_15_0 : Nat → Int32) (on_nq_17_0 : Nat) (ob_nq_17_0 : Nat → Int32) (on_nq_19_0 : Nat) (ob_nq_19_0 : Nat → Int32) (on_nq_23_0 : Nat) (ob_nq_23_0 : Nat → Int32) (mc ms : Nat) (p : Program) (e : Env) (s : State) (m : MethodId) (below : List Frame) (meth : Method) (c : Code) (hr : meth.sig.returnType = (Option.none : Option Jvm.ClassFile.FieldType)) (hnm : meth.name = y_Mo_buildFunction.name) : ∀ (q9_0_116 : Nat) (q10_0_116 : Nat) (q11_0_116 : Nat) (q12_0_116 : Nat) (q13_0_116 : Nat) (q14_0_116 : Nat) (q15_0_116 : Nat) (q16_0_116 : Nat) (v4_116 : Int32) (b1_116 : Nat → Int32) (f9_1_116 : Int32) (f10_1_116 : Int32) (f11_1_116 : Int32) (f12_1_116 : Int32) (f13_1_116 : Int32) (f14_1_116 : Int32) (f15_1_116 : Int32) (f16_1_116 : Int32) (n17_116 : Nat) (b17_116 : Nat → Int32) (n18_116 : Nat) (b18_116 : Nat → Int32) (n19_116 : Nat) (b19_116 : Nat → Int32) (n20_116 : Nat) (b20_116 : Nat → Int32) (n21_116 : Nat) (b21_116 : Nat → Int32) (n22_116 : Nat) (b22_116 : Nat → Int32) (n23_116 : Nat) (b23_116 : Nat → Int32) (n24_116 : Nat) (b24_116 : Nat → Int32) (cl_116 sl_116 C_116 S_116 : Nat), F_Mo_buildFunction_116 p3 known_h0 thrown_h0 wrong_h0 lastEnd_h0 at_h0 bad_h0 levels_h0 least_h0 found_h0 size_m5 n_a_all_m5 b_a_all_m5 size_m6 n_a_all_m6 b_a_all_m6 size_m24 size_m33 n_a_all_m33 b_a_all_m33   v4_116 b1_116 f9_1_116 f10_1_116 f11_1_116 f12_1_116 f13_1_116 f14_1_116 f15_1_116 f16_1_116 n17_116 b17_116 n18_116 b18_116 n19_116 b19_116 n20_116 b20_116 n21_116 b21_116 n22_116 b22_116 n23_116 b23_116 n24_116 b24_116 = some ((o_5_1, o_7_1, o_9_1, o_11_1, o_13_1, o_15_1, o_17_1, o_19_1, ob_22, on_nq_5_0, ob_nq_5_0, on_nq_7_0, ob_nq_7_0, on_nq_9_0, ob_nq_9_0, on_nq_11_0, ob_nq_11_0, on_nq_13_0, ob_nq_13_0, on_nq_15_0, ob_nq_15_0, on_nq_17_0, ob_nq_17_0, on_nq_19_0, ob_nq_19_0, on_nq_23_0, ob_nq_23_0), C_116, S_116) → cl_116 + C_116 ≤ mc → sl_116 + S_116 ≤ ms → J (KxOf p l e { frames := 4, cells := mc, slots := ms, locals := 97 } s m [.ref h0, .int p1, .int p2, .int p3].toArray below meth c D (gT cI cB cJ cS) [(h0, .inr (9, moF am known_h0 thrown_h0 wrong_h0 lastEnd_h0 at_h0 bad_h0 levels_h0 least_h0 found_h0)), ((am 5), .inr (8, [.ref a_all_m5, .int size_m5])), (a_all_m5, .inl (cI, n_a_all_m5, .inl b_a_all_m5)), ((am 6), .inr (8, [.ref a_all_m6, .int size_m6])), (a_all_m6, .inl (cI, n_a_all_m6, .inl b_a_all_m6)), ((am 24), .inr (8, [.ref a_all_m24, .int size_m24])), (a_all_m24, .inl (cI, n_a_all_m24, .inl b_a_all_m24)), ((am 25), .inr (8, [.ref a_all_m25, .int size_m25])), (a_all_m25, .inl (cI, n_a_all_m25, .inl b_a_all_m25)), ((am 26), .inr (8, [.ref a_all_m26, .int size_m26])), (a_all_m26, .inl (cI, n_a_all_m26, .inl b_a_all_m26)), ((am 27), .inr (8, [.ref a_all_m27, .int size_m27])), (a_all_m27, .inl (cI, n_a_all_m27, .inl b_a_all_m27)), ((am 28), .inr (8, [.ref a_all_m28, .int size_m28])), (a_all_m28, .inl (cI, n_a_all_m28, .inl b_a_all_m28)), ((am 29), .inr (8, [.ref a_all_m29, .int size_m29])), (a_all_m29, .inl (cI, n_a_all_m29, .inl b_a_all_m29)), ((am 30), .inr (8, [.ref a_all_m30, .int size_m30])), (a_all_m30, .inl (cI, n_a_all_m30, .inl b_a_all_m30)), ((am 31), .inr (8, [.ref a_all_m31, .int size_m31])), (a_all_m31, .inl (cI, n_a_all_m31, .inl b_a_all_m31)), ((am 34), .inr (8, [.ref a_all_m34, .int size_m34])), (a_all_m34, .inl (cI, n_a_all_m34, .inl b_a_all_m34)), ((am 33), .inr (8, [.ref a_all_m33, .int size_m33])), (a_all_m33, .inl (cI, n_a_all_m33, .inl b_a_all_m33))] (fun v w => ∃ nq_5_0 : Nat, ∃ nq_7_0 : Nat, ∃ nq_9_0 : Nat, ∃ nq_11_0 : Nat, ∃ nq_13_0 : Nat, ∃ nq_15_0 : Nat, ∃ nq_17_0 : Nat, ∃ nq_19_0 : Nat, ∃ nq_23_0 : Nat, v = none ∧ w = [(h0, .inr (9, moF am known_h0 thrown_h0 wrong_h0 lastEnd_h0 at_h0 bad_h0 levels_h0 least_h0 found_h0)), ((am 5), .inr (8, [.ref a_all_m5, .int size_m5])), (a_all_m5, .inl (cI, n_a_all_m5, .inl b_a_all_m5)), ((am 6), .inr (8, [.ref a_all_m6, .int size_m6])), (a_all_m6, .inl (cI, n_a_all_m6, .inl b_a_all_m6)), ((am 24), .inr (8, [.ref nq_5_0, .int o_5_1])), ((am 25), .inr (8, [.ref nq_7_0, .int o_7_1])), ((am 26), .inr (8, [.ref nq_9_0, .int o_9_1])), ((am 27), .inr (8, [.ref nq_11_0, .int o_11_1])), ((am 28), .inr (8, [.ref nq_13_0, .int o_13_1])), ((am 29), .inr (8, [.ref nq_15_0, .int o_15_1])), ((am 30), .inr (8, [.ref nq_17_0, .int o_17_1])), ((am 31), .inr (8, [.ref nq_19_0, .int o_19_1])), ((am 34), .inr (8, [.ref a_all_m34, .int size_m34])), (a_all_m34, .inl (cI, n_a_all_m34, .inl ob_22)), ((am 33), .inr (8, [.ref nq_23_0, .int (((((size_m33 + 1) + 1) + 1) + 1) + 1)])), (nq_5_0, .inl (cI, on_nq_5_0, .inl ob_nq_5_0)), (nq_7_0, .inl (cI, on_nq_7_0, .inl ob_nq_7_0)), (nq_9_0, .inl (cI, on_nq_9_0, .inl ob_nq_9_0)), (nq_11_0, .inl (cI, on_nq_11_0, .inl ob_nq_11_0)), (nq_13_0, .inl (cI, on_nq_13_0, .inl ob_nq_13_0)), (nq_15_0, .inl (cI, on_nq_15_0, .inl ob_nq_15_0)), (nq_17_0, .inl (cI, on_nq_17_0, .inl ob_nq_17_0)), (nq_19_0, .inl (cI, on_nq_19_0, .inl ob_nq_19_0)), (nq_23_0, .inl (cI, on_nq_23_0, .inl ob_nq_23_0))]) mc ms) prog_12_method_68_code 9 R_Mo 116 [(6, .int (size_m24 + 1)), (5, .int size_m24), (4, .int v4_116), (0, .ref h0), (1, .int p1), (2, .int p2), (3, .int p3)] [] [((am 34), .inr (8, [.ref a_all_m34, .int size_m34])), (a_all_m34, .inl (cI, n_a_all_m34, .inl b1_116)), ((am 33), .inr (8, [.ref a_all_m33, .int size_m33])), (a_all_m33, .inl (cI, n_a_all_m33, .inl b_a_all_m33)), (h0, .inr (9, moF am known_h0 thrown_h0 wrong_h0 lastEnd_h0 at_h0 bad_h0 levels_h0 least_h0 found_h0)), ((am 5), .inr (8, [.ref a_all_m5, .int size_m5])), (a_all_m5, .inl (cI, n_a_all_m5, .inl b_a_all_m5)), ((am 6), .inr (8, [.ref a_all_m6, .int size_m6])), (a_all_m6, .inl (cI, n_a_all_m6, .inl b_a_all_m6)), ((am 24), .inr (8, [.ref q9_0_116, .int f9_1_116])), ((am 25), .inr (8, [.ref q10_0_116, .int f10_1_116])), ((am 26), .inr (8, [.ref q11_0_116, .int f11_1_116])), ((am 27), .inr (8, [.ref q12_0_116, .int f12_1_116])), ((am 28), .inr (8, [.ref q13_0_116, .int f13_1_116])), ((am 29), .inr (8, [.ref q14_0_116, .int f14_1_116])), ((am 30), .inr (8, [.ref q15_0_116, .int f15_1_116])), ((am 31), .inr (8, [.ref q16_0_116, .int f16_1_116])), (q9_0_116, .inl (cI, n17_116, .inl b17_116)), (q10_0_116, .inl (cI, n18_116, .inl b18_116)), (q11_0_116, .inl (cI, n19_116, .inl b19_116)), (q12_0_116, .inl (cI, n20_116, .inl b20_116)), (q13_0_116, .inl (cI, n21_116, .inl b21_116)), (q14_0_116, .inl (cI, n22_116, .inl b22_116)), (q15_0_116, .inl (cI, n23_116, .inl b23_116)), (q16_0_116, .inl (cI, n24_116, .inl b24_116))] cl_116 sl_116 := by
  intro q9_0_116 q10_0_116 q11_0_116 q12_0_116 q13_0_116 q14_0_116 q15_0_116 q16_0_116 v4_116 b1_116 f9_1_116 f10_1_116 f11_1_116 f12_1_116 f13_1_116 f14_1_116 f15_1_116 f16_1_116 n17_116 b17_116 n18_116 b18_116 n19_116 b19_116 n20_116 b20_116 n21_116 b21_116 n22_116 b22_116 n23_116 b23_116 n24_116 b24_116 cl_116 sl_116 C_116 S_116 h hC hS
  unfold F_Mo_buildFunction_116 at h
  refine j_aload_n d_Mo_buildFunction_116 rfl 3 rfl ?_
  refine j_iload d_Mo_buildFunction_117 2 rfl ?_
  refine j_iconst (v := 1) d_Mo_buildFunction_119 (by decide) ?_
  refine j_iadd d_Mo_buildFunction_120 ?_
  replace h := bd_s h
  obtain ⟨r1, k2, h⟩ := h
  refine j_callV (n := 1) (As := [.int (v4_116 + 1)]) (rest := []) (wr := [((am 34), .inr (8, [.ref a_all_m34, .int size_m34])), (a_all_m34, .inl (cI, n_a_all_m34, .inl b1_116)), ((am 33), .inr (8, [.ref a_all_m33, .int size_m33])), (a_all_m33, .inl (cI, n_a_all_m33, .inl b_a_all_m33)), ((am 6), .inr (8, [.ref a_all_m6, .int size_m6])), (a_all_m6, .inl (cI, n_a_all_m6, .inl b_a_all_m6)), ((am 24), .inr (8, [.ref q9_0_116, .int f9_1_116])), ((am 25), .inr (8, [.ref q10_0_116, .int f10_1_116])), ((am 26), .inr (8, [.ref q11_0_116, .int f11_1_116])), ((am 27), .inr (8, [.ref q12_0_116, .int f12_1_116])), ((am 28), .inr (8, [.ref q13_0_116, .int f13_1_116])), ((am 29), .inr (8, [.ref q14_0_116, .int f14_1_116])), ((am 30), .inr (8, [.ref q15_0_116, .int f15_1_116])), ((am 31), .inr (8, [.ref q16_0_116, .int f16_1_116])), (q9_0_116, .inl (cI, n17_116, .inl b17_116)), (q10_0_116, .inl (cI, n18_116, .inl b18_116)), (q11_0_116, .inl (cI, n19_116, .inl b19_116)), (q12_0_116, .inl (cI, n20_116, .inl b20_116)), (q13_0_116, .inl (cI, n21_116, .inl b21_116)), (q14_0_116, .inl (cI, n22_116, .inl b22_116)), (q15_0_116, .inl (cI, n23_116, .inl b23_116)), (q16_0_116, .inl (cI, n24_116, .inl b24_116))]) (c_Mo_closing l D cI cB cJ cS h0 am a_all_m5 (v4_116 + 1) known_h0 thrown_h0 wrong_h0 lastEnd_h0 at_h0 bad_h0 levels_h0 least_h0 found_h0 size_m5 n_a_all_m5 b_a_all_m5  r1 k2) k_Mo_350 (by decide) ⟨Nat.le_of_ble_eq_true rfl, Nat.le_of_ble_eq_true rfl⟩ rfl 0 rfl [4, 5, 6] [0, 1, 2, 3, 7, 8, 9, 10, 11, 12, 13, 14, 15, 16, 17, 18, 19, 20, 21, 22, 23, 24] rfl (by decide +kernel) rfl (by decide +kernel) (by decide +kernel) rfl rfl (Nat.le_of_ble_eq_true rfl) d_Mo_buildFunction_121 ⟨show cl_116 + 0 ≤ mc by omega, show sl_116 + 0 ≤ ms by omega⟩ (fun v w hq => ?_)
  obtain ⟨rfl, rfl⟩ := hq
  refine j_norm (pc' := 124) (st' := [.int r1]) (ws' := [((am 34), .inr (8, [.ref a_all_m34, .int size_m34])), (a_all_m34, .inl (cI, n_a_all_m34, .inl b1_116)), ((am 33), .inr (8, [.ref a_all_m33, .int size_m33])), (a_all_m33, .inl (cI, n_a_all_m33, .inl b_a_all_m33)), ((am 6), .inr (8, [.ref a_all_m6, .int size_m6])), (a_all_m6, .inl (cI, n_a_all_m6, .inl b_a_all_m6)), ((am 24), .inr (8, [.ref q9_0_116, .int f9_1_116])), ((am 25), .inr (8, [.ref q10_0_116, .int f10_1_116])), ((am 26), .inr (8, [.ref q11_0_116, .int f11_1_116])), ((am 27), .inr (8, [.ref q12_0_116, .int f12_1_116])), ((am 28), .inr (8, [.ref q13_0_116, .int f13_1_116])), ((am 29), .inr (8, [.ref q14_0_116, .int f14_1_116])), ((am 30), .inr (8, [.ref q15_0_116, .int f15_1_116])), ((am 31), .inr (8, [.ref q16_0_116, .int f16_1_116])), (q9_0_116, .inl (cI, n17_116, .inl b17_116)), (q10_0_116, .inl (cI, n18_116, .inl b18_116)), (q11_0_116, .inl (cI, n19_116, .inl b19_116)), (q12_0_116, .inl (cI, n20_116, .inl b20_116)), (q13_0_116, .inl (cI, n21_116, .inl b21_116)), (q14_0_116, .inl (cI, n22_116, .inl b22_116)), (q15_0_116, .inl (cI, n23_116, .inl b23_116)), (q16_0_116, .inl (cI, n24_116, .inl b24_116)), (h0, .inr (9, moF am known_h0 thrown_h0 wrong_h0 lastEnd_h0 at_h0 bad_h0 levels_h0 least_h0 found_h0)), ((am 5), .inr (8, [.ref a_all_m5, .int size_m5])), (a_all_m5, .inl (cI, n_a_all_m5, .inl b_a_all_m5))]) (cl' := cl_116) (sl' := sl_116) rfl rfl rfl rfl rfl rfl ?_
  refine j_istore (lv' := [(7, .int r1), (6, .int (size_m24 + 1)), (5, .int size_m24), (4, .int v4_116), (0, .ref h0), (1, .int p1), (2, .int p2), (3, .int p3)]) d_Mo_buildFunction_124 (by decide) rfl ?_
  refine j_aload_n d_Mo_buildFunction_126 rfl 4 rfl ?_
  refine j_iload d_Mo_buildFunction_127 2 rfl ?_
  refine j_iconst (v := 2) d_Mo_buildFunction_129 (by decide) ?_
  refine j_aload_n d_Mo_buildFunction_130 rfl 4 rfl ?_
  refine j_iload d_Mo_buildFunction_131 3 rfl ?_
  refine j_iconst (v := 1) d_Mo_buildFunction_133 (by decide) ?_
  refine j_iadd d_Mo_buildFunction_134 ?_
  replace h := bd_s h
  obtain ⟨_, k3, h⟩ := h
  refine j_callV (n := 1) (As := [.int (v4_116 + 1)]) (rest := [.int 2, .int size_m24, .ref h0]) (wr := [((am 34), .inr (8, [.ref a_all_m34, .int size_m34])), (a_all_m34, .inl (cI, n_a_all_m34, .inl b1_116)), ((am 33), .inr (8, [.ref a_all_m33, .int size_m33])), (a_all_m33, .inl (cI, n_a_all_m33, .inl b_a_all_m33)), ((am 24), .inr (8, [.ref q9_0_116, .int f9_1_116])), ((am 25), .inr (8, [.ref q10_0_116, .int f10_1_116])), ((am 26), .inr (8, [.ref q11_0_116, .int f11_1_116])), ((am 27), .inr (8, [.ref q12_0_116, .int f12_1_116])), ((am 28), .inr (8, [.ref q13_0_116, .int f13_1_116])), ((am 29), .inr (8, [.ref q14_0_116, .int f14_1_116])), ((am 30), .inr (8, [.ref q15_0_116, .int f15_1_116])), ((am 31), .inr (8, [.ref q16_0_116, .int f16_1_116])), (q9_0_116, .inl (cI, n17_116, .inl b17_116)), (q10_0_116, .inl (cI, n18_116, .inl b18_116)), (q11_0_116, .inl (cI, n19_116, .inl b19_116)), (q12_0_116, .inl (cI, n20_116, .inl b20_116)), (q13_0_116, .inl (cI, n21_116, .inl b21_116)), (q14_0_116, .inl (cI, n22_116, .inl b22_116)), (q15_0_116, .inl (cI, n23_116, .inl b23_116)), (q16_0_116, .inl (cI, n24_116, .inl b24_116)), ((am 5), .inr (8, [.ref a_all_m5, .int size_m5])), (a_all_m5, .inl (cI, n_a_all_m5, .inl b_a_all_m5))]) (c_Mo_placeOf l D cI cB cJ cS h0 am a_all_m6 (v4_116 + 1) known_h0 thrown_h0 wrong_h0 lastEnd_h0 at_h0 bad_h0 levels_h0 least_h0 found_h0 size_m6 n_a_all_m6 b_a_all_m6  k3) k_Mo_411 (by decide) ⟨Nat.le_of_ble_eq_true rfl, Nat.le_of_ble_eq_true rfl⟩ rfl 0 rfl [22, 4, 5] [0, 1, 2, 3, 6, 7, 8, 9, 10, 11, 12, 13, 14, 15, 16, 17, 18, 19, 20, 21, 23, 24] rfl (by decide +kernel) rfl (by decide +kernel) (by decide +kernel) rfl rfl (Nat.le_of_ble_eq_true rfl) d_Mo_buildFunction_135 ⟨show cl_116 + 0 ≤ mc by omega, show sl_116 + 0 ≤ ms by omega⟩ (fun v w hq => ?_)
  obtain ⟨rfl, rfl⟩ := hq
  refine j_norm (pc' := 138) (st' := [.int (b_a_all_m6 (Int32.toNatClampNeg (v4_116 + 1))), .int 2, .int size_m24, .ref h0]) (ws' := [((am 34), .inr (8, [.ref a_all_m34, .int size_m34])), (a_all_m34, .inl (cI, n_a_all_m34, .inl b1_116)), ((am 33), .inr (8, [.ref a_all_m33, .int size_m33])), (a_all_m33, .inl (cI, n_a_all_m33, .inl b_a_all_m33)), ((am 24), .inr (8, [.ref q9_0_116, .int f9_1_116])), ((am 25), .inr (8, [.ref q10_0_116, .int f10_1_116])), ((am 26), .inr (8, [.ref q11_0_116, .int f11_1_116])), ((am 27), .inr (8, [.ref q12_0_116, .int f12_1_116])), ((am 28), .inr (8, [.ref q13_0_116, .int f13_1_116])), ((am 29), .inr (8, [.ref q14_0_116, .int f14_1_116])), ((am 30), .inr (8, [.ref q15_0_116, .int f15_1_116])), ((am 31), .inr (8, [.ref q16_0_116, .int f16_1_116])), (q9_0_116, .inl (cI, n17_116, .inl b17_116)), (q10_0_116, .inl (cI, n18_116, .inl b18_116)), (q11_0_116, .inl (cI, n19_116, .inl b19_116)), (q12_0_116, .inl (cI, n20_116, .inl b20_116)), (q13_0_116, .inl (cI, n21_116, .inl b21_116)), (q14_0_116, .inl (cI, n22_116, .inl b22_116)), (q15_0_116, .inl (cI, n23_116, .inl b23_116)), (q16_0_116, .inl (cI, n24_116, .inl b24_116)), ((am 5), .inr (8, [.ref a_all_m5, .int size_m5])), (a_all_m5, .inl (cI, n_a_all_m5, .inl b_a_all_m5)), (h0, .inr (9, moF am known_h0 thrown_h0 wrong_h0 lastEnd_h0 at_h0 bad_h0 levels_h0 least_h0 found_h0)), ((am 6), .inr (8, [.ref a_all_m6, .int size_m6])), (a_all_m6, .inl (cI, n_a_all_m6, .inl b_a_all_m6))]) (cl' := cl_116) (sl' := sl_116) rfl rfl rfl rfl rfl rfl ?_
  refine j_iconst (v := (-1)) d_Mo_buildFunction_138 (by decide) ?_
  refine j_iconst (v := (-1)) d_Mo_buildFunction_139 (by decide) ?_
  replace h := bw_s h
  obtain ⟨⟨r4, r5, r6, r7, r8, r9, r10, r11, r12, r13, r14, r15, r16, r17, r18, r19, r20, r21, r22⟩, C31, S32, C33, S34, k35, h, e1, e2⟩ := h
  replace hC : cl_116 + C31 + C33 ≤ mc := by omega
  replace hS : sl_116 + S32 + S34 ≤ ms := by omega
  clear e1 e2
  refine j_callV (n := 5) (As := [.int size_m24, .int 2, .int (b_a_all_m6 (Int32.toNatClampNeg (v4_116 + 1))), .int (-1), .int (-1)]) (rest := []) (wr := [((am 34), .inr (8, [.ref a_all_m34, .int size_m34])), (a_all_m34, .inl (cI, n_a_all_m34, .inl b1_116)), ((am 33), .inr (8, [.ref a_all_m33, .int size_m33])), (a_all_m33, .inl (cI, n_a_all_m33, .inl b_a_all_m33)), ((am 5), .inr (8, [.ref a_all_m5, .int size_m5])), (a_all_m5, .inl (cI, n_a_all_m5, .inl b_a_all_m5)), ((am 6), .inr (8, [.ref a_all_m6, .int size_m6])), (a_all_m6, .inl (cI, n_a_all_m6, .inl b_a_all_m6))]) (c_Mo_newNode l D cI cB cJ cS h0 am q9_0_116 q10_0_116 q11_0_116 q12_0_116 q13_0_116 q14_0_116 q15_0_116 q16_0_116 size_m24 2 (b_a_all_m6 (Int32.toNatClampNeg (v4_116 + 1))) (-1) (-1) known_h0 thrown_h0 wrong_h0 lastEnd_h0 at_h0 bad_h0 levels_h0 least_h0 found_h0 f9_1_116 n17_116 b17_116 f10_1_116 n18_116 b18_116 f11_1_116 n19_116 b19_116 f12_1_116 n20_116 b20_116 f13_1_116 n21_116 b21_116 f14_1_116 n22_116 b22_116 f15_1_116 n23_116 b23_116 f16_1_116 n24_116 b24_116  r4 r5 r6 r7 r8 r9 r10 r11 r12 r13 r14 r15 r16 r17 r18 r19 r20 r21 r22 C31 S32 k35) k_Mo_386 (by decide) ⟨Nat.le_of_ble_eq_true rfl, Nat.le_of_ble_eq_true rfl⟩ rfl 0 rfl [22, 4, 12, 5, 13, 6, 14, 7, 15, 8, 16, 9, 17, 10, 18, 11, 19] [0, 1, 2, 3, 20, 21, 23, 24] rfl (by decide +kernel) rfl (by decide +kernel) (by decide +kernel) rfl rfl (Nat.le_of_ble_eq_true rfl) d_Mo_buildFunction_140 ⟨show cl_116 + C31 ≤ mc by omega, show sl_116 + S32 ≤ ms by omega⟩ (fun v w hq => ?_)
  obtain ⟨q23, q24, q25, q26, q27, q28, q29, q30, rfl, rfl⟩ := hq
  refine j_norm (pc' := 143) (st' := [.int f9_1_116]) (ws' := [((am 34), .inr (8, [.ref a_all_m34, .int size_m34])), (a_all_m34, .inl (cI, n_a_all_m34, .inl b1_116)), ((am 33), .inr (8, [.ref a_all_m33, .int size_m33])), (a_all_m33, .inl (cI, n_a_all_m33, .inl b_a_all_m33)), ((am 5), .inr (8, [.ref a_all_m5, .int size_m5])), (a_all_m5, .inl (cI, n_a_all_m5, .inl b_a_all_m5)), ((am 6), .inr (8, [.ref a_all_m6, .int size_m6])), (a_all_m6, .inl (cI, n_a_all_m6, .inl b_a_all_m6)), (h0, .inr (9, moF am known_h0 thrown_h0 wrong_h0 lastEnd_h0 at_h0 bad_h0 levels_h0 least_h0 found_h0)), ((am 24), .inr (8, [.ref q23, .int (f9_1_116 + 1)])), ((am 25), .inr (8, [.ref q24, .int (f10_1_116 + 1)])), ((am 26), .inr (8, [.ref q25, .int (f11_1_116 + 1)])), ((am 27), .inr (8, [.ref q26, .int (f12_1_116 + 1)])), ((am 28), .inr (8, [.ref q27, .int r4])), ((am 29), .inr (8, [.ref q28, .int r5])), ((am 30), .inr (8, [.ref q29, .int r6])), ((am 31), .inr (8, [.ref q30, .int (f16_1_116 + 1)])), (q23, .inl (cI, r7, .inl r8)), (q24, .inl (cI, r9, .inl r10)), (q25, .inl (cI, r11, .inl r12)), (q26, .inl (cI, r13, .inl r14)), (q27, .inl (cI, r15, .inl r16)), (q28, .inl (cI, r17, .inl r18)), (q29, .inl (cI, r19, .inl r20)), (q30, .inl (cI, r21, .inl r22))]) (cl' := cl_116 + C31) (sl' := sl_116 + S32) rfl rfl rfl rfl rfl rfl ?_
  refine j_istore (lv' := [(8, .int f9_1_116), (7, .int r1), (6, .int (size_m24 + 1)), (5, .int size_m24), (4, .int v4_116), (0, .ref h0), (1, .int p1), (2, .int p2), (3, .int p3)]) d_Mo_buildFunction_143 (by decide) rfl ?_
  refine j_aload_n d_Mo_buildFunction_145 rfl 5 rfl ?_
  refine j_iload d_Mo_buildFunction_146 0 rfl ?_
  refine j_iload d_Mo_buildFunction_148 4 rfl ?_
  refine j_iconst (v := 2) d_Mo_buildFunction_150 (by decide) ?_
  refine j_iadd d_Mo_buildFunction_151 ?_
  refine j_iload d_Mo_buildFunction_152 1 rfl ?_
  replace h := bw_s h
  obtain ⟨⟨r36, r37, r38, r39, r40, r41, r42, r43, r44, r45, r46, r47, r48, r49, r50, r51, r52, r53, r54, r55, r56, r57, r58, r59⟩, C68, S69, C70, S71, k72, h, e1, e2⟩ := h
  replace hC : cl_116 + C31 + C68 + C70 ≤ mc := by omega
  replace hS : sl_116 + S32 + S69 + S71 ≤ ms := by omega
  clear e1 e2
  refine j_callV (n := 3) (As := [.int f9_1_116, .int (v4_116 + 2), .int r1]) (rest := []) (wr := [((am 34), .inr (8, [.ref a_all_m34, .int size_m34])), (a_all_m34, .inl (cI, n_a_all_m34, .inl b1_116)), ((am 33), .inr (8, [.ref a_all_m33, .int size_m33])), (a_all_m33, .inl (cI, n_a_all_m33, .inl b_a_all_m33))]) (c_Mo_nameNodes l D cI cB cJ cS h0 am a_all_m5 a_all_m6 q23 q24 q25 q26 q27 q28 q29 q30 f9_1_116 (v4_116 + 2) r1 known_h0 thrown_h0 wrong_h0 lastEnd_h0 at_h0 bad_h0 levels_h0 least_h0 found_h0 size_m5 n_a_all_m5 b_a_all_m5 size_m6 n_a_all_m6 b_a_all_m6 (f9_1_116 + 1) r7 r8 (f10_1_116 + 1) r9 r10 (f11_1_116 + 1) r11 r12 (f12_1_116 + 1) r13 r14 r4 r15 r16 r5 r17 r18 r6 r19 r20 (f16_1_116 + 1) r21 r22  r36 r37 r38 r39 r40 r41 r42 r43 r44 r45 r46 r47 r48 r49 r50 r51 r52 r53 r54 r55 r56 r57 r58 r59 C68 S69 k72) k_Mo_445 (by decide) ⟨Nat.le_of_ble_eq_true rfl, Nat.le_of_ble_eq_true rfl⟩ rfl 0 rfl [8, 4, 5, 6, 7, 9, 17, 10, 18, 11, 19, 12, 20, 13, 21, 14, 22, 15, 23, 16, 24] [0, 1, 2, 3] rfl (by decide +kernel) rfl (by decide +kernel) (by decide +kernel) rfl rfl (Nat.le_of_ble_eq_true rfl) d_Mo_buildFunction_154 ⟨show cl_116 + C31 + C68 ≤ mc by omega, show sl_116 + S32 + S69 ≤ ms by omega⟩ (fun v w hq => ?_)
  obtain ⟨q60, q61, q62, q63, q64, q65, q66, q67, rfl, rfl⟩ := hq
  refine j_norm (pc' := 157) (st' := []) (ws' := [((am 34), .inr (8, [.ref a_all_m34, .int size_m34])), (a_all_m34, .inl (cI, n_a_all_m34, .inl b1_116)), ((am 33), .inr (8, [.ref a_all_m33, .int size_m33])), (a_all_m33, .inl (cI, n_a_all_m33, .inl b_a_all_m33)), (h0, .inr (9, moF am known_h0 thrown_h0 wrong_h0 lastEnd_h0 at_h0 bad_h0 levels_h0 least_h0 found_h0)), ((am 5), .inr (8, [.ref a_all_m5, .int size_m5])), (a_all_m5, .inl (cI, n_a_all_m5, .inl b_a_all_m5)), ((am 6), .inr (8, [.ref a_all_m6, .int size_m6])), (a_all_m6, .inl (cI, n_a_all_m6, .inl b_a_all_m6)), ((am 24), .inr (8, [.ref q60, .int r36])), ((am 25), .inr (8, [.ref q61, .int r37])), ((am 26), .inr (8, [.ref q62, .int r38])), ((am 27), .inr (8, [.ref q63, .int r39])), ((am 28), .inr (8, [.ref q64, .int r40])), ((am 29), .inr (8, [.ref q65, .int r41])), ((am 30), .inr (8, [.ref q66, .int r42])), ((am 31), .inr (8, [.ref q67, .int r43])), (q60, .inl (cI, r44, .inl r45)), (q61, .inl (cI, r46, .inl r47)), (q62, .inl (cI, r48, .inl r49)), (q63, .inl (cI, r50, .inl r51)), (q64, .inl (cI, r52, .inl r53)), (q65, .inl (cI, r54, .inl r55)), (q66, .inl (cI, r56, .inl r57)), (q67, .inl (cI, r58, .inl r59))]) (cl' := cl_116 + C31 + C68) (sl' := sl_116 + S32 + S69) rfl rfl rfl rfl rfl rfl ?_
  refine j_aload_n d_Mo_buildFunction_157 rfl 5 rfl ?_
  refine j_iconst (v := 2) d_Mo_buildFunction_158 (by decide) ?_
  refine j_iload d_Mo_buildFunction_159 3 rfl ?_
  refine j_iload d_Mo_buildFunction_161 1 rfl ?_
  refine j_iconst (v := 1) d_Mo_buildFunction_163 (by decide) ?_
  refine j_iadd d_Mo_buildFunction_164 ?_
  refine j_iload_n d_Mo_buildFunction_165 rfl 8 rfl ?_
  refine j_iconst (v := 1) d_Mo_buildFunction_166 (by decide) ?_
  refine j_isub d_Mo_buildFunction_167 ?_
  refine j_iload d_Mo_buildFunction_168 1 rfl ?_
  replace h := bw_s h
  obtain ⟨⟨r73, r74⟩, C76, S77, C78, S79, k80, h, e1, e2⟩ := h
  replace hC : cl_116 + C31 + C68 + C76 + C78 ≤ mc := by omega
  replace hS : sl_116 + S32 + S69 + S77 + S79 ≤ ms := by omega
  clear e1 e2
  refine j_callV (n := 5) (As := [.int 2, .int size_m24, .int (r1 + 1), .int (p3 - 1), .int r1]) (rest := []) (wr := [((am 34), .inr (8, [.ref a_all_m34, .int size_m34])), (a_all_m34, .inl (cI, n_a_all_m34, .inl b1_116)), ((am 5), .inr (8, [.ref a_all_m5, .int size_m5])), (a_all_m5, .inl (cI, n_a_all_m5, .inl b_a_all_m5)), ((am 6), .inr (8, [.ref a_all_m6, .int size_m6])), (a_all_m6, .inl (cI, n_a_all_m6, .inl b_a_all_m6)), ((am 24), .inr (8, [.ref q60, .int r36])), ((am 25), .inr (8, [.ref q61, .int r37])), ((am 26), .inr (8, [.ref q62, .int r38])), ((am 27), .inr (8, [.ref q63, .int r39])), ((am 28), .inr (8, [.ref q64, .int r40])), ((am 29), .inr (8, [.ref q65, .int r41])), ((am 30), .inr (8, [.ref q66, .int r42])), ((am 31), .inr (8, [.ref q67, .int r43])), (q60, .inl (cI, r44, .inl r45)), (q61, .inl (cI, r46, .inl r47)), (q62, .inl (cI, r48, .inl r49)), (q63, .inl (cI, r50, .inl r51)), (q64, .inl (cI, r52, .inl r53)), (q65, .inl (cI, r54, .inl r55)), (q66, .inl (cI, r56, .inl r57)), (q67, .inl (cI, r58, .inl r59))]) (c_Mo_task l D cI cB cJ cS h0 am a_all_m33 2 size_m24 (r1 + 1) (p3 - 1) r1 known_h0 thrown_h0 wrong_h0 lastEnd_h0 at_h0 bad_h0 levels_h0 least_h0 found_h0 size_m33 n_a_all_m33 b_a_all_m33  r73 r74 C76 S77 k80) k_Mo_390 (by decide) ⟨Nat.le_of_ble_eq_true rfl, Nat.le_of_ble_eq_true rfl⟩ rfl 0 rfl [4, 2, 3] [0, 1, 5, 6, 7, 8, 9, 10, 11, 12, 13, 14, 15, 16, 17, 18, 19, 20, 21, 22, 23, 24] rfl (by decide +kernel) rfl (by decide +kernel) (by decide +kernel) rfl rfl (Nat.le_of_ble_eq_true rfl) d_Mo_buildFunction_170 ⟨show cl_116 + C31 + C68 + C76 ≤ mc by omega, show sl_116 + S32 + S69 + S77 ≤ ms by omega⟩ (fun v w hq => ?_)
  obtain ⟨q75, rfl, rfl⟩ := hq
  refine j_norm (pc' := 173) (st' := []) (ws' := [((am 34), .inr (8, [.ref a_all_m34, .int size_m34])), (a_all_m34, .inl (cI, n_a_all_m34, .inl b1_116)), ((am 5), .inr (8, [.ref a_all_m5, .int size_m5])), (a_all_m5, .inl (cI, n_a_all_m5, .inl b_a_all_m5)), ((am 6), .inr (8, [.ref a_all_m6, .int size_m6])), (a_all_m6, .inl (cI, n_a_all_m6, .inl b_a_all_m6)), ((am 24), .inr (8, [.ref q60, .int r36])), ((am 25), .inr (8, [.ref q61, .int r37])), ((am 26), .inr (8, [.ref q62, .int r38])), ((am 27), .inr (8, [.ref q63, .int r39])), ((am 28), .inr (8, [.ref q64, .int r40])), ((am 29), .inr (8, [.ref q65, .int r41])), ((am 30), .inr (8, [.ref q66, .int r42])), ((am 31), .inr (8, [.ref q67, .int r43])), (q60, .inl (cI, r44, .inl r45)), (q61, .inl (cI, r46, .inl r47)), (q62, .inl (cI, r48, .inl r49)), (q63, .inl (cI, r50, .inl r51)), (q64, .inl (cI, r52, .inl r53)), (q65, .inl (cI, r54, .inl r55)), (q66, .inl (cI, r56, .inl r57)), (q67, .inl (cI, r58, .inl r59)), (h0, .inr (9, moF am known_h0 thrown_h0 wrong_h0 lastEnd_h0 at_h0 bad_h0 levels_h0 least_h0 found_h0)), ((am 33), .inr (8, [.ref q75, .int (((((size_m33 + 1) + 1) + 1) + 1) + 1)])), (q75, .inl (cI, r73, .inl r74))]) (cl' := cl_116 + C31 + C68 + C76) (sl' := sl_116 + S32 + S69 + S77) rfl rfl rfl rfl rfl rfl ?_
  replace h := lf_s h
  obtain ⟨h, e1, e2⟩ := h
  replace h := Prod.mk.inj h
  obtain ⟨h9, h⟩ := h
  subst h9
  replace h := Prod.mk.inj h
  obtain ⟨h9, h⟩ := h
  subst h9
  replace h := Prod.mk.inj h
  obtain ⟨h9, h⟩ := h
  subst h9
  replace h := Prod.mk.inj h
  obtain ⟨h9, h⟩ := h
  subst h9
  replace h := Prod.mk.inj h
  obtain ⟨h9, h⟩ := h
  subst h9
  replace h := Prod.mk.inj h
  obtain ⟨h9, h⟩ := h
  subst h9
  replace h := Prod.mk.inj h
  obtain ⟨h9, h⟩ := h
  subst h9
  replace h := Prod.mk.inj h
  obtain ⟨h9, h⟩ := h
  subst h9
  replace h := Prod.mk.inj h
  obtain ⟨h9, h⟩ := h
  subst h9
  replace h := Prod.mk.inj h
  obtain ⟨h9, h⟩ := h
  subst h9
  replace h := Prod.mk.inj h
  obtain ⟨h9, h⟩ := h
  subst h9
  replace h := Prod.mk.inj h
  obtain ⟨h9, h⟩ := h
  subst h9
  replace h := Prod.mk.inj h
  obtain ⟨h9, h⟩ := h
  subst h9
  replace h := Prod.mk.inj h
  obtain ⟨h9, h⟩ := h
  subst h9
  replace h := Prod.mk.inj h
  obtain ⟨h9, h⟩ := h
  subst h9
  replace h := Prod.mk.inj h
  obtain ⟨h9, h⟩ := h
  subst h9
  replace h := Prod.mk.inj h
  obtain ⟨h9, h⟩ := h
  subst h9
  replace h := Prod.mk.inj h
  obtain ⟨h9, h⟩ := h
  subst h9
  replace h := Prod.mk.inj h
  obtain ⟨h9, h⟩ := h
  subst h9
  replace h := Prod.mk.inj h
  obtain ⟨h9, h⟩ := h
  subst h9
  replace h := Prod.mk.inj h
  obtain ⟨h9, h⟩ := h
  subst h9
  replace h := Prod.mk.inj h
  obtain ⟨h9, h⟩ := h
  subst h9
  replace h := Prod.mk.inj h
  obtain ⟨h9, h⟩ := h
  subst h9
  replace h := Prod.mk.inj h
  obtain ⟨h9, h⟩ := h
  subst h9
  replace h := Prod.mk.inj h
  obtain ⟨h9, h⟩ := h
  subst h9
  replace h := Prod.mk.inj h
  obtain ⟨h9, h⟩ := h
  subst h9
  subst h
  refine j_widen (cl' := mc) (sl' := ms) (by omega) (by omega) ?_
  exact j_vret (w := [(h0, .inr (9, moF am known_h0 thrown_h0 wrong_h0 lastEnd_h0 at_h0 bad_h0 levels_h0 least_h0 found_h0)), ((am 5), .inr (8, [.ref a_all_m5, .int size_m5])), (a_all_m5, .inl (cI, n_a_all_m5, .inl b_a_all_m5)), ((am 6), .inr (8, [.ref a_all_m6, .int size_m6])), (a_all_m6, .inl (cI, n_a_all_m6, .inl b_a_all_m6)), ((am 24), .inr (8, [.ref q60, .int r36])), ((am 25), .inr (8, [.ref q61, .int r37])), ((am 26), .inr (8, [.ref q62, .int r38])), ((am 27), .inr (8, [.ref q63, .int r39])), ((am 28), .inr (8, [.ref q64, .int r40])), ((am 29), .inr (8, [.ref q65, .int r41])), ((am 30), .inr (8, [.ref q66, .int r42])), ((am 31), .inr (8, [.ref q67, .int r43])), ((am 34), .inr (8, [.ref a_all_m34, .int size_m34])), (a_all_m34, .inl (cI, n_a_all_m34, .inl b1_116)), ((am 33), .inr (8, [.ref q75, .int (((((size_m33 + 1) + 1) + 1) + 1) + 1)])), (q60, .inl (cI, r44, .inl r45)), (q61, .inl (cI, r46, .inl r47)), (q62, .inl (cI, r48, .inl r49)), (q63, .inl (cI, r50, .inl r51)), (q64, .inl (cI, r52, .inl r53)), (q65, .inl (cI, r54, .inl r55)), (q66, .inl (cI, r56, .inl r57)), (q67, .inl (cI, r58, .inl r59)), (q75, .inl (cI, r73, .inl r74))]) hr d_Mo_buildFunction_173 [22, 2, 3, 4, 5, 6, 7, 8, 9, 10, 11, 12, 13, 0, 1, 23, 14, 15, 16, 17, 18, 19, 20, 21, 24] rfl (by decide) ⟨q60, q61, q62, q63, q64, q65, q66, q67, q75, rfl, rfl⟩
set_option maxHeartbeats 4000000 in
set_option maxRecDepth 100000 in
theorem c_Mo_buildFunction (l : Launch) (D : va_G) (cI cB cJ cS : ClassId) (h0 : Nat) (am : Nat → Nat) (a_all_m5 : Nat) (a_all_m6 : Nat) (a_all_m24 : Nat) (a_all_m25 : Nat) (a_all_m26 : Nat) (a_all_m27 : Nat) (a_all_m28 : Nat) (a_all_m29 : Nat) (a_all_m30 : Nat) (a_all_m31 : Nat) (a_all_m34 : Nat) (a_all_m33 : Nat) (p1 : Int32) (p2 : Int32) (p3 : Int32) (known_h0 : Int32) (thrown_h0 : Int32) (wrong_h0 : Int32) (lastEnd_h0 : Int32) (at_h0 : Int32) (bad_h0 : Int32) (levels_h0 : Int32) (least_h0 : Int32) (found_h0 : Int32) (size_m5 : Int32) (n_a_all_m5 : Nat) (b_a_all_m5 : Nat → Int32) (size_m6 : Int32) (n_a_all_m6 : Nat) (b_a_all_m6 : Nat → Int32) (size_m24 : Int32) (n_a_all_m24 : Nat) (b_a_all_m24 : Nat → Int32) (size_m25 : Int32) (n_a_all_m25 : Nat) (b_a_all_m25 : Nat → Int32) (size_m26 : Int32) (n_a_all_m26 : Nat) (b_a_all_m26 : Nat → Int32) (size_m27 : Int32) (n_a_all_m27 : Nat) (b_a_all_m27 : Nat → Int32) (size_m28 : Int32) (n_a_all_m28 : Nat) (b_a_all_m28 : Nat → Int32) (size_m29 : Int32) (n_a_all_m29 : Nat) (b_a_all_m29 : Nat → Int32) (size_m30 : Int32) (n_a_all_m30 : Nat) (b_a_all_m30 : Nat → Int32) (size_m31 : Int32) (n_a_all_m31 : Nat) (b_a_all_m31 : Nat → Int32) (size_m34 : Int32) (n_a_all_m34 : Nat) (b_a_all_m34 : Nat → Int32) (size_m33 : Int32) (n_a_all_m33 : Nat) (b_a_all_m33 : Nat → Int32) (o_5_1 : Int32) (o_7_1 : Int32) (o_9_1 : Int32) (o_11_1 : Int32) (o_13_1 : Int32) (o_15_1 : Int32) (o_17_1 : Int32) (o_19_1 : Int32) (ob_22 : Nat → Int32) (on_nq_5_0 : Nat) (ob_nq_5_0 : Nat → Int32) (on_nq_7_0 : Nat) (ob_nq_7_0 : Nat → Int32) (on_nq_9_0 : Nat) (ob_nq_9_0 : Nat → Int32) (on_nq_11_0 : Nat) (ob_nq_11_0 : Nat → Int32) (on_nq_13_0 : Nat) (ob_nq_13_0 : Nat → Int32) (on_nq_15_0 : Nat) (ob_nq_15_0 : Nat → Int32) (on_nq_17_0 : Nat) (ob_nq_17_0 : Nat → Int32) (on_nq_19_0 : Nat) (ob_nq_19_0 : Nat → Int32) (on_nq_23_0 : Nat) (ob_nq_23_0 : Nat → Int32) (mc ms : Nat) (h : F_Mo_buildFunction p1 p2 p3 known_h0 thrown_h0 wrong_h0 lastEnd_h0 at_h0 bad_h0 levels_h0 least_h0 found_h0 size_m5 n_a_all_m5 b_a_all_m5 size_m6 n_a_all_m6 b_a_all_m6 size_m24 n_a_all_m24 b_a_all_m24 size_m25 n_a_all_m25 b_a_all_m25 size_m26 n_a_all_m26 b_a_all_m26 size_m27 n_a_all_m27 b_a_all_m27 size_m28 n_a_all_m28 b_a_all_m28 size_m29 n_a_all_m29 b_a_all_m29 size_m30 n_a_all_m30 b_a_all_m30 size_m31 n_a_all_m31 b_a_all_m31 size_m34 n_a_all_m34 b_a_all_m34 size_m33 n_a_all_m33 b_a_all_m33 = some ((o_5_1, o_7_1, o_9_1, o_11_1, o_13_1, o_15_1, o_17_1, o_19_1, ob_22, on_nq_5_0, ob_nq_5_0, on_nq_7_0, ob_nq_7_0, on_nq_9_0, ob_nq_9_0, on_nq_11_0, ob_nq_11_0, on_nq_13_0, ob_nq_13_0, on_nq_15_0, ob_nq_15_0, on_nq_17_0, ob_nq_17_0, on_nq_19_0, ob_nq_19_0, on_nq_23_0, ob_nq_23_0), mc, ms)) : Ct l D (gT cI cB cJ cS) y_Mo_buildFunction prog_12_method_68_code 9 (Option.none : Option Jvm.ClassFile.FieldType) 4 97 mc ms [.ref h0, .int p1, .int p2, .int p3] [(h0, .inr (9, moF am known_h0 thrown_h0 wrong_h0 lastEnd_h0 at_h0 bad_h0 levels_h0 least_h0 found_h0)), ((am 5), .inr (8, [.ref a_all_m5, .int size_m5])), (a_all_m5, .inl (cI, n_a_all_m5, .inl b_a_all_m5)), ((am 6), .inr (8, [.ref a_all_m6, .int size_m6])), (a_all_m6, .inl (cI, n_a_all_m6, .inl b_a_all_m6)), ((am 24), .inr (8, [.ref a_all_m24, .int size_m24])), (a_all_m24, .inl (cI, n_a_all_m24, .inl b_a_all_m24)), ((am 25), .inr (8, [.ref a_all_m25, .int size_m25])), (a_all_m25, .inl (cI, n_a_all_m25, .inl b_a_all_m25)), ((am 26), .inr (8, [.ref a_all_m26, .int size_m26])), (a_all_m26, .inl (cI, n_a_all_m26, .inl b_a_all_m26)), ((am 27), .inr (8, [.ref a_all_m27, .int size_m27])), (a_all_m27, .inl (cI, n_a_all_m27, .inl b_a_all_m27)), ((am 28), .inr (8, [.ref a_all_m28, .int size_m28])), (a_all_m28, .inl (cI, n_a_all_m28, .inl b_a_all_m28)), ((am 29), .inr (8, [.ref a_all_m29, .int size_m29])), (a_all_m29, .inl (cI, n_a_all_m29, .inl b_a_all_m29)), ((am 30), .inr (8, [.ref a_all_m30, .int size_m30])), (a_all_m30, .inl (cI, n_a_all_m30, .inl b_a_all_m30)), ((am 31), .inr (8, [.ref a_all_m31, .int size_m31])), (a_all_m31, .inl (cI, n_a_all_m31, .inl b_a_all_m31)), ((am 34), .inr (8, [.ref a_all_m34, .int size_m34])), (a_all_m34, .inl (cI, n_a_all_m34, .inl b_a_all_m34)), ((am 33), .inr (8, [.ref a_all_m33, .int size_m33])), (a_all_m33, .inl (cI, n_a_all_m33, .inl b_a_all_m33))] (fun v w => ∃ nq_5_0 : Nat, ∃ nq_7_0 : Nat, ∃ nq_9_0 : Nat, ∃ nq_11_0 : Nat, ∃ nq_13_0 : Nat, ∃ nq_15_0 : Nat, ∃ nq_17_0 : Nat, ∃ nq_19_0 : Nat, ∃ nq_23_0 : Nat, v = none ∧ w = [(h0, .inr (9, moF am known_h0 thrown_h0 wrong_h0 lastEnd_h0 at_h0 bad_h0 levels_h0 least_h0 found_h0)), ((am 5), .inr (8, [.ref a_all_m5, .int size_m5])), (a_all_m5, .inl (cI, n_a_all_m5, .inl b_a_all_m5)), ((am 6), .inr (8, [.ref a_all_m6, .int size_m6])), (a_all_m6, .inl (cI, n_a_all_m6, .inl b_a_all_m6)), ((am 24), .inr (8, [.ref nq_5_0, .int o_5_1])), ((am 25), .inr (8, [.ref nq_7_0, .int o_7_1])), ((am 26), .inr (8, [.ref nq_9_0, .int o_9_1])), ((am 27), .inr (8, [.ref nq_11_0, .int o_11_1])), ((am 28), .inr (8, [.ref nq_13_0, .int o_13_1])), ((am 29), .inr (8, [.ref nq_15_0, .int o_15_1])), ((am 30), .inr (8, [.ref nq_17_0, .int o_17_1])), ((am 31), .inr (8, [.ref nq_19_0, .int o_19_1])), ((am 34), .inr (8, [.ref a_all_m34, .int size_m34])), (a_all_m34, .inl (cI, n_a_all_m34, .inl ob_22)), ((am 33), .inr (8, [.ref nq_23_0, .int (((((size_m33 + 1) + 1) + 1) + 1) + 1)])), (nq_5_0, .inl (cI, on_nq_5_0, .inl ob_nq_5_0)), (nq_7_0, .inl (cI, on_nq_7_0, .inl ob_nq_7_0)), (nq_9_0, .inl (cI, on_nq_9_0, .inl ob_nq_9_0)), (nq_11_0, .inl (cI, on_nq_11_0, .inl ob_nq_11_0)), (nq_13_0, .inl (cI, on_nq_13_0, .inl ob_nq_13_0)), (nq_15_0, .inl (cI, on_nq_15_0, .inl ob_nq_15_0)), (nq_17_0, .inl (cI, on_nq_17_0, .inl ob_nq_17_0)), (nq_19_0, .inl (cI, on_nq_19_0, .inl ob_nq_19_0)), (nq_23_0, .inl (cI, on_nq_23_0, .inl ob_nq_23_0))]) := by
  refine Ct.mk (by decide) (Nat.le_of_ble_eq_true rfl) ?_
  intro p e s m below meth c hr hnm
  refine j_norm (pc' := 0) (lv' := [(0, .ref h0), (1, .int p1), (2, .int p2), (3, .int p3)]) (st' := []) (ws' := [(h0, .inr (9, moF am known_h0 thrown_h0 wrong_h0 lastEnd_h0 at_h0 bad_h0 levels_h0 least_h0 found_h0)), ((am 5), .inr (8, [.ref a_all_m5, .int size_m5])), (a_all_m5, .inl (cI, n_a_all_m5, .inl b_a_all_m5)), ((am 6), .inr (8, [.ref a_all_m6, .int size_m6])), (a_all_m6, .inl (cI, n_a_all_m6, .inl b_a_all_m6)), ((am 24), .inr (8, [.ref a_all_m24, .int size_m24])), (a_all_m24, .inl (cI, n_a_all_m24, .inl b_a_all_m24)), ((am 25), .inr (8, [.ref a_all_m25, .int size_m25])), (a_all_m25, .inl (cI, n_a_all_m25, .inl b_a_all_m25)), ((am 26), .inr (8, [.ref a_all_m26, .int size_m26])), (a_all_m26, .inl (cI, n_a_all_m26, .inl b_a_all_m26)), ((am 27), .inr (8, [.ref a_all_m27, .int size_m27])), (a_all_m27, .inl (cI, n_a_all_m27, .inl b_a_all_m27)), ((am 28), .inr (8, [.ref a_all_m28, .int size_m28])), (a_all_m28, .inl (cI, n_a_all_m28, .inl b_a_all_m28)), ((am 29), .inr (8, [.ref a_all_m29, .int size_m29])), (a_all_m29, .inl (cI, n_a_all_m29, .inl b_a_all_m29)), ((am 30), .inr (8, [.ref a_all_m30, .int size_m30])), (a_all_m30, .inl (cI, n_a_all_m30, .inl b_a_all_m30)), ((am 31), .inr (8, [.ref a_all_m31, .int size_m31])), (a_all_m31, .inl (cI, n_a_all_m31, .inl b_a_all_m31)), ((am 34), .inr (8, [.ref a_all_m34, .int size_m34])), (a_all_m34, .inl (cI, n_a_all_m34, .inl b_a_all_m34)), ((am 33), .inr (8, [.ref a_all_m33, .int size_m33])), (a_all_m33, .inl (cI, n_a_all_m33, .inl b_a_all_m33))]) (cl' := 0) (sl' := 0) rfl rfl rfl rfl rfl rfl ?_
  unfold F_Mo_buildFunction at h
  have hC : 0 + mc ≤ mc := by omega
  have hS : 0 + ms ≤ ms := by omega
  refine j_aload_n d_Mo_buildFunction_0 rfl 0 rfl ?_
  refine j_iload_n d_Mo_buildFunction_1 rfl 2 rfl ?_
  replace h := bd_s h
  obtain ⟨r81, k82, h⟩ := h
  refine j_callV (n := 1) (As := [.int p2]) (rest := []) (wr := [((am 6), .inr (8, [.ref a_all_m6, .int size_m6])), (a_all_m6, .inl (cI, n_a_all_m6, .inl b_a_all_m6)), ((am 24), .inr (8, [.ref a_all_m24, .int size_m24])), (a_all_m24, .inl (cI, n_a_all_m24, .inl b_a_all_m24)), ((am 25), .inr (8, [.ref a_all_m25, .int size_m25])), (a_all_m25, .inl (cI, n_a_all_m25, .inl b_a_all_m25)), ((am 26), .inr (8, [.ref a_all_m26, .int size_m26])), (a_all_m26, .inl (cI, n_a_all_m26, .inl b_a_all_m26)), ((am 27), .inr (8, [.ref a_all_m27, .int size_m27])), (a_all_m27, .inl (cI, n_a_all_m27, .inl b_a_all_m27)), ((am 28), .inr (8, [.ref a_all_m28, .int size_m28])), (a_all_m28, .inl (cI, n_a_all_m28, .inl b_a_all_m28)), ((am 29), .inr (8, [.ref a_all_m29, .int size_m29])), (a_all_m29, .inl (cI, n_a_all_m29, .inl b_a_all_m29)), ((am 30), .inr (8, [.ref a_all_m30, .int size_m30])), (a_all_m30, .inl (cI, n_a_all_m30, .inl b_a_all_m30)), ((am 31), .inr (8, [.ref a_all_m31, .int size_m31])), (a_all_m31, .inl (cI, n_a_all_m31, .inl b_a_all_m31)), ((am 34), .inr (8, [.ref a_all_m34, .int size_m34])), (a_all_m34, .inl (cI, n_a_all_m34, .inl b_a_all_m34)), ((am 33), .inr (8, [.ref a_all_m33, .int size_m33])), (a_all_m33, .inl (cI, n_a_all_m33, .inl b_a_all_m33))]) (c_Mo_nameOf l D cI cB cJ cS h0 am a_all_m5 p2 known_h0 thrown_h0 wrong_h0 lastEnd_h0 at_h0 bad_h0 levels_h0 least_h0 found_h0 size_m5 n_a_all_m5 b_a_all_m5  r81 k82) k_Mo_448 (by decide) ⟨Nat.le_of_ble_eq_true rfl, Nat.le_of_ble_eq_true rfl⟩ rfl 0 rfl [0, 1, 2] [3, 4, 5, 6, 7, 8, 9, 10, 11, 12, 13, 14, 15, 16, 17, 18, 19, 20, 21, 22, 23, 24] rfl (by decide +kernel) rfl (by decide +kernel) (by decide +kernel) rfl rfl (Nat.le_of_ble_eq_true rfl) d_Mo_buildFunction_2 ⟨show 0 + 0 ≤ mc by omega, show 0 + 0 ≤ ms by omega⟩ (fun v w hq => ?_)
  obtain ⟨rfl, rfl⟩ := hq
  refine j_norm (pc' := 5) (st' := [.int r81]) (ws' := [((am 6), .inr (8, [.ref a_all_m6, .int size_m6])), (a_all_m6, .inl (cI, n_a_all_m6, .inl b_a_all_m6)), ((am 24), .inr (8, [.ref a_all_m24, .int size_m24])), (a_all_m24, .inl (cI, n_a_all_m24, .inl b_a_all_m24)), ((am 25), .inr (8, [.ref a_all_m25, .int size_m25])), (a_all_m25, .inl (cI, n_a_all_m25, .inl b_a_all_m25)), ((am 26), .inr (8, [.ref a_all_m26, .int size_m26])), (a_all_m26, .inl (cI, n_a_all_m26, .inl b_a_all_m26)), ((am 27), .inr (8, [.ref a_all_m27, .int size_m27])), (a_all_m27, .inl (cI, n_a_all_m27, .inl b_a_all_m27)), ((am 28), .inr (8, [.ref a_all_m28, .int size_m28])), (a_all_m28, .inl (cI, n_a_all_m28, .inl b_a_all_m28)), ((am 29), .inr (8, [.ref a_all_m29, .int size_m29])), (a_all_m29, .inl (cI, n_a_all_m29, .inl b_a_all_m29)), ((am 30), .inr (8, [.ref a_all_m30, .int size_m30])), (a_all_m30, .inl (cI, n_a_all_m30, .inl b_a_all_m30)), ((am 31), .inr (8, [.ref a_all_m31, .int size_m31])), (a_all_m31, .inl (cI, n_a_all_m31, .inl b_a_all_m31)), ((am 34), .inr (8, [.ref a_all_m34, .int size_m34])), (a_all_m34, .inl (cI, n_a_all_m34, .inl b_a_all_m34)), ((am 33), .inr (8, [.ref a_all_m33, .int size_m33])), (a_all_m33, .inl (cI, n_a_all_m33, .inl b_a_all_m33)), (h0, .inr (9, moF am known_h0 thrown_h0 wrong_h0 lastEnd_h0 at_h0 bad_h0 levels_h0 least_h0 found_h0)), ((am 5), .inr (8, [.ref a_all_m5, .int size_m5])), (a_all_m5, .inl (cI, n_a_all_m5, .inl b_a_all_m5))]) (cl' := 0) (sl' := 0) rfl rfl rfl rfl rfl rfl ?_
  refine j_istore (lv' := [(4, .int r81), (0, .ref h0), (1, .int p1), (2, .int p2), (3, .int p3)]) d_Mo_buildFunction_5 (by decide) rfl ?_
  refine j_aload_n d_Mo_buildFunction_7 rfl 1 rfl ?_
  refine j_iload_n d_Mo_buildFunction_8 rfl 2 rfl ?_
  refine j_iconst (v := 1) d_Mo_buildFunction_9 (by decide) ?_
  refine j_aload_n d_Mo_buildFunction_10 rfl 1 rfl ?_
  refine j_iload_n d_Mo_buildFunction_11 rfl 3 rfl ?_
  replace h := bd_s h
  obtain ⟨_, k83, h⟩ := h
  refine j_callV (n := 1) (As := [.int p2]) (rest := [.int 1, .int p1, .ref h0]) (wr := [((am 24), .inr (8, [.ref a_all_m24, .int size_m24])), (a_all_m24, .inl (cI, n_a_all_m24, .inl b_a_all_m24)), ((am 25), .inr (8, [.ref a_all_m25, .int size_m25])), (a_all_m25, .inl (cI, n_a_all_m25, .inl b_a_all_m25)), ((am 26), .inr (8, [.ref a_all_m26, .int size_m26])), (a_all_m26, .inl (cI, n_a_all_m26, .inl b_a_all_m26)), ((am 27), .inr (8, [.ref a_all_m27, .int size_m27])), (a_all_m27, .inl (cI, n_a_all_m27, .inl b_a_all_m27)), ((am 28), .inr (8, [.ref a_all_m28, .int size_m28])), (a_all_m28, .inl (cI, n_a_all_m28, .inl b_a_all_m28)), ((am 29), .inr (8, [.ref a_all_m29, .int size_m29])), (a_all_m29, .inl (cI, n_a_all_m29, .inl b_a_all_m29)), ((am 30), .inr (8, [.ref a_all_m30, .int size_m30])), (a_all_m30, .inl (cI, n_a_all_m30, .inl b_a_all_m30)), ((am 31), .inr (8, [.ref a_all_m31, .int size_m31])), (a_all_m31, .inl (cI, n_a_all_m31, .inl b_a_all_m31)), ((am 34), .inr (8, [.ref a_all_m34, .int size_m34])), (a_all_m34, .inl (cI, n_a_all_m34, .inl b_a_all_m34)), ((am 33), .inr (8, [.ref a_all_m33, .int size_m33])), (a_all_m33, .inl (cI, n_a_all_m33, .inl b_a_all_m33)), ((am 5), .inr (8, [.ref a_all_m5, .int size_m5])), (a_all_m5, .inl (cI, n_a_all_m5, .inl b_a_all_m5))]) (c_Mo_placeOf l D cI cB cJ cS h0 am a_all_m6 p2 known_h0 thrown_h0 wrong_h0 lastEnd_h0 at_h0 bad_h0 levels_h0 least_h0 found_h0 size_m6 n_a_all_m6 b_a_all_m6  k83) k_Mo_411 (by decide) ⟨Nat.le_of_ble_eq_true rfl, Nat.le_of_ble_eq_true rfl⟩ rfl 0 rfl [22, 0, 1] [2, 3, 4, 5, 6, 7, 8, 9, 10, 11, 12, 13, 14, 15, 16, 17, 18, 19, 20, 21, 23, 24] rfl (by decide +kernel) rfl (by decide +kernel) (by decide +kernel) rfl rfl (Nat.le_of_ble_eq_true rfl) d_Mo_buildFunction_12 ⟨show 0 + 0 ≤ mc by omega, show 0 + 0 ≤ ms by omega⟩ (fun v w hq => ?_)
  obtain ⟨rfl, rfl⟩ := hq
  refine j_norm (pc' := 15) (st' := [.int (b_a_all_m6 (Int32.toNatClampNeg p2)), .int 1, .int p1, .ref h0]) (ws' := [((am 24), .inr (8, [.ref a_all_m24, .int size_m24])), (a_all_m24, .inl (cI, n_a_all_m24, .inl b_a_all_m24)), ((am 25), .inr (8, [.ref a_all_m25, .int size_m25])), (a_all_m25, .inl (cI, n_a_all_m25, .inl b_a_all_m25)), ((am 26), .inr (8, [.ref a_all_m26, .int size_m26])), (a_all_m26, .inl (cI, n_a_all_m26, .inl b_a_all_m26)), ((am 27), .inr (8, [.ref a_all_m27, .int size_m27])), (a_all_m27, .inl (cI, n_a_all_m27, .inl b_a_all_m27)), ((am 28), .inr (8, [.ref a_all_m28, .int size_m28])), (a_all_m28, .inl (cI, n_a_all_m28, .inl b_a_all_m28)), ((am 29), .inr (8, [.ref a_all_m29, .int size_m29])), (a_all_m29, .inl (cI, n_a_all_m29, .inl b_a_all_m29)), ((am 30), .inr (8, [.ref a_all_m30, .int size_m30])), (a_all_m30, .inl (cI, n_a_all_m30, .inl b_a_all_m30)), ((am 31), .inr (8, [.ref a_all_m31, .int size_m31])), (a_all_m31, .inl (cI, n_a_all_m31, .inl b_a_all_m31)), ((am 34), .inr (8, [.ref a_all_m34, .int size_m34])), (a_all_m34, .inl (cI, n_a_all_m34, .inl b_a_all_m34)), ((am 33), .inr (8, [.ref a_all_m33, .int size_m33])), (a_all_m33, .inl (cI, n_a_all_m33, .inl b_a_all_m33)), ((am 5), .inr (8, [.ref a_all_m5, .int size_m5])), (a_all_m5, .inl (cI, n_a_all_m5, .inl b_a_all_m5)), (h0, .inr (9, moF am known_h0 thrown_h0 wrong_h0 lastEnd_h0 at_h0 bad_h0 levels_h0 least_h0 found_h0)), ((am 6), .inr (8, [.ref a_all_m6, .int size_m6])), (a_all_m6, .inl (cI, n_a_all_m6, .inl b_a_all_m6))]) (cl' := 0) (sl' := 0) rfl rfl rfl rfl rfl rfl ?_
  refine j_iconst (v := (-1)) d_Mo_buildFunction_15 (by decide) ?_
  refine j_iload d_Mo_buildFunction_16 0 rfl ?_
  replace h := bw_s h
  obtain ⟨⟨r84, r85, r86, r87, r88, r89, r90, r91, r92, r93, r94, r95, r96, r97, r98, r99, r100, r101, r102⟩, C111, S112, C113, S114, k115, h, e1, e2⟩ := h
  replace hC : 0 + C111 + C113 ≤ mc := by omega
  replace hS : 0 + S112 + S114 ≤ ms := by omega
  clear e1 e2
  refine j_callV (n := 5) (As := [.int p1, .int 1, .int (b_a_all_m6 (Int32.toNatClampNeg p2)), .int (-1), .int r81]) (rest := []) (wr := [((am 34), .inr (8, [.ref a_all_m34, .int size_m34])), (a_all_m34, .inl (cI, n_a_all_m34, .inl b_a_all_m34)), ((am 33), .inr (8, [.ref a_all_m33, .int size_m33])), (a_all_m33, .inl (cI, n_a_all_m33, .inl b_a_all_m33)), ((am 5), .inr (8, [.ref a_all_m5, .int size_m5])), (a_all_m5, .inl (cI, n_a_all_m5, .inl b_a_all_m5)), ((am 6), .inr (8, [.ref a_all_m6, .int size_m6])), (a_all_m6, .inl (cI, n_a_all_m6, .inl b_a_all_m6))]) (c_Mo_newNode l D cI cB cJ cS h0 am a_all_m24 a_all_m25 a_all_m26 a_all_m27 a_all_m28 a_all_m29 a_all_m30 a_all_m31 p1 1 (b_a_all_m6 (Int32.toNatClampNeg p2)) (-1) r81 known_h0 thrown_h0 wrong_h0 lastEnd_h0 at_h0 bad_h0 levels_h0 least_h0 found_h0 size_m24 n_a_all_m24 b_a_all_m24 size_m25 n_a_all_m25 b_a_all_m25 size_m26 n_a_all_m26 b_a_all_m26 size_m27 n_a_all_m27 b_a_all_m27 size_m28 n_a_all_m28 b_a_all_m28 size_m29 n_a_all_m29 b_a_all_m29 size_m30 n_a_all_m30 b_a_all_m30 size_m31 n_a_all_m31 b_a_all_m31  r84 r85 r86 r87 r88 r89 r90 r91 r92 r93 r94 r95 r96 r97 r98 r99 r100 r101 r102 C111 S112 k115) k_Mo_386 (by decide) ⟨Nat.le_of_ble_eq_true rfl, Nat.le_of_ble_eq_true rfl⟩ rfl 0 rfl [22, 0, 1, 2, 3, 4, 5, 6, 7, 8, 9, 10, 11, 12, 13, 14, 15] [16, 17, 18, 19, 20, 21, 23, 24] rfl (by decide +kernel) rfl (by decide +kernel) (by decide +kernel) rfl rfl (Nat.le_of_ble_eq_true rfl) d_Mo_buildFunction_18 ⟨show 0 + C111 ≤ mc by omega, show 0 + S112 ≤ ms by omega⟩ (fun v w hq => ?_)
  obtain ⟨q103, q104, q105, q106, q107, q108, q109, q110, rfl, rfl⟩ := hq
  refine j_norm (pc' := 21) (st' := [.int size_m24]) (ws' := [((am 34), .inr (8, [.ref a_all_m34, .int size_m34])), (a_all_m34, .inl (cI, n_a_all_m34, .inl b_a_all_m34)), ((am 33), .inr (8, [.ref a_all_m33, .int size_m33])), (a_all_m33, .inl (cI, n_a_all_m33, .inl b_a_all_m33)), ((am 5), .inr (8, [.ref a_all_m5, .int size_m5])), (a_all_m5, .inl (cI, n_a_all_m5, .inl b_a_all_m5)), ((am 6), .inr (8, [.ref a_all_m6, .int size_m6])), (a_all_m6, .inl (cI, n_a_all_m6, .inl b_a_all_m6)), (h0, .inr (9, moF am known_h0 thrown_h0 wrong_h0 lastEnd_h0 at_h0 bad_h0 levels_h0 least_h0 found_h0)), ((am 24), .inr (8, [.ref q103, .int (size_m24 + 1)])), ((am 25), .inr (8, [.ref q104, .int (size_m25 + 1)])), ((am 26), .inr (8, [.ref q105, .int (size_m26 + 1)])), ((am 27), .inr (8, [.ref q106, .int (size_m27 + 1)])), ((am 28), .inr (8, [.ref q107, .int r84])), ((am 29), .inr (8, [.ref q108, .int r85])), ((am 30), .inr (8, [.ref q109, .int r86])), ((am 31), .inr (8, [.ref q110, .int (size_m31 + 1)])), (q103, .inl (cI, r87, .inl r88)), (q104, .inl (cI, r89, .inl r90)), (q105, .inl (cI, r91, .inl r92)), (q106, .inl (cI, r93, .inl r94)), (q107, .inl (cI, r95, .inl r96)), (q108, .inl (cI, r97, .inl r98)), (q109, .inl (cI, r99, .inl r100)), (q110, .inl (cI, r101, .inl r102))]) (cl' := 0 + C111) (sl' := 0 + S112) rfl rfl rfl rfl rfl rfl ?_
  refine j_istore (lv' := [(5, .int size_m24), (4, .int r81), (0, .ref h0), (1, .int p1), (2, .int p2), (3, .int p3)]) d_Mo_buildFunction_21 (by decide) rfl ?_
  refine j_aload_n d_Mo_buildFunction_23 rfl 2 rfl ?_
  refine j_iload d_Mo_buildFunction_24 0 rfl ?_
  refine j_iconst (v := 2) d_Mo_buildFunction_26 (by decide) ?_
  refine j_aload_n d_Mo_buildFunction_27 rfl 2 rfl ?_
  refine j_iload d_Mo_buildFunction_28 1 rfl ?_
  replace h := bd_s h
  obtain ⟨_, k116, h⟩ := h
  refine j_callV (n := 1) (As := [.int r81]) (rest := [.int 2, .int size_m24, .ref h0]) (wr := [((am 34), .inr (8, [.ref a_all_m34, .int size_m34])), (a_all_m34, .inl (cI, n_a_all_m34, .inl b_a_all_m34)), ((am 33), .inr (8, [.ref a_all_m33, .int size_m33])), (a_all_m33, .inl (cI, n_a_all_m33, .inl b_a_all_m33)), ((am 5), .inr (8, [.ref a_all_m5, .int size_m5])), (a_all_m5, .inl (cI, n_a_all_m5, .inl b_a_all_m5)), ((am 24), .inr (8, [.ref q103, .int (size_m24 + 1)])), ((am 25), .inr (8, [.ref q104, .int (size_m25 + 1)])), ((am 26), .inr (8, [.ref q105, .int (size_m26 + 1)])), ((am 27), .inr (8, [.ref q106, .int (size_m27 + 1)])), ((am 28), .inr (8, [.ref q107, .int r84])), ((am 29), .inr (8, [.ref q108, .int r85])), ((am 30), .inr (8, [.ref q109, .int r86])), ((am 31), .inr (8, [.ref q110, .int (size_m31 + 1)])), (q103, .inl (cI, r87, .inl r88)), (q104, .inl (cI, r89, .inl r90)), (q105, .inl (cI, r91, .inl r92)), (q106, .inl (cI, r93, .inl r94)), (q107, .inl (cI, r95, .inl r96)), (q108, .inl (cI, r97, .inl r98)), (q109, .inl (cI, r99, .inl r100)), (q110, .inl (cI, r101, .inl r102))]) (c_Mo_placeOf l D cI cB cJ cS h0 am a_all_m6 r81 known_h0 thrown_h0 wrong_h0 lastEnd_h0 at_h0 bad_h0 levels_h0 least_h0 found_h0 size_m6 n_a_all_m6 b_a_all_m6  k116) k_Mo_411 (by decide) ⟨Nat.le_of_ble_eq_true rfl, Nat.le_of_ble_eq_true rfl⟩ rfl 0 rfl [8, 6, 7] [0, 1, 2, 3, 4, 5, 9, 10, 11, 12, 13, 14, 15, 16, 17, 18, 19, 20, 21, 22, 23, 24] rfl (by decide +kernel) rfl (by decide +kernel) (by decide +kernel) rfl rfl (Nat.le_of_ble_eq_true rfl) d_Mo_buildFunction_30 ⟨show 0 + C111 + 0 ≤ mc by omega, show 0 + S112 + 0 ≤ ms by omega⟩ (fun v w hq => ?_)
  obtain ⟨rfl, rfl⟩ := hq
  refine j_norm (pc' := 33) (st' := [.int (b_a_all_m6 (Int32.toNatClampNeg r81)), .int 2, .int size_m24, .ref h0]) (ws' := [((am 34), .inr (8, [.ref a_all_m34, .int size_m34])), (a_all_m34, .inl (cI, n_a_all_m34, .inl b_a_all_m34)), ((am 33), .inr (8, [.ref a_all_m33, .int size_m33])), (a_all_m33, .inl (cI, n_a_all_m33, .inl b_a_all_m33)), ((am 5), .inr (8, [.ref a_all_m5, .int size_m5])), (a_all_m5, .inl (cI, n_a_all_m5, .inl b_a_all_m5)), ((am 24), .inr (8, [.ref q103, .int (size_m24 + 1)])), ((am 25), .inr (8, [.ref q104, .int (size_m25 + 1)])), ((am 26), .inr (8, [.ref q105, .int (size_m26 + 1)])), ((am 27), .inr (8, [.ref q106, .int (size_m27 + 1)])), ((am 28), .inr (8, [.ref q107, .int r84])), ((am 29), .inr (8, [.ref q108, .int r85])), ((am 30), .inr (8, [.ref q109, .int r86])), ((am 31), .inr (8, [.ref q110, .int (size_m31 + 1)])), (q103, .inl (cI, r87, .inl r88)), (q104, .inl (cI, r89, .inl r90)), (q105, .inl (cI, r91, .inl r92)), (q106, .inl (cI, r93, .inl r94)), (q107, .inl (cI, r95, .inl r96)), (q108, .inl (cI, r97, .inl r98)), (q109, .inl (cI, r99, .inl r100)), (q110, .inl (cI, r101, .inl r102)), (h0, .inr (9, moF am known_h0 thrown_h0 wrong_h0 lastEnd_h0 at_h0 bad_h0 levels_h0 least_h0 found_h0)), ((am 6), .inr (8, [.ref a_all_m6, .int size_m6])), (a_all_m6, .inl (cI, n_a_all_m6, .inl b_a_all_m6))]) (cl' := 0 + C111) (sl' := 0 + S112) rfl rfl rfl rfl rfl rfl ?_
  refine j_iconst (v := (-1)) d_Mo_buildFunction_33 (by decide) ?_
  refine j_iconst (v := (-1)) d_Mo_buildFunction_34 (by decide) ?_
  replace h := bw_s h
  obtain ⟨⟨r117, r118, r119, r120, r121, r122, r123, r124, r125, r126, r127, r128, r129, r130, r131, r132, r133, r134, r135⟩, C144, S145, C146, S147, k148, h, e1, e2⟩ := h
  replace hC : 0 + C111 + C144 + C146 ≤ mc := by omega
  replace hS : 0 + S112 + S145 + S147 ≤ ms := by omega
  clear e1 e2
  refine j_callV (n := 5) (As := [.int size_m24, .int 2, .int (b_a_all_m6 (Int32.toNatClampNeg r81)), .int (-1), .int (-1)]) (rest := []) (wr := [((am 34), .inr (8, [.ref a_all_m34, .int size_m34])), (a_all_m34, .inl (cI, n_a_all_m34, .inl b_a_all_m34)), ((am 33), .inr (8, [.ref a_all_m33, .int size_m33])), (a_all_m33, .inl (cI, n_a_all_m33, .inl b_a_all_m33)), ((am 5), .inr (8, [.ref a_all_m5, .int size_m5])), (a_all_m5, .inl (cI, n_a_all_m5, .inl b_a_all_m5)), ((am 6), .inr (8, [.ref a_all_m6, .int size_m6])), (a_all_m6, .inl (cI, n_a_all_m6, .inl b_a_all_m6))]) (c_Mo_newNode l D cI cB cJ cS h0 am q103 q104 q105 q106 q107 q108 q109 q110 size_m24 2 (b_a_all_m6 (Int32.toNatClampNeg r81)) (-1) (-1) known_h0 thrown_h0 wrong_h0 lastEnd_h0 at_h0 bad_h0 levels_h0 least_h0 found_h0 (size_m24 + 1) r87 r88 (size_m25 + 1) r89 r90 (size_m26 + 1) r91 r92 (size_m27 + 1) r93 r94 r84 r95 r96 r85 r97 r98 r86 r99 r100 (size_m31 + 1) r101 r102  r117 r118 r119 r120 r121 r122 r123 r124 r125 r126 r127 r128 r129 r130 r131 r132 r133 r134 r135 C144 S145 k148) k_Mo_386 (by decide) ⟨Nat.le_of_ble_eq_true rfl, Nat.le_of_ble_eq_true rfl⟩ rfl 0 rfl [22, 6, 14, 7, 15, 8, 16, 9, 17, 10, 18, 11, 19, 12, 20, 13, 21] [0, 1, 2, 3, 4, 5, 23, 24] rfl (by decide +kernel) rfl (by decide +kernel) (by decide +kernel) rfl rfl (Nat.le_of_ble_eq_true rfl) d_Mo_buildFunction_35 ⟨show 0 + C111 + C144 ≤ mc by omega, show 0 + S112 + S145 ≤ ms by omega⟩ (fun v w hq => ?_)
  obtain ⟨q136, q137, q138, q139, q140, q141, q142, q143, rfl, rfl⟩ := hq
  refine j_norm (pc' := 38) (st' := [.int (size_m24 + 1)]) (ws' := [((am 34), .inr (8, [.ref a_all_m34, .int size_m34])), (a_all_m34, .inl (cI, n_a_all_m34, .inl b_a_all_m34)), ((am 33), .inr (8, [.ref a_all_m33, .int size_m33])), (a_all_m33, .inl (cI, n_a_all_m33, .inl b_a_all_m33)), ((am 5), .inr (8, [.ref a_all_m5, .int size_m5])), (a_all_m5, .inl (cI, n_a_all_m5, .inl b_a_all_m5)), ((am 6), .inr (8, [.ref a_all_m6, .int size_m6])), (a_all_m6, .inl (cI, n_a_all_m6, .inl b_a_all_m6)), (h0, .inr (9, moF am known_h0 thrown_h0 wrong_h0 lastEnd_h0 at_h0 bad_h0 levels_h0 least_h0 found_h0)), ((am 24), .inr (8, [.ref q136, .int ((size_m24 + 1) + 1)])), ((am 25), .inr (8, [.ref q137, .int ((size_m25 + 1) + 1)])), ((am 26), .inr (8, [.ref q138, .int ((size_m26 + 1) + 1)])), ((am 27), .inr (8, [.ref q139, .int ((size_m27 + 1) + 1)])), ((am 28), .inr (8, [.ref q140, .int r117])), ((am 29), .inr (8, [.ref q141, .int r118])), ((am 30), .inr (8, [.ref q142, .int r119])), ((am 31), .inr (8, [.ref q143, .int ((size_m31 + 1) + 1)])), (q136, .inl (cI, r120, .inl r121)), (q137, .inl (cI, r122, .inl r123)), (q138, .inl (cI, r124, .inl r125)), (q139, .inl (cI, r126, .inl r127)), (q140, .inl (cI, r128, .inl r129)), (q141, .inl (cI, r130, .inl r131)), (q142, .inl (cI, r132, .inl r133)), (q143, .inl (cI, r134, .inl r135))]) (cl' := 0 + C111 + C144) (sl' := 0 + S112 + S145) rfl rfl rfl rfl rfl rfl ?_
  refine j_istore (lv' := [(6, .int (size_m24 + 1)), (5, .int size_m24), (4, .int r81), (0, .ref h0), (1, .int p1), (2, .int p2), (3, .int p3)]) d_Mo_buildFunction_38 (by decide) rfl ?_
  refine j_aload_n d_Mo_buildFunction_40 rfl 3 rfl ?_
  refine j_get ig_Mo rfl 8 rfl 5 (by decide) rfl m_1118 rfl d_Mo_buildFunction_41 ?_
  refine j_iload_n d_Mo_buildFunction_44 rfl 5 rfl ?_
  refine j_iconst (v := 1) d_Mo_buildFunction_45 (by decide) ?_
  refine j_iadd d_Mo_buildFunction_46 ?_
  replace h := bd_s h
  obtain ⟨_, k149, h⟩ := h
  refine j_callV (n := 1) (As := [.int (p2 + 1)]) (rest := []) (wr := [((am 34), .inr (8, [.ref a_all_m34, .int size_m34])), (a_all_m34, .inl (cI, n_a_all_m34, .inl b_a_all_m34)), ((am 33), .inr (8, [.ref a_all_m33, .int size_m33])), (a_all_m33, .inl (cI, n_a_all_m33, .inl b_a_all_m33)), ((am 6), .inr (8, [.ref a_all_m6, .int size_m6])), (a_all_m6, .inl (cI, n_a_all_m6, .inl b_a_all_m6)), (h0, .inr (9, moF am known_h0 thrown_h0 wrong_h0 lastEnd_h0 at_h0 bad_h0 levels_h0 least_h0 found_h0)), ((am 24), .inr (8, [.ref q136, .int ((size_m24 + 1) + 1)])), ((am 25), .inr (8, [.ref q137, .int ((size_m25 + 1) + 1)])), ((am 26), .inr (8, [.ref q138, .int ((size_m26 + 1) + 1)])), ((am 27), .inr (8, [.ref q139, .int ((size_m27 + 1) + 1)])), ((am 28), .inr (8, [.ref q140, .int r117])), ((am 29), .inr (8, [.ref q141, .int r118])), ((am 30), .inr (8, [.ref q142, .int r119])), ((am 31), .inr (8, [.ref q143, .int ((size_m31 + 1) + 1)])), (q136, .inl (cI, r120, .inl r121)), (q137, .inl (cI, r122, .inl r123)), (q138, .inl (cI, r124, .inl r125)), (q139, .inl (cI, r126, .inl r127)), (q140, .inl (cI, r128, .inl r129)), (q141, .inl (cI, r130, .inl r131)), (q142, .inl (cI, r132, .inl r133)), (q143, .inl (cI, r134, .inl r135))]) (c_Nm_at l D cI cB cJ cS (am 5) a_all_m5 (p2 + 1) size_m5 n_a_all_m5 b_a_all_m5  k149) k_Mo_214 (by decide) ⟨Nat.le_of_ble_eq_true rfl, Nat.le_of_ble_eq_true rfl⟩ rfl 0 rfl [4, 5] [0, 1, 2, 3, 6, 7, 8, 9, 10, 11, 12, 13, 14, 15, 16, 17, 18, 19, 20, 21, 22, 23, 24] rfl (by decide +kernel) rfl (by decide +kernel) (by decide +kernel) rfl rfl (Nat.le_of_ble_eq_true rfl) d_Mo_buildFunction_47 ⟨show 0 + C111 + C144 + 0 ≤ mc by omega, show 0 + S112 + S145 + 0 ≤ ms by omega⟩ (fun v w hq => ?_)
  obtain ⟨rfl, rfl⟩ := hq
  refine j_norm (pc' := 50) (st' := [.int (b_a_all_m5 (Int32.toNatClampNeg (p2 + 1)))]) (ws' := [((am 34), .inr (8, [.ref a_all_m34, .int size_m34])), (a_all_m34, .inl (cI, n_a_all_m34, .inl b_a_all_m34)), ((am 33), .inr (8, [.ref a_all_m33, .int size_m33])), (a_all_m33, .inl (cI, n_a_all_m33, .inl b_a_all_m33)), ((am 6), .inr (8, [.ref a_all_m6, .int size_m6])), (a_all_m6, .inl (cI, n_a_all_m6, .inl b_a_all_m6)), (h0, .inr (9, moF am known_h0 thrown_h0 wrong_h0 lastEnd_h0 at_h0 bad_h0 levels_h0 least_h0 found_h0)), ((am 24), .inr (8, [.ref q136, .int ((size_m24 + 1) + 1)])), ((am 25), .inr (8, [.ref q137, .int ((size_m25 + 1) + 1)])), ((am 26), .inr (8, [.ref q138, .int ((size_m26 + 1) + 1)])), ((am 27), .inr (8, [.ref q139, .int ((size_m27 + 1) + 1)])), ((am 28), .inr (8, [.ref q140, .int r117])), ((am 29), .inr (8, [.ref q141, .int r118])), ((am 30), .inr (8, [.ref q142, .int r119])), ((am 31), .inr (8, [.ref q143, .int ((size_m31 + 1) + 1)])), (q136, .inl (cI, r120, .inl r121)), (q137, .inl (cI, r122, .inl r123)), (q138, .inl (cI, r124, .inl r125)), (q139, .inl (cI, r126, .inl r127)), (q140, .inl (cI, r128, .inl r129)), (q141, .inl (cI, r130, .inl r131)), (q142, .inl (cI, r132, .inl r133)), (q143, .inl (cI, r134, .inl r135)), ((am 5), .inr (8, [.ref a_all_m5, .int size_m5])), (a_all_m5, .inl (cI, n_a_all_m5, .inl b_a_all_m5))]) (cl' := 0 + C111 + C144) (sl' := 0 + S112 + S145) rfl rfl rfl rfl rfl rfl ?_
  refine j_bipush (v := 52) d_Mo_buildFunction_50 (by decide) ?_
  refine j_icmp_ne (tgt := 103) d_Mo_buildFunction_52 (by decide) (fun c150 => ?_) (fun c150 => ?_)
  · replace h := it_f c150 h
    refine j_aload_n d_Mo_buildFunction_103 rfl 3 rfl ?_
    refine j_iload d_Mo_buildFunction_104 0 rfl ?_
    refine j_iload_n d_Mo_buildFunction_106 rfl 5 rfl ?_
    refine j_iconst (v := 1) d_Mo_buildFunction_107 (by decide) ?_
    refine j_iadd d_Mo_buildFunction_108 ?_
    refine j_iload d_Mo_buildFunction_109 2 rfl ?_
    refine j_iconst (v := 1) d_Mo_buildFunction_111 (by decide) ?_
    refine j_isub d_Mo_buildFunction_112 ?_
    replace h := bw_s h
    obtain ⟨⟨r151, r152, r153, r154, r155, r156, r157, r158, r159, r160, r161, r162, r163, r164, r165, r166, r167, r168, r169, r170, r171, r172, r173, r174⟩, C183, S184, C185, S186, k187, h, e1, e2⟩ := h
    replace hC : 0 + C111 + C144 + C183 + C185 ≤ mc := by omega
    replace hS : 0 + S112 + S145 + S184 + S186 ≤ ms := by omega
    clear e1 e2
    refine j_callV (n := 3) (As := [.int (size_m24 + 1), .int (p2 + 1), .int (r81 - 1)]) (rest := []) (wr := [((am 34), .inr (8, [.ref a_all_m34, .int size_m34])), (a_all_m34, .inl (cI, n_a_all_m34, .inl b_a_all_m34)), ((am 33), .inr (8, [.ref a_all_m33, .int size_m33])), (a_all_m33, .inl (cI, n_a_all_m33, .inl b_a_all_m33))]) (c_Mo_nameNodes l D cI cB cJ cS h0 am a_all_m5 a_all_m6 q136 q137 q138 q139 q140 q141 q142 q143 (size_m24 + 1) (p2 + 1) (r81 - 1) known_h0 thrown_h0 wrong_h0 lastEnd_h0 at_h0 bad_h0 levels_h0 least_h0 found_h0 size_m5 n_a_all_m5 b_a_all_m5 size_m6 n_a_all_m6 b_a_all_m6 ((size_m24 + 1) + 1) r120 r121 ((size_m25 + 1) + 1) r122 r123 ((size_m26 + 1) + 1) r124 r125 ((size_m27 + 1) + 1) r126 r127 r117 r128 r129 r118 r130 r131 r119 r132 r133 ((size_m31 + 1) + 1) r134 r135  r151 r152 r153 r154 r155 r156 r157 r158 r159 r160 r161 r162 r163 r164 r165 r166 r167 r168 r169 r170 r171 r172 r173 r174 C183 S184 k187) k_Mo_445 (by decide) ⟨Nat.le_of_ble_eq_true rfl, Nat.le_of_ble_eq_true rfl⟩ rfl 0 rfl [6, 23, 24, 4, 5, 7, 15, 8, 16, 9, 17, 10, 18, 11, 19, 12, 20, 13, 21, 14, 22] [0, 1, 2, 3] rfl (by decide +kernel) rfl (by decide +kernel) (by decide +kernel) rfl rfl (Nat.le_of_ble_eq_true rfl) d_Mo_buildFunction_113 ⟨show 0 + C111 + C144 + C183 ≤ mc by omega, show 0 + S112 + S145 + S184 ≤ ms by omega⟩ (fun v w hq => ?_)
    obtain ⟨q175, q176, q177, q178, q179, q180, q181, q182, rfl, rfl⟩ := hq
    refine j_norm (pc' := 116) (st' := []) (ws' := [((am 34), .inr (8, [.ref a_all_m34, .int size_m34])), (a_all_m34, .inl (cI, n_a_all_m34, .inl b_a_all_m34)), ((am 33), .inr (8, [.ref a_all_m33, .int size_m33])), (a_all_m33, .inl (cI, n_a_all_m33, .inl b_a_all_m33)), (h0, .inr (9, moF am known_h0 thrown_h0 wrong_h0 lastEnd_h0 at_h0 bad_h0 levels_h0 least_h0 found_h0)), ((am 5), .inr (8, [.ref a_all_m5, .int size_m5])), (a_all_m5, .inl (cI, n_a_all_m5, .inl b_a_all_m5)), ((am 6), .inr (8, [.ref a_all_m6, .int size_m6])), (a_all_m6, .inl (cI, n_a_all_m6, .inl b_a_all_m6)), ((am 24), .inr (8, [.ref q175, .int r151])), ((am 25), .inr (8, [.ref q176, .int r152])), ((am 26), .inr (8, [.ref q177, .int r153])), ((am 27), .inr (8, [.ref q178, .int r154])), ((am 28), .inr (8, [.ref q179, .int r155])), ((am 29), .inr (8, [.ref q180, .int r156])), ((am 30), .inr (8, [.ref q181, .int r157])), ((am 31), .inr (8, [.ref q182, .int r158])), (q175, .inl (cI, r159, .inl r160)), (q176, .inl (cI, r161, .inl r162)), (q177, .inl (cI, r163, .inl r164)), (q178, .inl (cI, r165, .inl r166)), (q179, .inl (cI, r167, .inl r168)), (q180, .inl (cI, r169, .inl r170)), (q181, .inl (cI, r171, .inl r172)), (q182, .inl (cI, r173, .inl r174))]) (cl' := 0 + C111 + C144 + C183) (sl' := 0 + S112 + S145 + S184) rfl rfl rfl rfl rfl rfl ?_
    refine j_sub (w := [((am 34), .inr (8, [.ref a_all_m34, .int size_m34])), (a_all_m34, .inl (cI, n_a_all_m34, .inl b_a_all_m34)), ((am 33), .inr (8, [.ref a_all_m33, .int size_m33])), (a_all_m33, .inl (cI, n_a_all_m33, .inl b_a_all_m33)), (h0, .inr (9, moF am known_h0 thrown_h0 wrong_h0 lastEnd_h0 at_h0 bad_h0 levels_h0 least_h0 found_h0)), ((am 5), .inr (8, [.ref a_all_m5, .int size_m5])), (a_all_m5, .inl (cI, n_a_all_m5, .inl b_a_all_m5)), ((am 6), .inr (8, [.ref a_all_m6, .int size_m6])), (a_all_m6, .inl (cI, n_a_all_m6, .inl b_a_all_m6)), ((am 24), .inr (8, [.ref q175, .int r151])), ((am 25), .inr (8, [.ref q176, .int r152])), ((am 26), .inr (8, [.ref q177, .int r153])), ((am 27), .inr (8, [.ref q178, .int r154])), ((am 28), .inr (8, [.ref q179, .int r155])), ((am 29), .inr (8, [.ref q180, .int r156])), ((am 30), .inr (8, [.ref q181, .int r157])), ((am 31), .inr (8, [.ref q182, .int r158])), (q175, .inl (cI, r159, .inl r160)), (q176, .inl (cI, r161, .inl r162)), (q177, .inl (cI, r163, .inl r164)), (q178, .inl (cI, r165, .inl r166)), (q179, .inl (cI, r167, .inl r168)), (q180, .inl (cI, r169, .inl r170)), (q181, .inl (cI, r171, .inl r172)), (q182, .inl (cI, r173, .inl r174))]) (lv' := [(6, .int (size_m24 + 1)), (5, .int size_m24), (4, .int r81), (0, .ref h0), (1, .int p1), (2, .int p2), (3, .int p3)]) [0, 1, 2, 3, 4, 5, 6, 7, 8, 9, 10, 11, 12, 13, 14, 15, 16, 17, 18, 19, 20, 21, 22, 23, 24] rfl (by decide +kernel) [0, 1, 2, 3, 4, 5, 6] rfl ?_
    exact L_Mo_buildFunction_116 l D cI cB cJ cS h0 am a_all_m5 a_all_m6 a_all_m24 a_all_m25 a_all_m26 a_all_m27 a_all_m28 a_all_m29 a_all_m30 a_all_m31 a_all_m34 a_all_m33 p1 p2 p3 known_h0 thrown_h0 wrong_h0 lastEnd_h0 at_h0 bad_h0 levels_h0 least_h0 found_h0 size_m5 n_a_all_m5 b_a_all_m5 size_m6 n_a_all_m6 b_a_all_m6 size_m24 n_a_all_m24 b_a_all_m24 size_m25 n_a_all_m25 b_a_all_m25 size_m26 n_a_all_m26 b_a_all_m26 size_m27 n_a_all_m27 b_a_all_m27 size_m28 n_a_all_m28 b_a_all_m28 size_m29 n_a_all_m29 b_a_all_m29 size_m30 n_a_all_m30 b_a_all_m30 size_m31 n_a_all_m31 b_a_all_m31 size_m34 n_a_all_m34 b_a_all_m34 size_m33 n_a_all_m33 b_a_all_m33 o_5_1 o_7_1 o_9_1 o_11_1 o_13_1 o_15_1 o_17_1 o_19_1 ob_22 on_nq_5_0 ob_nq_5_0 on_nq_7_0 ob_nq_7_0 on_nq_9_0 ob_nq_9_0 on_nq_11_0 ob_nq_11_0 on_nq_13_0 ob_nq_13_0 on_nq_15_0 ob_nq_15_0 on_nq_17_0 ob_nq_17_0 on_nq_19_0 ob_nq_19_0 on_nq_23_0 ob_nq_23_0 mc ms p e s m below meth c hr hnm q175 q176 q177 q178 q179 q180 q181 q182 r81 b_a_all_m34 r151 r152 r153 r154 r155 r156 r157 r158 r159 r160 r161 r162 r163 r164 r165 r166 r167 r168 r169 r170 r171 r172 r173 r174 (0 + C111 + C144 + C183) (0 + S112 + S145 + S184) C185 S186 h hC hS
  · replace h := it_t c150 h
    refine j_aload_n d_Mo_buildFunction_55 rfl 3 rfl ?_
    refine j_iload d_Mo_buildFunction_56 0 rfl ?_
    refine j_iload_n d_Mo_buildFunction_58 rfl 5 rfl ?_
    refine j_iconst (v := 2) d_Mo_buildFunction_59 (by decide) ?_
    refine j_iadd d_Mo_buildFunction_60 ?_
    refine j_iload d_Mo_buildFunction_61 2 rfl ?_
    refine j_iconst (v := 2) d_Mo_buildFunction_63 (by decide) ?_
    refine j_isub d_Mo_buildFunction_64 ?_
    replace h := bw_s h
    obtain ⟨⟨r188, r189, r190, r191, r192, r193, r194, r195, r196, r197, r198, r199, r200, r201, r202, r203, r204, r205, r206, r207, r208, r209, r210, r211⟩, C220, S221, C222, S223, k224, h, e1, e2⟩ := h
    replace hC : 0 + C111 + C144 + C220 + C222 ≤ mc := by omega
    replace hS : 0 + S112 + S145 + S221 + S223 ≤ ms := by omega
    clear e1 e2
    refine j_callV (n := 3) (As := [.int (size_m24 + 1), .int (p2 + 2), .int (r81 - 2)]) (rest := []) (wr := [((am 34), .inr (8, [.ref a_all_m34, .int size_m34])), (a_all_m34, .inl (cI, n_a_all_m34, .inl b_a_all_m34)), ((am 33), .inr (8, [.ref a_all_m33, .int size_m33])), (a_all_m33, .inl (cI, n_a_all_m33, .inl b_a_all_m33))]) (c_Mo_nameNodes l D cI cB cJ cS h0 am a_all_m5 a_all_m6 q136 q137 q138 q139 q140 q141 q142 q143 (size_m24 + 1) (p2 + 2) (r81 - 2) known_h0 thrown_h0 wrong_h0 lastEnd_h0 at_h0 bad_h0 levels_h0 least_h0 found_h0 size_m5 n_a_all_m5 b_a_all_m5 size_m6 n_a_all_m6 b_a_all_m6 ((size_m24 + 1) + 1) r120 r121 ((size_m25 + 1) + 1) r122 r123 ((size_m26 + 1) + 1) r124 r125 ((size_m27 + 1) + 1) r126 r127 r117 r128 r129 r118 r130 r131 r119 r132 r133 ((size_m31 + 1) + 1) r134 r135  r188 r189 r190 r191 r192 r193 r194 r195 r196 r197 r198 r199 r200 r201 r202 r203 r204 r205 r206 r207 r208 r209 r210 r211 C220 S221 k224) k_Mo_445 (by decide) ⟨Nat.le_of_ble_eq_true rfl, Nat.le_of_ble_eq_true rfl⟩ rfl 0 rfl [6, 23, 24, 4, 5, 7, 15, 8, 16, 9, 17, 10, 18, 11, 19, 12, 20, 13, 21, 14, 22] [0, 1, 2, 3] rfl (by decide +kernel) rfl (by decide +kernel) (by decide +kernel) rfl rfl (Nat.le_of_ble_eq_true rfl) d_Mo_buildFunction_65 ⟨show 0 + C111 + C144 + C220 ≤ mc by omega, show 0 + S112 + S145 + S221 ≤ ms by omega⟩ (fun v w hq => ?_)
    obtain ⟨q212, q213, q214, q215, q216, q217, q218, q219, rfl, rfl⟩ := hq
    refine j_norm (pc' := 68) (st' := []) (ws' := [((am 34), .inr (8, [.ref a_all_m34, .int size_m34])), (a_all_m34, .inl (cI, n_a_all_m34, .inl b_a_all_m34)), ((am 33), .inr (8, [.ref a_all_m33, .int size_m33])), (a_all_m33, .inl (cI, n_a_all_m33, .inl b_a_all_m33)), (h0, .inr (9, moF am known_h0 thrown_h0 wrong_h0 lastEnd_h0 at_h0 bad_h0 levels_h0 least_h0 found_h0)), ((am 5), .inr (8, [.ref a_all_m5, .int size_m5])), (a_all_m5, .inl (cI, n_a_all_m5, .inl b_a_all_m5)), ((am 6), .inr (8, [.ref a_all_m6, .int size_m6])), (a_all_m6, .inl (cI, n_a_all_m6, .inl b_a_all_m6)), ((am 24), .inr (8, [.ref q212, .int r188])), ((am 25), .inr (8, [.ref q213, .int r189])), ((am 26), .inr (8, [.ref q214, .int r190])), ((am 27), .inr (8, [.ref q215, .int r191])), ((am 28), .inr (8, [.ref q216, .int r192])), ((am 29), .inr (8, [.ref q217, .int r193])), ((am 30), .inr (8, [.ref q218, .int r194])), ((am 31), .inr (8, [.ref q219, .int r195])), (q212, .inl (cI, r196, .inl r197)), (q213, .inl (cI, r198, .inl r199)), (q214, .inl (cI, r200, .inl r201)), (q215, .inl (cI, r202, .inl r203)), (q216, .inl (cI, r204, .inl r205)), (q217, .inl (cI, r206, .inl r207)), (q218, .inl (cI, r208, .inl r209)), (q219, .inl (cI, r210, .inl r211))]) (cl' := 0 + C111 + C144 + C220) (sl' := 0 + S112 + S145 + S221) rfl rfl rfl rfl rfl rfl ?_
    refine j_iload d_Mo_buildFunction_68 2 rfl ?_
    refine j_iload_n d_Mo_buildFunction_70 rfl 5 rfl ?_
    refine j_iconst (v := 5) d_Mo_buildFunction_71 (by decide) ?_
    refine j_iadd d_Mo_buildFunction_72 ?_
    refine j_icmp_ne (tgt := 116) d_Mo_buildFunction_73 (by decide) (fun c225 => ?_) (fun c225 => ?_)
    · replace h := it_f c225 h
      refine j_sub (w := [((am 34), .inr (8, [.ref a_all_m34, .int size_m34])), (a_all_m34, .inl (cI, n_a_all_m34, .inl b_a_all_m34)), ((am 33), .inr (8, [.ref a_all_m33, .int size_m33])), (a_all_m33, .inl (cI, n_a_all_m33, .inl b_a_all_m33)), (h0, .inr (9, moF am known_h0 thrown_h0 wrong_h0 lastEnd_h0 at_h0 bad_h0 levels_h0 least_h0 found_h0)), ((am 5), .inr (8, [.ref a_all_m5, .int size_m5])), (a_all_m5, .inl (cI, n_a_all_m5, .inl b_a_all_m5)), ((am 6), .inr (8, [.ref a_all_m6, .int size_m6])), (a_all_m6, .inl (cI, n_a_all_m6, .inl b_a_all_m6)), ((am 24), .inr (8, [.ref q212, .int r188])), ((am 25), .inr (8, [.ref q213, .int r189])), ((am 26), .inr (8, [.ref q214, .int r190])), ((am 27), .inr (8, [.ref q215, .int r191])), ((am 28), .inr (8, [.ref q216, .int r192])), ((am 29), .inr (8, [.ref q217, .int r193])), ((am 30), .inr (8, [.ref q218, .int r194])), ((am 31), .inr (8, [.ref q219, .int r195])), (q212, .inl (cI, r196, .inl r197)), (q213, .inl (cI, r198, .inl r199)), (q214, .inl (cI, r200, .inl r201)), (q215, .inl (cI, r202, .inl r203)), (q216, .inl (cI, r204, .inl r205)), (q217, .inl (cI, r206, .inl r207)), (q218, .inl (cI, r208, .inl r209)), (q219, .inl (cI, r210, .inl r211))]) (lv' := [(6, .int (size_m24 + 1)), (5, .int size_m24), (4, .int r81), (0, .ref h0), (1, .int p1), (2, .int p2), (3, .int p3)]) [0, 1, 2, 3, 4, 5, 6, 7, 8, 9, 10, 11, 12, 13, 14, 15, 16, 17, 18, 19, 20, 21, 22, 23, 24] rfl (by decide +kernel) [0, 1, 2, 3, 4, 5, 6] rfl ?_
      exact L_Mo_buildFunction_116 l D cI cB cJ cS h0 am a_all_m5 a_all_m6 a_all_m24 a_all_m25 a_all_m26 a_all_m27 a_all_m28 a_all_m29 a_all_m30 a_all_m31 a_all_m34 a_all_m33 p1 p2 p3 known_h0 thrown_h0 wrong_h0 lastEnd_h0 at_h0 bad_h0 levels_h0 least_h0 found_h0 size_m5 n_a_all_m5 b_a_all_m5 size_m6 n_a_all_m6 b_a_all_m6 size_m24 n_a_all_m24 b_a_all_m24 size_m25 n_a_all_m25 b_a_all_m25 size_m26 n_a_all_m26 b_a_all_m26 size_m27 n_a_all_m27 b_a_all_m27 size_m28 n_a_all_m28 b_a_all_m28 size_m29 n_a_all_m29 b_a_all_m29 size_m30 n_a_all_m30 b_a_all_m30 size_m31 n_a_all_m31 b_a_all_m31 size_m34 n_a_all_m34 b_a_all_m34 size_m33 n_a_all_m33 b_a_all_m33 o_5_1 o_7_1 o_9_1 o_11_1 o_13_1 o_15_1 o_17_1 o_19_1 ob_22 on_nq_5_0 ob_nq_5_0 on_nq_7_0 ob_nq_7_0 on_nq_9_0 ob_nq_9_0 on_nq_11_0 ob_nq_11_0 on_nq_13_0 ob_nq_13_0 on_nq_15_0 ob_nq_15_0 on_nq_17_0 ob_nq_17_0 on_nq_19_0 ob_nq_19_0 on_nq_23_0 ob_nq_23_0 mc ms p e s m below meth c hr hnm q212 q213 q214 q215 q216 q217 q218 q219 r81 b_a_all_m34 r188 r189 r190 r191 r192 r193 r194 r195 r196 r197 r198 r199 r200 r201 r202 r203 r204 r205 r206 r207 r208 r209 r210 r211 (0 + C111 + C144 + C220) (0 + S112 + S145 + S221) C222 S223 h hC hS
    · replace h := it_t c225 h
      refine j_aload_n d_Mo_buildFunction_76 rfl 3 rfl ?_
      refine j_get ig_Mo rfl 4 rfl 34 (by decide) rfl m_1147 rfl d_Mo_buildFunction_77 ?_
      refine j_getN ig_Nm rfl 0 rfl 0 (by decide) rfl mn_12 rfl d_Mo_buildFunction_80 ?_
      refine j_iload_n d_Mo_buildFunction_83 rfl 5 rfl ?_
      refine j_iconst (v := 1) d_Mo_buildFunction_84 (by decide) ?_
      refine j_iadd d_Mo_buildFunction_85 ?_
      refine j_iconst (v := 1) d_Mo_buildFunction_86 (by decide) ?_
      replace h := inb_s h
      obtain ⟨i226, h⟩ := h
      refine j_iast (t0 := 0) (ws' := [((am 34), .inr (8, [.ref a_all_m34, .int size_m34])), (a_all_m34, .inl (cI, n_a_all_m34, .inl (upd b_a_all_m34 (Int32.toNatClampNeg (p2 + 1)) 1))), ((am 33), .inr (8, [.ref a_all_m33, .int size_m33])), (a_all_m33, .inl (cI, n_a_all_m33, .inl b_a_all_m33)), (h0, .inr (9, moF am known_h0 thrown_h0 wrong_h0 lastEnd_h0 at_h0 bad_h0 levels_h0 least_h0 found_h0)), ((am 5), .inr (8, [.ref a_all_m5, .int size_m5])), (a_all_m5, .inl (cI, n_a_all_m5, .inl b_a_all_m5)), ((am 6), .inr (8, [.ref a_all_m6, .int size_m6])), (a_all_m6, .inl (cI, n_a_all_m6, .inl b_a_all_m6)), ((am 24), .inr (8, [.ref q212, .int r188])), ((am 25), .inr (8, [.ref q213, .int r189])), ((am 26), .inr (8, [.ref q214, .int r190])), ((am 27), .inr (8, [.ref q215, .int r191])), ((am 28), .inr (8, [.ref q216, .int r192])), ((am 29), .inr (8, [.ref q217, .int r193])), ((am 30), .inr (8, [.ref q218, .int r194])), ((am 31), .inr (8, [.ref q219, .int r195])), (q212, .inl (cI, r196, .inl r197)), (q213, .inl (cI, r198, .inl r199)), (q214, .inl (cI, r200, .inl r201)), (q215, .inl (cI, r202, .inl r203)), (q216, .inl (cI, r204, .inl r205)), (q217, .inl (cI, r206, .inl r207)), (q218, .inl (cI, r208, .inl r209)), (q219, .inl (cI, r210, .inl r211))]) 1 rfl rfl i226 d_Mo_buildFunction_87 rfl ?_
      refine j_aload_n d_Mo_buildFunction_88 rfl 3 rfl ?_
      refine j_get ig_Mo rfl 4 rfl 34 (by decide) rfl m_1147 rfl d_Mo_buildFunction_89 ?_
      refine j_getN ig_Nm rfl 0 rfl 0 (by decide) rfl mn_12 rfl d_Mo_buildFunction_92 ?_
      refine j_iload_n d_Mo_buildFunction_95 rfl 5 rfl ?_
      refine j_iconst (v := 3) d_Mo_buildFunction_96 (by decide) ?_
      refine j_iadd d_Mo_buildFunction_97 ?_
      refine j_iconst (v := 1) d_Mo_buildFunction_98 (by decide) ?_
      replace h := inb_s h
      obtain ⟨i227, h⟩ := h
      refine j_iast (t0 := 0) (ws' := [((am 34), .inr (8, [.ref a_all_m34, .int size_m34])), (a_all_m34, .inl (cI, n_a_all_m34, .inl (upd (upd b_a_all_m34 (Int32.toNatClampNeg (p2 + 1)) 1) (Int32.toNatClampNeg (p2 + 3)) 1))), ((am 33), .inr (8, [.ref a_all_m33, .int size_m33])), (a_all_m33, .inl (cI, n_a_all_m33, .inl b_a_all_m33)), (h0, .inr (9, moF am known_h0 thrown_h0 wrong_h0 lastEnd_h0 at_h0 bad_h0 levels_h0 least_h0 found_h0)), ((am 5), .inr (8, [.ref a_all_m5, .int size_m5])), (a_all_m5, .inl (cI, n_a_all_m5, .inl b_a_all_m5)), ((am 6), .inr (8, [.ref a_all_m6, .int size_m6])), (a_all_m6, .inl (cI, n_a_all_m6, .inl b_a_all_m6)), ((am 24), .inr (8, [.ref q212, .int r188])), ((am 25), .inr (8, [.ref q213, .int r189])), ((am 26), .inr (8, [.ref q214, .int r190])), ((am 27), .inr (8, [.ref q215, .int r191])), ((am 28), .inr (8, [.ref q216, .int r192])), ((am 29), .inr (8, [.ref q217, .int r193])), ((am 30), .inr (8, [.ref q218, .int r194])), ((am 31), .inr (8, [.ref q219, .int r195])), (q212, .inl (cI, r196, .inl r197)), (q213, .inl (cI, r198, .inl r199)), (q214, .inl (cI, r200, .inl r201)), (q215, .inl (cI, r202, .inl r203)), (q216, .inl (cI, r204, .inl r205)), (q217, .inl (cI, r206, .inl r207)), (q218, .inl (cI, r208, .inl r209)), (q219, .inl (cI, r210, .inl r211))]) 1 rfl rfl i227 d_Mo_buildFunction_99 rfl ?_
      refine j_goto (tgt := 116) d_Mo_buildFunction_100 (by decide) ?_
      refine j_sub (w := [((am 34), .inr (8, [.ref a_all_m34, .int size_m34])), (a_all_m34, .inl (cI, n_a_all_m34, .inl (upd (upd b_a_all_m34 (Int32.toNatClampNeg (p2 + 1)) 1) (Int32.toNatClampNeg (p2 + 3)) 1))), ((am 33), .inr (8, [.ref a_all_m33, .int size_m33])), (a_all_m33, .inl (cI, n_a_all_m33, .inl b_a_all_m33)), (h0, .inr (9, moF am known_h0 thrown_h0 wrong_h0 lastEnd_h0 at_h0 bad_h0 levels_h0 least_h0 found_h0)), ((am 5), .inr (8, [.ref a_all_m5, .int size_m5])), (a_all_m5, .inl (cI, n_a_all_m5, .inl b_a_all_m5)), ((am 6), .inr (8, [.ref a_all_m6, .int size_m6])), (a_all_m6, .inl (cI, n_a_all_m6, .inl b_a_all_m6)), ((am 24), .inr (8, [.ref q212, .int r188])), ((am 25), .inr (8, [.ref q213, .int r189])), ((am 26), .inr (8, [.ref q214, .int r190])), ((am 27), .inr (8, [.ref q215, .int r191])), ((am 28), .inr (8, [.ref q216, .int r192])), ((am 29), .inr (8, [.ref q217, .int r193])), ((am 30), .inr (8, [.ref q218, .int r194])), ((am 31), .inr (8, [.ref q219, .int r195])), (q212, .inl (cI, r196, .inl r197)), (q213, .inl (cI, r198, .inl r199)), (q214, .inl (cI, r200, .inl r201)), (q215, .inl (cI, r202, .inl r203)), (q216, .inl (cI, r204, .inl r205)), (q217, .inl (cI, r206, .inl r207)), (q218, .inl (cI, r208, .inl r209)), (q219, .inl (cI, r210, .inl r211))]) (lv' := [(6, .int (size_m24 + 1)), (5, .int size_m24), (4, .int r81), (0, .ref h0), (1, .int p1), (2, .int p2), (3, .int p3)]) [0, 1, 2, 3, 4, 5, 6, 7, 8, 9, 10, 11, 12, 13, 14, 15, 16, 17, 18, 19, 20, 21, 22, 23, 24] rfl (by decide +kernel) [0, 1, 2, 3, 4, 5, 6] rfl ?_
      exact L_Mo_buildFunction_116 l D cI cB cJ cS h0 am a_all_m5 a_all_m6 a_all_m24 a_all_m25 a_all_m26 a_all_m27 a_all_m28 a_all_m29 a_all_m30 a_all_m31 a_all_m34 a_all_m33 p1 p2 p3 known_h0 thrown_h0 wrong_h0 lastEnd_h0 at_h0 bad_h0 levels_h0 least_h0 found_h0 size_m5 n_a_all_m5 b_a_all_m5 size_m6 n_a_all_m6 b_a_all_m6 size_m24 n_a_all_m24 b_a_all_m24 size_m25 n_a_all_m25 b_a_all_m25 size_m26 n_a_all_m26 b_a_all_m26 size_m27 n_a_all_m27 b_a_all_m27 size_m28 n_a_all_m28 b_a_all_m28 size_m29 n_a_all_m29 b_a_all_m29 size_m30 n_a_all_m30 b_a_all_m30 size_m31 n_a_all_m31 b_a_all_m31 size_m34 n_a_all_m34 b_a_all_m34 size_m33 n_a_all_m33 b_a_all_m33 o_5_1 o_7_1 o_9_1 o_11_1 o_13_1 o_15_1 o_17_1 o_19_1 ob_22 on_nq_5_0 ob_nq_5_0 on_nq_7_0 ob_nq_7_0 on_nq_9_0 ob_nq_9_0 on_nq_11_0 ob_nq_11_0 on_nq_13_0 ob_nq_13_0 on_nq_15_0 ob_nq_15_0 on_nq_17_0 ob_nq_17_0 on_nq_19_0 ob_nq_19_0 on_nq_23_0 ob_nq_23_0 mc ms p e s m below meth c hr hnm q212 q213 q214 q215 q216 q217 q218 q219 r81 (upd (upd b_a_all_m34 (Int32.toNatClampNeg (p2 + 1)) 1) (Int32.toNatClampNeg (p2 + 3)) 1) r188 r189 r190 r191 r192 r193 r194 r195 r196 r197 r198 r199 r200 r201 r202 r203 r204 r205 r206 r207 r208 r209 r210 r211 (0 + C111 + C144 + C220) (0 + S112 + S145 + S221) C222 S223 h hC hS
def F_Mo_endsOperand (p1 : Int32) (known_h0 : Int32) (thrown_h0 : Int32) (wrong_h0 : Int32) (lastEnd_h0 : Int32) (at_h0 : Int32) (bad_h0 : Int32) (levels_h0 : Int32) (least_h0 : Int32) (found_h0 : Int32) (size_m5 : Int32) (n_a_all_m5 : Nat) (b_a_all_m5 : Nat → Int32) : Option (Int32) :=
  Option.bind (F_Nm_at p1 size_m5 n_a_all_m5 b_a_all_m5) fun _ =>
  if (b_a_all_m5 (Int32.toNatClampNeg p1)) = 2 then (some 1)
  else if (b_a_all_m5 (Int32.toNatClampNeg p1)) = 3 then (some 1)
  else if (b_a_all_m5 (Int32.toNatClampNeg p1)) = 4 then (some 1)
  else if (b_a_all_m5 (Int32.toNatClampNeg p1)) = 13 then (some 1)
  else if (b_a_all_m5 (Int32.toNatClampNeg p1)) = 51 then (some 1)
  else if (b_a_all_m5 (Int32.toNatClampNeg p1)) = 53 then (some 1)
  else if (b_a_all_m5 (Int32.toNatClampNeg p1)) = 48 then (some 1)
  else (some 0)
theorem d_Mo_endsOperand_0 : decode prog_12_method_69_code 0 = .ok (.aload_n 0, 1) := by decide +kernel
theorem d_Mo_endsOperand_1 : decode prog_12_method_69_code 1 = .ok (.getfield 114, 3) := by decide +kernel
theorem d_Mo_endsOperand_4 : decode prog_12_method_69_code 4 = .ok (.iload_n 1, 1) := by decide +kernel
theorem d_Mo_endsOperand_5 : decode prog_12_method_69_code 5 = .ok (.invokevirtual 214, 3) := by decide +kernel
theorem d_Mo_endsOperand_8 : decode prog_12_method_69_code 8 = .ok (.istore_n 2, 1) := by decide +kernel
theorem d_Mo_endsOperand_9 : decode prog_12_method_69_code 9 = .ok (.iload_n 2, 1) := by decide +kernel
theorem d_Mo_endsOperand_10 : decode prog_12_method_69_code 10 = .ok (.iconst 2, 1) := by decide +kernel
theorem d_Mo_endsOperand_11 : decode prog_12_method_69_code 11 = .ok (.if_icmp .eq 37, 3) := by decide +kernel
theorem d_Mo_endsOperand_14 : decode prog_12_method_69_code 14 = .ok (.iload_n 2, 1) := by decide +kernel
theorem d_Mo_endsOperand_15 : decode prog_12_method_69_code 15 = .ok (.iconst 3, 1) := by decide +kernel
theorem d_Mo_endsOperand_16 : decode prog_12_method_69_code 16 = .ok (.if_icmp .eq 32, 3) := by decide +kernel
theorem d_Mo_endsOperand_19 : decode prog_12_method_69_code 19 = .ok (.iload_n 2, 1) := by decide +kernel
theorem d_Mo_endsOperand_20 : decode prog_12_method_69_code 20 = .ok (.iconst 4, 1) := by decide +kernel
theorem d_Mo_endsOperand_21 : decode prog_12_method_69_code 21 = .ok (.if_icmp .eq 27, 3) := by decide +kernel
theorem d_Mo_endsOperand_24 : decode prog_12_method_69_code 24 = .ok (.iload_n 2, 1) := by decide +kernel
theorem d_Mo_endsOperand_25 : decode prog_12_method_69_code 25 = .ok (.bipush 13, 2) := by decide +kernel
theorem d_Mo_endsOperand_27 : decode prog_12_method_69_code 27 = .ok (.if_icmp .eq 21, 3) := by decide +kernel
theorem d_Mo_endsOperand_30 : decode prog_12_method_69_code 30 = .ok (.iload_n 2, 1) := by decide +kernel
theorem d_Mo_endsOperand_31 : decode prog_12_method_69_code 31 = .ok (.bipush 51, 2) := by decide +kernel
theorem d_Mo_endsOperand_33 : decode prog_12_method_69_code 33 = .ok (.if_icmp .eq 15, 3) := by decide +kernel
theorem d_Mo_endsOperand_36 : decode prog_12_method_69_code 36 = .ok (.iload_n 2, 1) := by decide +kernel
theorem d_Mo_endsOperand_37 : decode prog_12_method_69_code 37 = .ok (.bipush 53, 2) := by decide +kernel
theorem d_Mo_endsOperand_39 : decode prog_12_method_69_code 39 = .ok (.if_icmp .eq 9, 3) := by decide +kernel
theorem d_Mo_endsOperand_42 : decode prog_12_method_69_code 42 = .ok (.iload_n 2, 1) := by decide +kernel
theorem d_Mo_endsOperand_43 : decode prog_12_method_69_code 43 = .ok (.bipush 48, 2) := by decide +kernel
theorem d_Mo_endsOperand_45 : decode prog_12_method_69_code 45 = .ok (.if_icmp .ne 7, 3) := by decide +kernel
theorem d_Mo_endsOperand_48 : decode prog_12_method_69_code 48 = .ok (.iconst 1, 1) := by decide +kernel
theorem d_Mo_endsOperand_49 : decode prog_12_method_69_code 49 = .ok (.goto 4, 3) := by decide +kernel
theorem d_Mo_endsOperand_52 : decode prog_12_method_69_code 52 = .ok (.iconst 0, 1) := by decide +kernel
theorem d_Mo_endsOperand_53 : decode prog_12_method_69_code 53 = .ok (.ireturn, 1) := by decide +kernel
set_option maxHeartbeats 4000000 in
set_option maxRecDepth 100000 in
theorem c_Mo_endsOperand (l : Launch) (D : va_G) (cI cB cJ cS : ClassId) (h0 : Nat) (am : Nat → Nat) (a_all_m5 : Nat) (p1 : Int32) (known_h0 : Int32) (thrown_h0 : Int32) (wrong_h0 : Int32) (lastEnd_h0 : Int32) (at_h0 : Int32) (bad_h0 : Int32) (levels_h0 : Int32) (least_h0 : Int32) (found_h0 : Int32) (size_m5 : Int32) (n_a_all_m5 : Nat) (b_a_all_m5 : Nat → Int32) (ret : Int32) (h : F_Mo_endsOperand p1 known_h0 thrown_h0 wrong_h0 lastEnd_h0 at_h0 bad_h0 levels_h0 least_h0 found_h0 size_m5 n_a_all_m5 b_a_all_m5 = some ret) : Ct l D (gT cI cB cJ cS) y_Mo_endsOperand prog_12_method_69_code 3 (Option.some Jvm.ClassFile.FieldType.boolean) 1 21 0 0 [.ref h0, .int p1] [(h0, .inr (9, moF am known_h0 thrown_h0 wrong_h0 lastEnd_h0 at_h0 bad_h0 levels_h0 least_h0 found_h0)), ((am 5), .inr (8, [.ref a_all_m5, .int size_m5])), (a_all_m5, .inl (cI, n_a_all_m5, .inl b_a_all_m5))] (fun v w => v = some (.int ret) ∧ zb ret ∧ w = [(h0, .inr (9, moF am known_h0 thrown_h0 wrong_h0 lastEnd_h0 at_h0 bad_h0 levels_h0 least_h0 found_h0)), ((am 5), .inr (8, [.ref a_all_m5, .int size_m5])), (a_all_m5, .inl (cI, n_a_all_m5, .inl b_a_all_m5))]) := by
  refine Ct.mk (by decide) (Nat.le_of_ble_eq_true rfl) ?_
  intro p e s m below meth c hr hnm
  refine j_norm (pc' := 0) (lv' := [(0, .ref h0), (1, .int p1)]) (st' := []) (ws' := [(h0, .inr (9, moF am known_h0 thrown_h0 wrong_h0 lastEnd_h0 at_h0 bad_h0 levels_h0 least_h0 found_h0)), ((am 5), .inr (8, [.ref a_all_m5, .int size_m5])), (a_all_m5, .inl (cI, n_a_all_m5, .inl b_a_all_m5))]) (cl' := 0) (sl' := 0) rfl rfl rfl rfl rfl rfl ?_
  unfold F_Mo_endsOperand at h
  refine j_aload_n d_Mo_endsOperand_0 rfl 0 rfl ?_
  refine j_get ig_Mo rfl 0 rfl 5 (by decide) rfl m_1118 rfl d_Mo_endsOperand_1 ?_
  refine j_iload_n d_Mo_endsOperand_4 rfl 1 rfl ?_
  replace h := bd_s h
  obtain ⟨_, k1, h⟩ := h
  refine j_callV (n := 1) (As := [.int p1]) (rest := []) (wr := [(h0, .inr (9, moF am known_h0 thrown_h0 wrong_h0 lastEnd_h0 at_h0 bad_h0 levels_h0 least_h0 found_h0))]) (c_Nm_at l D cI cB cJ cS (am 5) a_all_m5 p1 size_m5 n_a_all_m5 b_a_all_m5  k1) k_Mo_214 (by decide) ⟨Nat.le_of_ble_eq_true rfl, Nat.le_of_ble_eq_true rfl⟩ rfl 0 rfl [1, 2] [0] rfl (by decide) rfl (by decide) (by decide) rfl rfl (Nat.le_of_ble_eq_true rfl) d_Mo_endsOperand_5 ⟨Nat.le_of_ble_eq_true rfl, Nat.le_of_ble_eq_true rfl⟩ (fun v w hq => ?_)
  obtain ⟨rfl, rfl⟩ := hq
  refine j_norm (pc' := 8) (st' := [.int (b_a_all_m5 (Int32.toNatClampNeg p1))]) (ws' := [(h0, .inr (9, moF am known_h0 thrown_h0 wrong_h0 lastEnd_h0 at_h0 bad_h0 levels_h0 least_h0 found_h0)), ((am 5), .inr (8, [.ref a_all_m5, .int size_m5])), (a_all_m5, .inl (cI, n_a_all_m5, .inl b_a_all_m5))]) (cl' := 0) (sl' := 0) rfl rfl rfl rfl rfl rfl ?_
  refine j_istore_n (lv' := [(2, .int (b_a_all_m5 (Int32.toNatClampNeg p1))), (0, .ref h0), (1, .int p1)]) d_Mo_endsOperand_8 rfl (by decide) rfl ?_
  refine j_iload_n d_Mo_endsOperand_9 rfl 0 rfl ?_
  refine j_iconst (v := 2) d_Mo_endsOperand_10 (by decide) ?_
  refine j_icmp_eq (tgt := 48) d_Mo_endsOperand_11 (by decide) (fun c2 => ?_) (fun c2 => ?_)
  · replace h := it_t c2 h
    refine j_iconst (v := 1) d_Mo_endsOperand_48 (by decide) ?_
    refine j_goto (tgt := 53) d_Mo_endsOperand_49 (by decide) ?_
    replace h := Option.some.inj h
    subst h
    exact j_zret (w := [(h0, .inr (9, moF am known_h0 thrown_h0 wrong_h0 lastEnd_h0 at_h0 bad_h0 levels_h0 least_h0 found_h0)), ((am 5), .inr (8, [.ref a_all_m5, .int size_m5])), (a_all_m5, .inl (cI, n_a_all_m5, .inl b_a_all_m5))]) hr (zb_n zb1) d_Mo_endsOperand_53 [0, 1, 2] rfl (by decide) ⟨rfl, zb1, rfl⟩
  · replace h := it_f c2 h
    refine j_iload_n d_Mo_endsOperand_14 rfl 0 rfl ?_
    refine j_iconst (v := 3) d_Mo_endsOperand_15 (by decide) ?_
    refine j_icmp_eq (tgt := 48) d_Mo_endsOperand_16 (by decide) (fun c3 => ?_) (fun c3 => ?_)
    · replace h := it_t c3 h
      refine j_iconst (v := 1) d_Mo_endsOperand_48 (by decide) ?_
      refine j_goto (tgt := 53) d_Mo_endsOperand_49 (by decide) ?_
      replace h := Option.some.inj h
      subst h
      exact j_zret (w := [(h0, .inr (9, moF am known_h0 thrown_h0 wrong_h0 lastEnd_h0 at_h0 bad_h0 levels_h0 least_h0 found_h0)), ((am 5), .inr (8, [.ref a_all_m5, .int size_m5])), (a_all_m5, .inl (cI, n_a_all_m5, .inl b_a_all_m5))]) hr (zb_n zb1) d_Mo_endsOperand_53 [0, 1, 2] rfl (by decide) ⟨rfl, zb1, rfl⟩
    · replace h := it_f c3 h
      refine j_iload_n d_Mo_endsOperand_19 rfl 0 rfl ?_
      refine j_iconst (v := 4) d_Mo_endsOperand_20 (by decide) ?_
      refine j_icmp_eq (tgt := 48) d_Mo_endsOperand_21 (by decide) (fun c4 => ?_) (fun c4 => ?_)
      · replace h := it_t c4 h
        refine j_iconst (v := 1) d_Mo_endsOperand_48 (by decide) ?_
        refine j_goto (tgt := 53) d_Mo_endsOperand_49 (by decide) ?_
        replace h := Option.some.inj h
        subst h
        exact j_zret (w := [(h0, .inr (9, moF am known_h0 thrown_h0 wrong_h0 lastEnd_h0 at_h0 bad_h0 levels_h0 least_h0 found_h0)), ((am 5), .inr (8, [.ref a_all_m5, .int size_m5])), (a_all_m5, .inl (cI, n_a_all_m5, .inl b_a_all_m5))]) hr (zb_n zb1) d_Mo_endsOperand_53 [0, 1, 2] rfl (by decide) ⟨rfl, zb1, rfl⟩
      · replace h := it_f c4 h
        refine j_iload_n d_Mo_endsOperand_24 rfl 0 rfl ?_
        refine j_bipush (v := 13) d_Mo_endsOperand_25 (by decide) ?_
        refine j_icmp_eq (tgt := 48) d_Mo_endsOperand_27 (by decide) (fun c5 => ?_) (fun c5 => ?_)
        · replace h := it_t c5 h
          refine j_iconst (v := 1) d_Mo_endsOperand_48 (by decide) ?_
          refine j_goto (tgt := 53) d_Mo_endsOperand_49 (by decide) ?_
          replace h := Option.some.inj h
          subst h
          exact j_zret (w := [(h0, .inr (9, moF am known_h0 thrown_h0 wrong_h0 lastEnd_h0 at_h0 bad_h0 levels_h0 least_h0 found_h0)), ((am 5), .inr (8, [.ref a_all_m5, .int size_m5])), (a_all_m5, .inl (cI, n_a_all_m5, .inl b_a_all_m5))]) hr (zb_n zb1) d_Mo_endsOperand_53 [0, 1, 2] rfl (by decide) ⟨rfl, zb1, rfl⟩
        · replace h := it_f c5 h
          refine j_iload_n d_Mo_endsOperand_30 rfl 0 rfl ?_
          refine j_bipush (v := 51) d_Mo_endsOperand_31 (by decide) ?_
          refine j_icmp_eq (tgt := 48) d_Mo_endsOperand_33 (by decide) (fun c6 => ?_) (fun c6 => ?_)
          · replace h := it_t c6 h
            refine j_iconst (v := 1) d_Mo_endsOperand_48 (by decide) ?_
            refine j_goto (tgt := 53) d_Mo_endsOperand_49 (by decide) ?_
            replace h := Option.some.inj h
            subst h
            exact j_zret (w := [(h0, .inr (9, moF am known_h0 thrown_h0 wrong_h0 lastEnd_h0 at_h0 bad_h0 levels_h0 least_h0 found_h0)), ((am 5), .inr (8, [.ref a_all_m5, .int size_m5])), (a_all_m5, .inl (cI, n_a_all_m5, .inl b_a_all_m5))]) hr (zb_n zb1) d_Mo_endsOperand_53 [0, 1, 2] rfl (by decide) ⟨rfl, zb1, rfl⟩
          · replace h := it_f c6 h
            refine j_iload_n d_Mo_endsOperand_36 rfl 0 rfl ?_
            refine j_bipush (v := 53) d_Mo_endsOperand_37 (by decide) ?_
            refine j_icmp_eq (tgt := 48) d_Mo_endsOperand_39 (by decide) (fun c7 => ?_) (fun c7 => ?_)
            · replace h := it_t c7 h
              refine j_iconst (v := 1) d_Mo_endsOperand_48 (by decide) ?_
              refine j_goto (tgt := 53) d_Mo_endsOperand_49 (by decide) ?_
              replace h := Option.some.inj h
              subst h
              exact j_zret (w := [(h0, .inr (9, moF am known_h0 thrown_h0 wrong_h0 lastEnd_h0 at_h0 bad_h0 levels_h0 least_h0 found_h0)), ((am 5), .inr (8, [.ref a_all_m5, .int size_m5])), (a_all_m5, .inl (cI, n_a_all_m5, .inl b_a_all_m5))]) hr (zb_n zb1) d_Mo_endsOperand_53 [0, 1, 2] rfl (by decide) ⟨rfl, zb1, rfl⟩
            · replace h := it_f c7 h
              refine j_iload_n d_Mo_endsOperand_42 rfl 0 rfl ?_
              refine j_bipush (v := 48) d_Mo_endsOperand_43 (by decide) ?_
              refine j_icmp_ne (tgt := 52) d_Mo_endsOperand_45 (by decide) (fun c8 => ?_) (fun c8 => ?_)
              · replace h := it_f c8 h
                refine j_iconst (v := 0) d_Mo_endsOperand_52 (by decide) ?_
                replace h := Option.some.inj h
                subst h
                exact j_zret (w := [(h0, .inr (9, moF am known_h0 thrown_h0 wrong_h0 lastEnd_h0 at_h0 bad_h0 levels_h0 least_h0 found_h0)), ((am 5), .inr (8, [.ref a_all_m5, .int size_m5])), (a_all_m5, .inl (cI, n_a_all_m5, .inl b_a_all_m5))]) hr (zb_n zb0) d_Mo_endsOperand_53 [0, 1, 2] rfl (by decide) ⟨rfl, zb0, rfl⟩
              · replace h := it_t c8 h
                refine j_iconst (v := 1) d_Mo_endsOperand_48 (by decide) ?_
                refine j_goto (tgt := 53) d_Mo_endsOperand_49 (by decide) ?_
                replace h := Option.some.inj h
                subst h
                exact j_zret (w := [(h0, .inr (9, moF am known_h0 thrown_h0 wrong_h0 lastEnd_h0 at_h0 bad_h0 levels_h0 least_h0 found_h0)), ((am 5), .inr (8, [.ref a_all_m5, .int size_m5])), (a_all_m5, .inl (cI, n_a_all_m5, .inl b_a_all_m5))]) hr (zb_n zb1) d_Mo_endsOperand_53 [0, 1, 2] rfl (by decide) ⟨rfl, zb1, rfl⟩
def F_Mo_lastOf_69 (p3 : Int32) (known_h0 : Int32) (thrown_h0 : Int32) (wrong_h0 : Int32) (lastEnd_h0 : Int32) (at_h0 : Int32) (bad_h0 : Int32) (levels_h0 : Int32) (least_h0 : Int32) (found_h0 : Int32) (size_m5 : Int32) (n_a_all_m5 : Nat) (b_a_all_m5 : Nat → Int32) (n_m2 : Nat) (b_m2 : Nat → Int32) (v5_8 : Int32) (K_8 : Int32 → Int32 → Option (Int32)) (t0_69 : Int32) : Option (Int32) :=
    if t0_69 = 0 then (Option.bind (F_Mo_rankOf (b_a_all_m5 (Int32.toNatClampNeg v5_8)) known_h0 thrown_h0 wrong_h0 lastEnd_h0 at_h0 bad_h0 levels_h0 least_h0 found_h0 n_m2 b_m2) fun r2 =>
      if r2 = p3 then (Option.bind (F_Mo_endsOperand (v5_8 - 1) known_h0 thrown_h0 wrong_h0 lastEnd_h0 at_h0 bad_h0 levels_h0 least_h0 found_h0 size_m5 n_a_all_m5 b_a_all_m5) fun r5 =>
        if r5 = 0 then (K_8 (v5_8 + (-1)) t0_69)
        else (some v5_8))
      else (K_8 (v5_8 + (-1)) t0_69))
    else (K_8 (v5_8 + (-1)) t0_69)
def F_Mo_lastOf_8 (p1 : Int32) (p3 : Int32) (known_h0 : Int32) (thrown_h0 : Int32) (wrong_h0 : Int32) (lastEnd_h0 : Int32) (at_h0 : Int32) (bad_h0 : Int32) (levels_h0 : Int32) (least_h0 : Int32) (found_h0 : Int32) (size_m5 : Int32) (n_a_all_m5 : Nat) (b_a_all_m5 : Nat → Int32) (n_m2 : Nat) (b_m2 : Nat → Int32) : Nat → Int32 → Int32 → Option (Int32)
  | 0, _, _ => none
  | k_8 + 1, v5_8, v4_8 =>
    if v5_8 ≤ p1 then (some (-1))
    else (Option.bind (F_Nm_at v5_8 size_m5 n_a_all_m5 b_a_all_m5) fun _ =>
      if (b_a_all_m5 (Int32.toNatClampNeg v5_8)) = 51 then (F_Mo_lastOf_69 p3 known_h0 thrown_h0 wrong_h0 lastEnd_h0 at_h0 bad_h0 levels_h0 least_h0 found_h0 size_m5 n_a_all_m5 b_a_all_m5 n_m2 b_m2 v5_8 (F_Mo_lastOf_8 p1 p3 known_h0 thrown_h0 wrong_h0 lastEnd_h0 at_h0 bad_h0 levels_h0 least_h0 found_h0 size_m5 n_a_all_m5 b_a_all_m5 n_m2 b_m2  k_8)  (v4_8 + 1))
      else if (b_a_all_m5 (Int32.toNatClampNeg v5_8)) = 53 then (F_Mo_lastOf_69 p3 known_h0 thrown_h0 wrong_h0 lastEnd_h0 at_h0 bad_h0 levels_h0 least_h0 found_h0 size_m5 n_a_all_m5 b_a_all_m5 n_m2 b_m2 v5_8 (F_Mo_lastOf_8 p1 p3 known_h0 thrown_h0 wrong_h0 lastEnd_h0 at_h0 bad_h0 levels_h0 least_h0 found_h0 size_m5 n_a_all_m5 b_a_all_m5 n_m2 b_m2  k_8)  (v4_8 + 1))
      else if (b_a_all_m5 (Int32.toNatClampNeg v5_8)) = 50 then (F_Mo_lastOf_69 p3 known_h0 thrown_h0 wrong_h0 lastEnd_h0 at_h0 bad_h0 levels_h0 least_h0 found_h0 size_m5 n_a_all_m5 b_a_all_m5 n_m2 b_m2 v5_8 (F_Mo_lastOf_8 p1 p3 known_h0 thrown_h0 wrong_h0 lastEnd_h0 at_h0 bad_h0 levels_h0 least_h0 found_h0 size_m5 n_a_all_m5 b_a_all_m5 n_m2 b_m2  k_8)  (v4_8 - 1))
      else if (b_a_all_m5 (Int32.toNatClampNeg v5_8)) = 52 then (F_Mo_lastOf_69 p3 known_h0 thrown_h0 wrong_h0 lastEnd_h0 at_h0 bad_h0 levels_h0 least_h0 found_h0 size_m5 n_a_all_m5 b_a_all_m5 n_m2 b_m2 v5_8 (F_Mo_lastOf_8 p1 p3 known_h0 thrown_h0 wrong_h0 lastEnd_h0 at_h0 bad_h0 levels_h0 least_h0 found_h0 size_m5 n_a_all_m5 b_a_all_m5 n_m2 b_m2  k_8)  (v4_8 - 1))
      else (F_Mo_lastOf_69 p3 known_h0 thrown_h0 wrong_h0 lastEnd_h0 at_h0 bad_h0 levels_h0 least_h0 found_h0 size_m5 n_a_all_m5 b_a_all_m5 n_m2 b_m2 v5_8 (F_Mo_lastOf_8 p1 p3 known_h0 thrown_h0 wrong_h0 lastEnd_h0 at_h0 bad_h0 levels_h0 least_h0 found_h0 size_m5 n_a_all_m5 b_a_all_m5 n_m2 b_m2  k_8)  v4_8))
def F_Mo_lastOf (p1 : Int32) (p2 : Int32) (p3 : Int32) (known_h0 : Int32) (thrown_h0 : Int32) (wrong_h0 : Int32) (lastEnd_h0 : Int32) (at_h0 : Int32) (bad_h0 : Int32) (levels_h0 : Int32) (least_h0 : Int32) (found_h0 : Int32) (size_m5 : Int32) (n_a_all_m5 : Nat) (b_a_all_m5 : Nat → Int32) (n_m2 : Nat) (b_m2 : Nat → Int32) : Option (Int32) :=
  F_Mo_lastOf_8 p1 p3 known_h0 thrown_h0 wrong_h0 lastEnd_h0 at_h0 bad_h0 levels_h0 least_h0 found_h0 size_m5 n_a_all_m5 b_a_all_m5 n_m2 b_m2  FU (p2 - 1) 0
theorem d_Mo_lastOf_0 : decode prog_12_method_70_code 0 = .ok (.iconst 0, 1) := by decide +kernel
theorem d_Mo_lastOf_1 : decode prog_12_method_70_code 1 = .ok (.istore 4, 2) := by decide +kernel
theorem d_Mo_lastOf_3 : decode prog_12_method_70_code 3 = .ok (.iload_n 2, 1) := by decide +kernel
theorem d_Mo_lastOf_4 : decode prog_12_method_70_code 4 = .ok (.iconst 1, 1) := by decide +kernel
theorem d_Mo_lastOf_5 : decode prog_12_method_70_code 5 = .ok (.isub, 1) := by decide +kernel
theorem d_Mo_lastOf_6 : decode prog_12_method_70_code 6 = .ok (.istore 5, 2) := by decide +kernel
theorem d_Mo_lastOf_8 : decode prog_12_method_70_code 8 = .ok (.iload 5, 2) := by decide +kernel
theorem d_Mo_lastOf_10 : decode prog_12_method_70_code 10 = .ok (.iload_n 1, 1) := by decide +kernel
theorem d_Mo_lastOf_11 : decode prog_12_method_70_code 11 = .ok (.if_icmp .le 95, 3) := by decide +kernel
theorem d_Mo_lastOf_14 : decode prog_12_method_70_code 14 = .ok (.aload_n 0, 1) := by decide +kernel
theorem d_Mo_lastOf_15 : decode prog_12_method_70_code 15 = .ok (.getfield 114, 3) := by decide +kernel
theorem d_Mo_lastOf_18 : decode prog_12_method_70_code 18 = .ok (.iload 5, 2) := by decide +kernel
theorem d_Mo_lastOf_20 : decode prog_12_method_70_code 20 = .ok (.invokevirtual 214, 3) := by decide +kernel
theorem d_Mo_lastOf_23 : decode prog_12_method_70_code 23 = .ok (.istore 6, 2) := by decide +kernel
theorem d_Mo_lastOf_25 : decode prog_12_method_70_code 25 = .ok (.iload 6, 2) := by decide +kernel
theorem d_Mo_lastOf_27 : decode prog_12_method_70_code 27 = .ok (.bipush 51, 2) := by decide +kernel
theorem d_Mo_lastOf_29 : decode prog_12_method_70_code 29 = .ok (.if_icmp .eq 10, 3) := by decide +kernel
theorem d_Mo_lastOf_32 : decode prog_12_method_70_code 32 = .ok (.iload 6, 2) := by decide +kernel
theorem d_Mo_lastOf_34 : decode prog_12_method_70_code 34 = .ok (.bipush 53, 2) := by decide +kernel
theorem d_Mo_lastOf_36 : decode prog_12_method_70_code 36 = .ok (.if_icmp .ne 10, 3) := by decide +kernel
theorem d_Mo_lastOf_39 : decode prog_12_method_70_code 39 = .ok (.iload 4, 2) := by decide +kernel
theorem d_Mo_lastOf_41 : decode prog_12_method_70_code 41 = .ok (.iconst 1, 1) := by decide +kernel
theorem d_Mo_lastOf_42 : decode prog_12_method_70_code 42 = .ok (.iadd, 1) := by decide +kernel
theorem d_Mo_lastOf_43 : decode prog_12_method_70_code 43 = .ok (.goto 26, 3) := by decide +kernel
theorem d_Mo_lastOf_46 : decode prog_12_method_70_code 46 = .ok (.iload 6, 2) := by decide +kernel
theorem d_Mo_lastOf_48 : decode prog_12_method_70_code 48 = .ok (.bipush 50, 2) := by decide +kernel
theorem d_Mo_lastOf_50 : decode prog_12_method_70_code 50 = .ok (.if_icmp .eq 10, 3) := by decide +kernel
theorem d_Mo_lastOf_53 : decode prog_12_method_70_code 53 = .ok (.iload 6, 2) := by decide +kernel
theorem d_Mo_lastOf_55 : decode prog_12_method_70_code 55 = .ok (.bipush 52, 2) := by decide +kernel
theorem d_Mo_lastOf_57 : decode prog_12_method_70_code 57 = .ok (.if_icmp .ne 10, 3) := by decide +kernel
theorem d_Mo_lastOf_60 : decode prog_12_method_70_code 60 = .ok (.iload 4, 2) := by decide +kernel
theorem d_Mo_lastOf_62 : decode prog_12_method_70_code 62 = .ok (.iconst 1, 1) := by decide +kernel
theorem d_Mo_lastOf_63 : decode prog_12_method_70_code 63 = .ok (.isub, 1) := by decide +kernel
theorem d_Mo_lastOf_64 : decode prog_12_method_70_code 64 = .ok (.goto 5, 3) := by decide +kernel
theorem d_Mo_lastOf_67 : decode prog_12_method_70_code 67 = .ok (.iload 4, 2) := by decide +kernel
theorem d_Mo_lastOf_69 : decode prog_12_method_70_code 69 = .ok (.istore 4, 2) := by decide +kernel
theorem d_Mo_lastOf_71 : decode prog_12_method_70_code 71 = .ok (.iload 4, 2) := by decide +kernel
theorem d_Mo_lastOf_73 : decode prog_12_method_70_code 73 = .ok (.ifCond .ne 27, 3) := by decide +kernel
theorem d_Mo_lastOf_76 : decode prog_12_method_70_code 76 = .ok (.aload_n 0, 1) := by decide +kernel
theorem d_Mo_lastOf_77 : decode prog_12_method_70_code 77 = .ok (.iload 6, 2) := by decide +kernel
theorem d_Mo_lastOf_79 : decode prog_12_method_70_code 79 = .ok (.invokevirtual 313, 3) := by decide +kernel
theorem d_Mo_lastOf_82 : decode prog_12_method_70_code 82 = .ok (.iload_n 3, 1) := by decide +kernel
theorem d_Mo_lastOf_83 : decode prog_12_method_70_code 83 = .ok (.if_icmp .ne 17, 3) := by decide +kernel
theorem d_Mo_lastOf_86 : decode prog_12_method_70_code 86 = .ok (.aload_n 0, 1) := by decide +kernel
theorem d_Mo_lastOf_87 : decode prog_12_method_70_code 87 = .ok (.iload 5, 2) := by decide +kernel
theorem d_Mo_lastOf_89 : decode prog_12_method_70_code 89 = .ok (.iconst 1, 1) := by decide +kernel
theorem d_Mo_lastOf_90 : decode prog_12_method_70_code 90 = .ok (.isub, 1) := by decide +kernel
theorem d_Mo_lastOf_91 : decode prog_12_method_70_code 91 = .ok (.invokevirtual 451, 3) := by decide +kernel
theorem d_Mo_lastOf_94 : decode prog_12_method_70_code 94 = .ok (.ifCond .eq 6, 3) := by decide +kernel
theorem d_Mo_lastOf_97 : decode prog_12_method_70_code 97 = .ok (.iload 5, 2) := by decide +kernel
theorem d_Mo_lastOf_99 : decode prog_12_method_70_code 99 = .ok (.ireturn, 1) := by decide +kernel
theorem d_Mo_lastOf_100 : decode prog_12_method_70_code 100 = .ok (.iinc 5 (-1), 3) := by decide +kernel
theorem d_Mo_lastOf_103 : decode prog_12_method_70_code 103 = .ok (.goto (-95), 3) := by decide +kernel
theorem d_Mo_lastOf_106 : decode prog_12_method_70_code 106 = .ok (.iconst (-1), 1) := by decide +kernel
theorem d_Mo_lastOf_107 : decode prog_12_method_70_code 107 = .ok (.ireturn, 1) := by decide +kernel
set_option maxHeartbeats 4000000 in
set_option maxRecDepth 100000 in
theorem L_Mo_lastOf_8 (l : Launch) (D : va_G) (cI cB cJ cS : ClassId) (h0 : Nat) (am : Nat → Nat) (a_all_m5 : Nat) (p1 : Int32) (p2 : Int32) (p3 : Int32) (known_h0 : Int32) (thrown_h0 : Int32) (wrong_h0 : Int32) (lastEnd_h0 : Int32) (at_h0 : Int32) (bad_h0 : Int32) (levels_h0 : Int32) (least_h0 : Int32) (found_h0 : Int32) (size_m5 : Int32) (n_a_all_m5 : Nat) (b_a_all_m5 : Nat → Int32) (n_m2 : Nat) (b_m2 : Nat → Int32) (ret : Int32) (p : Program) (e : Env) (s : State) (m : MethodId) (below : List Frame) (meth : Method) (c : Code) (hr : meth.sig.returnType = (Option.some Jvm.ClassFile.FieldType.int)) (hnm : meth.name = y_Mo_lastOf.name) : ∀ (k_8 : Nat) (v5_8 : Int32) (v4_8 : Int32), F_Mo_lastOf_8 p1 p3 known_h0 thrown_h0 wrong_h0 lastEnd_h0 at_h0 bad_h0 levels_h0 least_h0 found_h0 size_m5 n_a_all_m5 b_a_all_m5 n_m2 b_m2  k_8 v5_8 v4_8 = some ret → J (KxOf p l e { frames := 2, cells := 0, slots := 0, locals := 43 } s m [.ref h0, .int p1, .int p2, .int p3].toArray below meth c D (gT cI cB cJ cS) [(h0, .inr (9, moF am known_h0 thrown_h0 wrong_h0 lastEnd_h0 at_h0 bad_h0 levels_h0 least_h0 found_h0)), ((am 5), .inr (8, [.ref a_all_m5, .int size_m5])), (a_all_m5, .inl (cI, n_a_all_m5, .inl b_a_all_m5)), ((am 2), .inl (cI, n_m2, .inl b_m2))] (fun v w => v = some (.int ret) ∧ w = [(h0, .inr (9, moF am known_h0 thrown_h0 wrong_h0 lastEnd_h0 at_h0 bad_h0 levels_h0 least_h0 found_h0)), ((am 5), .inr (8, [.ref a_all_m5, .int size_m5])), (a_all_m5, .inl (cI, n_a_all_m5, .inl b_a_all_m5)), ((am 2), .inl (cI, n_m2, .inl b_m2))]) 0 0) prog_12_method_70_code 7 R_Mo 8 [(5, .int v5_8), (4, .int v4_8), (0, .ref h0), (1, .int p1), (2, .int p2), (3, .int p3)] [] [(h0, .inr (9, moF am known_h0 thrown_h0 wrong_h0 lastEnd_h0 at_h0 bad_h0 levels_h0 least_h0 found_h0)), ((am 5), .inr (8, [.ref a_all_m5, .int size_m5])), (a_all_m5, .inl (cI, n_a_all_m5, .inl b_a_all_m5)), ((am 2), .inl (cI, n_m2, .inl b_m2))] 0 0 := by
  intro k_8
  induction k_8 with
  | zero => intro v5_8 v4_8 h; rw [F_Mo_lastOf_8] at h; cases h
  | succ k_8 ih_8 =>
    intro v5_8 v4_8 h
    rw [F_Mo_lastOf_8] at h
    have L_69 : ∀ (t0_69 : Int32), F_Mo_lastOf_69 p3 known_h0 thrown_h0 wrong_h0 lastEnd_h0 at_h0 bad_h0 levels_h0 least_h0 found_h0 size_m5 n_a_all_m5 b_a_all_m5 n_m2 b_m2 v5_8 (F_Mo_lastOf_8 p1 p3 known_h0 thrown_h0 wrong_h0 lastEnd_h0 at_h0 bad_h0 levels_h0 least_h0 found_h0 size_m5 n_a_all_m5 b_a_all_m5 n_m2 b_m2  k_8)  t0_69 = some ret → J (KxOf p l e { frames := 2, cells := 0, slots := 0, locals := 43 } s m [.ref h0, .int p1, .int p2, .int p3].toArray below meth c D (gT cI cB cJ cS) [(h0, .inr (9, moF am known_h0 thrown_h0 wrong_h0 lastEnd_h0 at_h0 bad_h0 levels_h0 least_h0 found_h0)), ((am 5), .inr (8, [.ref a_all_m5, .int size_m5])), (a_all_m5, .inl (cI, n_a_all_m5, .inl b_a_all_m5)), ((am 2), .inl (cI, n_m2, .inl b_m2))] (fun v w => v = some (.int ret) ∧ w = [(h0, .inr (9, moF am known_h0 thrown_h0 wrong_h0 lastEnd_h0 at_h0 bad_h0 levels_h0 least_h0 found_h0)), ((am 5), .inr (8, [.ref a_all_m5, .int size_m5])), (a_all_m5, .inl (cI, n_a_all_m5, .inl b_a_all_m5)), ((am 2), .inl (cI, n_m2, .inl b_m2))]) 0 0) prog_12_method_70_code 7 R_Mo 69 [(6, .int (b_a_all_m5 (Int32.toNatClampNeg v5_8))), (5, .int v5_8), (4, .int v4_8), (0, .ref h0), (1, .int p1), (2, .int p2), (3, .int p3)] [.int t0_69] [(h0, .inr (9, moF am known_h0 thrown_h0 wrong_h0 lastEnd_h0 at_h0 bad_h0 levels_h0 least_h0 found_h0)), ((am 2), .inl (cI, n_m2, .inl b_m2)), ((am 5), .inr (8, [.ref a_all_m5, .int size_m5])), (a_all_m5, .inl (cI, n_a_all_m5, .inl b_a_all_m5))] 0 0 := by
      clear h
      intro t0_69 h
      unfold F_Mo_lastOf_69 at h
      refine j_istore (lv' := [(4, .int t0_69), (6, .int (b_a_all_m5 (Int32.toNatClampNeg v5_8))), (5, .int v5_8), (0, .ref h0), (1, .int p1), (2, .int p2), (3, .int p3)]) d_Mo_lastOf_69 (by decide) rfl ?_
      refine j_iload d_Mo_lastOf_71 0 rfl ?_
      refine j_if_ne (tgt := 100) d_Mo_lastOf_73 (by decide) (fun c1 => ?_) (fun c1 => ?_)
      · replace h := it_f c1 h
        refine j_iinc (v := v5_8 + (-1)) (lv' := [(5, .int (v5_8 + (-1))), (4, .int t0_69), (6, .int (b_a_all_m5 (Int32.toNatClampNeg v5_8))), (0, .ref h0), (1, .int p1), (2, .int p2), (3, .int p3)]) d_Mo_lastOf_100 2 rfl rfl (by decide) rfl ?_
        refine j_goto (tgt := 8) d_Mo_lastOf_103 (by decide) ?_
        refine j_sub (w := [(h0, .inr (9, moF am known_h0 thrown_h0 wrong_h0 lastEnd_h0 at_h0 bad_h0 levels_h0 least_h0 found_h0)), ((am 5), .inr (8, [.ref a_all_m5, .int size_m5])), (a_all_m5, .inl (cI, n_a_all_m5, .inl b_a_all_m5)), ((am 2), .inl (cI, n_m2, .inl b_m2))]) (lv' := [(5, .int (v5_8 + (-1))), (4, .int t0_69), (0, .ref h0), (1, .int p1), (2, .int p2), (3, .int p3)]) [0, 2, 3, 1] rfl (by decide) [0, 1, 3, 4, 5, 6] rfl ?_
        exact ih_8 (v5_8 + (-1)) t0_69 h
      · replace h := it_t c1 h
        refine j_aload_n d_Mo_lastOf_76 rfl 3 rfl ?_
        refine j_iload d_Mo_lastOf_77 1 rfl ?_
        replace h := bd_s h
        obtain ⟨r2, k3, h⟩ := h
        refine j_callV (n := 1) (As := [.int (b_a_all_m5 (Int32.toNatClampNeg v5_8))]) (rest := []) (wr := [((am 5), .inr (8, [.ref a_all_m5, .int size_m5])), (a_all_m5, .inl (cI, n_a_all_m5, .inl b_a_all_m5))]) (c_Mo_rankOf l D cI cB cJ cS h0 am (b_a_all_m5 (Int32.toNatClampNeg v5_8)) known_h0 thrown_h0 wrong_h0 lastEnd_h0 at_h0 bad_h0 levels_h0 least_h0 found_h0 n_m2 b_m2  r2 k3) k_Mo_313 (by decide) ⟨Nat.le_of_ble_eq_true rfl, Nat.le_of_ble_eq_true rfl⟩ rfl 0 rfl [0, 1] [2, 3] rfl (by decide) rfl (by decide) (by decide) rfl rfl (Nat.le_of_ble_eq_true rfl) d_Mo_lastOf_79 ⟨Nat.le_of_ble_eq_true rfl, Nat.le_of_ble_eq_true rfl⟩ (fun v w hq => ?_)
        obtain ⟨rfl, rfl⟩ := hq
        refine j_norm (pc' := 82) (st' := [.int r2]) (ws' := [((am 5), .inr (8, [.ref a_all_m5, .int size_m5])), (a_all_m5, .inl (cI, n_a_all_m5, .inl b_a_all_m5)), (h0, .inr (9, moF am known_h0 thrown_h0 wrong_h0 lastEnd_h0 at_h0 bad_h0 levels_h0 least_h0 found_h0)), ((am 2), .inl (cI, n_m2, .inl b_m2))]) (cl' := 0) (sl' := 0) rfl rfl rfl rfl rfl rfl ?_
        refine j_iload_n d_Mo_lastOf_82 rfl 6 rfl ?_
        refine j_icmp_ne (tgt := 100) d_Mo_lastOf_83 (by decide) (fun c4 => ?_) (fun c4 => ?_)
        · replace h := it_f c4 h
          refine j_iinc (v := v5_8 + (-1)) (lv' := [(5, .int (v5_8 + (-1))), (4, .int t0_69), (6, .int (b_a_all_m5 (Int32.toNatClampNeg v5_8))), (0, .ref h0), (1, .int p1), (2, .int p2), (3, .int p3)]) d_Mo_lastOf_100 2 rfl rfl (by decide) rfl ?_
          refine j_goto (tgt := 8) d_Mo_lastOf_103 (by decide) ?_
          refine j_sub (w := [(h0, .inr (9, moF am known_h0 thrown_h0 wrong_h0 lastEnd_h0 at_h0 bad_h0 levels_h0 least_h0 found_h0)), ((am 5), .inr (8, [.ref a_all_m5, .int size_m5])), (a_all_m5, .inl (cI, n_a_all_m5, .inl b_a_all_m5)), ((am 2), .inl (cI, n_m2, .inl b_m2))]) (lv' := [(5, .int (v5_8 + (-1))), (4, .int t0_69), (0, .ref h0), (1, .int p1), (2, .int p2), (3, .int p3)]) [2, 0, 1, 3] rfl (by decide) [0, 1, 3, 4, 5, 6] rfl ?_
          exact ih_8 (v5_8 + (-1)) t0_69 h
        · replace h := it_t c4 h
          refine j_aload_n d_Mo_lastOf_86 rfl 3 rfl ?_
          refine j_iload d_Mo_lastOf_87 2 rfl ?_
          refine j_iconst (v := 1) d_Mo_lastOf_89 (by decide) ?_
          refine j_isub d_Mo_lastOf_90 ?_
          replace h := bd_s h
          obtain ⟨r5, k7, h⟩ := h
          refine j_callV (n := 1) (As := [.int (v5_8 - 1)]) (rest := []) (wr := [((am 2), .inl (cI, n_m2, .inl b_m2))]) (c_Mo_endsOperand l D cI cB cJ cS h0 am a_all_m5 (v5_8 - 1) known_h0 thrown_h0 wrong_h0 lastEnd_h0 at_h0 bad_h0 levels_h0 least_h0 found_h0 size_m5 n_a_all_m5 b_a_all_m5  r5 k7) k_Mo_451 (by decide) ⟨Nat.le_of_ble_eq_true rfl, Nat.le_of_ble_eq_true rfl⟩ rfl 0 rfl [2, 0, 1] [3] rfl (by decide) rfl (by decide) (by decide) rfl rfl (Nat.le_of_ble_eq_true rfl) d_Mo_lastOf_91 ⟨Nat.le_of_ble_eq_true rfl, Nat.le_of_ble_eq_true rfl⟩ (fun v w hq => ?_)
          obtain ⟨rfl, z6, rfl⟩ := hq
          refine j_norm (pc' := 94) (st' := [.int r5]) (ws' := [((am 2), .inl (cI, n_m2, .inl b_m2)), (h0, .inr (9, moF am known_h0 thrown_h0 wrong_h0 lastEnd_h0 at_h0 bad_h0 levels_h0 least_h0 found_h0)), ((am 5), .inr (8, [.ref a_all_m5, .int size_m5])), (a_all_m5, .inl (cI, n_a_all_m5, .inl b_a_all_m5))]) (cl' := 0) (sl' := 0) rfl rfl rfl rfl rfl rfl ?_
          refine j_if_eq (tgt := 100) d_Mo_lastOf_94 (by decide) (fun c8 => ?_) (fun c8 => ?_)
          · replace h := it_t c8 h
            refine j_iinc (v := v5_8 + (-1)) (lv' := [(5, .int (v5_8 + (-1))), (4, .int t0_69), (6, .int (b_a_all_m5 (Int32.toNatClampNeg v5_8))), (0, .ref h0), (1, .int p1), (2, .int p2), (3, .int p3)]) d_Mo_lastOf_100 2 rfl rfl (by decide) rfl ?_
            refine j_goto (tgt := 8) d_Mo_lastOf_103 (by decide) ?_
            refine j_sub (w := [(h0, .inr (9, moF am known_h0 thrown_h0 wrong_h0 lastEnd_h0 at_h0 bad_h0 levels_h0 least_h0 found_h0)), ((am 5), .inr (8, [.ref a_all_m5, .int size_m5])), (a_all_m5, .inl (cI, n_a_all_m5, .inl b_a_all_m5)), ((am 2), .inl (cI, n_m2, .inl b_m2))]) (lv' := [(5, .int (v5_8 + (-1))), (4, .int t0_69), (0, .ref h0), (1, .int p1), (2, .int p2), (3, .int p3)]) [1, 2, 3, 0] rfl (by decide) [0, 1, 3, 4, 5, 6] rfl ?_
            exact ih_8 (v5_8 + (-1)) t0_69 h
          · replace h := it_f c8 h
            refine j_iload d_Mo_lastOf_97 2 rfl ?_
            replace h := Option.some.inj h
            subst h
            exact j_iret (w := [(h0, .inr (9, moF am known_h0 thrown_h0 wrong_h0 lastEnd_h0 at_h0 bad_h0 levels_h0 least_h0 found_h0)), ((am 5), .inr (8, [.ref a_all_m5, .int size_m5])), (a_all_m5, .inl (cI, n_a_all_m5, .inl b_a_all_m5)), ((am 2), .inl (cI, n_m2, .inl b_m2))]) hr d_Mo_lastOf_99 [1, 2, 3, 0] rfl (by decide) ⟨rfl, rfl⟩
    refine j_iload d_Mo_lastOf_8 0 rfl ?_
    refine j_iload_n d_Mo_lastOf_10 rfl 3 rfl ?_
    refine j_icmp_le (tgt := 106) d_Mo_lastOf_11 (by decide) (fun c9 => ?_) (fun c9 => ?_)
    · replace h := it_t c9 h
      refine j_iconst (v := (-1)) d_Mo_lastOf_106 (by decide) ?_
      replace h := Option.some.inj h
      subst h
      exact j_iret (w := [(h0, .inr (9, moF am known_h0 thrown_h0 wrong_h0 lastEnd_h0 at_h0 bad_h0 levels_h0 least_h0 found_h0)), ((am 5), .inr (8, [.ref a_all_m5, .int size_m5])), (a_all_m5, .inl (cI, n_a_all_m5, .inl b_a_all_m5)), ((am 2), .inl (cI, n_m2, .inl b_m2))]) hr d_Mo_lastOf_107 [0, 1, 2, 3] rfl (by decide) ⟨rfl, rfl⟩
    · replace h := it_f c9 h
      refine j_aload_n d_Mo_lastOf_14 rfl 2 rfl ?_
      refine j_get ig_Mo rfl 0 rfl 5 (by decide) rfl m_1118 rfl d_Mo_lastOf_15 ?_
      refine j_iload d_Mo_lastOf_18 0 rfl ?_
      replace h := bd_s h
      obtain ⟨_, k10, h⟩ := h
      refine j_callV (n := 1) (As := [.int v5_8]) (rest := []) (wr := [(h0, .inr (9, moF am known_h0 thrown_h0 wrong_h0 lastEnd_h0 at_h0 bad_h0 levels_h0 least_h0 found_h0)), ((am 2), .inl (cI, n_m2, .inl b_m2))]) (c_Nm_at l D cI cB cJ cS (am 5) a_all_m5 v5_8 size_m5 n_a_all_m5 b_a_all_m5  k10) k_Mo_214 (by decide) ⟨Nat.le_of_ble_eq_true rfl, Nat.le_of_ble_eq_true rfl⟩ rfl 0 rfl [1, 2] [0, 3] rfl (by decide) rfl (by decide) (by decide) rfl rfl (Nat.le_of_ble_eq_true rfl) d_Mo_lastOf_20 ⟨Nat.le_of_ble_eq_true rfl, Nat.le_of_ble_eq_true rfl⟩ (fun v w hq => ?_)
      obtain ⟨rfl, rfl⟩ := hq
      refine j_norm (pc' := 23) (st' := [.int (b_a_all_m5 (Int32.toNatClampNeg v5_8))]) (ws' := [(h0, .inr (9, moF am known_h0 thrown_h0 wrong_h0 lastEnd_h0 at_h0 bad_h0 levels_h0 least_h0 found_h0)), ((am 2), .inl (cI, n_m2, .inl b_m2)), ((am 5), .inr (8, [.ref a_all_m5, .int size_m5])), (a_all_m5, .inl (cI, n_a_all_m5, .inl b_a_all_m5))]) (cl' := 0) (sl' := 0) rfl rfl rfl rfl rfl rfl ?_
      refine j_istore (lv' := [(6, .int (b_a_all_m5 (Int32.toNatClampNeg v5_8))), (5, .int v5_8), (4, .int v4_8), (0, .ref h0), (1, .int p1), (2, .int p2), (3, .int p3)]) d_Mo_lastOf_23 (by decide) rfl ?_
      refine j_iload d_Mo_lastOf_25 0 rfl ?_
      refine j_bipush (v := 51) d_Mo_lastOf_27 (by decide) ?_
      refine j_icmp_eq (tgt := 39) d_Mo_lastOf_29 (by decide) (fun c11 => ?_) (fun c11 => ?_)
      · replace h := it_t c11 h
        refine j_iload d_Mo_lastOf_39 2 rfl ?_
        refine j_iconst (v := 1) d_Mo_lastOf_41 (by decide) ?_
        refine j_iadd d_Mo_lastOf_42 ?_
        refine j_goto (tgt := 69) d_Mo_lastOf_43 (by decide) ?_
        refine j_sub (w := [(h0, .inr (9, moF am known_h0 thrown_h0 wrong_h0 lastEnd_h0 at_h0 bad_h0 levels_h0 least_h0 found_h0)), ((am 2), .inl (cI, n_m2, .inl b_m2)), ((am 5), .inr (8, [.ref a_all_m5, .int size_m5])), (a_all_m5, .inl (cI, n_a_all_m5, .inl b_a_all_m5))]) (lv' := [(6, .int (b_a_all_m5 (Int32.toNatClampNeg v5_8))), (5, .int v5_8), (4, .int v4_8), (0, .ref h0), (1, .int p1), (2, .int p2), (3, .int p3)]) [0, 1, 2, 3] rfl (by decide) [0, 1, 2, 3, 4, 5, 6] rfl ?_
        exact L_69 (v4_8 + 1) h
      · replace h := it_f c11 h
        refine j_iload d_Mo_lastOf_32 0 rfl ?_
        refine j_bipush (v := 53) d_Mo_lastOf_34 (by decide) ?_
        refine j_icmp_ne (tgt := 46) d_Mo_lastOf_36 (by decide) (fun c12 => ?_) (fun c12 => ?_)
        · replace h := it_f c12 h
          refine j_iload d_Mo_lastOf_46 0 rfl ?_
          refine j_bipush (v := 50) d_Mo_lastOf_48 (by decide) ?_
          refine j_icmp_eq (tgt := 60) d_Mo_lastOf_50 (by decide) (fun c13 => ?_) (fun c13 => ?_)
          · replace h := it_t c13 h
            refine j_iload d_Mo_lastOf_60 2 rfl ?_
            refine j_iconst (v := 1) d_Mo_lastOf_62 (by decide) ?_
            refine j_isub d_Mo_lastOf_63 ?_
            refine j_goto (tgt := 69) d_Mo_lastOf_64 (by decide) ?_
            refine j_sub (w := [(h0, .inr (9, moF am known_h0 thrown_h0 wrong_h0 lastEnd_h0 at_h0 bad_h0 levels_h0 least_h0 found_h0)), ((am 2), .inl (cI, n_m2, .inl b_m2)), ((am 5), .inr (8, [.ref a_all_m5, .int size_m5])), (a_all_m5, .inl (cI, n_a_all_m5, .inl b_a_all_m5))]) (lv' := [(6, .int (b_a_all_m5 (Int32.toNatClampNeg v5_8))), (5, .int v5_8), (4, .int v4_8), (0, .ref h0), (1, .int p1), (2, .int p2), (3, .int p3)]) [0, 1, 2, 3] rfl (by decide) [0, 1, 2, 3, 4, 5, 6] rfl ?_
            exact L_69 (v4_8 - 1) h
          · replace h := it_f c13 h
            refine j_iload d_Mo_lastOf_53 0 rfl ?_
            refine j_bipush (v := 52) d_Mo_lastOf_55 (by decide) ?_
            refine j_icmp_ne (tgt := 67) d_Mo_lastOf_57 (by decide) (fun c14 => ?_) (fun c14 => ?_)
            · replace h := it_f c14 h
              refine j_iload d_Mo_lastOf_67 2 rfl ?_
              refine j_sub (w := [(h0, .inr (9, moF am known_h0 thrown_h0 wrong_h0 lastEnd_h0 at_h0 bad_h0 levels_h0 least_h0 found_h0)), ((am 2), .inl (cI, n_m2, .inl b_m2)), ((am 5), .inr (8, [.ref a_all_m5, .int size_m5])), (a_all_m5, .inl (cI, n_a_all_m5, .inl b_a_all_m5))]) (lv' := [(6, .int (b_a_all_m5 (Int32.toNatClampNeg v5_8))), (5, .int v5_8), (4, .int v4_8), (0, .ref h0), (1, .int p1), (2, .int p2), (3, .int p3)]) [0, 1, 2, 3] rfl (by decide) [0, 1, 2, 3, 4, 5, 6] rfl ?_
              exact L_69 v4_8 h
            · replace h := it_t c14 h
              refine j_iload d_Mo_lastOf_60 2 rfl ?_
              refine j_iconst (v := 1) d_Mo_lastOf_62 (by decide) ?_
              refine j_isub d_Mo_lastOf_63 ?_
              refine j_goto (tgt := 69) d_Mo_lastOf_64 (by decide) ?_
              refine j_sub (w := [(h0, .inr (9, moF am known_h0 thrown_h0 wrong_h0 lastEnd_h0 at_h0 bad_h0 levels_h0 least_h0 found_h0)), ((am 2), .inl (cI, n_m2, .inl b_m2)), ((am 5), .inr (8, [.ref a_all_m5, .int size_m5])), (a_all_m5, .inl (cI, n_a_all_m5, .inl b_a_all_m5))]) (lv' := [(6, .int (b_a_all_m5 (Int32.toNatClampNeg v5_8))), (5, .int v5_8), (4, .int v4_8), (0, .ref h0), (1, .int p1), (2, .int p2), (3, .int p3)]) [0, 1, 2, 3] rfl (by decide) [0, 1, 2, 3, 4, 5, 6] rfl ?_
              exact L_69 (v4_8 - 1) h
        · replace h := it_t c12 h
          refine j_iload d_Mo_lastOf_39 2 rfl ?_
          refine j_iconst (v := 1) d_Mo_lastOf_41 (by decide) ?_
          refine j_iadd d_Mo_lastOf_42 ?_
          refine j_goto (tgt := 69) d_Mo_lastOf_43 (by decide) ?_
          refine j_sub (w := [(h0, .inr (9, moF am known_h0 thrown_h0 wrong_h0 lastEnd_h0 at_h0 bad_h0 levels_h0 least_h0 found_h0)), ((am 2), .inl (cI, n_m2, .inl b_m2)), ((am 5), .inr (8, [.ref a_all_m5, .int size_m5])), (a_all_m5, .inl (cI, n_a_all_m5, .inl b_a_all_m5))]) (lv' := [(6, .int (b_a_all_m5 (Int32.toNatClampNeg v5_8))), (5, .int v5_8), (4, .int v4_8), (0, .ref h0), (1, .int p1), (2, .int p2), (3, .int p3)]) [0, 1, 2, 3] rfl (by decide) [0, 1, 2, 3, 4, 5, 6] rfl ?_
          exact L_69 (v4_8 + 1) h
set_option maxHeartbeats 4000000 in
set_option maxRecDepth 100000 in
theorem c_Mo_lastOf (l : Launch) (D : va_G) (cI cB cJ cS : ClassId) (h0 : Nat) (am : Nat → Nat) (a_all_m5 : Nat) (p1 : Int32) (p2 : Int32) (p3 : Int32) (known_h0 : Int32) (thrown_h0 : Int32) (wrong_h0 : Int32) (lastEnd_h0 : Int32) (at_h0 : Int32) (bad_h0 : Int32) (levels_h0 : Int32) (least_h0 : Int32) (found_h0 : Int32) (size_m5 : Int32) (n_a_all_m5 : Nat) (b_a_all_m5 : Nat → Int32) (n_m2 : Nat) (b_m2 : Nat → Int32) (ret : Int32) (h : F_Mo_lastOf p1 p2 p3 known_h0 thrown_h0 wrong_h0 lastEnd_h0 at_h0 bad_h0 levels_h0 least_h0 found_h0 size_m5 n_a_all_m5 b_a_all_m5 n_m2 b_m2 = some ret) : Ct l D (gT cI cB cJ cS) y_Mo_lastOf prog_12_method_70_code 7 (Option.some Jvm.ClassFile.FieldType.int) 2 43 0 0 [.ref h0, .int p1, .int p2, .int p3] [(h0, .inr (9, moF am known_h0 thrown_h0 wrong_h0 lastEnd_h0 at_h0 bad_h0 levels_h0 least_h0 found_h0)), ((am 5), .inr (8, [.ref a_all_m5, .int size_m5])), (a_all_m5, .inl (cI, n_a_all_m5, .inl b_a_all_m5)), ((am 2), .inl (cI, n_m2, .inl b_m2))] (fun v w => v = some (.int ret) ∧ w = [(h0, .inr (9, moF am known_h0 thrown_h0 wrong_h0 lastEnd_h0 at_h0 bad_h0 levels_h0 least_h0 found_h0)), ((am 5), .inr (8, [.ref a_all_m5, .int size_m5])), (a_all_m5, .inl (cI, n_a_all_m5, .inl b_a_all_m5)), ((am 2), .inl (cI, n_m2, .inl b_m2))]) := by
  refine Ct.mk (by decide) (Nat.le_of_ble_eq_true rfl) ?_
  intro p e s m below meth c hr hnm
  refine j_norm (pc' := 0) (lv' := [(0, .ref h0), (1, .int p1), (2, .int p2), (3, .int p3)]) (st' := []) (ws' := [(h0, .inr (9, moF am known_h0 thrown_h0 wrong_h0 lastEnd_h0 at_h0 bad_h0 levels_h0 least_h0 found_h0)), ((am 5), .inr (8, [.ref a_all_m5, .int size_m5])), (a_all_m5, .inl (cI, n_a_all_m5, .inl b_a_all_m5)), ((am 2), .inl (cI, n_m2, .inl b_m2))]) (cl' := 0) (sl' := 0) rfl rfl rfl rfl rfl rfl ?_
  unfold F_Mo_lastOf at h
  refine j_iconst (v := 0) d_Mo_lastOf_0 (by decide) ?_
  refine j_istore (lv' := [(4, .int 0), (0, .ref h0), (1, .int p1), (2, .int p2), (3, .int p3)]) d_Mo_lastOf_1 (by decide) rfl ?_
  refine j_iload_n d_Mo_lastOf_3 rfl 3 rfl ?_
  refine j_iconst (v := 1) d_Mo_lastOf_4 (by decide) ?_
  refine j_isub d_Mo_lastOf_5 ?_
  refine j_istore (lv' := [(5, .int (p2 - 1)), (4, .int 0), (0, .ref h0), (1, .int p1), (2, .int p2), (3, .int p3)]) d_Mo_lastOf_6 (by decide) rfl ?_
  refine j_sub (w := [(h0, .inr (9, moF am known_h0 thrown_h0 wrong_h0 lastEnd_h0 at_h0 bad_h0 levels_h0 least_h0 found_h0)), ((am 5), .inr (8, [.ref a_all_m5, .int size_m5])), (a_all_m5, .inl (cI, n_a_all_m5, .inl b_a_all_m5)), ((am 2), .inl (cI, n_m2, .inl b_m2))]) (lv' := [(5, .int (p2 - 1)), (4, .int 0), (0, .ref h0), (1, .int p1), (2, .int p2), (3, .int p3)]) [0, 1, 2, 3] rfl (by decide) [0, 1, 2, 3, 4, 5] rfl ?_
  exact L_Mo_lastOf_8 l D cI cB cJ cS h0 am a_all_m5 p1 p2 p3 known_h0 thrown_h0 wrong_h0 lastEnd_h0 at_h0 bad_h0 levels_h0 least_h0 found_h0 size_m5 n_a_all_m5 b_a_all_m5 n_m2 b_m2 ret p e s m below meth c hr hnm FU (p2 - 1) 0 h
def F_Mo_rankBetween_2 (p1 : Int32) (p2 : Int32) (known_h0 : Int32) (thrown_h0 : Int32) (wrong_h0 : Int32) (lastEnd_h0 : Int32) (at_h0 : Int32) (bad_h0 : Int32) (levels_h0 : Int32) (least_h0 : Int32) (size_m5 : Int32) (n_a_all_m5 : Nat) (b_a_all_m5 : Nat → Int32) (n_m2 : Nat) (b_m2 : Nat → Int32) : Nat → Int32 → Int32 → Option (Int32 × Int32)
  | 0, _, _ => none
  | k_2 + 1, v3_2, f0_36_2 =>
    if 7 ≤ v3_2 then (Option.bind (F_Nm_at p1 size_m5 n_a_all_m5 b_a_all_m5) fun _ =>
      if (b_a_all_m5 (Int32.toNatClampNeg p1)) = 39 then (some (7, p1))
      else if (b_a_all_m5 (Int32.toNatClampNeg p1)) = 40 then (some (7, p1))
      else if (b_a_all_m5 (Int32.toNatClampNeg p1)) = 49 then (some (7, p1))
      else (Option.bind (F_Mo_lastOf p1 p2 8 known_h0 thrown_h0 wrong_h0 lastEnd_h0 at_h0 bad_h0 levels_h0 least_h0 f0_36_2 size_m5 n_a_all_m5 b_a_all_m5 n_m2 b_m2) fun r6 =>
        if r6 < 0 then (Option.bind (F_Nm_at (p2 - 1) size_m5 n_a_all_m5 b_a_all_m5) fun _ =>
          if (b_a_all_m5 (Int32.toNatClampNeg (p2 - 1))) = 48 then (some (9, p2 - 1))
          else (some (10, p2 - 1)))
        else (some (8, r6))))
    else (Option.bind (F_Mo_lastOf p1 p2 v3_2 known_h0 thrown_h0 wrong_h0 lastEnd_h0 at_h0 bad_h0 levels_h0 least_h0 f0_36_2 size_m5 n_a_all_m5 b_a_all_m5 n_m2 b_m2) fun r11 =>
      if r11 < 0 then (F_Mo_rankBetween_2 p1 p2 known_h0 thrown_h0 wrong_h0 lastEnd_h0 at_h0 bad_h0 levels_h0 least_h0 size_m5 n_a_all_m5 b_a_all_m5 n_m2 b_m2  k_2 (v3_2 + 1) r11)
      else (some (v3_2, r11)))
def F_Mo_rankBetween (p1 : Int32) (p2 : Int32) (known_h0 : Int32) (thrown_h0 : Int32) (wrong_h0 : Int32) (lastEnd_h0 : Int32) (at_h0 : Int32) (bad_h0 : Int32) (levels_h0 : Int32) (least_h0 : Int32) (found_h0 : Int32) (size_m5 : Int32) (n_a_all_m5 : Nat) (b_a_all_m5 : Nat → Int32) (n_m2 : Nat) (b_m2 : Nat → Int32) : Option (Int32 × Int32) :=
  F_Mo_rankBetween_2 p1 p2 known_h0 thrown_h0 wrong_h0 lastEnd_h0 at_h0 bad_h0 levels_h0 least_h0 size_m5 n_a_all_m5 b_a_all_m5 n_m2 b_m2  FU 1 found_h0
theorem d_Mo_rankBetween_0 : decode prog_12_method_71_code 0 = .ok (.iconst 1, 1) := by decide +kernel
theorem d_Mo_rankBetween_1 : decode prog_12_method_71_code 1 = .ok (.istore_n 3, 1) := by decide +kernel
theorem d_Mo_rankBetween_2 : decode prog_12_method_71_code 2 = .ok (.iload_n 3, 1) := by decide +kernel
theorem d_Mo_rankBetween_3 : decode prog_12_method_71_code 3 = .ok (.bipush 7, 2) := by decide +kernel
theorem d_Mo_rankBetween_5 : decode prog_12_method_71_code 5 = .ok (.if_icmp .ge 29, 3) := by decide +kernel
theorem d_Mo_rankBetween_8 : decode prog_12_method_71_code 8 = .ok (.aload_n 0, 1) := by decide +kernel
theorem d_Mo_rankBetween_9 : decode prog_12_method_71_code 9 = .ok (.aload_n 0, 1) := by decide +kernel
theorem d_Mo_rankBetween_10 : decode prog_12_method_71_code 10 = .ok (.iload_n 1, 1) := by decide +kernel
theorem d_Mo_rankBetween_11 : decode prog_12_method_71_code 11 = .ok (.iload_n 2, 1) := by decide +kernel
theorem d_Mo_rankBetween_12 : decode prog_12_method_71_code 12 = .ok (.iload_n 3, 1) := by decide +kernel
theorem d_Mo_rankBetween_13 : decode prog_12_method_71_code 13 = .ok (.invokevirtual 454, 3) := by decide +kernel
theorem d_Mo_rankBetween_16 : decode prog_12_method_71_code 16 = .ok (.putfield 457, 3) := by decide +kernel
theorem d_Mo_rankBetween_19 : decode prog_12_method_71_code 19 = .ok (.aload_n 0, 1) := by decide +kernel
theorem d_Mo_rankBetween_20 : decode prog_12_method_71_code 20 = .ok (.getfield 457, 3) := by decide +kernel
theorem d_Mo_rankBetween_23 : decode prog_12_method_71_code 23 = .ok (.ifCond .lt 5, 3) := by decide +kernel
theorem d_Mo_rankBetween_26 : decode prog_12_method_71_code 26 = .ok (.iload_n 3, 1) := by decide +kernel
theorem d_Mo_rankBetween_27 : decode prog_12_method_71_code 27 = .ok (.ireturn, 1) := by decide +kernel
theorem d_Mo_rankBetween_28 : decode prog_12_method_71_code 28 = .ok (.iinc 3 1, 3) := by decide +kernel
theorem d_Mo_rankBetween_31 : decode prog_12_method_71_code 31 = .ok (.goto (-29), 3) := by decide +kernel
theorem d_Mo_rankBetween_34 : decode prog_12_method_71_code 34 = .ok (.aload_n 0, 1) := by decide +kernel
theorem d_Mo_rankBetween_35 : decode prog_12_method_71_code 35 = .ok (.getfield 114, 3) := by decide +kernel
theorem d_Mo_rankBetween_38 : decode prog_12_method_71_code 38 = .ok (.iload_n 1, 1) := by decide +kernel
theorem d_Mo_rankBetween_39 : decode prog_12_method_71_code 39 = .ok (.invokevirtual 214, 3) := by decide +kernel
theorem d_Mo_rankBetween_42 : decode prog_12_method_71_code 42 = .ok (.istore_n 3, 1) := by decide +kernel
theorem d_Mo_rankBetween_43 : decode prog_12_method_71_code 43 = .ok (.iload_n 3, 1) := by decide +kernel
theorem d_Mo_rankBetween_44 : decode prog_12_method_71_code 44 = .ok (.bipush 39, 2) := by decide +kernel
theorem d_Mo_rankBetween_46 : decode prog_12_method_71_code 46 = .ok (.if_icmp .eq 15, 3) := by decide +kernel
theorem d_Mo_rankBetween_49 : decode prog_12_method_71_code 49 = .ok (.iload_n 3, 1) := by decide +kernel
theorem d_Mo_rankBetween_50 : decode prog_12_method_71_code 50 = .ok (.bipush 40, 2) := by decide +kernel
theorem d_Mo_rankBetween_52 : decode prog_12_method_71_code 52 = .ok (.if_icmp .eq 9, 3) := by decide +kernel
theorem d_Mo_rankBetween_55 : decode prog_12_method_71_code 55 = .ok (.iload_n 3, 1) := by decide +kernel
theorem d_Mo_rankBetween_56 : decode prog_12_method_71_code 56 = .ok (.bipush 49, 2) := by decide +kernel
theorem d_Mo_rankBetween_58 : decode prog_12_method_71_code 58 = .ok (.if_icmp .ne 11, 3) := by decide +kernel
theorem d_Mo_rankBetween_61 : decode prog_12_method_71_code 61 = .ok (.aload_n 0, 1) := by decide +kernel
theorem d_Mo_rankBetween_62 : decode prog_12_method_71_code 62 = .ok (.iload_n 1, 1) := by decide +kernel
theorem d_Mo_rankBetween_63 : decode prog_12_method_71_code 63 = .ok (.putfield 457, 3) := by decide +kernel
theorem d_Mo_rankBetween_66 : decode prog_12_method_71_code 66 = .ok (.bipush 7, 2) := by decide +kernel
theorem d_Mo_rankBetween_68 : decode prog_12_method_71_code 68 = .ok (.ireturn, 1) := by decide +kernel
theorem d_Mo_rankBetween_69 : decode prog_12_method_71_code 69 = .ok (.aload_n 0, 1) := by decide +kernel
theorem d_Mo_rankBetween_70 : decode prog_12_method_71_code 70 = .ok (.aload_n 0, 1) := by decide +kernel
theorem d_Mo_rankBetween_71 : decode prog_12_method_71_code 71 = .ok (.iload_n 1, 1) := by decide +kernel
theorem d_Mo_rankBetween_72 : decode prog_12_method_71_code 72 = .ok (.iload_n 2, 1) := by decide +kernel
theorem d_Mo_rankBetween_73 : decode prog_12_method_71_code 73 = .ok (.bipush 8, 2) := by decide +kernel
theorem d_Mo_rankBetween_75 : decode prog_12_method_71_code 75 = .ok (.invokevirtual 454, 3) := by decide +kernel
theorem d_Mo_rankBetween_78 : decode prog_12_method_71_code 78 = .ok (.putfield 457, 3) := by decide +kernel
theorem d_Mo_rankBetween_81 : decode prog_12_method_71_code 81 = .ok (.aload_n 0, 1) := by decide +kernel
theorem d_Mo_rankBetween_82 : decode prog_12_method_71_code 82 = .ok (.getfield 457, 3) := by decide +kernel
theorem d_Mo_rankBetween_85 : decode prog_12_method_71_code 85 = .ok (.ifCond .lt 6, 3) := by decide +kernel
theorem d_Mo_rankBetween_88 : decode prog_12_method_71_code 88 = .ok (.bipush 8, 2) := by decide +kernel
theorem d_Mo_rankBetween_90 : decode prog_12_method_71_code 90 = .ok (.ireturn, 1) := by decide +kernel
theorem d_Mo_rankBetween_91 : decode prog_12_method_71_code 91 = .ok (.aload_n 0, 1) := by decide +kernel
theorem d_Mo_rankBetween_92 : decode prog_12_method_71_code 92 = .ok (.iload_n 2, 1) := by decide +kernel
theorem d_Mo_rankBetween_93 : decode prog_12_method_71_code 93 = .ok (.iconst 1, 1) := by decide +kernel
theorem d_Mo_rankBetween_94 : decode prog_12_method_71_code 94 = .ok (.isub, 1) := by decide +kernel
theorem d_Mo_rankBetween_95 : decode prog_12_method_71_code 95 = .ok (.putfield 457, 3) := by decide +kernel
theorem d_Mo_rankBetween_98 : decode prog_12_method_71_code 98 = .ok (.aload_n 0, 1) := by decide +kernel
theorem d_Mo_rankBetween_99 : decode prog_12_method_71_code 99 = .ok (.getfield 114, 3) := by decide +kernel
theorem d_Mo_rankBetween_102 : decode prog_12_method_71_code 102 = .ok (.iload_n 2, 1) := by decide +kernel
theorem d_Mo_rankBetween_103 : decode prog_12_method_71_code 103 = .ok (.iconst 1, 1) := by decide +kernel
theorem d_Mo_rankBetween_104 : decode prog_12_method_71_code 104 = .ok (.isub, 1) := by decide +kernel
theorem d_Mo_rankBetween_105 : decode prog_12_method_71_code 105 = .ok (.invokevirtual 214, 3) := by decide +kernel
theorem d_Mo_rankBetween_108 : decode prog_12_method_71_code 108 = .ok (.bipush 48, 2) := by decide +kernel
theorem d_Mo_rankBetween_110 : decode prog_12_method_71_code 110 = .ok (.if_icmp .ne 8, 3) := by decide +kernel
theorem d_Mo_rankBetween_113 : decode prog_12_method_71_code 113 = .ok (.bipush 9, 2) := by decide +kernel
theorem d_Mo_rankBetween_115 : decode prog_12_method_71_code 115 = .ok (.goto 5, 3) := by decide +kernel
theorem d_Mo_rankBetween_118 : decode prog_12_method_71_code 118 = .ok (.bipush 10, 2) := by decide +kernel
theorem d_Mo_rankBetween_120 : decode prog_12_method_71_code 120 = .ok (.ireturn, 1) := by decide +kernel
set_option maxHeartbeats 4000000 in
set_option maxRecDepth 100000 in
theorem L_Mo_rankBetween_2 (l : Launch) (D : va_G) (cI cB cJ cS : ClassId) (h0 : Nat) (am : Nat → Nat) (a_all_m5 : Nat) (p1 : Int32) (p2 : Int32) (known_h0 : Int32) (thrown_h0 : Int32) (wrong_h0 : Int32) (lastEnd_h0 : Int32) (at_h0 : Int32) (bad_h0 : Int32) (levels_h0 : Int32) (least_h0 : Int32) (found_h0 : Int32) (size_m5 : Int32) (n_a_all_m5 : Nat) (b_a_all_m5 : Nat → Int32) (n_m2 : Nat) (b_m2 : Nat → Int32) (ret : Int32) (o_0_36 : Int32) (p : Program) (e : Env) (s : State) (m : MethodId) (below : List Frame) (meth : Method) (c : Code) (hr : meth.sig.returnType = (Option.some Jvm.ClassFile.FieldType.int)) (hnm : meth.name = y_Mo_rankBetween.name) : ∀ (k_2 : Nat) (v3_2 : Int32) (f0_36_2 : Int32), F_Mo_rankBetween_2 p1 p2 known_h0 thrown_h0 wrong_h0 lastEnd_h0 at_h0 bad_h0 levels_h0 least_h0 size_m5 n_a_all_m5 b_a_all_m5 n_m2 b_m2  k_2 v3_2 f0_36_2 = some (ret, o_0_36) → J (KxOf p l e { frames := 3, cells := 0, slots := 0, locals := 69 } s m [.ref h0, .int p1, .int p2].toArray below meth c D (gT cI cB cJ cS) [(h0, .inr (9, moF am known_h0 thrown_h0 wrong_h0 lastEnd_h0 at_h0 bad_h0 levels_h0 least_h0 found_h0)), ((am 5), .inr (8, [.ref a_all_m5, .int size_m5])), (a_all_m5, .inl (cI, n_a_all_m5, .inl b_a_all_m5)), ((am 2), .inl (cI, n_m2, .inl b_m2))] (fun v w => v = some (.int ret) ∧ w = [(h0, .inr (9, moF am known_h0 thrown_h0 wrong_h0 lastEnd_h0 at_h0 bad_h0 levels_h0 least_h0 o_0_36)), ((am 5), .inr (8, [.ref a_all_m5, .int size_m5])), (a_all_m5, .inl (cI, n_a_all_m5, .inl b_a_all_m5)), ((am 2), .inl (cI, n_m2, .inl b_m2))]) 0 0) prog_12_method_71_code 4 R_Mo 2 [(3, .int v3_2), (0, .ref h0), (1, .int p1), (2, .int p2)] [] [(h0, .inr (9, moF am known_h0 thrown_h0 wrong_h0 lastEnd_h0 at_h0 bad_h0 levels_h0 least_h0 f0_36_2)), ((am 5), .inr (8, [.ref a_all_m5, .int size_m5])), (a_all_m5, .inl (cI, n_a_all_m5, .inl b_a_all_m5)), ((am 2), .inl (cI, n_m2, .inl b_m2))] 0 0 := by
  intro k_2
  induction k_2 with
  | zero => intro v3_2 f0_36_2 h; rw [F_Mo_rankBetween_2] at h; cases h
  | succ k_2 ih_2 =>
    intro v3_2 f0_36_2 h
    rw [F_Mo_rankBetween_2] at h
    refine j_iload_n d_Mo_rankBetween_2 rfl 0 rfl ?_
    refine j_bipush (v := 7) d_Mo_rankBetween_3 (by decide) ?_
    refine j_icmp_ge (tgt := 34) d_Mo_rankBetween_5 (by decide) (fun c1 => ?_) (fun c1 => ?_)
    · replace h := it_t c1 h
      refine j_aload_n d_Mo_rankBetween_34 rfl 1 rfl ?_
      refine j_get ig_Mo rfl 0 rfl 5 (by decide) rfl m_1118 rfl d_Mo_rankBetween_35 ?_
      refine j_iload_n d_Mo_rankBetween_38 rfl 2 rfl ?_
      replace h := bd_s h
      obtain ⟨_, k2, h⟩ := h
      refine j_callV (n := 1) (As := [.int p1]) (rest := []) (wr := [(h0, .inr (9, moF am known_h0 thrown_h0 wrong_h0 lastEnd_h0 at_h0 bad_h0 levels_h0 least_h0 f0_36_2)), ((am 2), .inl (cI, n_m2, .inl b_m2))]) (c_Nm_at l D cI cB cJ cS (am 5) a_all_m5 p1 size_m5 n_a_all_m5 b_a_all_m5  k2) k_Mo_214 (by decide) ⟨Nat.le_of_ble_eq_true rfl, Nat.le_of_ble_eq_true rfl⟩ rfl 0 rfl [1, 2] [0, 3] rfl (by decide) rfl (by decide) (by decide) rfl rfl (Nat.le_of_ble_eq_true rfl) d_Mo_rankBetween_39 ⟨Nat.le_of_ble_eq_true rfl, Nat.le_of_ble_eq_true rfl⟩ (fun v w hq => ?_)
      obtain ⟨rfl, rfl⟩ := hq
      refine j_norm (pc' := 42) (st' := [.int (b_a_all_m5 (Int32.toNatClampNeg p1))]) (ws' := [(h0, .inr (9, moF am known_h0 thrown_h0 wrong_h0 lastEnd_h0 at_h0 bad_h0 levels_h0 least_h0 f0_36_2)), ((am 2), .inl (cI, n_m2, .inl b_m2)), ((am 5), .inr (8, [.ref a_all_m5, .int size_m5])), (a_all_m5, .inl (cI, n_a_all_m5, .inl b_a_all_m5))]) (cl' := 0) (sl' := 0) rfl rfl rfl rfl rfl rfl ?_
      refine j_istore_n (lv' := [(3, .int (b_a_all_m5 (Int32.toNatClampNeg p1))), (0, .ref h0), (1, .int p1), (2, .int p2)]) d_Mo_rankBetween_42 rfl (by decide) rfl ?_
      refine j_iload_n d_Mo_rankBetween_43 rfl 0 rfl ?_
      refine j_bipush (v := 39) d_Mo_rankBetween_44 (by decide) ?_
      refine j_icmp_eq (tgt := 61) d_Mo_rankBetween_46 (by decide) (fun c3 => ?_) (fun c3 => ?_)
      · replace h := it_t c3 h
        refine j_aload_n d_Mo_rankBetween_61 rfl 1 rfl ?_
        refine j_iload_n d_Mo_rankBetween_62 rfl 2 rfl ?_
        refine j_put (ws' := [(h0, .inr (9, moF am known_h0 thrown_h0 wrong_h0 lastEnd_h0 at_h0 bad_h0 levels_h0 least_h0 p1)), ((am 2), .inl (cI, n_m2, .inl b_m2)), ((am 5), .inr (8, [.ref a_all_m5, .int size_m5])), (a_all_m5, .inl (cI, n_a_all_m5, .inl b_a_all_m5))]) ig_Mo tk_Mo nm_Mo rfl 0 rfl 36 (by decide) rfl m_1149 rfl (tk_Mo 36 (by decide)) rfl rfl (Nat.le_of_ble_eq_true rfl) d_Mo_rankBetween_63 rfl ?_
        refine j_bipush (v := 7) d_Mo_rankBetween_66 (by decide) ?_
        replace h := Option.some.inj h
        replace h := Prod.mk.inj h
        obtain ⟨h9, h⟩ := h
        subst h9
        subst h
        exact j_iret (w := [(h0, .inr (9, moF am known_h0 thrown_h0 wrong_h0 lastEnd_h0 at_h0 bad_h0 levels_h0 least_h0 p1)), ((am 5), .inr (8, [.ref a_all_m5, .int size_m5])), (a_all_m5, .inl (cI, n_a_all_m5, .inl b_a_all_m5)), ((am 2), .inl (cI, n_m2, .inl b_m2))]) hr d_Mo_rankBetween_68 [0, 2, 3, 1] rfl (by decide) ⟨rfl, rfl⟩
      · replace h := it_f c3 h
        refine j_iload_n d_Mo_rankBetween_49 rfl 0 rfl ?_
        refine j_bipush (v := 40) d_Mo_rankBetween_50 (by decide) ?_
        refine j_icmp_eq (tgt := 61) d_Mo_rankBetween_52 (by decide) (fun c4 => ?_) (fun c4 => ?_)
        · replace h := it_t c4 h
          refine j_aload_n d_Mo_rankBetween_61 rfl 1 rfl ?_
          refine j_iload_n d_Mo_rankBetween_62 rfl 2 rfl ?_
          refine j_put (ws' := [(h0, .inr (9, moF am known_h0 thrown_h0 wrong_h0 lastEnd_h0 at_h0 bad_h0 levels_h0 least_h0 p1)), ((am 2), .inl (cI, n_m2, .inl b_m2)), ((am 5), .inr (8, [.ref a_all_m5, .int size_m5])), (a_all_m5, .inl (cI, n_a_all_m5, .inl b_a_all_m5))]) ig_Mo tk_Mo nm_Mo rfl 0 rfl 36 (by decide) rfl m_1149 rfl (tk_Mo 36 (by decide)) rfl rfl (Nat.le_of_ble_eq_true rfl) d_Mo_rankBetween_63 rfl ?_
          refine j_bipush (v := 7) d_Mo_rankBetween_66 (by decide) ?_
          replace h := Option.some.inj h
          replace h := Prod.mk.inj h
          obtain ⟨h9, h⟩ := h
          subst h9
          subst h
          exact j_iret (w := [(h0, .inr (9, moF am known_h0 thrown_h0 wrong_h0 lastEnd_h0 at_h0 bad_h0 levels_h0 least_h0 p1)), ((am 5), .inr (8, [.ref a_all_m5, .int size_m5])), (a_all_m5, .inl (cI, n_a_all_m5, .inl b_a_all_m5)), ((am 2), .inl (cI, n_m2, .inl b_m2))]) hr d_Mo_rankBetween_68 [0, 2, 3, 1] rfl (by decide) ⟨rfl, rfl⟩
        · replace h := it_f c4 h
          refine j_iload_n d_Mo_rankBetween_55 rfl 0 rfl ?_
          refine j_bipush (v := 49) d_Mo_rankBetween_56 (by decide) ?_
          refine j_icmp_ne (tgt := 69) d_Mo_rankBetween_58 (by decide) (fun c5 => ?_) (fun c5 => ?_)
          · replace h := it_f c5 h
            refine j_aload_n d_Mo_rankBetween_69 rfl 1 rfl ?_
            refine j_aload_n d_Mo_rankBetween_70 rfl 1 rfl ?_
            refine j_iload_n d_Mo_rankBetween_71 rfl 2 rfl ?_
            refine j_iload_n d_Mo_rankBetween_72 rfl 3 rfl ?_
            refine j_bipush (v := 8) d_Mo_rankBetween_73 (by decide) ?_
            replace h := bd_s h
            obtain ⟨r6, k7, h⟩ := h
            refine j_callV (n := 3) (As := [.int p1, .int p2, .int 8]) (rest := [.ref h0]) (wr := []) (c_Mo_lastOf l D cI cB cJ cS h0 am a_all_m5 p1 p2 8 known_h0 thrown_h0 wrong_h0 lastEnd_h0 at_h0 bad_h0 levels_h0 least_h0 f0_36_2 size_m5 n_a_all_m5 b_a_all_m5 n_m2 b_m2  r6 k7) k_Mo_454 (by decide) ⟨Nat.le_of_ble_eq_true rfl, Nat.le_of_ble_eq_true rfl⟩ rfl 0 rfl [0, 2, 3, 1] [] rfl (by decide) rfl (by decide) (by decide) rfl rfl (Nat.le_of_ble_eq_true rfl) d_Mo_rankBetween_75 ⟨Nat.le_of_ble_eq_true rfl, Nat.le_of_ble_eq_true rfl⟩ (fun v w hq => ?_)
            obtain ⟨rfl, rfl⟩ := hq
            refine j_norm (pc' := 78) (st' := [.int r6, .ref h0]) (ws' := [(h0, .inr (9, moF am known_h0 thrown_h0 wrong_h0 lastEnd_h0 at_h0 bad_h0 levels_h0 least_h0 f0_36_2)), ((am 5), .inr (8, [.ref a_all_m5, .int size_m5])), (a_all_m5, .inl (cI, n_a_all_m5, .inl b_a_all_m5)), ((am 2), .inl (cI, n_m2, .inl b_m2))]) (cl' := 0) (sl' := 0) rfl rfl rfl rfl rfl rfl ?_
            refine j_put (ws' := [(h0, .inr (9, moF am known_h0 thrown_h0 wrong_h0 lastEnd_h0 at_h0 bad_h0 levels_h0 least_h0 r6)), ((am 5), .inr (8, [.ref a_all_m5, .int size_m5])), (a_all_m5, .inl (cI, n_a_all_m5, .inl b_a_all_m5)), ((am 2), .inl (cI, n_m2, .inl b_m2))]) ig_Mo tk_Mo nm_Mo rfl 0 rfl 36 (by decide) rfl m_1149 rfl (tk_Mo 36 (by decide)) rfl rfl (Nat.le_of_ble_eq_true rfl) d_Mo_rankBetween_78 rfl ?_
            refine j_aload_n d_Mo_rankBetween_81 rfl 1 rfl ?_
            refine j_get ig_Mo rfl 0 rfl 36 (by decide) rfl m_1149 rfl d_Mo_rankBetween_82 ?_
            refine j_if_lt (tgt := 91) d_Mo_rankBetween_85 (by decide) (fun c8 => ?_) (fun c8 => ?_)
            · replace h := it_t c8 h
              refine j_aload_n d_Mo_rankBetween_91 rfl 1 rfl ?_
              refine j_iload_n d_Mo_rankBetween_92 rfl 3 rfl ?_
              refine j_iconst (v := 1) d_Mo_rankBetween_93 (by decide) ?_
              refine j_isub d_Mo_rankBetween_94 ?_
              refine j_put (ws' := [(h0, .inr (9, moF am known_h0 thrown_h0 wrong_h0 lastEnd_h0 at_h0 bad_h0 levels_h0 least_h0 (p2 - 1))), ((am 5), .inr (8, [.ref a_all_m5, .int size_m5])), (a_all_m5, .inl (cI, n_a_all_m5, .inl b_a_all_m5)), ((am 2), .inl (cI, n_m2, .inl b_m2))]) ig_Mo tk_Mo nm_Mo rfl 0 rfl 36 (by decide) rfl m_1149 rfl (tk_Mo 36 (by decide)) rfl rfl (Nat.le_of_ble_eq_true rfl) d_Mo_rankBetween_95 rfl ?_
              refine j_aload_n d_Mo_rankBetween_98 rfl 1 rfl ?_
              refine j_get ig_Mo rfl 0 rfl 5 (by decide) rfl m_1118 rfl d_Mo_rankBetween_99 ?_
              refine j_iload_n d_Mo_rankBetween_102 rfl 3 rfl ?_
              refine j_iconst (v := 1) d_Mo_rankBetween_103 (by decide) ?_
              refine j_isub d_Mo_rankBetween_104 ?_
              replace h := bd_s h
              obtain ⟨_, k9, h⟩ := h
              refine j_callV (n := 1) (As := [.int (p2 - 1)]) (rest := []) (wr := [(h0, .inr (9, moF am known_h0 thrown_h0 wrong_h0 lastEnd_h0 at_h0 bad_h0 levels_h0 least_h0 (p2 - 1))), ((am 2), .inl (cI, n_m2, .inl b_m2))]) (c_Nm_at l D cI cB cJ cS (am 5) a_all_m5 (p2 - 1) size_m5 n_a_all_m5 b_a_all_m5  k9) k_Mo_214 (by decide) ⟨Nat.le_of_ble_eq_true rfl, Nat.le_of_ble_eq_true rfl⟩ rfl 0 rfl [1, 2] [0, 3] rfl (by decide) rfl (by decide) (by decide) rfl rfl (Nat.le_of_ble_eq_true rfl) d_Mo_rankBetween_105 ⟨Nat.le_of_ble_eq_true rfl, Nat.le_of_ble_eq_true rfl⟩ (fun v w hq => ?_)
              obtain ⟨rfl, rfl⟩ := hq
              refine j_norm (pc' := 108) (st' := [.int (b_a_all_m5 (Int32.toNatClampNeg (p2 - 1)))]) (ws' := [(h0, .inr (9, moF am known_h0 thrown_h0 wrong_h0 lastEnd_h0 at_h0 bad_h0 levels_h0 least_h0 (p2 - 1))), ((am 2), .inl (cI, n_m2, .inl b_m2)), ((am 5), .inr (8, [.ref a_all_m5, .int size_m5])), (a_all_m5, .inl (cI, n_a_all_m5, .inl b_a_all_m5))]) (cl' := 0) (sl' := 0) rfl rfl rfl rfl rfl rfl ?_
              refine j_bipush (v := 48) d_Mo_rankBetween_108 (by decide) ?_
              refine j_icmp_ne (tgt := 118) d_Mo_rankBetween_110 (by decide) (fun c10 => ?_) (fun c10 => ?_)
              · replace h := it_f c10 h
                refine j_bipush (v := 10) d_Mo_rankBetween_118 (by decide) ?_
                replace h := Option.some.inj h
                replace h := Prod.mk.inj h
                obtain ⟨h9, h⟩ := h
                subst h9
                subst h
                exact j_iret (w := [(h0, .inr (9, moF am known_h0 thrown_h0 wrong_h0 lastEnd_h0 at_h0 bad_h0 levels_h0 least_h0 (p2 - 1))), ((am 5), .inr (8, [.ref a_all_m5, .int size_m5])), (a_all_m5, .inl (cI, n_a_all_m5, .inl b_a_all_m5)), ((am 2), .inl (cI, n_m2, .inl b_m2))]) hr d_Mo_rankBetween_120 [0, 2, 3, 1] rfl (by decide) ⟨rfl, rfl⟩
              · replace h := it_t c10 h
                refine j_bipush (v := 9) d_Mo_rankBetween_113 (by decide) ?_
                refine j_goto (tgt := 120) d_Mo_rankBetween_115 (by decide) ?_
                replace h := Option.some.inj h
                replace h := Prod.mk.inj h
                obtain ⟨h9, h⟩ := h
                subst h9
                subst h
                exact j_iret (w := [(h0, .inr (9, moF am known_h0 thrown_h0 wrong_h0 lastEnd_h0 at_h0 bad_h0 levels_h0 least_h0 (p2 - 1))), ((am 5), .inr (8, [.ref a_all_m5, .int size_m5])), (a_all_m5, .inl (cI, n_a_all_m5, .inl b_a_all_m5)), ((am 2), .inl (cI, n_m2, .inl b_m2))]) hr d_Mo_rankBetween_120 [0, 2, 3, 1] rfl (by decide) ⟨rfl, rfl⟩
            · replace h := it_f c8 h
              refine j_bipush (v := 8) d_Mo_rankBetween_88 (by decide) ?_
              replace h := Option.some.inj h
              replace h := Prod.mk.inj h
              obtain ⟨h9, h⟩ := h
              subst h9
              subst h
              exact j_iret (w := [(h0, .inr (9, moF am known_h0 thrown_h0 wrong_h0 lastEnd_h0 at_h0 bad_h0 levels_h0 least_h0 r6)), ((am 5), .inr (8, [.ref a_all_m5, .int size_m5])), (a_all_m5, .inl (cI, n_a_all_m5, .inl b_a_all_m5)), ((am 2), .inl (cI, n_m2, .inl b_m2))]) hr d_Mo_rankBetween_90 [0, 1, 2, 3] rfl (by decide) ⟨rfl, rfl⟩
          · replace h := it_t c5 h
            refine j_aload_n d_Mo_rankBetween_61 rfl 1 rfl ?_
            refine j_iload_n d_Mo_rankBetween_62 rfl 2 rfl ?_
            refine j_put (ws' := [(h0, .inr (9, moF am known_h0 thrown_h0 wrong_h0 lastEnd_h0 at_h0 bad_h0 levels_h0 least_h0 p1)), ((am 2), .inl (cI, n_m2, .inl b_m2)), ((am 5), .inr (8, [.ref a_all_m5, .int size_m5])), (a_all_m5, .inl (cI, n_a_all_m5, .inl b_a_all_m5))]) ig_Mo tk_Mo nm_Mo rfl 0 rfl 36 (by decide) rfl m_1149 rfl (tk_Mo 36 (by decide)) rfl rfl (Nat.le_of_ble_eq_true rfl) d_Mo_rankBetween_63 rfl ?_
            refine j_bipush (v := 7) d_Mo_rankBetween_66 (by decide) ?_
            replace h := Option.some.inj h
            replace h := Prod.mk.inj h
            obtain ⟨h9, h⟩ := h
            subst h9
            subst h
            exact j_iret (w := [(h0, .inr (9, moF am known_h0 thrown_h0 wrong_h0 lastEnd_h0 at_h0 bad_h0 levels_h0 least_h0 p1)), ((am 5), .inr (8, [.ref a_all_m5, .int size_m5])), (a_all_m5, .inl (cI, n_a_all_m5, .inl b_a_all_m5)), ((am 2), .inl (cI, n_m2, .inl b_m2))]) hr d_Mo_rankBetween_68 [0, 2, 3, 1] rfl (by decide) ⟨rfl, rfl⟩
    · replace h := it_f c1 h
      refine j_aload_n d_Mo_rankBetween_8 rfl 1 rfl ?_
      refine j_aload_n d_Mo_rankBetween_9 rfl 1 rfl ?_
      refine j_iload_n d_Mo_rankBetween_10 rfl 2 rfl ?_
      refine j_iload_n d_Mo_rankBetween_11 rfl 3 rfl ?_
      refine j_iload_n d_Mo_rankBetween_12 rfl 0 rfl ?_
      replace h := bd_s h
      obtain ⟨r11, k12, h⟩ := h
      refine j_callV (n := 3) (As := [.int p1, .int p2, .int v3_2]) (rest := [.ref h0]) (wr := []) (c_Mo_lastOf l D cI cB cJ cS h0 am a_all_m5 p1 p2 v3_2 known_h0 thrown_h0 wrong_h0 lastEnd_h0 at_h0 bad_h0 levels_h0 least_h0 f0_36_2 size_m5 n_a_all_m5 b_a_all_m5 n_m2 b_m2  r11 k12) k_Mo_454 (by decide) ⟨Nat.le_of_ble_eq_true rfl, Nat.le_of_ble_eq_true rfl⟩ rfl 0 rfl [0, 1, 2, 3] [] rfl (by decide) rfl (by decide) (by decide) rfl rfl (Nat.le_of_ble_eq_true rfl) d_Mo_rankBetween_13 ⟨Nat.le_of_ble_eq_true rfl, Nat.le_of_ble_eq_true rfl⟩ (fun v w hq => ?_)
      obtain ⟨rfl, rfl⟩ := hq
      refine j_norm (pc' := 16) (st' := [.int r11, .ref h0]) (ws' := [(h0, .inr (9, moF am known_h0 thrown_h0 wrong_h0 lastEnd_h0 at_h0 bad_h0 levels_h0 least_h0 f0_36_2)), ((am 5), .inr (8, [.ref a_all_m5, .int size_m5])), (a_all_m5, .inl (cI, n_a_all_m5, .inl b_a_all_m5)), ((am 2), .inl (cI, n_m2, .inl b_m2))]) (cl' := 0) (sl' := 0) rfl rfl rfl rfl rfl rfl ?_
      refine j_put (ws' := [(h0, .inr (9, moF am known_h0 thrown_h0 wrong_h0 lastEnd_h0 at_h0 bad_h0 levels_h0 least_h0 r11)), ((am 5), .inr (8, [.ref a_all_m5, .int size_m5])), (a_all_m5, .inl (cI, n_a_all_m5, .inl b_a_all_m5)), ((am 2), .inl (cI, n_m2, .inl b_m2))]) ig_Mo tk_Mo nm_Mo rfl 0 rfl 36 (by decide) rfl m_1149 rfl (tk_Mo 36 (by decide)) rfl rfl (Nat.le_of_ble_eq_true rfl) d_Mo_rankBetween_16 rfl ?_
      refine j_aload_n d_Mo_rankBetween_19 rfl 1 rfl ?_
      refine j_get ig_Mo rfl 0 rfl 36 (by decide) rfl m_1149 rfl d_Mo_rankBetween_20 ?_
      refine j_if_lt (tgt := 28) d_Mo_rankBetween_23 (by decide) (fun c13 => ?_) (fun c13 => ?_)
      · replace h := it_t c13 h
        refine j_iinc (v := v3_2 + 1) (lv' := [(3, .int (v3_2 + 1)), (0, .ref h0), (1, .int p1), (2, .int p2)]) d_Mo_rankBetween_28 0 rfl rfl (by decide) rfl ?_
        refine j_goto (tgt := 2) d_Mo_rankBetween_31 (by decide) ?_
        refine j_sub (w := [(h0, .inr (9, moF am known_h0 thrown_h0 wrong_h0 lastEnd_h0 at_h0 bad_h0 levels_h0 least_h0 r11)), ((am 5), .inr (8, [.ref a_all_m5, .int size_m5])), (a_all_m5, .inl (cI, n_a_all_m5, .inl b_a_all_m5)), ((am 2), .inl (cI, n_m2, .inl b_m2))]) (lv' := [(3, .int (v3_2 + 1)), (0, .ref h0), (1, .int p1), (2, .int p2)]) [0, 1, 2, 3] rfl (by decide) [0, 1, 2, 3] rfl ?_
        exact ih_2 (v3_2 + 1) r11 h
      · replace h := it_f c13 h
        refine j_iload_n d_Mo_rankBetween_26 rfl 0 rfl ?_
        replace h := Option.some.inj h
        replace h := Prod.mk.inj h
        obtain ⟨h9, h⟩ := h
        subst h9
        subst h
        exact j_iret (w := [(h0, .inr (9, moF am known_h0 thrown_h0 wrong_h0 lastEnd_h0 at_h0 bad_h0 levels_h0 least_h0 r11)), ((am 5), .inr (8, [.ref a_all_m5, .int size_m5])), (a_all_m5, .inl (cI, n_a_all_m5, .inl b_a_all_m5)), ((am 2), .inl (cI, n_m2, .inl b_m2))]) hr d_Mo_rankBetween_27 [0, 1, 2, 3] rfl (by decide) ⟨rfl, rfl⟩
set_option maxHeartbeats 4000000 in
set_option maxRecDepth 100000 in
theorem c_Mo_rankBetween (l : Launch) (D : va_G) (cI cB cJ cS : ClassId) (h0 : Nat) (am : Nat → Nat) (a_all_m5 : Nat) (p1 : Int32) (p2 : Int32) (known_h0 : Int32) (thrown_h0 : Int32) (wrong_h0 : Int32) (lastEnd_h0 : Int32) (at_h0 : Int32) (bad_h0 : Int32) (levels_h0 : Int32) (least_h0 : Int32) (found_h0 : Int32) (size_m5 : Int32) (n_a_all_m5 : Nat) (b_a_all_m5 : Nat → Int32) (n_m2 : Nat) (b_m2 : Nat → Int32) (ret : Int32) (o_0_36 : Int32) (h : F_Mo_rankBetween p1 p2 known_h0 thrown_h0 wrong_h0 lastEnd_h0 at_h0 bad_h0 levels_h0 least_h0 found_h0 size_m5 n_a_all_m5 b_a_all_m5 n_m2 b_m2 = some (ret, o_0_36)) : Ct l D (gT cI cB cJ cS) y_Mo_rankBetween prog_12_method_71_code 4 (Option.some Jvm.ClassFile.FieldType.int) 3 69 0 0 [.ref h0, .int p1, .int p2] [(h0, .inr (9, moF am known_h0 thrown_h0 wrong_h0 lastEnd_h0 at_h0 bad_h0 levels_h0 least_h0 found_h0)), ((am 5), .inr (8, [.ref a_all_m5, .int size_m5])), (a_all_m5, .inl (cI, n_a_all_m5, .inl b_a_all_m5)), ((am 2), .inl (cI, n_m2, .inl b_m2))] (fun v w => v = some (.int ret) ∧ w = [(h0, .inr (9, moF am known_h0 thrown_h0 wrong_h0 lastEnd_h0 at_h0 bad_h0 levels_h0 least_h0 o_0_36)), ((am 5), .inr (8, [.ref a_all_m5, .int size_m5])), (a_all_m5, .inl (cI, n_a_all_m5, .inl b_a_all_m5)), ((am 2), .inl (cI, n_m2, .inl b_m2))]) := by
  refine Ct.mk (by decide) (Nat.le_of_ble_eq_true rfl) ?_
  intro p e s m below meth c hr hnm
  refine j_norm (pc' := 0) (lv' := [(0, .ref h0), (1, .int p1), (2, .int p2)]) (st' := []) (ws' := [(h0, .inr (9, moF am known_h0 thrown_h0 wrong_h0 lastEnd_h0 at_h0 bad_h0 levels_h0 least_h0 found_h0)), ((am 5), .inr (8, [.ref a_all_m5, .int size_m5])), (a_all_m5, .inl (cI, n_a_all_m5, .inl b_a_all_m5)), ((am 2), .inl (cI, n_m2, .inl b_m2))]) (cl' := 0) (sl' := 0) rfl rfl rfl rfl rfl rfl ?_
  unfold F_Mo_rankBetween at h
  refine j_iconst (v := 1) d_Mo_rankBetween_0 (by decide) ?_
  refine j_istore_n (lv' := [(3, .int 1), (0, .ref h0), (1, .int p1), (2, .int p2)]) d_Mo_rankBetween_1 rfl (by decide) rfl ?_
  refine j_sub (w := [(h0, .inr (9, moF am known_h0 thrown_h0 wrong_h0 lastEnd_h0 at_h0 bad_h0 levels_h0 least_h0 found_h0)), ((am 5), .inr (8, [.ref a_all_m5, .int size_m5])), (a_all_m5, .inl (cI, n_a_all_m5, .inl b_a_all_m5)), ((am 2), .inl (cI, n_m2, .inl b_m2))]) (lv' := [(3, .int 1), (0, .ref h0), (1, .int p1), (2, .int p2)]) [0, 1, 2, 3] rfl (by decide) [0, 1, 2, 3] rfl ?_
  exact L_Mo_rankBetween_2 l D cI cB cJ cS h0 am a_all_m5 p1 p2 known_h0 thrown_h0 wrong_h0 lastEnd_h0 at_h0 bad_h0 levels_h0 least_h0 found_h0 size_m5 n_a_all_m5 b_a_all_m5 n_m2 b_m2 ret o_0_36 p e s m below meth c hr hnm FU 1 found_h0 h
