noncomputable def F_Mo_read (known_h0 : Int32) (thrown_h0 : Int32) (wrong_h0 : Int32) (lastEnd_h0 : Int32) (at_h0 : Int32) (bad_h0 : Int32) (levels_h0 : Int32) (least_h0 : Int32) (found_h0 : Int32) (size_m4 : Int32) (size_m3 : Int32) (n_a_all_m3 : Nat) (b_a_all_m3 : Nat → Int32) (n_a_all_m4 : Nat) (b_a_all_m4 : Nat → Int32) (size_m5 : Int32) (size_m6 : Int32) (size_m7 : Int32) (n_m15 : Nat) (b_m15 : Nat → Int32) (n_a_all_m5 : Nat) (b_a_all_m5 : Nat → Int32) (n_a_all_m6 : Nat) (b_a_all_m6 : Nat → Int32) (n_a_all_m7 : Nat) (b_a_all_m7 : Nat → Int32) (size_m21 : Int32) (size_m22 : Int32) (size_m20 : Int32) (n_a_all_m20 : Nat) (b_a_all_m20 : Nat → Int32) (n_m2 : Nat) (b_m2 : Nat → Int32) (n_a_all_m21 : Nat) (b_a_all_m21 : Nat → Int32) (n_a_all_m22 : Nat) (b_a_all_m22 : Nat → Int32) (size_m24 : Int32) (size_m25 : Int32) (size_m26 : Int32) (size_m27 : Int32) (size_m28 : Int32) (size_m29 : Int32) (size_m30 : Int32) (size_m31 : Int32) (size_m32 : Int32) (size_m33 : Int32) (size_m34 : Int32) (n_a_all_m34 : Nat) (b_a_all_m34 : Nat → Int32) (size_m35 : Int32) (n_a_all_m35 : Nat) (b_a_all_m35 : Nat → Int32) (n_a_all_m24 : Nat) (b_a_all_m24 : Nat → Int32) (n_a_all_m25 : Nat) (b_a_all_m25 : Nat → Int32) (n_a_all_m26 : Nat) (b_a_all_m26 : Nat → Int32) (n_a_all_m27 : Nat) (b_a_all_m27 : Nat → Int32) (n_a_all_m28 : Nat) (b_a_all_m28 : Nat → Int32) (n_a_all_m29 : Nat) (b_a_all_m29 : Nat → Int32) (n_a_all_m30 : Nat) (b_a_all_m30 : Nat → Int32) (n_a_all_m31 : Nat) (b_a_all_m31 : Nat → Int32) (n_a_all_m33 : Nat) (b_a_all_m33 : Nat → Int32) (n_a_all_m32 : Nat) (b_a_all_m32 : Nat → Int32) (size_m9 : Int32) (size_m10 : Int32) (size_m11 : Int32) (size_m12 : Int32) : Option ((Int32 × Int32 × Int32 × Int32 × Int32 × Int32 × Int32 × Int32 × Int32 × Int32 × Int32 × Int32 × Int32 × Int32 × Int32 × Int32 × Int32 × Int32 × Int32 × Int32 × Int32 × Int32 × Int32 × Int32 × Int32 × Int32 × Int32 × Int32 × Int32 × Int32 × Int32 × Int32 × Nat × (Nat → Int32) × Nat × (Nat → Int32) × Nat × (Nat → Int32) × Nat × (Nat → Int32) × Nat × (Nat → Int32) × Nat × (Nat → Int32) × Nat × (Nat → Int32) × Nat × (Nat → Int32) × Nat × (Nat → Int32) × Nat × (Nat → Int32) × Nat × (Nat → Int32) × Nat × (Nat → Int32) × Nat × (Nat → Int32) × Nat × (Nat → Int32) × Nat × (Nat → Int32)) × Nat × Nat) :=
  bw (F_Nm_become size_m4 size_m3 n_a_all_m3 b_a_all_m3 n_a_all_m4 b_a_all_m4) fun ⟨r1, r2, r3⟩ =>
  bw (F_Mo_cut known_h0 0 wrong_h0 lastEnd_h0 at_h0 bad_h0 levels_h0 least_h0 found_h0 size_m5 size_m6 size_m7 r1 r2 r3 n_m15 b_m15 n_a_all_m5 b_a_all_m5 n_a_all_m6 b_a_all_m6 n_a_all_m7 b_a_all_m7) fun ⟨r10, r11, r12, r13, r14, r15, r16, r17, r18, r19⟩ =>
  bw (F_Mo_readProgram known_h0 0 wrong_h0 r10 at_h0 bad_h0 levels_h0 least_h0 found_h0 size_m21 size_m22 r11 r14 r15 size_m20 n_a_all_m20 b_a_all_m20 n_m2 b_m2 n_a_all_m21 b_a_all_m21 r13 r18 r19 r12 r16 r17 r1 r2 r3 n_a_all_m22 b_a_all_m22) fun ⟨r28, r29, r30, r31, r32, r33, r34, r35, r36, r37, r38, r39, r40, r41⟩ =>
  if r28 = 0 then (if r30 ≤ r32 then (Option.bind (F_Nm_at r32 r12 r16 r17) fun _ =>
      (some (((-1), known_h0, r17 (Int32.toNatClampNeg r32), r10, r29, r30, r31, r32, found_h0, r1, r11, r12, r13, r33, r34, r35, size_m24, size_m25, size_m26, size_m27, size_m28, size_m29, size_m30, size_m31, size_m32, size_m33, size_m34, size_m35, size_m9, size_m10, size_m11, size_m12, r36, r37, r38, r39, r40, r41, n_a_all_m24, b_a_all_m24, n_a_all_m25, b_a_all_m25, n_a_all_m26, b_a_all_m26, n_a_all_m27, b_a_all_m27, n_a_all_m28, b_a_all_m28, n_a_all_m29, b_a_all_m29, n_a_all_m30, b_a_all_m30, n_a_all_m31, b_a_all_m31, n_a_all_m32, b_a_all_m32, n_a_all_m33, b_a_all_m33, n_a_all_m34, b_a_all_m34, n_a_all_m35, b_a_all_m35), 0, 0)))
    else (Option.bind (F_Nm_at r30 r12 r16 r17) fun _ =>
      (some (((-1), known_h0, r17 (Int32.toNatClampNeg r30), r10, r29, r30, r31, r32, found_h0, r1, r11, r12, r13, r33, r34, r35, size_m24, size_m25, size_m26, size_m27, size_m28, size_m29, size_m30, size_m31, size_m32, size_m33, size_m34, size_m35, size_m9, size_m10, size_m11, size_m12, r36, r37, r38, r39, r40, r41, n_a_all_m24, b_a_all_m24, n_a_all_m25, b_a_all_m25, n_a_all_m26, b_a_all_m26, n_a_all_m27, b_a_all_m27, n_a_all_m28, b_a_all_m28, n_a_all_m29, b_a_all_m29, n_a_all_m30, b_a_all_m30, n_a_all_m31, b_a_all_m31, n_a_all_m32, b_a_all_m32, n_a_all_m33, b_a_all_m33, n_a_all_m34, b_a_all_m34, n_a_all_m35, b_a_all_m35), 0, 0))))
  else (bw (F_Mo_build 1 0 (-1) r10 r29 r30 r31 r32 found_h0 size_m24 size_m25 size_m26 size_m27 size_m28 size_m29 size_m30 size_m31 size_m32 size_m33 r11 size_m34 n_a_all_m34 b_a_all_m34 size_m35 n_a_all_m35 b_a_all_m35 n_a_all_m24 b_a_all_m24 n_a_all_m25 b_a_all_m25 n_a_all_m26 b_a_all_m26 n_a_all_m27 b_a_all_m27 n_a_all_m28 b_a_all_m28 n_a_all_m29 b_a_all_m29 n_a_all_m30 b_a_all_m30 n_a_all_m31 b_a_all_m31 n_a_all_m33 b_a_all_m33 n_a_all_m32 b_a_all_m32 r12 r16 r17 r14 r15 n_m2 b_m2) fun ⟨r52, r53, r54, r55, r56, r57, r58, r59, r60, r61, r62, r63, r64, r65, r66, r67, r68, r69, r70, r71, r72, r73, r74, r75, r76, r77, r78, r79, r80, r81, r82, r83, r84, r85, r86, r87⟩ =>
    (some ((r11 - 1, 1, (-1), r10, r29, r30, r31, r32, r52, size_m9, size_m10, size_m11, size_m12, r33, r34, r35, r53, r54, r55, r56, r57, r58, r59, r60, r61, 0, r62, r63, r1, r11, r12, r13, r36, r37, r38, r39, r40, r41, r64, r65, r66, r67, r68, r69, r70, r71, r72, r73, r74, r75, r76, r77, r78, r79, r80, r81, r82, r83, r84, r85, r86, r87), 0, 0)))
theorem d_Mo_read_0 : decode prog_12_method_79_code 0 = .ok (.aload_n 0, 1) := by decide +kernel
theorem d_Mo_read_1 : decode prog_12_method_79_code 1 = .ok (.iconst 0, 1) := by decide +kernel
theorem d_Mo_read_2 : decode prog_12_method_79_code 2 = .ok (.putfield 197, 3) := by decide +kernel
theorem d_Mo_read_5 : decode prog_12_method_79_code 5 = .ok (.aload_n 0, 1) := by decide +kernel
theorem d_Mo_read_6 : decode prog_12_method_79_code 6 = .ok (.getfield 111, 3) := by decide +kernel
theorem d_Mo_read_9 : decode prog_12_method_79_code 9 = .ok (.aload_n 0, 1) := by decide +kernel
theorem d_Mo_read_10 : decode prog_12_method_79_code 10 = .ok (.getfield 107, 3) := by decide +kernel
theorem d_Mo_read_13 : decode prog_12_method_79_code 13 = .ok (.invokevirtual 476, 3) := by decide +kernel
theorem d_Mo_read_16 : decode prog_12_method_79_code 16 = .ok (.aload_n 0, 1) := by decide +kernel
theorem d_Mo_read_17 : decode prog_12_method_79_code 17 = .ok (.getfield 107, 3) := by decide +kernel
theorem d_Mo_read_20 : decode prog_12_method_79_code 20 = .ok (.iconst 0, 1) := by decide +kernel
theorem d_Mo_read_21 : decode prog_12_method_79_code 21 = .ok (.putfield 204, 3) := by decide +kernel
theorem d_Mo_read_24 : decode prog_12_method_79_code 24 = .ok (.aload_n 0, 1) := by decide +kernel
theorem d_Mo_read_25 : decode prog_12_method_79_code 25 = .ok (.invokevirtual 480, 3) := by decide +kernel
theorem d_Mo_read_28 : decode prog_12_method_79_code 28 = .ok (.aload_n 0, 1) := by decide +kernel
theorem d_Mo_read_29 : decode prog_12_method_79_code 29 = .ok (.invokevirtual 483, 3) := by decide +kernel
theorem d_Mo_read_32 : decode prog_12_method_79_code 32 = .ok (.ifCond .ne 38, 3) := by decide +kernel
theorem d_Mo_read_35 : decode prog_12_method_79_code 35 = .ok (.aload_n 0, 1) := by decide +kernel
theorem d_Mo_read_36 : decode prog_12_method_79_code 36 = .ok (.aload_n 0, 1) := by decide +kernel
theorem d_Mo_read_37 : decode prog_12_method_79_code 37 = .ok (.getfield 117, 3) := by decide +kernel
theorem d_Mo_read_40 : decode prog_12_method_79_code 40 = .ok (.aload_n 0, 1) := by decide +kernel
theorem d_Mo_read_41 : decode prog_12_method_79_code 41 = .ok (.getfield 272, 3) := by decide +kernel
theorem d_Mo_read_44 : decode prog_12_method_79_code 44 = .ok (.aload_n 0, 1) := by decide +kernel
theorem d_Mo_read_45 : decode prog_12_method_79_code 45 = .ok (.getfield 359, 3) := by decide +kernel
theorem d_Mo_read_48 : decode prog_12_method_79_code 48 = .ok (.if_icmp .le 10, 3) := by decide +kernel
theorem d_Mo_read_51 : decode prog_12_method_79_code 51 = .ok (.aload_n 0, 1) := by decide +kernel
theorem d_Mo_read_52 : decode prog_12_method_79_code 52 = .ok (.getfield 272, 3) := by decide +kernel
theorem d_Mo_read_55 : decode prog_12_method_79_code 55 = .ok (.goto 7, 3) := by decide +kernel
theorem d_Mo_read_58 : decode prog_12_method_79_code 58 = .ok (.aload_n 0, 1) := by decide +kernel
theorem d_Mo_read_59 : decode prog_12_method_79_code 59 = .ok (.getfield 359, 3) := by decide +kernel
theorem d_Mo_read_62 : decode prog_12_method_79_code 62 = .ok (.invokevirtual 214, 3) := by decide +kernel
theorem d_Mo_read_65 : decode prog_12_method_79_code 65 = .ok (.putfield 135, 3) := by decide +kernel
theorem d_Mo_read_68 : decode prog_12_method_79_code 68 = .ok (.iconst (-1), 1) := by decide +kernel
theorem d_Mo_read_69 : decode prog_12_method_79_code 69 = .ok (.ireturn, 1) := by decide +kernel
theorem d_Mo_read_70 : decode prog_12_method_79_code 70 = .ok (.aload_n 0, 1) := by decide +kernel
theorem d_Mo_read_71 : decode prog_12_method_79_code 71 = .ok (.iconst (-1), 1) := by decide +kernel
theorem d_Mo_read_72 : decode prog_12_method_79_code 72 = .ok (.putfield 135, 3) := by decide +kernel
theorem d_Mo_read_75 : decode prog_12_method_79_code 75 = .ok (.aload_n 0, 1) := by decide +kernel
theorem d_Mo_read_76 : decode prog_12_method_79_code 76 = .ok (.iconst 1, 1) := by decide +kernel
theorem d_Mo_read_77 : decode prog_12_method_79_code 77 = .ok (.putfield 486, 3) := by decide +kernel
theorem d_Mo_read_80 : decode prog_12_method_79_code 80 = .ok (.aload_n 0, 1) := by decide +kernel
theorem d_Mo_read_81 : decode prog_12_method_79_code 81 = .ok (.invokevirtual 490, 3) := by decide +kernel
theorem d_Mo_read_84 : decode prog_12_method_79_code 84 = .ok (.aload_n 0, 1) := by decide +kernel
theorem d_Mo_read_85 : decode prog_12_method_79_code 85 = .ok (.invokevirtual 493, 3) := by decide +kernel
theorem d_Mo_read_88 : decode prog_12_method_79_code 88 = .ok (.aload_n 0, 1) := by decide +kernel
theorem d_Mo_read_89 : decode prog_12_method_79_code 89 = .ok (.getfield 126, 3) := by decide +kernel
theorem d_Mo_read_92 : decode prog_12_method_79_code 92 = .ok (.getfield 204, 3) := by decide +kernel
theorem d_Mo_read_95 : decode prog_12_method_79_code 95 = .ok (.iconst 1, 1) := by decide +kernel
theorem d_Mo_read_96 : decode prog_12_method_79_code 96 = .ok (.isub, 1) := by decide +kernel
theorem d_Mo_read_97 : decode prog_12_method_79_code 97 = .ok (.ireturn, 1) := by decide +kernel
set_option maxHeartbeats 4000000 in
set_option maxRecDepth 100000 in
theorem c_Mo_read (l : Launch) (D : va_G) (cI cB cJ cS : ClassId) (h0 : Nat) (am : Nat → Nat) (a_all_m4 : Nat) (a_all_m3 : Nat) (a_all_m5 : Nat) (a_all_m6 : Nat) (a_all_m7 : Nat) (a_all_m21 : Nat) (a_all_m22 : Nat) (a_all_m20 : Nat) (a_all_m24 : Nat) (a_all_m25 : Nat) (a_all_m26 : Nat) (a_all_m27 : Nat) (a_all_m28 : Nat) (a_all_m29 : Nat) (a_all_m30 : Nat) (a_all_m31 : Nat) (a_all_m32 : Nat) (a_all_m33 : Nat) (a_all_m34 : Nat) (a_all_m35 : Nat) (a_all_m9 : Nat) (a_all_m10 : Nat) (a_all_m11 : Nat) (a_all_m12 : Nat) (known_h0 : Int32) (thrown_h0 : Int32) (wrong_h0 : Int32) (lastEnd_h0 : Int32) (at_h0 : Int32) (bad_h0 : Int32) (levels_h0 : Int32) (least_h0 : Int32) (found_h0 : Int32) (size_m4 : Int32) (size_m3 : Int32) (n_a_all_m3 : Nat) (b_a_all_m3 : Nat → Int32) (n_a_all_m4 : Nat) (b_a_all_m4 : Nat → Int32) (size_m5 : Int32) (size_m6 : Int32) (size_m7 : Int32) (n_m15 : Nat) (b_m15 : Nat → Int32) (n_a_all_m5 : Nat) (b_a_all_m5 : Nat → Int32) (n_a_all_m6 : Nat) (b_a_all_m6 : Nat → Int32) (n_a_all_m7 : Nat) (b_a_all_m7 : Nat → Int32) (size_m21 : Int32) (size_m22 : Int32) (size_m20 : Int32) (n_a_all_m20 : Nat) (b_a_all_m20 : Nat → Int32) (n_m2 : Nat) (b_m2 : Nat → Int32) (n_a_all_m21 : Nat) (b_a_all_m21 : Nat → Int32) (n_a_all_m22 : Nat) (b_a_all_m22 : Nat → Int32) (size_m24 : Int32) (size_m25 : Int32) (size_m26 : Int32) (size_m27 : Int32) (size_m28 : Int32) (size_m29 : Int32) (size_m30 : Int32) (size_m31 : Int32) (size_m32 : Int32) (size_m33 : Int32) (size_m34 : Int32) (n_a_all_m34 : Nat) (b_a_all_m34 : Nat → Int32) (size_m35 : Int32) (n_a_all_m35 : Nat) (b_a_all_m35 : Nat → Int32) (n_a_all_m24 : Nat) (b_a_all_m24 : Nat → Int32) (n_a_all_m25 : Nat) (b_a_all_m25 : Nat → Int32) (n_a_all_m26 : Nat) (b_a_all_m26 : Nat → Int32) (n_a_all_m27 : Nat) (b_a_all_m27 : Nat → Int32) (n_a_all_m28 : Nat) (b_a_all_m28 : Nat → Int32) (n_a_all_m29 : Nat) (b_a_all_m29 : Nat → Int32) (n_a_all_m30 : Nat) (b_a_all_m30 : Nat → Int32) (n_a_all_m31 : Nat) (b_a_all_m31 : Nat → Int32) (n_a_all_m33 : Nat) (b_a_all_m33 : Nat → Int32) (n_a_all_m32 : Nat) (b_a_all_m32 : Nat → Int32) (size_m9 : Int32) (size_m10 : Int32) (size_m11 : Int32) (size_m12 : Int32) (ret : Int32) (o_0_8 : Int32) (o_0_14 : Int32) (o_0_16 : Int32) (o_0_17 : Int32) (o_0_18 : Int32) (o_0_19 : Int32) (o_0_23 : Int32) (o_0_36 : Int32) (o_1_1 : Int32) (o_5_1 : Int32) (o_6_1 : Int32) (o_7_1 : Int32) (o_14_1 : Int32) (o_15_1 : Int32) (o_16_1 : Int32) (o_21_1 : Int32) (o_22_1 : Int32) (o_23_1 : Int32) (o_24_1 : Int32) (o_25_1 : Int32) (o_26_1 : Int32) (o_27_1 : Int32) (o_28_1 : Int32) (o_29_1 : Int32) (o_30_1 : Int32) (o_31_1 : Int32) (o_33_1 : Int32) (o_45_1 : Int32) (o_46_1 : Int32) (o_47_1 : Int32) (o_48_1 : Int32) (on_nq_14_0 : Nat) (ob_nq_14_0 : Nat → Int32) (on_nq_15_0 : Nat) (ob_nq_15_0 : Nat → Int32) (on_nq_16_0 : Nat) (ob_nq_16_0 : Nat → Int32) (on_nq_21_0 : Nat) (ob_nq_21_0 : Nat → Int32) (on_nq_22_0 : Nat) (ob_nq_22_0 : Nat → Int32) (on_nq_23_0 : Nat) (ob_nq_23_0 : Nat → Int32) (on_nq_24_0 : Nat) (ob_nq_24_0 : Nat → Int32) (on_nq_25_0 : Nat) (ob_nq_25_0 : Nat → Int32) (on_nq_26_0 : Nat) (ob_nq_26_0 : Nat → Int32) (on_nq_27_0 : Nat) (ob_nq_27_0 : Nat → Int32) (on_nq_28_0 : Nat) (ob_nq_28_0 : Nat → Int32) (on_nq_29_0 : Nat) (ob_nq_29_0 : Nat → Int32) (on_nq_30_0 : Nat) (ob_nq_30_0 : Nat → Int32) (on_nq_31_0 : Nat) (ob_nq_31_0 : Nat → Int32) (on_nq_33_0 : Nat) (ob_nq_33_0 : Nat → Int32) (mc ms : Nat) (h : F_Mo_read known_h0 thrown_h0 wrong_h0 lastEnd_h0 at_h0 bad_h0 levels_h0 least_h0 found_h0 size_m4 size_m3 n_a_all_m3 b_a_all_m3 n_a_all_m4 b_a_all_m4 size_m5 size_m6 size_m7 n_m15 b_m15 n_a_all_m5 b_a_all_m5 n_a_all_m6 b_a_all_m6 n_a_all_m7 b_a_all_m7 size_m21 size_m22 size_m20 n_a_all_m20 b_a_all_m20 n_m2 b_m2 n_a_all_m21 b_a_all_m21 n_a_all_m22 b_a_all_m22 size_m24 size_m25 size_m26 size_m27 size_m28 size_m29 size_m30 size_m31 size_m32 size_m33 size_m34 n_a_all_m34 b_a_all_m34 size_m35 n_a_all_m35 b_a_all_m35 n_a_all_m24 b_a_all_m24 n_a_all_m25 b_a_all_m25 n_a_all_m26 b_a_all_m26 n_a_all_m27 b_a_all_m27 n_a_all_m28 b_a_all_m28 n_a_all_m29 b_a_all_m29 n_a_all_m30 b_a_all_m30 n_a_all_m31 b_a_all_m31 n_a_all_m33 b_a_all_m33 n_a_all_m32 b_a_all_m32 size_m9 size_m10 size_m11 size_m12 = some ((ret, o_0_8, o_0_14, o_0_16, o_0_17, o_0_18, o_0_19, o_0_23, o_0_36, o_1_1, o_5_1, o_6_1, o_7_1, o_14_1, o_15_1, o_16_1, o_21_1, o_22_1, o_23_1, o_24_1, o_25_1, o_26_1, o_27_1, o_28_1, o_29_1, o_30_1, o_31_1, o_33_1, o_45_1, o_46_1, o_47_1, o_48_1, on_nq_14_0, ob_nq_14_0, on_nq_15_0, ob_nq_15_0, on_nq_16_0, ob_nq_16_0, on_nq_21_0, ob_nq_21_0, on_nq_22_0, ob_nq_22_0, on_nq_23_0, ob_nq_23_0, on_nq_24_0, ob_nq_24_0, on_nq_25_0, ob_nq_25_0, on_nq_26_0, ob_nq_26_0, on_nq_27_0, ob_nq_27_0, on_nq_28_0, ob_nq_28_0, on_nq_29_0, ob_nq_29_0, on_nq_30_0, ob_nq_30_0, on_nq_31_0, ob_nq_31_0, on_nq_33_0, ob_nq_33_0), mc, ms)) : Ct l D (gT cI cB cJ cS) y_Mo_read prog_12_method_79_code 1 (Option.some Jvm.ClassFile.FieldType.int) 10 218 mc ms [.ref h0] [(h0, .inr (9, moF am known_h0 thrown_h0 wrong_h0 lastEnd_h0 at_h0 bad_h0 levels_h0 least_h0 found_h0)), ((am 4), .inr (8, [.ref a_all_m4, .int size_m4])), ((am 3), .inr (8, [.ref a_all_m3, .int size_m3])), (a_all_m3, .inl (cI, n_a_all_m3, .inl b_a_all_m3)), (a_all_m4, .inl (cI, n_a_all_m4, .inl b_a_all_m4)), ((am 5), .inr (8, [.ref a_all_m5, .int size_m5])), ((am 6), .inr (8, [.ref a_all_m6, .int size_m6])), ((am 7), .inr (8, [.ref a_all_m7, .int size_m7])), ((am 15), .inl (cI, n_m15, .inl b_m15)), ((am 0), .inl (cS, 14, .inr (.inr (.inr (.inr (stA D 40)))))), ((am 1), .inl (cS, 27, .inr (.inr (.inr (.inr (stA D 54)))))), (a_all_m5, .inl (cI, n_a_all_m5, .inl b_a_all_m5)), (a_all_m6, .inl (cI, n_a_all_m6, .inl b_a_all_m6)), (a_all_m7, .inl (cI, n_a_all_m7, .inl b_a_all_m7)), ((am 21), .inr (8, [.ref a_all_m21, .int size_m21])), ((am 22), .inr (8, [.ref a_all_m22, .int size_m22])), ((am 20), .inr (8, [.ref a_all_m20, .int size_m20])), (a_all_m20, .inl (cI, n_a_all_m20, .inl b_a_all_m20)), ((am 2), .inl (cI, n_m2, .inl b_m2)), (a_all_m21, .inl (cI, n_a_all_m21, .inl b_a_all_m21)), (a_all_m22, .inl (cI, n_a_all_m22, .inl b_a_all_m22)), ((am 24), .inr (8, [.ref a_all_m24, .int size_m24])), ((am 25), .inr (8, [.ref a_all_m25, .int size_m25])), ((am 26), .inr (8, [.ref a_all_m26, .int size_m26])), ((am 27), .inr (8, [.ref a_all_m27, .int size_m27])), ((am 28), .inr (8, [.ref a_all_m28, .int size_m28])), ((am 29), .inr (8, [.ref a_all_m29, .int size_m29])), ((am 30), .inr (8, [.ref a_all_m30, .int size_m30])), ((am 31), .inr (8, [.ref a_all_m31, .int size_m31])), ((am 32), .inr (8, [.ref a_all_m32, .int size_m32])), ((am 33), .inr (8, [.ref a_all_m33, .int size_m33])), ((am 34), .inr (8, [.ref a_all_m34, .int size_m34])), (a_all_m34, .inl (cI, n_a_all_m34, .inl b_a_all_m34)), ((am 35), .inr (8, [.ref a_all_m35, .int size_m35])), (a_all_m35, .inl (cI, n_a_all_m35, .inl b_a_all_m35)), (a_all_m24, .inl (cI, n_a_all_m24, .inl b_a_all_m24)), (a_all_m25, .inl (cI, n_a_all_m25, .inl b_a_all_m25)), (a_all_m26, .inl (cI, n_a_all_m26, .inl b_a_all_m26)), (a_all_m27, .inl (cI, n_a_all_m27, .inl b_a_all_m27)), (a_all_m28, .inl (cI, n_a_all_m28, .inl b_a_all_m28)), (a_all_m29, .inl (cI, n_a_all_m29, .inl b_a_all_m29)), (a_all_m30, .inl (cI, n_a_all_m30, .inl b_a_all_m30)), (a_all_m31, .inl (cI, n_a_all_m31, .inl b_a_all_m31)), (a_all_m33, .inl (cI, n_a_all_m33, .inl b_a_all_m33)), (a_all_m32, .inl (cI, n_a_all_m32, .inl b_a_all_m32)), ((am 9), .inr (8, [.ref a_all_m9, .int size_m9])), ((am 10), .inr (8, [.ref a_all_m10, .int size_m10])), ((am 11), .inr (8, [.ref a_all_m11, .int size_m11])), ((am 12), .inr (8, [.ref a_all_m12, .int size_m12]))] (fun v w => ∃ nq_1_0 : Nat, ∃ nq_5_0 : Nat, ∃ nq_6_0 : Nat, ∃ nq_7_0 : Nat, ∃ nq_14_0 : Nat, ∃ nq_15_0 : Nat, ∃ nq_16_0 : Nat, ∃ nq_21_0 : Nat, ∃ nq_22_0 : Nat, ∃ nq_23_0 : Nat, ∃ nq_24_0 : Nat, ∃ nq_25_0 : Nat, ∃ nq_26_0 : Nat, ∃ nq_27_0 : Nat, ∃ nq_28_0 : Nat, ∃ nq_29_0 : Nat, ∃ nq_30_0 : Nat, ∃ nq_31_0 : Nat, ∃ nq_33_0 : Nat, ∃ nq_45_0 : Nat, ∃ nq_46_0 : Nat, ∃ nq_47_0 : Nat, ∃ nq_48_0 : Nat, v = some (.int ret) ∧ w = [(h0, .inr (9, moF am o_0_8 0 o_0_14 o_0_16 o_0_17 o_0_18 o_0_19 o_0_23 o_0_36)), ((am 4), .inr (8, [.ref nq_1_0, .int o_1_1])), ((am 3), .inr (8, [.ref a_all_m3, .int 0])), (a_all_m3, .inl (cI, n_a_all_m3, .inl b_a_all_m3)), ((am 5), .inr (8, [.ref nq_5_0, .int o_5_1])), ((am 6), .inr (8, [.ref nq_6_0, .int o_6_1])), ((am 7), .inr (8, [.ref nq_7_0, .int o_7_1])), ((am 15), .inl (cI, n_m15, .inl b_m15)), ((am 0), .inl (cS, 14, .inr (.inr (.inr (.inr (stA D 40)))))), ((am 1), .inl (cS, 27, .inr (.inr (.inr (.inr (stA D 54)))))), ((am 21), .inr (8, [.ref nq_14_0, .int o_14_1])), ((am 22), .inr (8, [.ref nq_15_0, .int o_15_1])), ((am 20), .inr (8, [.ref nq_16_0, .int o_16_1])), ((am 2), .inl (cI, n_m2, .inl b_m2)), ((am 24), .inr (8, [.ref nq_21_0, .int o_21_1])), ((am 25), .inr (8, [.ref nq_22_0, .int o_22_1])), ((am 26), .inr (8, [.ref nq_23_0, .int o_23_1])), ((am 27), .inr (8, [.ref nq_24_0, .int o_24_1])), ((am 28), .inr (8, [.ref nq_25_0, .int o_25_1])), ((am 29), .inr (8, [.ref nq_26_0, .int o_26_1])), ((am 30), .inr (8, [.ref nq_27_0, .int o_27_1])), ((am 31), .inr (8, [.ref nq_28_0, .int o_28_1])), ((am 32), .inr (8, [.ref nq_29_0, .int o_29_1])), ((am 33), .inr (8, [.ref nq_30_0, .int o_30_1])), ((am 34), .inr (8, [.ref nq_31_0, .int o_31_1])), ((am 35), .inr (8, [.ref nq_33_0, .int o_33_1])), ((am 9), .inr (8, [.ref nq_45_0, .int o_45_1])), ((am 10), .inr (8, [.ref nq_46_0, .int o_46_1])), ((am 11), .inr (8, [.ref nq_47_0, .int o_47_1])), ((am 12), .inr (8, [.ref nq_48_0, .int o_48_1])), (nq_14_0, .inl (cI, on_nq_14_0, .inl ob_nq_14_0)), (nq_15_0, .inl (cI, on_nq_15_0, .inl ob_nq_15_0)), (nq_16_0, .inl (cI, on_nq_16_0, .inl ob_nq_16_0)), (nq_21_0, .inl (cI, on_nq_21_0, .inl ob_nq_21_0)), (nq_22_0, .inl (cI, on_nq_22_0, .inl ob_nq_22_0)), (nq_23_0, .inl (cI, on_nq_23_0, .inl ob_nq_23_0)), (nq_24_0, .inl (cI, on_nq_24_0, .inl ob_nq_24_0)), (nq_25_0, .inl (cI, on_nq_25_0, .inl ob_nq_25_0)), (nq_26_0, .inl (cI, on_nq_26_0, .inl ob_nq_26_0)), (nq_27_0, .inl (cI, on_nq_27_0, .inl ob_nq_27_0)), (nq_28_0, .inl (cI, on_nq_28_0, .inl ob_nq_28_0)), (nq_29_0, .inl (cI, on_nq_29_0, .inl ob_nq_29_0)), (nq_30_0, .inl (cI, on_nq_30_0, .inl ob_nq_30_0)), (nq_31_0, .inl (cI, on_nq_31_0, .inl ob_nq_31_0)), (nq_33_0, .inl (cI, on_nq_33_0, .inl ob_nq_33_0))]) := by
  refine Ct.mk (by decide) (Nat.le_of_ble_eq_true rfl) ?_
  intro p e s m below meth c hr hnm
  refine j_norm (pc' := 0) (lv' := [(0, .ref h0)]) (st' := []) (ws' := [(h0, .inr (9, moF am known_h0 thrown_h0 wrong_h0 lastEnd_h0 at_h0 bad_h0 levels_h0 least_h0 found_h0)), ((am 4), .inr (8, [.ref a_all_m4, .int size_m4])), ((am 3), .inr (8, [.ref a_all_m3, .int size_m3])), (a_all_m3, .inl (cI, n_a_all_m3, .inl b_a_all_m3)), (a_all_m4, .inl (cI, n_a_all_m4, .inl b_a_all_m4)), ((am 5), .inr (8, [.ref a_all_m5, .int size_m5])), ((am 6), .inr (8, [.ref a_all_m6, .int size_m6])), ((am 7), .inr (8, [.ref a_all_m7, .int size_m7])), ((am 15), .inl (cI, n_m15, .inl b_m15)), ((am 0), .inl (cS, 14, .inr (.inr (.inr (.inr (stA D 40)))))), ((am 1), .inl (cS, 27, .inr (.inr (.inr (.inr (stA D 54)))))), (a_all_m5, .inl (cI, n_a_all_m5, .inl b_a_all_m5)), (a_all_m6, .inl (cI, n_a_all_m6, .inl b_a_all_m6)), (a_all_m7, .inl (cI, n_a_all_m7, .inl b_a_all_m7)), ((am 21), .inr (8, [.ref a_all_m21, .int size_m21])), ((am 22), .inr (8, [.ref a_all_m22, .int size_m22])), ((am 20), .inr (8, [.ref a_all_m20, .int size_m20])), (a_all_m20, .inl (cI, n_a_all_m20, .inl b_a_all_m20)), ((am 2), .inl (cI, n_m2, .inl b_m2)), (a_all_m21, .inl (cI, n_a_all_m21, .inl b_a_all_m21)), (a_all_m22, .inl (cI, n_a_all_m22, .inl b_a_all_m22)), ((am 24), .inr (8, [.ref a_all_m24, .int size_m24])), ((am 25), .inr (8, [.ref a_all_m25, .int size_m25])), ((am 26), .inr (8, [.ref a_all_m26, .int size_m26])), ((am 27), .inr (8, [.ref a_all_m27, .int size_m27])), ((am 28), .inr (8, [.ref a_all_m28, .int size_m28])), ((am 29), .inr (8, [.ref a_all_m29, .int size_m29])), ((am 30), .inr (8, [.ref a_all_m30, .int size_m30])), ((am 31), .inr (8, [.ref a_all_m31, .int size_m31])), ((am 32), .inr (8, [.ref a_all_m32, .int size_m32])), ((am 33), .inr (8, [.ref a_all_m33, .int size_m33])), ((am 34), .inr (8, [.ref a_all_m34, .int size_m34])), (a_all_m34, .inl (cI, n_a_all_m34, .inl b_a_all_m34)), ((am 35), .inr (8, [.ref a_all_m35, .int size_m35])), (a_all_m35, .inl (cI, n_a_all_m35, .inl b_a_all_m35)), (a_all_m24, .inl (cI, n_a_all_m24, .inl b_a_all_m24)), (a_all_m25, .inl (cI, n_a_all_m25, .inl b_a_all_m25)), (a_all_m26, .inl (cI, n_a_all_m26, .inl b_a_all_m26)), (a_all_m27, .inl (cI, n_a_all_m27, .inl b_a_all_m27)), (a_all_m28, .inl (cI, n_a_all_m28, .inl b_a_all_m28)), (a_all_m29, .inl (cI, n_a_all_m29, .inl b_a_all_m29)), (a_all_m30, .inl (cI, n_a_all_m30, .inl b_a_all_m30)), (a_all_m31, .inl (cI, n_a_all_m31, .inl b_a_all_m31)), (a_all_m33, .inl (cI, n_a_all_m33, .inl b_a_all_m33)), (a_all_m32, .inl (cI, n_a_all_m32, .inl b_a_all_m32)), ((am 9), .inr (8, [.ref a_all_m9, .int size_m9])), ((am 10), .inr (8, [.ref a_all_m10, .int size_m10])), ((am 11), .inr (8, [.ref a_all_m11, .int size_m11])), ((am 12), .inr (8, [.ref a_all_m12, .int size_m12]))]) (cl' := 0) (sl' := 0) rfl rfl rfl rfl rfl rfl ?_
  unfold F_Mo_read at h
  have hC : 0 + mc ≤ mc := by omega
  have hS : 0 + ms ≤ ms := by omega
  refine j_aload_n d_Mo_read_0 rfl 0 rfl ?_
  refine j_iconst (v := 0) d_Mo_read_1 (by decide) ?_
  refine j_put (ws' := [(h0, .inr (9, moF am known_h0 0 wrong_h0 lastEnd_h0 at_h0 bad_h0 levels_h0 least_h0 found_h0)), ((am 4), .inr (8, [.ref a_all_m4, .int size_m4])), ((am 3), .inr (8, [.ref a_all_m3, .int size_m3])), (a_all_m3, .inl (cI, n_a_all_m3, .inl b_a_all_m3)), (a_all_m4, .inl (cI, n_a_all_m4, .inl b_a_all_m4)), ((am 5), .inr (8, [.ref a_all_m5, .int size_m5])), ((am 6), .inr (8, [.ref a_all_m6, .int size_m6])), ((am 7), .inr (8, [.ref a_all_m7, .int size_m7])), ((am 15), .inl (cI, n_m15, .inl b_m15)), ((am 0), .inl (cS, 14, .inr (.inr (.inr (.inr (stA D 40)))))), ((am 1), .inl (cS, 27, .inr (.inr (.inr (.inr (stA D 54)))))), (a_all_m5, .inl (cI, n_a_all_m5, .inl b_a_all_m5)), (a_all_m6, .inl (cI, n_a_all_m6, .inl b_a_all_m6)), (a_all_m7, .inl (cI, n_a_all_m7, .inl b_a_all_m7)), ((am 21), .inr (8, [.ref a_all_m21, .int size_m21])), ((am 22), .inr (8, [.ref a_all_m22, .int size_m22])), ((am 20), .inr (8, [.ref a_all_m20, .int size_m20])), (a_all_m20, .inl (cI, n_a_all_m20, .inl b_a_all_m20)), ((am 2), .inl (cI, n_m2, .inl b_m2)), (a_all_m21, .inl (cI, n_a_all_m21, .inl b_a_all_m21)), (a_all_m22, .inl (cI, n_a_all_m22, .inl b_a_all_m22)), ((am 24), .inr (8, [.ref a_all_m24, .int size_m24])), ((am 25), .inr (8, [.ref a_all_m25, .int size_m25])), ((am 26), .inr (8, [.ref a_all_m26, .int size_m26])), ((am 27), .inr (8, [.ref a_all_m27, .int size_m27])), ((am 28), .inr (8, [.ref a_all_m28, .int size_m28])), ((am 29), .inr (8, [.ref a_all_m29, .int size_m29])), ((am 30), .inr (8, [.ref a_all_m30, .int size_m30])), ((am 31), .inr (8, [.ref a_all_m31, .int size_m31])), ((am 32), .inr (8, [.ref a_all_m32, .int size_m32])), ((am 33), .inr (8, [.ref a_all_m33, .int size_m33])), ((am 34), .inr (8, [.ref a_all_m34, .int size_m34])), (a_all_m34, .inl (cI, n_a_all_m34, .inl b_a_all_m34)), ((am 35), .inr (8, [.ref a_all_m35, .int size_m35])), (a_all_m35, .inl (cI, n_a_all_m35, .inl b_a_all_m35)), (a_all_m24, .inl (cI, n_a_all_m24, .inl b_a_all_m24)), (a_all_m25, .inl (cI, n_a_all_m25, .inl b_a_all_m25)), (a_all_m26, .inl (cI, n_a_all_m26, .inl b_a_all_m26)), (a_all_m27, .inl (cI, n_a_all_m27, .inl b_a_all_m27)), (a_all_m28, .inl (cI, n_a_all_m28, .inl b_a_all_m28)), (a_all_m29, .inl (cI, n_a_all_m29, .inl b_a_all_m29)), (a_all_m30, .inl (cI, n_a_all_m30, .inl b_a_all_m30)), (a_all_m31, .inl (cI, n_a_all_m31, .inl b_a_all_m31)), (a_all_m33, .inl (cI, n_a_all_m33, .inl b_a_all_m33)), (a_all_m32, .inl (cI, n_a_all_m32, .inl b_a_all_m32)), ((am 9), .inr (8, [.ref a_all_m9, .int size_m9])), ((am 10), .inr (8, [.ref a_all_m10, .int size_m10])), ((am 11), .inr (8, [.ref a_all_m11, .int size_m11])), ((am 12), .inr (8, [.ref a_all_m12, .int size_m12]))]) ig_Mo tk_Mo nm_Mo rfl 0 rfl 13 (by decide) rfl m_1126 rfl (tk_Mo 13 (by decide)) rfl rfl (Nat.le_of_ble_eq_true rfl) d_Mo_read_2 rfl ?_
  refine j_aload_n d_Mo_read_5 rfl 0 rfl ?_
  refine j_get ig_Mo rfl 0 rfl 4 (by decide) rfl m_1117 rfl d_Mo_read_6 ?_
  refine j_aload_n d_Mo_read_9 rfl 0 rfl ?_
  refine j_get ig_Mo rfl 0 rfl 3 (by decide) rfl m_1116 rfl d_Mo_read_10 ?_
  replace h := bw_s h
  obtain ⟨⟨r1, r2, r3⟩, C5, S6, C7, S8, k9, h, e1, e2⟩ := h
  replace hC : 0 + C5 + C7 ≤ mc := by omega
  replace hS : 0 + S6 + S8 ≤ ms := by omega
  clear e1 e2
  refine j_callV (n := 1) (As := [.ref (am 3)]) (rest := []) (wr := [(h0, .inr (9, moF am known_h0 0 wrong_h0 lastEnd_h0 at_h0 bad_h0 levels_h0 least_h0 found_h0)), ((am 5), .inr (8, [.ref a_all_m5, .int size_m5])), ((am 6), .inr (8, [.ref a_all_m6, .int size_m6])), ((am 7), .inr (8, [.ref a_all_m7, .int size_m7])), ((am 15), .inl (cI, n_m15, .inl b_m15)), ((am 0), .inl (cS, 14, .inr (.inr (.inr (.inr (stA D 40)))))), ((am 1), .inl (cS, 27, .inr (.inr (.inr (.inr (stA D 54)))))), (a_all_m5, .inl (cI, n_a_all_m5, .inl b_a_all_m5)), (a_all_m6, .inl (cI, n_a_all_m6, .inl b_a_all_m6)), (a_all_m7, .inl (cI, n_a_all_m7, .inl b_a_all_m7)), ((am 21), .inr (8, [.ref a_all_m21, .int size_m21])), ((am 22), .inr (8, [.ref a_all_m22, .int size_m22])), ((am 20), .inr (8, [.ref a_all_m20, .int size_m20])), (a_all_m20, .inl (cI, n_a_all_m20, .inl b_a_all_m20)), ((am 2), .inl (cI, n_m2, .inl b_m2)), (a_all_m21, .inl (cI, n_a_all_m21, .inl b_a_all_m21)), (a_all_m22, .inl (cI, n_a_all_m22, .inl b_a_all_m22)), ((am 24), .inr (8, [.ref a_all_m24, .int size_m24])), ((am 25), .inr (8, [.ref a_all_m25, .int size_m25])), ((am 26), .inr (8, [.ref a_all_m26, .int size_m26])), ((am 27), .inr (8, [.ref a_all_m27, .int size_m27])), ((am 28), .inr (8, [.ref a_all_m28, .int size_m28])), ((am 29), .inr (8, [.ref a_all_m29, .int size_m29])), ((am 30), .inr (8, [.ref a_all_m30, .int size_m30])), ((am 31), .inr (8, [.ref a_all_m31, .int size_m31])), ((am 32), .inr (8, [.ref a_all_m32, .int size_m32])), ((am 33), .inr (8, [.ref a_all_m33, .int size_m33])), ((am 34), .inr (8, [.ref a_all_m34, .int size_m34])), (a_all_m34, .inl (cI, n_a_all_m34, .inl b_a_all_m34)), ((am 35), .inr (8, [.ref a_all_m35, .int size_m35])), (a_all_m35, .inl (cI, n_a_all_m35, .inl b_a_all_m35)), (a_all_m24, .inl (cI, n_a_all_m24, .inl b_a_all_m24)), (a_all_m25, .inl (cI, n_a_all_m25, .inl b_a_all_m25)), (a_all_m26, .inl (cI, n_a_all_m26, .inl b_a_all_m26)), (a_all_m27, .inl (cI, n_a_all_m27, .inl b_a_all_m27)), (a_all_m28, .inl (cI, n_a_all_m28, .inl b_a_all_m28)), (a_all_m29, .inl (cI, n_a_all_m29, .inl b_a_all_m29)), (a_all_m30, .inl (cI, n_a_all_m30, .inl b_a_all_m30)), (a_all_m31, .inl (cI, n_a_all_m31, .inl b_a_all_m31)), (a_all_m33, .inl (cI, n_a_all_m33, .inl b_a_all_m33)), (a_all_m32, .inl (cI, n_a_all_m32, .inl b_a_all_m32)), ((am 9), .inr (8, [.ref a_all_m9, .int size_m9])), ((am 10), .inr (8, [.ref a_all_m10, .int size_m10])), ((am 11), .inr (8, [.ref a_all_m11, .int size_m11])), ((am 12), .inr (8, [.ref a_all_m12, .int size_m12]))]) (c_Nm_become l D cI cB cJ cS (am 4) (am 3) a_all_m4 a_all_m3 size_m4 size_m3 n_a_all_m3 b_a_all_m3 n_a_all_m4 b_a_all_m4  r1 r2 r3 C5 S6 k9) k_Mo_476 (by decide) ⟨Nat.le_of_ble_eq_true rfl, Nat.le_of_ble_eq_true rfl⟩ rfl 0 rfl [1, 2, 3, 4] [0, 5, 6, 7, 8, 9, 10, 11, 12, 13, 14, 15, 16, 17, 18, 19, 20, 21, 22, 23, 24, 25, 26, 27, 28, 29, 30, 31, 32, 33, 34, 35, 36, 37, 38, 39, 40, 41, 42, 43, 44, 45, 46, 47, 48] rfl (by decide +kernel) rfl (by decide +kernel) (by decide +kernel) rfl rfl (Nat.le_of_ble_eq_true rfl) d_Mo_read_13 ⟨show 0 + C5 ≤ mc by omega, show 0 + S6 ≤ ms by omega⟩ (fun v w hq => ?_)
  obtain ⟨q4, rfl, rfl⟩ := hq
  refine j_norm (pc' := 16) (st' := []) (ws' := [(h0, .inr (9, moF am known_h0 0 wrong_h0 lastEnd_h0 at_h0 bad_h0 levels_h0 least_h0 found_h0)), ((am 5), .inr (8, [.ref a_all_m5, .int size_m5])), ((am 6), .inr (8, [.ref a_all_m6, .int size_m6])), ((am 7), .inr (8, [.ref a_all_m7, .int size_m7])), ((am 15), .inl (cI, n_m15, .inl b_m15)), ((am 0), .inl (cS, 14, .inr (.inr (.inr (.inr (stA D 40)))))), ((am 1), .inl (cS, 27, .inr (.inr (.inr (.inr (stA D 54)))))), (a_all_m5, .inl (cI, n_a_all_m5, .inl b_a_all_m5)), (a_all_m6, .inl (cI, n_a_all_m6, .inl b_a_all_m6)), (a_all_m7, .inl (cI, n_a_all_m7, .inl b_a_all_m7)), ((am 21), .inr (8, [.ref a_all_m21, .int size_m21])), ((am 22), .inr (8, [.ref a_all_m22, .int size_m22])), ((am 20), .inr (8, [.ref a_all_m20, .int size_m20])), (a_all_m20, .inl (cI, n_a_all_m20, .inl b_a_all_m20)), ((am 2), .inl (cI, n_m2, .inl b_m2)), (a_all_m21, .inl (cI, n_a_all_m21, .inl b_a_all_m21)), (a_all_m22, .inl (cI, n_a_all_m22, .inl b_a_all_m22)), ((am 24), .inr (8, [.ref a_all_m24, .int size_m24])), ((am 25), .inr (8, [.ref a_all_m25, .int size_m25])), ((am 26), .inr (8, [.ref a_all_m26, .int size_m26])), ((am 27), .inr (8, [.ref a_all_m27, .int size_m27])), ((am 28), .inr (8, [.ref a_all_m28, .int size_m28])), ((am 29), .inr (8, [.ref a_all_m29, .int size_m29])), ((am 30), .inr (8, [.ref a_all_m30, .int size_m30])), ((am 31), .inr (8, [.ref a_all_m31, .int size_m31])), ((am 32), .inr (8, [.ref a_all_m32, .int size_m32])), ((am 33), .inr (8, [.ref a_all_m33, .int size_m33])), ((am 34), .inr (8, [.ref a_all_m34, .int size_m34])), (a_all_m34, .inl (cI, n_a_all_m34, .inl b_a_all_m34)), ((am 35), .inr (8, [.ref a_all_m35, .int size_m35])), (a_all_m35, .inl (cI, n_a_all_m35, .inl b_a_all_m35)), (a_all_m24, .inl (cI, n_a_all_m24, .inl b_a_all_m24)), (a_all_m25, .inl (cI, n_a_all_m25, .inl b_a_all_m25)), (a_all_m26, .inl (cI, n_a_all_m26, .inl b_a_all_m26)), (a_all_m27, .inl (cI, n_a_all_m27, .inl b_a_all_m27)), (a_all_m28, .inl (cI, n_a_all_m28, .inl b_a_all_m28)), (a_all_m29, .inl (cI, n_a_all_m29, .inl b_a_all_m29)), (a_all_m30, .inl (cI, n_a_all_m30, .inl b_a_all_m30)), (a_all_m31, .inl (cI, n_a_all_m31, .inl b_a_all_m31)), (a_all_m33, .inl (cI, n_a_all_m33, .inl b_a_all_m33)), (a_all_m32, .inl (cI, n_a_all_m32, .inl b_a_all_m32)), ((am 9), .inr (8, [.ref a_all_m9, .int size_m9])), ((am 10), .inr (8, [.ref a_all_m10, .int size_m10])), ((am 11), .inr (8, [.ref a_all_m11, .int size_m11])), ((am 12), .inr (8, [.ref a_all_m12, .int size_m12])), ((am 4), .inr (8, [.ref q4, .int r1])), ((am 3), .inr (8, [.ref a_all_m3, .int size_m3])), (a_all_m3, .inl (cI, n_a_all_m3, .inl b_a_all_m3)), (q4, .inl (cI, r2, .inl r3))]) (cl' := 0 + C5) (sl' := 0 + S6) rfl rfl rfl rfl rfl rfl ?_
  refine j_aload_n d_Mo_read_16 rfl 0 rfl ?_
  refine j_get ig_Mo rfl 0 rfl 3 (by decide) rfl m_1116 rfl d_Mo_read_17 ?_
  refine j_iconst (v := 0) d_Mo_read_20 (by decide) ?_
  refine j_putN (ws' := [(h0, .inr (9, moF am known_h0 0 wrong_h0 lastEnd_h0 at_h0 bad_h0 levels_h0 least_h0 found_h0)), ((am 5), .inr (8, [.ref a_all_m5, .int size_m5])), ((am 6), .inr (8, [.ref a_all_m6, .int size_m6])), ((am 7), .inr (8, [.ref a_all_m7, .int size_m7])), ((am 15), .inl (cI, n_m15, .inl b_m15)), ((am 0), .inl (cS, 14, .inr (.inr (.inr (.inr (stA D 40)))))), ((am 1), .inl (cS, 27, .inr (.inr (.inr (.inr (stA D 54)))))), (a_all_m5, .inl (cI, n_a_all_m5, .inl b_a_all_m5)), (a_all_m6, .inl (cI, n_a_all_m6, .inl b_a_all_m6)), (a_all_m7, .inl (cI, n_a_all_m7, .inl b_a_all_m7)), ((am 21), .inr (8, [.ref a_all_m21, .int size_m21])), ((am 22), .inr (8, [.ref a_all_m22, .int size_m22])), ((am 20), .inr (8, [.ref a_all_m20, .int size_m20])), (a_all_m20, .inl (cI, n_a_all_m20, .inl b_a_all_m20)), ((am 2), .inl (cI, n_m2, .inl b_m2)), (a_all_m21, .inl (cI, n_a_all_m21, .inl b_a_all_m21)), (a_all_m22, .inl (cI, n_a_all_m22, .inl b_a_all_m22)), ((am 24), .inr (8, [.ref a_all_m24, .int size_m24])), ((am 25), .inr (8, [.ref a_all_m25, .int size_m25])), ((am 26), .inr (8, [.ref a_all_m26, .int size_m26])), ((am 27), .inr (8, [.ref a_all_m27, .int size_m27])), ((am 28), .inr (8, [.ref a_all_m28, .int size_m28])), ((am 29), .inr (8, [.ref a_all_m29, .int size_m29])), ((am 30), .inr (8, [.ref a_all_m30, .int size_m30])), ((am 31), .inr (8, [.ref a_all_m31, .int size_m31])), ((am 32), .inr (8, [.ref a_all_m32, .int size_m32])), ((am 33), .inr (8, [.ref a_all_m33, .int size_m33])), ((am 34), .inr (8, [.ref a_all_m34, .int size_m34])), (a_all_m34, .inl (cI, n_a_all_m34, .inl b_a_all_m34)), ((am 35), .inr (8, [.ref a_all_m35, .int size_m35])), (a_all_m35, .inl (cI, n_a_all_m35, .inl b_a_all_m35)), (a_all_m24, .inl (cI, n_a_all_m24, .inl b_a_all_m24)), (a_all_m25, .inl (cI, n_a_all_m25, .inl b_a_all_m25)), (a_all_m26, .inl (cI, n_a_all_m26, .inl b_a_all_m26)), (a_all_m27, .inl (cI, n_a_all_m27, .inl b_a_all_m27)), (a_all_m28, .inl (cI, n_a_all_m28, .inl b_a_all_m28)), (a_all_m29, .inl (cI, n_a_all_m29, .inl b_a_all_m29)), (a_all_m30, .inl (cI, n_a_all_m30, .inl b_a_all_m30)), (a_all_m31, .inl (cI, n_a_all_m31, .inl b_a_all_m31)), (a_all_m33, .inl (cI, n_a_all_m33, .inl b_a_all_m33)), (a_all_m32, .inl (cI, n_a_all_m32, .inl b_a_all_m32)), ((am 9), .inr (8, [.ref a_all_m9, .int size_m9])), ((am 10), .inr (8, [.ref a_all_m10, .int size_m10])), ((am 11), .inr (8, [.ref a_all_m11, .int size_m11])), ((am 12), .inr (8, [.ref a_all_m12, .int size_m12])), ((am 4), .inr (8, [.ref q4, .int r1])), ((am 3), .inr (8, [.ref a_all_m3, .int 0])), (a_all_m3, .inl (cI, n_a_all_m3, .inl b_a_all_m3)), (q4, .inl (cI, r2, .inl r3))]) ig_Nm tk_Nm nm_Nm rfl 46 rfl 1 (by decide) rfl mn_13 rfl (tk_Nm 1 (by decide)) rfl rfl (Nat.le_of_ble_eq_true rfl) d_Mo_read_21 rfl ?_
  refine j_aload_n d_Mo_read_24 rfl 0 rfl ?_
  replace h := bw_s h
  obtain ⟨⟨r10, r11, r12, r13, r14, r15, r16, r17, r18, r19⟩, C23, S24, C25, S26, k27, h, e1, e2⟩ := h
  replace hC : 0 + C5 + C23 + C25 ≤ mc := by omega
  replace hS : 0 + S6 + S24 + S26 ≤ ms := by omega
  clear e1 e2
  refine j_callV (n := 0) (As := []) (rest := []) (wr := [((am 21), .inr (8, [.ref a_all_m21, .int size_m21])), ((am 22), .inr (8, [.ref a_all_m22, .int size_m22])), ((am 20), .inr (8, [.ref a_all_m20, .int size_m20])), (a_all_m20, .inl (cI, n_a_all_m20, .inl b_a_all_m20)), ((am 2), .inl (cI, n_m2, .inl b_m2)), (a_all_m21, .inl (cI, n_a_all_m21, .inl b_a_all_m21)), (a_all_m22, .inl (cI, n_a_all_m22, .inl b_a_all_m22)), ((am 24), .inr (8, [.ref a_all_m24, .int size_m24])), ((am 25), .inr (8, [.ref a_all_m25, .int size_m25])), ((am 26), .inr (8, [.ref a_all_m26, .int size_m26])), ((am 27), .inr (8, [.ref a_all_m27, .int size_m27])), ((am 28), .inr (8, [.ref a_all_m28, .int size_m28])), ((am 29), .inr (8, [.ref a_all_m29, .int size_m29])), ((am 30), .inr (8, [.ref a_all_m30, .int size_m30])), ((am 31), .inr (8, [.ref a_all_m31, .int size_m31])), ((am 32), .inr (8, [.ref a_all_m32, .int size_m32])), ((am 33), .inr (8, [.ref a_all_m33, .int size_m33])), ((am 34), .inr (8, [.ref a_all_m34, .int size_m34])), (a_all_m34, .inl (cI, n_a_all_m34, .inl b_a_all_m34)), ((am 35), .inr (8, [.ref a_all_m35, .int size_m35])), (a_all_m35, .inl (cI, n_a_all_m35, .inl b_a_all_m35)), (a_all_m24, .inl (cI, n_a_all_m24, .inl b_a_all_m24)), (a_all_m25, .inl (cI, n_a_all_m25, .inl b_a_all_m25)), (a_all_m26, .inl (cI, n_a_all_m26, .inl b_a_all_m26)), (a_all_m27, .inl (cI, n_a_all_m27, .inl b_a_all_m27)), (a_all_m28, .inl (cI, n_a_all_m28, .inl b_a_all_m28)), (a_all_m29, .inl (cI, n_a_all_m29, .inl b_a_all_m29)), (a_all_m30, .inl (cI, n_a_all_m30, .inl b_a_all_m30)), (a_all_m31, .inl (cI, n_a_all_m31, .inl b_a_all_m31)), (a_all_m33, .inl (cI, n_a_all_m33, .inl b_a_all_m33)), (a_all_m32, .inl (cI, n_a_all_m32, .inl b_a_all_m32)), ((am 9), .inr (8, [.ref a_all_m9, .int size_m9])), ((am 10), .inr (8, [.ref a_all_m10, .int size_m10])), ((am 11), .inr (8, [.ref a_all_m11, .int size_m11])), ((am 12), .inr (8, [.ref a_all_m12, .int size_m12])), ((am 3), .inr (8, [.ref a_all_m3, .int 0])), (a_all_m3, .inl (cI, n_a_all_m3, .inl b_a_all_m3))]) (c_Mo_cut l D cI cB cJ cS h0 am a_all_m5 a_all_m6 a_all_m7 q4 known_h0 0 wrong_h0 lastEnd_h0 at_h0 bad_h0 levels_h0 least_h0 found_h0 size_m5 size_m6 size_m7 r1 r2 r3 n_m15 b_m15 n_a_all_m5 b_a_all_m5 n_a_all_m6 b_a_all_m6 n_a_all_m7 b_a_all_m7  r10 r11 r12 r13 r14 r15 r16 r17 r18 r19 C23 S24 k27) k_Mo_480 (by decide) ⟨Nat.le_of_ble_eq_true rfl, Nat.le_of_ble_eq_true rfl⟩ rfl 0 rfl [0, 1, 2, 3, 45, 48, 4, 5, 6, 7, 8, 9] [10, 11, 12, 13, 14, 15, 16, 17, 18, 19, 20, 21, 22, 23, 24, 25, 26, 27, 28, 29, 30, 31, 32, 33, 34, 35, 36, 37, 38, 39, 40, 41, 42, 43, 44, 46, 47] rfl (by decide +kernel) rfl (by decide +kernel) (by decide +kernel) rfl rfl (Nat.le_of_ble_eq_true rfl) d_Mo_read_25 ⟨show 0 + C5 + C23 ≤ mc by omega, show 0 + S6 + S24 ≤ ms by omega⟩ (fun v w hq => ?_)
  obtain ⟨q20, q21, q22, rfl, rfl⟩ := hq
  refine j_norm (pc' := 28) (st' := []) (ws' := [((am 21), .inr (8, [.ref a_all_m21, .int size_m21])), ((am 22), .inr (8, [.ref a_all_m22, .int size_m22])), ((am 20), .inr (8, [.ref a_all_m20, .int size_m20])), (a_all_m20, .inl (cI, n_a_all_m20, .inl b_a_all_m20)), ((am 2), .inl (cI, n_m2, .inl b_m2)), (a_all_m21, .inl (cI, n_a_all_m21, .inl b_a_all_m21)), (a_all_m22, .inl (cI, n_a_all_m22, .inl b_a_all_m22)), ((am 24), .inr (8, [.ref a_all_m24, .int size_m24])), ((am 25), .inr (8, [.ref a_all_m25, .int size_m25])), ((am 26), .inr (8, [.ref a_all_m26, .int size_m26])), ((am 27), .inr (8, [.ref a_all_m27, .int size_m27])), ((am 28), .inr (8, [.ref a_all_m28, .int size_m28])), ((am 29), .inr (8, [.ref a_all_m29, .int size_m29])), ((am 30), .inr (8, [.ref a_all_m30, .int size_m30])), ((am 31), .inr (8, [.ref a_all_m31, .int size_m31])), ((am 32), .inr (8, [.ref a_all_m32, .int size_m32])), ((am 33), .inr (8, [.ref a_all_m33, .int size_m33])), ((am 34), .inr (8, [.ref a_all_m34, .int size_m34])), (a_all_m34, .inl (cI, n_a_all_m34, .inl b_a_all_m34)), ((am 35), .inr (8, [.ref a_all_m35, .int size_m35])), (a_all_m35, .inl (cI, n_a_all_m35, .inl b_a_all_m35)), (a_all_m24, .inl (cI, n_a_all_m24, .inl b_a_all_m24)), (a_all_m25, .inl (cI, n_a_all_m25, .inl b_a_all_m25)), (a_all_m26, .inl (cI, n_a_all_m26, .inl b_a_all_m26)), (a_all_m27, .inl (cI, n_a_all_m27, .inl b_a_all_m27)), (a_all_m28, .inl (cI, n_a_all_m28, .inl b_a_all_m28)), (a_all_m29, .inl (cI, n_a_all_m29, .inl b_a_all_m29)), (a_all_m30, .inl (cI, n_a_all_m30, .inl b_a_all_m30)), (a_all_m31, .inl (cI, n_a_all_m31, .inl b_a_all_m31)), (a_all_m33, .inl (cI, n_a_all_m33, .inl b_a_all_m33)), (a_all_m32, .inl (cI, n_a_all_m32, .inl b_a_all_m32)), ((am 9), .inr (8, [.ref a_all_m9, .int size_m9])), ((am 10), .inr (8, [.ref a_all_m10, .int size_m10])), ((am 11), .inr (8, [.ref a_all_m11, .int size_m11])), ((am 12), .inr (8, [.ref a_all_m12, .int size_m12])), ((am 3), .inr (8, [.ref a_all_m3, .int 0])), (a_all_m3, .inl (cI, n_a_all_m3, .inl b_a_all_m3)), (h0, .inr (9, moF am known_h0 0 wrong_h0 r10 at_h0 bad_h0 levels_h0 least_h0 found_h0)), ((am 5), .inr (8, [.ref q20, .int r11])), ((am 6), .inr (8, [.ref q21, .int r12])), ((am 7), .inr (8, [.ref q22, .int r13])), ((am 4), .inr (8, [.ref q4, .int r1])), (q4, .inl (cI, r2, .inl r3)), ((am 15), .inl (cI, n_m15, .inl b_m15)), ((am 0), .inl (cS, 14, .inr (.inr (.inr (.inr (stA D 40)))))), ((am 1), .inl (cS, 27, .inr (.inr (.inr (.inr (stA D 54)))))), (q20, .inl (cI, r14, .inl r15)), (q21, .inl (cI, r16, .inl r17)), (q22, .inl (cI, r18, .inl r19))]) (cl' := 0 + C5 + C23) (sl' := 0 + S6 + S24) rfl rfl rfl rfl rfl rfl ?_
  refine j_aload_n d_Mo_read_28 rfl 0 rfl ?_
  replace h := bw_s h
  obtain ⟨⟨r28, r29, r30, r31, r32, r33, r34, r35, r36, r37, r38, r39, r40, r41⟩, C46, S47, C48, S49, k50, h, e1, e2⟩ := h
  replace hC : 0 + C5 + C23 + C46 + C48 ≤ mc := by omega
  replace hS : 0 + S6 + S24 + S47 + S49 ≤ ms := by omega
  clear e1 e2
  refine j_callV (n := 0) (As := []) (rest := []) (wr := [((am 24), .inr (8, [.ref a_all_m24, .int size_m24])), ((am 25), .inr (8, [.ref a_all_m25, .int size_m25])), ((am 26), .inr (8, [.ref a_all_m26, .int size_m26])), ((am 27), .inr (8, [.ref a_all_m27, .int size_m27])), ((am 28), .inr (8, [.ref a_all_m28, .int size_m28])), ((am 29), .inr (8, [.ref a_all_m29, .int size_m29])), ((am 30), .inr (8, [.ref a_all_m30, .int size_m30])), ((am 31), .inr (8, [.ref a_all_m31, .int size_m31])), ((am 32), .inr (8, [.ref a_all_m32, .int size_m32])), ((am 33), .inr (8, [.ref a_all_m33, .int size_m33])), ((am 34), .inr (8, [.ref a_all_m34, .int size_m34])), (a_all_m34, .inl (cI, n_a_all_m34, .inl b_a_all_m34)), ((am 35), .inr (8, [.ref a_all_m35, .int size_m35])), (a_all_m35, .inl (cI, n_a_all_m35, .inl b_a_all_m35)), (a_all_m24, .inl (cI, n_a_all_m24, .inl b_a_all_m24)), (a_all_m25, .inl (cI, n_a_all_m25, .inl b_a_all_m25)), (a_all_m26, .inl (cI, n_a_all_m26, .inl b_a_all_m26)), (a_all_m27, .inl (cI, n_a_all_m27, .inl b_a_all_m27)), (a_all_m28, .inl (cI, n_a_all_m28, .inl b_a_all_m28)), (a_all_m29, .inl (cI, n_a_all_m29, .inl b_a_all_m29)), (a_all_m30, .inl (cI, n_a_all_m30, .inl b_a_all_m30)), (a_all_m31, .inl (cI, n_a_all_m31, .inl b_a_all_m31)), (a_all_m33, .inl (cI, n_a_all_m33, .inl b_a_all_m33)), (a_all_m32, .inl (cI, n_a_all_m32, .inl b_a_all_m32)), ((am 9), .inr (8, [.ref a_all_m9, .int size_m9])), ((am 10), .inr (8, [.ref a_all_m10, .int size_m10])), ((am 11), .inr (8, [.ref a_all_m11, .int size_m11])), ((am 12), .inr (8, [.ref a_all_m12, .int size_m12])), ((am 3), .inr (8, [.ref a_all_m3, .int 0])), (a_all_m3, .inl (cI, n_a_all_m3, .inl b_a_all_m3)), ((am 15), .inl (cI, n_m15, .inl b_m15)), ((am 0), .inl (cS, 14, .inr (.inr (.inr (.inr (stA D 40)))))), ((am 1), .inl (cS, 27, .inr (.inr (.inr (.inr (stA D 54))))))]) (c_Mo_readProgram l D cI cB cJ cS h0 am a_all_m21 a_all_m22 q20 a_all_m20 q22 q21 q4 known_h0 0 wrong_h0 r10 at_h0 bad_h0 levels_h0 least_h0 found_h0 size_m21 size_m22 r11 r14 r15 size_m20 n_a_all_m20 b_a_all_m20 n_m2 b_m2 n_a_all_m21 b_a_all_m21 r13 r18 r19 r12 r16 r17 r1 r2 r3 n_a_all_m22 b_a_all_m22  r28 r29 r30 r31 r32 r33 r34 r35 r36 r37 r38 r39 r40 r41 C46 S47 k50) k_Mo_483 (by decide) ⟨Nat.le_of_ble_eq_true rfl, Nat.le_of_ble_eq_true rfl⟩ rfl 0 rfl [37, 0, 1, 38, 46, 2, 3, 4, 5, 40, 48, 39, 47, 41, 42, 6] [7, 8, 9, 10, 11, 12, 13, 14, 15, 16, 17, 18, 19, 20, 21, 22, 23, 24, 25, 26, 27, 28, 29, 30, 31, 32, 33, 34, 35, 36, 43, 44, 45] rfl (by decide +kernel) rfl (by decide +kernel) (by decide +kernel) rfl rfl (Nat.le_of_ble_eq_true rfl) d_Mo_read_29 ⟨show 0 + C5 + C23 + C46 ≤ mc by omega, show 0 + S6 + S24 + S47 ≤ ms by omega⟩ (fun v w hq => ?_)
  obtain ⟨q42, q43, q44, rfl, z45, rfl⟩ := hq
  refine j_norm (pc' := 32) (st' := [.int r28]) (ws' := [((am 24), .inr (8, [.ref a_all_m24, .int size_m24])), ((am 25), .inr (8, [.ref a_all_m25, .int size_m25])), ((am 26), .inr (8, [.ref a_all_m26, .int size_m26])), ((am 27), .inr (8, [.ref a_all_m27, .int size_m27])), ((am 28), .inr (8, [.ref a_all_m28, .int size_m28])), ((am 29), .inr (8, [.ref a_all_m29, .int size_m29])), ((am 30), .inr (8, [.ref a_all_m30, .int size_m30])), ((am 31), .inr (8, [.ref a_all_m31, .int size_m31])), ((am 32), .inr (8, [.ref a_all_m32, .int size_m32])), ((am 33), .inr (8, [.ref a_all_m33, .int size_m33])), ((am 34), .inr (8, [.ref a_all_m34, .int size_m34])), (a_all_m34, .inl (cI, n_a_all_m34, .inl b_a_all_m34)), ((am 35), .inr (8, [.ref a_all_m35, .int size_m35])), (a_all_m35, .inl (cI, n_a_all_m35, .inl b_a_all_m35)), (a_all_m24, .inl (cI, n_a_all_m24, .inl b_a_all_m24)), (a_all_m25, .inl (cI, n_a_all_m25, .inl b_a_all_m25)), (a_all_m26, .inl (cI, n_a_all_m26, .inl b_a_all_m26)), (a_all_m27, .inl (cI, n_a_all_m27, .inl b_a_all_m27)), (a_all_m28, .inl (cI, n_a_all_m28, .inl b_a_all_m28)), (a_all_m29, .inl (cI, n_a_all_m29, .inl b_a_all_m29)), (a_all_m30, .inl (cI, n_a_all_m30, .inl b_a_all_m30)), (a_all_m31, .inl (cI, n_a_all_m31, .inl b_a_all_m31)), (a_all_m33, .inl (cI, n_a_all_m33, .inl b_a_all_m33)), (a_all_m32, .inl (cI, n_a_all_m32, .inl b_a_all_m32)), ((am 9), .inr (8, [.ref a_all_m9, .int size_m9])), ((am 10), .inr (8, [.ref a_all_m10, .int size_m10])), ((am 11), .inr (8, [.ref a_all_m11, .int size_m11])), ((am 12), .inr (8, [.ref a_all_m12, .int size_m12])), ((am 3), .inr (8, [.ref a_all_m3, .int 0])), (a_all_m3, .inl (cI, n_a_all_m3, .inl b_a_all_m3)), ((am 15), .inl (cI, n_m15, .inl b_m15)), ((am 0), .inl (cS, 14, .inr (.inr (.inr (.inr (stA D 40)))))), ((am 1), .inl (cS, 27, .inr (.inr (.inr (.inr (stA D 54)))))), (h0, .inr (9, moF am known_h0 0 wrong_h0 r10 r29 r30 r31 r32 found_h0)), ((am 21), .inr (8, [.ref q42, .int r33])), ((am 22), .inr (8, [.ref q43, .int r34])), ((am 5), .inr (8, [.ref q20, .int r11])), (q20, .inl (cI, r14, .inl r15)), ((am 20), .inr (8, [.ref q44, .int r35])), ((am 2), .inl (cI, n_m2, .inl b_m2)), ((am 7), .inr (8, [.ref q22, .int r13])), (q22, .inl (cI, r18, .inl r19)), ((am 6), .inr (8, [.ref q21, .int r12])), (q21, .inl (cI, r16, .inl r17)), ((am 4), .inr (8, [.ref q4, .int r1])), (q4, .inl (cI, r2, .inl r3)), (q42, .inl (cI, r36, .inl r37)), (q43, .inl (cI, r38, .inl r39)), (q44, .inl (cI, r40, .inl r41))]) (cl' := 0 + C5 + C23 + C46) (sl' := 0 + S6 + S24 + S47) rfl rfl rfl rfl rfl rfl ?_
  refine j_if_ne (tgt := 70) d_Mo_read_32 (by decide) (fun c51 => ?_) (fun c51 => ?_)
  · replace h := it_f c51 h
    refine j_aload_n d_Mo_read_70 rfl 0 rfl ?_
    refine j_iconst (v := (-1)) d_Mo_read_71 (by decide) ?_
    refine j_put (ws' := [((am 24), .inr (8, [.ref a_all_m24, .int size_m24])), ((am 25), .inr (8, [.ref a_all_m25, .int size_m25])), ((am 26), .inr (8, [.ref a_all_m26, .int size_m26])), ((am 27), .inr (8, [.ref a_all_m27, .int size_m27])), ((am 28), .inr (8, [.ref a_all_m28, .int size_m28])), ((am 29), .inr (8, [.ref a_all_m29, .int size_m29])), ((am 30), .inr (8, [.ref a_all_m30, .int size_m30])), ((am 31), .inr (8, [.ref a_all_m31, .int size_m31])), ((am 32), .inr (8, [.ref a_all_m32, .int size_m32])), ((am 33), .inr (8, [.ref a_all_m33, .int size_m33])), ((am 34), .inr (8, [.ref a_all_m34, .int size_m34])), (a_all_m34, .inl (cI, n_a_all_m34, .inl b_a_all_m34)), ((am 35), .inr (8, [.ref a_all_m35, .int size_m35])), (a_all_m35, .inl (cI, n_a_all_m35, .inl b_a_all_m35)), (a_all_m24, .inl (cI, n_a_all_m24, .inl b_a_all_m24)), (a_all_m25, .inl (cI, n_a_all_m25, .inl b_a_all_m25)), (a_all_m26, .inl (cI, n_a_all_m26, .inl b_a_all_m26)), (a_all_m27, .inl (cI, n_a_all_m27, .inl b_a_all_m27)), (a_all_m28, .inl (cI, n_a_all_m28, .inl b_a_all_m28)), (a_all_m29, .inl (cI, n_a_all_m29, .inl b_a_all_m29)), (a_all_m30, .inl (cI, n_a_all_m30, .inl b_a_all_m30)), (a_all_m31, .inl (cI, n_a_all_m31, .inl b_a_all_m31)), (a_all_m33, .inl (cI, n_a_all_m33, .inl b_a_all_m33)), (a_all_m32, .inl (cI, n_a_all_m32, .inl b_a_all_m32)), ((am 9), .inr (8, [.ref a_all_m9, .int size_m9])), ((am 10), .inr (8, [.ref a_all_m10, .int size_m10])), ((am 11), .inr (8, [.ref a_all_m11, .int size_m11])), ((am 12), .inr (8, [.ref a_all_m12, .int size_m12])), ((am 3), .inr (8, [.ref a_all_m3, .int 0])), (a_all_m3, .inl (cI, n_a_all_m3, .inl b_a_all_m3)), ((am 15), .inl (cI, n_m15, .inl b_m15)), ((am 0), .inl (cS, 14, .inr (.inr (.inr (.inr (stA D 40)))))), ((am 1), .inl (cS, 27, .inr (.inr (.inr (.inr (stA D 54)))))), (h0, .inr (9, moF am known_h0 0 (-1) r10 r29 r30 r31 r32 found_h0)), ((am 21), .inr (8, [.ref q42, .int r33])), ((am 22), .inr (8, [.ref q43, .int r34])), ((am 5), .inr (8, [.ref q20, .int r11])), (q20, .inl (cI, r14, .inl r15)), ((am 20), .inr (8, [.ref q44, .int r35])), ((am 2), .inl (cI, n_m2, .inl b_m2)), ((am 7), .inr (8, [.ref q22, .int r13])), (q22, .inl (cI, r18, .inl r19)), ((am 6), .inr (8, [.ref q21, .int r12])), (q21, .inl (cI, r16, .inl r17)), ((am 4), .inr (8, [.ref q4, .int r1])), (q4, .inl (cI, r2, .inl r3)), (q42, .inl (cI, r36, .inl r37)), (q43, .inl (cI, r38, .inl r39)), (q44, .inl (cI, r40, .inl r41))]) ig_Mo tk_Mo nm_Mo rfl 33 rfl 14 (by decide) rfl m_1127 rfl (tk_Mo 14 (by decide)) rfl rfl (Nat.le_of_ble_eq_true rfl) d_Mo_read_72 rfl ?_
    refine j_aload_n d_Mo_read_75 rfl 0 rfl ?_
    refine j_iconst (v := 1) d_Mo_read_76 (by decide) ?_
    refine j_put (ws' := [((am 24), .inr (8, [.ref a_all_m24, .int size_m24])), ((am 25), .inr (8, [.ref a_all_m25, .int size_m25])), ((am 26), .inr (8, [.ref a_all_m26, .int size_m26])), ((am 27), .inr (8, [.ref a_all_m27, .int size_m27])), ((am 28), .inr (8, [.ref a_all_m28, .int size_m28])), ((am 29), .inr (8, [.ref a_all_m29, .int size_m29])), ((am 30), .inr (8, [.ref a_all_m30, .int size_m30])), ((am 31), .inr (8, [.ref a_all_m31, .int size_m31])), ((am 32), .inr (8, [.ref a_all_m32, .int size_m32])), ((am 33), .inr (8, [.ref a_all_m33, .int size_m33])), ((am 34), .inr (8, [.ref a_all_m34, .int size_m34])), (a_all_m34, .inl (cI, n_a_all_m34, .inl b_a_all_m34)), ((am 35), .inr (8, [.ref a_all_m35, .int size_m35])), (a_all_m35, .inl (cI, n_a_all_m35, .inl b_a_all_m35)), (a_all_m24, .inl (cI, n_a_all_m24, .inl b_a_all_m24)), (a_all_m25, .inl (cI, n_a_all_m25, .inl b_a_all_m25)), (a_all_m26, .inl (cI, n_a_all_m26, .inl b_a_all_m26)), (a_all_m27, .inl (cI, n_a_all_m27, .inl b_a_all_m27)), (a_all_m28, .inl (cI, n_a_all_m28, .inl b_a_all_m28)), (a_all_m29, .inl (cI, n_a_all_m29, .inl b_a_all_m29)), (a_all_m30, .inl (cI, n_a_all_m30, .inl b_a_all_m30)), (a_all_m31, .inl (cI, n_a_all_m31, .inl b_a_all_m31)), (a_all_m33, .inl (cI, n_a_all_m33, .inl b_a_all_m33)), (a_all_m32, .inl (cI, n_a_all_m32, .inl b_a_all_m32)), ((am 9), .inr (8, [.ref a_all_m9, .int size_m9])), ((am 10), .inr (8, [.ref a_all_m10, .int size_m10])), ((am 11), .inr (8, [.ref a_all_m11, .int size_m11])), ((am 12), .inr (8, [.ref a_all_m12, .int size_m12])), ((am 3), .inr (8, [.ref a_all_m3, .int 0])), (a_all_m3, .inl (cI, n_a_all_m3, .inl b_a_all_m3)), ((am 15), .inl (cI, n_m15, .inl b_m15)), ((am 0), .inl (cS, 14, .inr (.inr (.inr (.inr (stA D 40)))))), ((am 1), .inl (cS, 27, .inr (.inr (.inr (.inr (stA D 54)))))), (h0, .inr (9, moF am 1 0 (-1) r10 r29 r30 r31 r32 found_h0)), ((am 21), .inr (8, [.ref q42, .int r33])), ((am 22), .inr (8, [.ref q43, .int r34])), ((am 5), .inr (8, [.ref q20, .int r11])), (q20, .inl (cI, r14, .inl r15)), ((am 20), .inr (8, [.ref q44, .int r35])), ((am 2), .inl (cI, n_m2, .inl b_m2)), ((am 7), .inr (8, [.ref q22, .int r13])), (q22, .inl (cI, r18, .inl r19)), ((am 6), .inr (8, [.ref q21, .int r12])), (q21, .inl (cI, r16, .inl r17)), ((am 4), .inr (8, [.ref q4, .int r1])), (q4, .inl (cI, r2, .inl r3)), (q42, .inl (cI, r36, .inl r37)), (q43, .inl (cI, r38, .inl r39)), (q44, .inl (cI, r40, .inl r41))]) ig_Mo tk_Mo nm_Mo rfl 33 rfl 8 (by decide) rfl m_1121 rfl (tk_Mo 8 (by decide)) (zb_n zb1) (zb_fit zb1) (Nat.le_of_ble_eq_true rfl) d_Mo_read_77 rfl ?_
    refine j_aload_n d_Mo_read_80 rfl 0 rfl ?_
    replace h := bw_s h
    obtain ⟨⟨r52, r53, r54, r55, r56, r57, r58, r59, r60, r61, r62, r63, r64, r65, r66, r67, r68, r69, r70, r71, r72, r73, r74, r75, r76, r77, r78, r79, r80, r81, r82, r83, r84, r85, r86, r87⟩, C100, S101, C102, S103, k104, h, e1, e2⟩ := h
    replace hC : 0 + C5 + C23 + C46 + C100 + C102 ≤ mc := by omega
    replace hS : 0 + S6 + S24 + S47 + S101 + S103 ≤ ms := by omega
    clear e1 e2
    refine j_callV (n := 0) (As := []) (rest := []) (wr := [((am 9), .inr (8, [.ref a_all_m9, .int size_m9])), ((am 10), .inr (8, [.ref a_all_m10, .int size_m10])), ((am 11), .inr (8, [.ref a_all_m11, .int size_m11])), ((am 12), .inr (8, [.ref a_all_m12, .int size_m12])), ((am 3), .inr (8, [.ref a_all_m3, .int 0])), (a_all_m3, .inl (cI, n_a_all_m3, .inl b_a_all_m3)), ((am 15), .inl (cI, n_m15, .inl b_m15)), ((am 0), .inl (cS, 14, .inr (.inr (.inr (.inr (stA D 40)))))), ((am 1), .inl (cS, 27, .inr (.inr (.inr (.inr (stA D 54)))))), ((am 21), .inr (8, [.ref q42, .int r33])), ((am 22), .inr (8, [.ref q43, .int r34])), ((am 20), .inr (8, [.ref q44, .int r35])), ((am 7), .inr (8, [.ref q22, .int r13])), (q22, .inl (cI, r18, .inl r19)), ((am 4), .inr (8, [.ref q4, .int r1])), (q4, .inl (cI, r2, .inl r3)), (q42, .inl (cI, r36, .inl r37)), (q43, .inl (cI, r38, .inl r39)), (q44, .inl (cI, r40, .inl r41))]) (c_Mo_build l D cI cB cJ cS h0 am a_all_m24 a_all_m25 a_all_m26 a_all_m27 a_all_m28 a_all_m29 a_all_m30 a_all_m31 a_all_m32 a_all_m33 q20 a_all_m34 a_all_m35 q21 1 0 (-1) r10 r29 r30 r31 r32 found_h0 size_m24 size_m25 size_m26 size_m27 size_m28 size_m29 size_m30 size_m31 size_m32 size_m33 r11 size_m34 n_a_all_m34 b_a_all_m34 size_m35 n_a_all_m35 b_a_all_m35 n_a_all_m24 b_a_all_m24 n_a_all_m25 b_a_all_m25 n_a_all_m26 b_a_all_m26 n_a_all_m27 b_a_all_m27 n_a_all_m28 b_a_all_m28 n_a_all_m29 b_a_all_m29 n_a_all_m30 b_a_all_m30 n_a_all_m31 b_a_all_m31 n_a_all_m33 b_a_all_m33 n_a_all_m32 b_a_all_m32 r12 r16 r17 r14 r15 n_m2 b_m2  r52 r53 r54 r55 r56 r57 r58 r59 r60 r61 r62 r63 r64 r65 r66 r67 r68 r69 r70 r71 r72 r73 r74 r75 r76 r77 r78 r79 r80 r81 r82 r83 r84 r85 r86 r87 C100 S101 k104) k_Mo_490 (by decide) ⟨Nat.le_of_ble_eq_true rfl, Nat.le_of_ble_eq_true rfl⟩ rfl 0 rfl [33, 0, 1, 2, 3, 4, 5, 6, 7, 8, 9, 36, 10, 11, 12, 13, 14, 15, 16, 17, 18, 19, 20, 21, 22, 23, 42, 43, 37, 39] [24, 25, 26, 27, 28, 29, 30, 31, 32, 34, 35, 38, 40, 41, 44, 45, 46, 47, 48] rfl (by decide +kernel) rfl (by decide +kernel) (by decide +kernel) rfl rfl (Nat.le_of_ble_eq_true rfl) d_Mo_read_81 ⟨show 0 + C5 + C23 + C46 + C100 ≤ mc by omega, show 0 + S6 + S24 + S47 + S101 ≤ ms by omega⟩ (fun v w hq => ?_)
    obtain ⟨q88, q89, q90, q91, q92, q93, q94, q95, q96, q97, q98, q99, rfl, rfl⟩ := hq
    refine j_norm (pc' := 84) (st' := []) (ws' := [((am 9), .inr (8, [.ref a_all_m9, .int size_m9])), ((am 10), .inr (8, [.ref a_all_m10, .int size_m10])), ((am 11), .inr (8, [.ref a_all_m11, .int size_m11])), ((am 12), .inr (8, [.ref a_all_m12, .int size_m12])), ((am 3), .inr (8, [.ref a_all_m3, .int 0])), (a_all_m3, .inl (cI, n_a_all_m3, .inl b_a_all_m3)), ((am 15), .inl (cI, n_m15, .inl b_m15)), ((am 0), .inl (cS, 14, .inr (.inr (.inr (.inr (stA D 40)))))), ((am 1), .inl (cS, 27, .inr (.inr (.inr (.inr (stA D 54)))))), ((am 21), .inr (8, [.ref q42, .int r33])), ((am 22), .inr (8, [.ref q43, .int r34])), ((am 20), .inr (8, [.ref q44, .int r35])), ((am 7), .inr (8, [.ref q22, .int r13])), (q22, .inl (cI, r18, .inl r19)), ((am 4), .inr (8, [.ref q4, .int r1])), (q4, .inl (cI, r2, .inl r3)), (q42, .inl (cI, r36, .inl r37)), (q43, .inl (cI, r38, .inl r39)), (q44, .inl (cI, r40, .inl r41)), (h0, .inr (9, moF am 1 0 (-1) r10 r29 r30 r31 r32 r52)), ((am 24), .inr (8, [.ref q88, .int r53])), ((am 25), .inr (8, [.ref q89, .int r54])), ((am 26), .inr (8, [.ref q90, .int r55])), ((am 27), .inr (8, [.ref q91, .int r56])), ((am 28), .inr (8, [.ref q92, .int r57])), ((am 29), .inr (8, [.ref q93, .int r58])), ((am 30), .inr (8, [.ref q94, .int r59])), ((am 31), .inr (8, [.ref q95, .int r60])), ((am 32), .inr (8, [.ref q96, .int r61])), ((am 33), .inr (8, [.ref q97, .int 0])), ((am 5), .inr (8, [.ref q20, .int r11])), ((am 34), .inr (8, [.ref q98, .int r62])), ((am 35), .inr (8, [.ref q99, .int r63])), ((am 6), .inr (8, [.ref q21, .int r12])), (q21, .inl (cI, r16, .inl r17)), (q20, .inl (cI, r14, .inl r15)), ((am 2), .inl (cI, n_m2, .inl b_m2)), (q88, .inl (cI, r64, .inl r65)), (q89, .inl (cI, r66, .inl r67)), (q90, .inl (cI, r68, .inl r69)), (q91, .inl (cI, r70, .inl r71)), (q92, .inl (cI, r72, .inl r73)), (q93, .inl (cI, r74, .inl r75)), (q94, .inl (cI, r76, .inl r77)), (q95, .inl (cI, r78, .inl r79)), (q96, .inl (cI, r80, .inl r81)), (q97, .inl (cI, r82, .inl r83)), (q98, .inl (cI, r84, .inl r85)), (q99, .inl (cI, r86, .inl r87))]) (cl' := 0 + C5 + C23 + C46 + C100) (sl' := 0 + S6 + S24 + S47 + S101) rfl rfl rfl rfl rfl rfl ?_
    refine j_aload_n d_Mo_read_84 rfl 0 rfl ?_
    refine j_callV (n := 0) (As := []) (rest := []) (wr := [((am 3), .inr (8, [.ref a_all_m3, .int 0])), (a_all_m3, .inl (cI, n_a_all_m3, .inl b_a_all_m3)), ((am 15), .inl (cI, n_m15, .inl b_m15)), ((am 0), .inl (cS, 14, .inr (.inr (.inr (.inr (stA D 40)))))), ((am 1), .inl (cS, 27, .inr (.inr (.inr (.inr (stA D 54)))))), ((am 21), .inr (8, [.ref q42, .int r33])), ((am 22), .inr (8, [.ref q43, .int r34])), ((am 20), .inr (8, [.ref q44, .int r35])), (q22, .inl (cI, r18, .inl r19)), (q4, .inl (cI, r2, .inl r3)), (q42, .inl (cI, r36, .inl r37)), (q43, .inl (cI, r38, .inl r39)), (q44, .inl (cI, r40, .inl r41)), ((am 24), .inr (8, [.ref q88, .int r53])), ((am 25), .inr (8, [.ref q89, .int r54])), ((am 26), .inr (8, [.ref q90, .int r55])), ((am 27), .inr (8, [.ref q91, .int r56])), ((am 28), .inr (8, [.ref q92, .int r57])), ((am 29), .inr (8, [.ref q93, .int r58])), ((am 30), .inr (8, [.ref q94, .int r59])), ((am 31), .inr (8, [.ref q95, .int r60])), ((am 32), .inr (8, [.ref q96, .int r61])), ((am 33), .inr (8, [.ref q97, .int 0])), ((am 34), .inr (8, [.ref q98, .int r62])), ((am 35), .inr (8, [.ref q99, .int r63])), (q21, .inl (cI, r16, .inl r17)), (q20, .inl (cI, r14, .inl r15)), ((am 2), .inl (cI, n_m2, .inl b_m2)), (q88, .inl (cI, r64, .inl r65)), (q89, .inl (cI, r66, .inl r67)), (q90, .inl (cI, r68, .inl r69)), (q91, .inl (cI, r70, .inl r71)), (q92, .inl (cI, r72, .inl r73)), (q93, .inl (cI, r74, .inl r75)), (q94, .inl (cI, r76, .inl r77)), (q95, .inl (cI, r78, .inl r79)), (q96, .inl (cI, r80, .inl r81)), (q97, .inl (cI, r82, .inl r83)), (q98, .inl (cI, r84, .inl r85)), (q99, .inl (cI, r86, .inl r87))]) (c_Mo_swapTexts l D cI cB cJ cS h0 am q4 a_all_m9 q20 a_all_m10 q21 a_all_m11 q22 a_all_m12 1 0 (-1) r10 r29 r30 r31 r32 r52 r1 size_m9 r11 size_m10 r12 size_m11 r13 size_m12  ) k_Mo_493 (by decide) ⟨Nat.le_of_ble_eq_true rfl, Nat.le_of_ble_eq_true rfl⟩ rfl 0 rfl [19, 14, 0, 30, 1, 33, 2, 12, 3] [4, 5, 6, 7, 8, 9, 10, 11, 13, 15, 16, 17, 18, 20, 21, 22, 23, 24, 25, 26, 27, 28, 29, 31, 32, 34, 35, 36, 37, 38, 39, 40, 41, 42, 43, 44, 45, 46, 47, 48] rfl (by decide +kernel) rfl (by decide +kernel) (by decide +kernel) rfl rfl (Nat.le_of_ble_eq_true rfl) d_Mo_read_85 ⟨show 0 + C5 + C23 + C46 + C100 + 0 ≤ mc by omega, show 0 + S6 + S24 + S47 + S101 + 0 ≤ ms by omega⟩ (fun v w hq => ?_)
    obtain ⟨rfl, rfl⟩ := hq
    refine j_norm (pc' := 88) (st' := []) (ws' := [((am 3), .inr (8, [.ref a_all_m3, .int 0])), (a_all_m3, .inl (cI, n_a_all_m3, .inl b_a_all_m3)), ((am 15), .inl (cI, n_m15, .inl b_m15)), ((am 0), .inl (cS, 14, .inr (.inr (.inr (.inr (stA D 40)))))), ((am 1), .inl (cS, 27, .inr (.inr (.inr (.inr (stA D 54)))))), ((am 21), .inr (8, [.ref q42, .int r33])), ((am 22), .inr (8, [.ref q43, .int r34])), ((am 20), .inr (8, [.ref q44, .int r35])), (q22, .inl (cI, r18, .inl r19)), (q4, .inl (cI, r2, .inl r3)), (q42, .inl (cI, r36, .inl r37)), (q43, .inl (cI, r38, .inl r39)), (q44, .inl (cI, r40, .inl r41)), ((am 24), .inr (8, [.ref q88, .int r53])), ((am 25), .inr (8, [.ref q89, .int r54])), ((am 26), .inr (8, [.ref q90, .int r55])), ((am 27), .inr (8, [.ref q91, .int r56])), ((am 28), .inr (8, [.ref q92, .int r57])), ((am 29), .inr (8, [.ref q93, .int r58])), ((am 30), .inr (8, [.ref q94, .int r59])), ((am 31), .inr (8, [.ref q95, .int r60])), ((am 32), .inr (8, [.ref q96, .int r61])), ((am 33), .inr (8, [.ref q97, .int 0])), ((am 34), .inr (8, [.ref q98, .int r62])), ((am 35), .inr (8, [.ref q99, .int r63])), (q21, .inl (cI, r16, .inl r17)), (q20, .inl (cI, r14, .inl r15)), ((am 2), .inl (cI, n_m2, .inl b_m2)), (q88, .inl (cI, r64, .inl r65)), (q89, .inl (cI, r66, .inl r67)), (q90, .inl (cI, r68, .inl r69)), (q91, .inl (cI, r70, .inl r71)), (q92, .inl (cI, r72, .inl r73)), (q93, .inl (cI, r74, .inl r75)), (q94, .inl (cI, r76, .inl r77)), (q95, .inl (cI, r78, .inl r79)), (q96, .inl (cI, r80, .inl r81)), (q97, .inl (cI, r82, .inl r83)), (q98, .inl (cI, r84, .inl r85)), (q99, .inl (cI, r86, .inl r87)), (h0, .inr (9, moF am 1 0 (-1) r10 r29 r30 r31 r32 r52)), ((am 4), .inr (8, [.ref a_all_m9, .int size_m9])), ((am 9), .inr (8, [.ref q4, .int r1])), ((am 5), .inr (8, [.ref a_all_m10, .int size_m10])), ((am 10), .inr (8, [.ref q20, .int r11])), ((am 6), .inr (8, [.ref a_all_m11, .int size_m11])), ((am 11), .inr (8, [.ref q21, .int r12])), ((am 7), .inr (8, [.ref a_all_m12, .int size_m12])), ((am 12), .inr (8, [.ref q22, .int r13]))]) (cl' := 0 + C5 + C23 + C46 + C100) (sl' := 0 + S6 + S24 + S47 + S101) rfl rfl rfl rfl rfl rfl ?_
    refine j_aload_n d_Mo_read_88 rfl 0 rfl ?_
    refine j_get ig_Mo rfl 40 rfl 10 (by decide) rfl m_1123 rfl d_Mo_read_89 ?_
    refine j_getN ig_Nm rfl 44 rfl 1 (by decide) rfl mn_13 rfl d_Mo_read_92 ?_
    refine j_iconst (v := 1) d_Mo_read_95 (by decide) ?_
    refine j_isub d_Mo_read_96 ?_
    replace h := lf_s h
    obtain ⟨h, e1, e2⟩ := h
    replace h := Prod.mk.inj h
    obtain ⟨h9, h⟩ := h
    subst h9
    replace h := Prod.mk.inj h
    obtain ⟨h9, h⟩ := h
    subst h9
    replace h := Prod.mk.inj h
    obtain ⟨h9, h⟩ := h
    subst h9
    replace h := Prod.mk.inj h
    obtain ⟨h9, h⟩ := h
    subst h9
    replace h := Prod.mk.inj h
    obtain ⟨h9, h⟩ := h
    subst h9
    replace h := Prod.mk.inj h
    obtain ⟨h9, h⟩ := h
    subst h9
    replace h := Prod.mk.inj h
    obtain ⟨h9, h⟩ := h
    subst h9
    replace h := Prod.mk.inj h
    obtain ⟨h9, h⟩ := h
    subst h9
    replace h := Prod.mk.inj h
    obtain ⟨h9, h⟩ := h
    subst h9
    replace h := Prod.mk.inj h
    obtain ⟨h9, h⟩ := h
    subst h9
    replace h := Prod.mk.inj h
    obtain ⟨h9, h⟩ := h
    subst h9
    replace h := Prod.mk.inj h
    obtain ⟨h9, h⟩ := h
    subst h9
    replace h := Prod.mk.inj h
    obtain ⟨h9, h⟩ := h
    subst h9
    replace h := Prod.mk.inj h
    obtain ⟨h9, h⟩ := h
    subst h9
    replace h := Prod.mk.inj h
    obtain ⟨h9, h⟩ := h
    subst h9
    replace h := Prod.mk.inj h
    obtain ⟨h9, h⟩ := h
    subst h9
    replace h := Prod.mk.inj h
    obtain ⟨h9, h⟩ := h
    subst h9
    replace h := Prod.mk.inj h
    obtain ⟨h9, h⟩ := h
    subst h9
    replace h := Prod.mk.inj h
    obtain ⟨h9, h⟩ := h
    subst h9
    replace h := Prod.mk.inj h
    obtain ⟨h9, h⟩ := h
    subst h9
    replace h := Prod.mk.inj h
    obtain ⟨h9, h⟩ := h
    subst h9
    replace h := Prod.mk.inj h
    obtain ⟨h9, h⟩ := h
    subst h9
    replace h := Prod.mk.inj h
    obtain ⟨h9, h⟩ := h
    subst h9
    replace h := Prod.mk.inj h
    obtain ⟨h9, h⟩ := h
    subst h9
    replace h := Prod.mk.inj h
    obtain ⟨h9, h⟩ := h
    subst h9
    replace h := Prod.mk.inj h
    obtain ⟨h9, h⟩ := h
    subst h9
    replace h := Prod.mk.inj h
    obtain ⟨h9, h⟩ := h
    subst h9
    replace h := Prod.mk.inj h
    obtain ⟨h9, h⟩ := h
    subst h9
    replace h := Prod.mk.inj h
    obtain ⟨h9, h⟩ := h
    subst h9
    replace h := Prod.mk.inj h
    obtain ⟨h9, h⟩ := h
    subst h9
    replace h := Prod.mk.inj h
    obtain ⟨h9, h⟩ := h
    subst h9
    replace h := Prod.mk.inj h
    obtain ⟨h9, h⟩ := h
    subst h9
    replace h := Prod.mk.inj h
    obtain ⟨h9, h⟩ := h
    subst h9
    replace h := Prod.mk.inj h
    obtain ⟨h9, h⟩ := h
    subst h9
    replace h := Prod.mk.inj h
    obtain ⟨h9, h⟩ := h
    subst h9
    replace h := Prod.mk.inj h
    obtain ⟨h9, h⟩ := h
    subst h9
    replace h := Prod.mk.inj h
    obtain ⟨h9, h⟩ := h
    subst h9
    replace h := Prod.mk.inj h
    obtain ⟨h9, h⟩ := h
    subst h9
    replace h := Prod.mk.inj h
    obtain ⟨h9, h⟩ := h
    subst h9
    replace h := Prod.mk.inj h
    obtain ⟨h9, h⟩ := h
    subst h9
    replace h := Prod.mk.inj h
    obtain ⟨h9, h⟩ := h
    subst h9
    replace h := Prod.mk.inj h
    obtain ⟨h9, h⟩ := h
    subst h9
    replace h := Prod.mk.inj h
    obtain ⟨h9, h⟩ := h
    subst h9
    replace h := Prod.mk.inj h
    obtain ⟨h9, h⟩ := h
    subst h9
    replace h := Prod.mk.inj h
    obtain ⟨h9, h⟩ := h
    subst h9
    replace h := Prod.mk.inj h
    obtain ⟨h9, h⟩ := h
    subst h9
    replace h := Prod.mk.inj h
    obtain ⟨h9, h⟩ := h
    subst h9
    replace h := Prod.mk.inj h
    obtain ⟨h9, h⟩ := h
    subst h9
    replace h := Prod.mk.inj h
    obtain ⟨h9, h⟩ := h
    subst h9
    replace h := Prod.mk.inj h
    obtain ⟨h9, h⟩ := h
    subst h9
    replace h := Prod.mk.inj h
    obtain ⟨h9, h⟩ := h
    subst h9
    replace h := Prod.mk.inj h
    obtain ⟨h9, h⟩ := h
    subst h9
    replace h := Prod.mk.inj h
    obtain ⟨h9, h⟩ := h
    subst h9
    replace h := Prod.mk.inj h
    obtain ⟨h9, h⟩ := h
    subst h9
    replace h := Prod.mk.inj h
    obtain ⟨h9, h⟩ := h
    subst h9
    replace h := Prod.mk.inj h
    obtain ⟨h9, h⟩ := h
    subst h9
    replace h := Prod.mk.inj h
    obtain ⟨h9, h⟩ := h
    subst h9
    replace h := Prod.mk.inj h
    obtain ⟨h9, h⟩ := h
    subst h9
    replace h := Prod.mk.inj h
    obtain ⟨h9, h⟩ := h
    subst h9
    replace h := Prod.mk.inj h
    obtain ⟨h9, h⟩ := h
    subst h9
    replace h := Prod.mk.inj h
    obtain ⟨h9, h⟩ := h
    subst h9
    subst h
    refine j_widen (cl' := mc) (sl' := ms) (by omega) (by omega) ?_
    exact j_iret (w := [(h0, .inr (9, moF am 1 0 (-1) r10 r29 r30 r31 r32 r52)), ((am 4), .inr (8, [.ref a_all_m9, .int size_m9])), ((am 3), .inr (8, [.ref a_all_m3, .int 0])), (a_all_m3, .inl (cI, n_a_all_m3, .inl b_a_all_m3)), ((am 5), .inr (8, [.ref a_all_m10, .int size_m10])), ((am 6), .inr (8, [.ref a_all_m11, .int size_m11])), ((am 7), .inr (8, [.ref a_all_m12, .int size_m12])), ((am 15), .inl (cI, n_m15, .inl b_m15)), ((am 0), .inl (cS, 14, .inr (.inr (.inr (.inr (stA D 40)))))), ((am 1), .inl (cS, 27, .inr (.inr (.inr (.inr (stA D 54)))))), ((am 21), .inr (8, [.ref q42, .int r33])), ((am 22), .inr (8, [.ref q43, .int r34])), ((am 20), .inr (8, [.ref q44, .int r35])), ((am 2), .inl (cI, n_m2, .inl b_m2)), ((am 24), .inr (8, [.ref q88, .int r53])), ((am 25), .inr (8, [.ref q89, .int r54])), ((am 26), .inr (8, [.ref q90, .int r55])), ((am 27), .inr (8, [.ref q91, .int r56])), ((am 28), .inr (8, [.ref q92, .int r57])), ((am 29), .inr (8, [.ref q93, .int r58])), ((am 30), .inr (8, [.ref q94, .int r59])), ((am 31), .inr (8, [.ref q95, .int r60])), ((am 32), .inr (8, [.ref q96, .int r61])), ((am 33), .inr (8, [.ref q97, .int 0])), ((am 34), .inr (8, [.ref q98, .int r62])), ((am 35), .inr (8, [.ref q99, .int r63])), ((am 9), .inr (8, [.ref q4, .int r1])), ((am 10), .inr (8, [.ref q20, .int r11])), ((am 11), .inr (8, [.ref q21, .int r12])), ((am 12), .inr (8, [.ref q22, .int r13])), (q42, .inl (cI, r36, .inl r37)), (q43, .inl (cI, r38, .inl r39)), (q44, .inl (cI, r40, .inl r41)), (q88, .inl (cI, r64, .inl r65)), (q89, .inl (cI, r66, .inl r67)), (q90, .inl (cI, r68, .inl r69)), (q91, .inl (cI, r70, .inl r71)), (q92, .inl (cI, r72, .inl r73)), (q93, .inl (cI, r74, .inl r75)), (q94, .inl (cI, r76, .inl r77)), (q95, .inl (cI, r78, .inl r79)), (q96, .inl (cI, r80, .inl r81)), (q97, .inl (cI, r82, .inl r83)), (q98, .inl (cI, r84, .inl r85)), (q99, .inl (cI, r86, .inl r87))]) hr d_Mo_read_97 [40, 41, 0, 1, 43, 45, 47, 2, 3, 4, 5, 6, 7, 27, 13, 14, 15, 16, 17, 18, 19, 20, 21, 22, 23, 24, 42, 44, 46, 48, 10, 11, 12, 28, 29, 30, 31, 32, 33, 34, 35, 36, 37, 38, 39] rfl (by decide) ⟨a_all_m9, a_all_m10, a_all_m11, a_all_m12, q42, q43, q44, q88, q89, q90, q91, q92, q93, q94, q95, q96, q97, q98, q99, q4, q20, q21, q22, rfl, rfl⟩
  · replace h := it_t c51 h
    refine j_aload_n d_Mo_read_35 rfl 0 rfl ?_
    refine j_aload_n d_Mo_read_36 rfl 0 rfl ?_
    refine j_get ig_Mo rfl 33 rfl 6 (by decide) rfl m_1119 rfl d_Mo_read_37 ?_
    refine j_aload_n d_Mo_read_40 rfl 0 rfl ?_
    refine j_get ig_Mo rfl 33 rfl 18 (by decide) rfl m_1131 rfl d_Mo_read_41 ?_
    refine j_aload_n d_Mo_read_44 rfl 0 rfl ?_
    refine j_get ig_Mo rfl 33 rfl 23 (by decide) rfl m_1136 rfl d_Mo_read_45 ?_
    refine j_icmp_le (tgt := 58) d_Mo_read_48 (by decide) (fun c106 => ?_) (fun c106 => ?_)
    · replace h := it_t c106 h
      refine j_aload_n d_Mo_read_58 rfl 0 rfl ?_
      refine j_get ig_Mo rfl 33 rfl 23 (by decide) rfl m_1136 rfl d_Mo_read_59 ?_
      replace h := bd_s h
      obtain ⟨_, k107, h⟩ := h
      refine j_callV (n := 1) (As := [.int r32]) (rest := [.ref h0]) (wr := [((am 24), .inr (8, [.ref a_all_m24, .int size_m24])), ((am 25), .inr (8, [.ref a_all_m25, .int size_m25])), ((am 26), .inr (8, [.ref a_all_m26, .int size_m26])), ((am 27), .inr (8, [.ref a_all_m27, .int size_m27])), ((am 28), .inr (8, [.ref a_all_m28, .int size_m28])), ((am 29), .inr (8, [.ref a_all_m29, .int size_m29])), ((am 30), .inr (8, [.ref a_all_m30, .int size_m30])), ((am 31), .inr (8, [.ref a_all_m31, .int size_m31])), ((am 32), .inr (8, [.ref a_all_m32, .int size_m32])), ((am 33), .inr (8, [.ref a_all_m33, .int size_m33])), ((am 34), .inr (8, [.ref a_all_m34, .int size_m34])), (a_all_m34, .inl (cI, n_a_all_m34, .inl b_a_all_m34)), ((am 35), .inr (8, [.ref a_all_m35, .int size_m35])), (a_all_m35, .inl (cI, n_a_all_m35, .inl b_a_all_m35)), (a_all_m24, .inl (cI, n_a_all_m24, .inl b_a_all_m24)), (a_all_m25, .inl (cI, n_a_all_m25, .inl b_a_all_m25)), (a_all_m26, .inl (cI, n_a_all_m26, .inl b_a_all_m26)), (a_all_m27, .inl (cI, n_a_all_m27, .inl b_a_all_m27)), (a_all_m28, .inl (cI, n_a_all_m28, .inl b_a_all_m28)), (a_all_m29, .inl (cI, n_a_all_m29, .inl b_a_all_m29)), (a_all_m30, .inl (cI, n_a_all_m30, .inl b_a_all_m30)), (a_all_m31, .inl (cI, n_a_all_m31, .inl b_a_all_m31)), (a_all_m33, .inl (cI, n_a_all_m33, .inl b_a_all_m33)), (a_all_m32, .inl (cI, n_a_all_m32, .inl b_a_all_m32)), ((am 9), .inr (8, [.ref a_all_m9, .int size_m9])), ((am 10), .inr (8, [.ref a_all_m10, .int size_m10])), ((am 11), .inr (8, [.ref a_all_m11, .int size_m11])), ((am 12), .inr (8, [.ref a_all_m12, .int size_m12])), ((am 3), .inr (8, [.ref a_all_m3, .int 0])), (a_all_m3, .inl (cI, n_a_all_m3, .inl b_a_all_m3)), ((am 15), .inl (cI, n_m15, .inl b_m15)), ((am 0), .inl (cS, 14, .inr (.inr (.inr (.inr (stA D 40)))))), ((am 1), .inl (cS, 27, .inr (.inr (.inr (.inr (stA D 54)))))), (h0, .inr (9, moF am known_h0 0 wrong_h0 r10 r29 r30 r31 r32 found_h0)), ((am 21), .inr (8, [.ref q42, .int r33])), ((am 22), .inr (8, [.ref q43, .int r34])), ((am 5), .inr (8, [.ref q20, .int r11])), (q20, .inl (cI, r14, .inl r15)), ((am 20), .inr (8, [.ref q44, .int r35])), ((am 2), .inl (cI, n_m2, .inl b_m2)), ((am 7), .inr (8, [.ref q22, .int r13])), (q22, .inl (cI, r18, .inl r19)), ((am 4), .inr (8, [.ref q4, .int r1])), (q4, .inl (cI, r2, .inl r3)), (q42, .inl (cI, r36, .inl r37)), (q43, .inl (cI, r38, .inl r39)), (q44, .inl (cI, r40, .inl r41))]) (c_Nm_at l D cI cB cJ cS (am 6) q21 r32 r12 r16 r17  k107) k_Mo_214 (by decide) ⟨Nat.le_of_ble_eq_true rfl, Nat.le_of_ble_eq_true rfl⟩ rfl 0 rfl [42, 43] [0, 1, 2, 3, 4, 5, 6, 7, 8, 9, 10, 11, 12, 13, 14, 15, 16, 17, 18, 19, 20, 21, 22, 23, 24, 25, 26, 27, 28, 29, 30, 31, 32, 33, 34, 35, 36, 37, 38, 39, 40, 41, 44, 45, 46, 47, 48] rfl (by decide +kernel) rfl (by decide +kernel) (by decide +kernel) rfl rfl (Nat.le_of_ble_eq_true rfl) d_Mo_read_62 ⟨show 0 + C5 + C23 + C46 + 0 ≤ mc by omega, show 0 + S6 + S24 + S47 + 0 ≤ ms by omega⟩ (fun v w hq => ?_)
      obtain ⟨rfl, rfl⟩ := hq
      refine j_norm (pc' := 65) (st' := [.int (r17 (Int32.toNatClampNeg r32)), .ref h0]) (ws' := [((am 24), .inr (8, [.ref a_all_m24, .int size_m24])), ((am 25), .inr (8, [.ref a_all_m25, .int size_m25])), ((am 26), .inr (8, [.ref a_all_m26, .int size_m26])), ((am 27), .inr (8, [.ref a_all_m27, .int size_m27])), ((am 28), .inr (8, [.ref a_all_m28, .int size_m28])), ((am 29), .inr (8, [.ref a_all_m29, .int size_m29])), ((am 30), .inr (8, [.ref a_all_m30, .int size_m30])), ((am 31), .inr (8, [.ref a_all_m31, .int size_m31])), ((am 32), .inr (8, [.ref a_all_m32, .int size_m32])), ((am 33), .inr (8, [.ref a_all_m33, .int size_m33])), ((am 34), .inr (8, [.ref a_all_m34, .int size_m34])), (a_all_m34, .inl (cI, n_a_all_m34, .inl b_a_all_m34)), ((am 35), .inr (8, [.ref a_all_m35, .int size_m35])), (a_all_m35, .inl (cI, n_a_all_m35, .inl b_a_all_m35)), (a_all_m24, .inl (cI, n_a_all_m24, .inl b_a_all_m24)), (a_all_m25, .inl (cI, n_a_all_m25, .inl b_a_all_m25)), (a_all_m26, .inl (cI, n_a_all_m26, .inl b_a_all_m26)), (a_all_m27, .inl (cI, n_a_all_m27, .inl b_a_all_m27)), (a_all_m28, .inl (cI, n_a_all_m28, .inl b_a_all_m28)), (a_all_m29, .inl (cI, n_a_all_m29, .inl b_a_all_m29)), (a_all_m30, .inl (cI, n_a_all_m30, .inl b_a_all_m30)), (a_all_m31, .inl (cI, n_a_all_m31, .inl b_a_all_m31)), (a_all_m33, .inl (cI, n_a_all_m33, .inl b_a_all_m33)), (a_all_m32, .inl (cI, n_a_all_m32, .inl b_a_all_m32)), ((am 9), .inr (8, [.ref a_all_m9, .int size_m9])), ((am 10), .inr (8, [.ref a_all_m10, .int size_m10])), ((am 11), .inr (8, [.ref a_all_m11, .int size_m11])), ((am 12), .inr (8, [.ref a_all_m12, .int size_m12])), ((am 3), .inr (8, [.ref a_all_m3, .int 0])), (a_all_m3, .inl (cI, n_a_all_m3, .inl b_a_all_m3)), ((am 15), .inl (cI, n_m15, .inl b_m15)), ((am 0), .inl (cS, 14, .inr (.inr (.inr (.inr (stA D 40)))))), ((am 1), .inl (cS, 27, .inr (.inr (.inr (.inr (stA D 54)))))), (h0, .inr (9, moF am known_h0 0 wrong_h0 r10 r29 r30 r31 r32 found_h0)), ((am 21), .inr (8, [.ref q42, .int r33])), ((am 22), .inr (8, [.ref q43, .int r34])), ((am 5), .inr (8, [.ref q20, .int r11])), (q20, .inl (cI, r14, .inl r15)), ((am 20), .inr (8, [.ref q44, .int r35])), ((am 2), .inl (cI, n_m2, .inl b_m2)), ((am 7), .inr (8, [.ref q22, .int r13])), (q22, .inl (cI, r18, .inl r19)), ((am 4), .inr (8, [.ref q4, .int r1])), (q4, .inl (cI, r2, .inl r3)), (q42, .inl (cI, r36, .inl r37)), (q43, .inl (cI, r38, .inl r39)), (q44, .inl (cI, r40, .inl r41)), ((am 6), .inr (8, [.ref q21, .int r12])), (q21, .inl (cI, r16, .inl r17))]) (cl' := 0 + C5 + C23 + C46) (sl' := 0 + S6 + S24 + S47) rfl rfl rfl rfl rfl rfl ?_
      refine j_put (ws' := [((am 24), .inr (8, [.ref a_all_m24, .int size_m24])), ((am 25), .inr (8, [.ref a_all_m25, .int size_m25])), ((am 26), .inr (8, [.ref a_all_m26, .int size_m26])), ((am 27), .inr (8, [.ref a_all_m27, .int size_m27])), ((am 28), .inr (8, [.ref a_all_m28, .int size_m28])), ((am 29), .inr (8, [.ref a_all_m29, .int size_m29])), ((am 30), .inr (8, [.ref a_all_m30, .int size_m30])), ((am 31), .inr (8, [.ref a_all_m31, .int size_m31])), ((am 32), .inr (8, [.ref a_all_m32, .int size_m32])), ((am 33), .inr (8, [.ref a_all_m33, .int size_m33])), ((am 34), .inr (8, [.ref a_all_m34, .int size_m34])), (a_all_m34, .inl (cI, n_a_all_m34, .inl b_a_all_m34)), ((am 35), .inr (8, [.ref a_all_m35, .int size_m35])), (a_all_m35, .inl (cI, n_a_all_m35, .inl b_a_all_m35)), (a_all_m24, .inl (cI, n_a_all_m24, .inl b_a_all_m24)), (a_all_m25, .inl (cI, n_a_all_m25, .inl b_a_all_m25)), (a_all_m26, .inl (cI, n_a_all_m26, .inl b_a_all_m26)), (a_all_m27, .inl (cI, n_a_all_m27, .inl b_a_all_m27)), (a_all_m28, .inl (cI, n_a_all_m28, .inl b_a_all_m28)), (a_all_m29, .inl (cI, n_a_all_m29, .inl b_a_all_m29)), (a_all_m30, .inl (cI, n_a_all_m30, .inl b_a_all_m30)), (a_all_m31, .inl (cI, n_a_all_m31, .inl b_a_all_m31)), (a_all_m33, .inl (cI, n_a_all_m33, .inl b_a_all_m33)), (a_all_m32, .inl (cI, n_a_all_m32, .inl b_a_all_m32)), ((am 9), .inr (8, [.ref a_all_m9, .int size_m9])), ((am 10), .inr (8, [.ref a_all_m10, .int size_m10])), ((am 11), .inr (8, [.ref a_all_m11, .int size_m11])), ((am 12), .inr (8, [.ref a_all_m12, .int size_m12])), ((am 3), .inr (8, [.ref a_all_m3, .int 0])), (a_all_m3, .inl (cI, n_a_all_m3, .inl b_a_all_m3)), ((am 15), .inl (cI, n_m15, .inl b_m15)), ((am 0), .inl (cS, 14, .inr (.inr (.inr (.inr (stA D 40)))))), ((am 1), .inl (cS, 27, .inr (.inr (.inr (.inr (stA D 54)))))), (h0, .inr (9, moF am known_h0 0 (r17 (Int32.toNatClampNeg r32)) r10 r29 r30 r31 r32 found_h0)), ((am 21), .inr (8, [.ref q42, .int r33])), ((am 22), .inr (8, [.ref q43, .int r34])), ((am 5), .inr (8, [.ref q20, .int r11])), (q20, .inl (cI, r14, .inl r15)), ((am 20), .inr (8, [.ref q44, .int r35])), ((am 2), .inl (cI, n_m2, .inl b_m2)), ((am 7), .inr (8, [.ref q22, .int r13])), (q22, .inl (cI, r18, .inl r19)), ((am 4), .inr (8, [.ref q4, .int r1])), (q4, .inl (cI, r2, .inl r3)), (q42, .inl (cI, r36, .inl r37)), (q43, .inl (cI, r38, .inl r39)), (q44, .inl (cI, r40, .inl r41)), ((am 6), .inr (8, [.ref q21, .int r12])), (q21, .inl (cI, r16, .inl r17))]) ig_Mo tk_Mo nm_Mo rfl 33 rfl 14 (by decide) rfl m_1127 rfl (tk_Mo 14 (by decide)) rfl rfl (Nat.le_of_ble_eq_true rfl) d_Mo_read_65 rfl ?_
      refine j_iconst (v := (-1)) d_Mo_read_68 (by decide) ?_
      replace h := lf_s h
      obtain ⟨h, e1, e2⟩ := h
      replace h := Prod.mk.inj h
      obtain ⟨h9, h⟩ := h
      subst h9
      replace h := Prod.mk.inj h
      obtain ⟨h9, h⟩ := h
      subst h9
      replace h := Prod.mk.inj h
      obtain ⟨h9, h⟩ := h
      subst h9
      replace h := Prod.mk.inj h
      obtain ⟨h9, h⟩ := h
      subst h9
      replace h := Prod.mk.inj h
      obtain ⟨h9, h⟩ := h
      subst h9
      replace h := Prod.mk.inj h
      obtain ⟨h9, h⟩ := h
      subst h9
      replace h := Prod.mk.inj h
      obtain ⟨h9, h⟩ := h
      subst h9
      replace h := Prod.mk.inj h
      obtain ⟨h9, h⟩ := h
      subst h9
      replace h := Prod.mk.inj h
      obtain ⟨h9, h⟩ := h
      subst h9
      replace h := Prod.mk.inj h
      obtain ⟨h9, h⟩ := h
      subst h9
      replace h := Prod.mk.inj h
      obtain ⟨h9, h⟩ := h
      subst h9
      replace h := Prod.mk.inj h
      obtain ⟨h9, h⟩ := h
      subst h9
      replace h := Prod.mk.inj h
      obtain ⟨h9, h⟩ := h
      subst h9
      replace h := Prod.mk.inj h
      obtain ⟨h9, h⟩ := h
      subst h9
      replace h := Prod.mk.inj h
      obtain ⟨h9, h⟩ := h
      subst h9
      replace h := Prod.mk.inj h
      obtain ⟨h9, h⟩ := h
      subst h9
      replace h := Prod.mk.inj h
      obtain ⟨h9, h⟩ := h
      subst h9
      replace h := Prod.mk.inj h
      obtain ⟨h9, h⟩ := h
      subst h9
      replace h := Prod.mk.inj h
      obtain ⟨h9, h⟩ := h
      subst h9
      replace h := Prod.mk.inj h
      obtain ⟨h9, h⟩ := h
      subst h9
      replace h := Prod.mk.inj h
      obtain ⟨h9, h⟩ := h
      subst h9
      replace h := Prod.mk.inj h
      obtain ⟨h9, h⟩ := h
      subst h9
      replace h := Prod.mk.inj h
      obtain ⟨h9, h⟩ := h
      subst h9
      replace h := Prod.mk.inj h
      obtain ⟨h9, h⟩ := h
      subst h9
      replace h := Prod.mk.inj h
      obtain ⟨h9, h⟩ := h
      subst h9
      replace h := Prod.mk.inj h
      obtain ⟨h9, h⟩ := h
      subst h9
      replace h := Prod.mk.inj h
      obtain ⟨h9, h⟩ := h
      subst h9
      replace h := Prod.mk.inj h
      obtain ⟨h9, h⟩ := h
      subst h9
      replace h := Prod.mk.inj h
      obtain ⟨h9, h⟩ := h
      subst h9
      replace h := Prod.mk.inj h
      obtain ⟨h9, h⟩ := h
      subst h9
      replace h := Prod.mk.inj h
      obtain ⟨h9, h⟩ := h
      subst h9
      replace h := Prod.mk.inj h
      obtain ⟨h9, h⟩ := h
      subst h9
      replace h := Prod.mk.inj h
      obtain ⟨h9, h⟩ := h
      subst h9
      replace h := Prod.mk.inj h
      obtain ⟨h9, h⟩ := h
      subst h9
      replace h := Prod.mk.inj h
      obtain ⟨h9, h⟩ := h
      subst h9
      replace h := Prod.mk.inj h
      obtain ⟨h9, h⟩ := h
      subst h9
      replace h := Prod.mk.inj h
      obtain ⟨h9, h⟩ := h
      subst h9
      replace h := Prod.mk.inj h
      obtain ⟨h9, h⟩ := h
      subst h9
      replace h := Prod.mk.inj h
      obtain ⟨h9, h⟩ := h
      subst h9
      replace h := Prod.mk.inj h
      obtain ⟨h9, h⟩ := h
      subst h9
      replace h := Prod.mk.inj h
      obtain ⟨h9, h⟩ := h
      subst h9
      replace h := Prod.mk.inj h
      obtain ⟨h9, h⟩ := h
      subst h9
      replace h := Prod.mk.inj h
      obtain ⟨h9, h⟩ := h
      subst h9
      replace h := Prod.mk.inj h
      obtain ⟨h9, h⟩ := h
      subst h9
      replace h := Prod.mk.inj h
      obtain ⟨h9, h⟩ := h
      subst h9
      replace h := Prod.mk.inj h
      obtain ⟨h9, h⟩ := h
      subst h9
      replace h := Prod.mk.inj h
      obtain ⟨h9, h⟩ := h
      subst h9
      replace h := Prod.mk.inj h
      obtain ⟨h9, h⟩ := h
      subst h9
      replace h := Prod.mk.inj h
      obtain ⟨h9, h⟩ := h
      subst h9
      replace h := Prod.mk.inj h
      obtain ⟨h9, h⟩ := h
      subst h9
      replace h := Prod.mk.inj h
      obtain ⟨h9, h⟩ := h
      subst h9
      replace h := Prod.mk.inj h
      obtain ⟨h9, h⟩ := h
      subst h9
      replace h := Prod.mk.inj h
      obtain ⟨h9, h⟩ := h
      subst h9
      replace h := Prod.mk.inj h
      obtain ⟨h9, h⟩ := h
      subst h9
      replace h := Prod.mk.inj h
      obtain ⟨h9, h⟩ := h
      subst h9
      replace h := Prod.mk.inj h
      obtain ⟨h9, h⟩ := h
      subst h9
      replace h := Prod.mk.inj h
      obtain ⟨h9, h⟩ := h
      subst h9
      replace h := Prod.mk.inj h
      obtain ⟨h9, h⟩ := h
      subst h9
      replace h := Prod.mk.inj h
      obtain ⟨h9, h⟩ := h
      subst h9
      replace h := Prod.mk.inj h
      obtain ⟨h9, h⟩ := h
      subst h9
      replace h := Prod.mk.inj h
      obtain ⟨h9, h⟩ := h
      subst h9
      subst h
      refine j_widen (cl' := mc) (sl' := ms) (by omega) (by omega) ?_
      exact j_iret (w := [(h0, .inr (9, moF am known_h0 0 (r17 (Int32.toNatClampNeg r32)) r10 r29 r30 r31 r32 found_h0)), ((am 4), .inr (8, [.ref q4, .int r1])), ((am 3), .inr (8, [.ref a_all_m3, .int 0])), (a_all_m3, .inl (cI, n_a_all_m3, .inl b_a_all_m3)), ((am 5), .inr (8, [.ref q20, .int r11])), ((am 6), .inr (8, [.ref q21, .int r12])), ((am 7), .inr (8, [.ref q22, .int r13])), ((am 15), .inl (cI, n_m15, .inl b_m15)), ((am 0), .inl (cS, 14, .inr (.inr (.inr (.inr (stA D 40)))))), ((am 1), .inl (cS, 27, .inr (.inr (.inr (.inr (stA D 54)))))), ((am 21), .inr (8, [.ref q42, .int r33])), ((am 22), .inr (8, [.ref q43, .int r34])), ((am 20), .inr (8, [.ref q44, .int r35])), ((am 2), .inl (cI, n_m2, .inl b_m2)), ((am 24), .inr (8, [.ref a_all_m24, .int size_m24])), ((am 25), .inr (8, [.ref a_all_m25, .int size_m25])), ((am 26), .inr (8, [.ref a_all_m26, .int size_m26])), ((am 27), .inr (8, [.ref a_all_m27, .int size_m27])), ((am 28), .inr (8, [.ref a_all_m28, .int size_m28])), ((am 29), .inr (8, [.ref a_all_m29, .int size_m29])), ((am 30), .inr (8, [.ref a_all_m30, .int size_m30])), ((am 31), .inr (8, [.ref a_all_m31, .int size_m31])), ((am 32), .inr (8, [.ref a_all_m32, .int size_m32])), ((am 33), .inr (8, [.ref a_all_m33, .int size_m33])), ((am 34), .inr (8, [.ref a_all_m34, .int size_m34])), ((am 35), .inr (8, [.ref a_all_m35, .int size_m35])), ((am 9), .inr (8, [.ref a_all_m9, .int size_m9])), ((am 10), .inr (8, [.ref a_all_m10, .int size_m10])), ((am 11), .inr (8, [.ref a_all_m11, .int size_m11])), ((am 12), .inr (8, [.ref a_all_m12, .int size_m12])), (q42, .inl (cI, r36, .inl r37)), (q43, .inl (cI, r38, .inl r39)), (q44, .inl (cI, r40, .inl r41)), (a_all_m24, .inl (cI, n_a_all_m24, .inl b_a_all_m24)), (a_all_m25, .inl (cI, n_a_all_m25, .inl b_a_all_m25)), (a_all_m26, .inl (cI, n_a_all_m26, .inl b_a_all_m26)), (a_all_m27, .inl (cI, n_a_all_m27, .inl b_a_all_m27)), (a_all_m28, .inl (cI, n_a_all_m28, .inl b_a_all_m28)), (a_all_m29, .inl (cI, n_a_all_m29, .inl b_a_all_m29)), (a_all_m30, .inl (cI, n_a_all_m30, .inl b_a_all_m30)), (a_all_m31, .inl (cI, n_a_all_m31, .inl b_a_all_m31)), (a_all_m32, .inl (cI, n_a_all_m32, .inl b_a_all_m32)), (a_all_m33, .inl (cI, n_a_all_m33, .inl b_a_all_m33)), (a_all_m34, .inl (cI, n_a_all_m34, .inl b_a_all_m34)), (a_all_m35, .inl (cI, n_a_all_m35, .inl b_a_all_m35))]) hr d_Mo_read_69 [33, 42, 28, 29, 36, 47, 40, 30, 31, 32, 34, 35, 38, 39, 0, 1, 2, 3, 4, 5, 6, 7, 8, 9, 10, 12, 24, 25, 26, 27, 44, 45, 46, 14, 15, 16, 17, 18, 19, 20, 21, 23, 22, 11, 13] rfl (by decide) ⟨q4, q20, q21, q22, q42, q43, q44, a_all_m24, a_all_m25, a_all_m26, a_all_m27, a_all_m28, a_all_m29, a_all_m30, a_all_m31, a_all_m32, a_all_m33, a_all_m34, a_all_m35, a_all_m9, a_all_m10, a_all_m11, a_all_m12, rfl, rfl⟩
    · replace h := it_f c106 h
      refine j_aload_n d_Mo_read_51 rfl 0 rfl ?_
      refine j_get ig_Mo rfl 33 rfl 18 (by decide) rfl m_1131 rfl d_Mo_read_52 ?_
      refine j_goto (tgt := 62) d_Mo_read_55 (by decide) ?_
      replace h := bd_s h
      obtain ⟨_, k108, h⟩ := h
      refine j_callV (n := 1) (As := [.int r30]) (rest := [.ref h0]) (wr := [((am 24), .inr (8, [.ref a_all_m24, .int size_m24])), ((am 25), .inr (8, [.ref a_all_m25, .int size_m25])), ((am 26), .inr (8, [.ref a_all_m26, .int size_m26])), ((am 27), .inr (8, [.ref a_all_m27, .int size_m27])), ((am 28), .inr (8, [.ref a_all_m28, .int size_m28])), ((am 29), .inr (8, [.ref a_all_m29, .int size_m29])), ((am 30), .inr (8, [.ref a_all_m30, .int size_m30])), ((am 31), .inr (8, [.ref a_all_m31, .int size_m31])), ((am 32), .inr (8, [.ref a_all_m32, .int size_m32])), ((am 33), .inr (8, [.ref a_all_m33, .int size_m33])), ((am 34), .inr (8, [.ref a_all_m34, .int size_m34])), (a_all_m34, .inl (cI, n_a_all_m34, .inl b_a_all_m34)), ((am 35), .inr (8, [.ref a_all_m35, .int size_m35])), (a_all_m35, .inl (cI, n_a_all_m35, .inl b_a_all_m35)), (a_all_m24, .inl (cI, n_a_all_m24, .inl b_a_all_m24)), (a_all_m25, .inl (cI, n_a_all_m25, .inl b_a_all_m25)), (a_all_m26, .inl (cI, n_a_all_m26, .inl b_a_all_m26)), (a_all_m27, .inl (cI, n_a_all_m27, .inl b_a_all_m27)), (a_all_m28, .inl (cI, n_a_all_m28, .inl b_a_all_m28)), (a_all_m29, .inl (cI, n_a_all_m29, .inl b_a_all_m29)), (a_all_m30, .inl (cI, n_a_all_m30, .inl b_a_all_m30)), (a_all_m31, .inl (cI, n_a_all_m31, .inl b_a_all_m31)), (a_all_m33, .inl (cI, n_a_all_m33, .inl b_a_all_m33)), (a_all_m32, .inl (cI, n_a_all_m32, .inl b_a_all_m32)), ((am 9), .inr (8, [.ref a_all_m9, .int size_m9])), ((am 10), .inr (8, [.ref a_all_m10, .int size_m10])), ((am 11), .inr (8, [.ref a_all_m11, .int size_m11])), ((am 12), .inr (8, [.ref a_all_m12, .int size_m12])), ((am 3), .inr (8, [.ref a_all_m3, .int 0])), (a_all_m3, .inl (cI, n_a_all_m3, .inl b_a_all_m3)), ((am 15), .inl (cI, n_m15, .inl b_m15)), ((am 0), .inl (cS, 14, .inr (.inr (.inr (.inr (stA D 40)))))), ((am 1), .inl (cS, 27, .inr (.inr (.inr (.inr (stA D 54)))))), (h0, .inr (9, moF am known_h0 0 wrong_h0 r10 r29 r30 r31 r32 found_h0)), ((am 21), .inr (8, [.ref q42, .int r33])), ((am 22), .inr (8, [.ref q43, .int r34])), ((am 5), .inr (8, [.ref q20, .int r11])), (q20, .inl (cI, r14, .inl r15)), ((am 20), .inr (8, [.ref q44, .int r35])), ((am 2), .inl (cI, n_m2, .inl b_m2)), ((am 7), .inr (8, [.ref q22, .int r13])), (q22, .inl (cI, r18, .inl r19)), ((am 4), .inr (8, [.ref q4, .int r1])), (q4, .inl (cI, r2, .inl r3)), (q42, .inl (cI, r36, .inl r37)), (q43, .inl (cI, r38, .inl r39)), (q44, .inl (cI, r40, .inl r41))]) (c_Nm_at l D cI cB cJ cS (am 6) q21 r30 r12 r16 r17  k108) k_Mo_214 (by decide) ⟨Nat.le_of_ble_eq_true rfl, Nat.le_of_ble_eq_true rfl⟩ rfl 0 rfl [42, 43] [0, 1, 2, 3, 4, 5, 6, 7, 8, 9, 10, 11, 12, 13, 14, 15, 16, 17, 18, 19, 20, 21, 22, 23, 24, 25, 26, 27, 28, 29, 30, 31, 32, 33, 34, 35, 36, 37, 38, 39, 40, 41, 44, 45, 46, 47, 48] rfl (by decide +kernel) rfl (by decide +kernel) (by decide +kernel) rfl rfl (Nat.le_of_ble_eq_true rfl) d_Mo_read_62 ⟨show 0 + C5 + C23 + C46 + 0 ≤ mc by omega, show 0 + S6 + S24 + S47 + 0 ≤ ms by omega⟩ (fun v w hq => ?_)
      obtain ⟨rfl, rfl⟩ := hq
      refine j_norm (pc' := 65) (st' := [.int (r17 (Int32.toNatClampNeg r30)), .ref h0]) (ws' := [((am 24), .inr (8, [.ref a_all_m24, .int size_m24])), ((am 25), .inr (8, [.ref a_all_m25, .int size_m25])), ((am 26), .inr (8, [.ref a_all_m26, .int size_m26])), ((am 27), .inr (8, [.ref a_all_m27, .int size_m27])), ((am 28), .inr (8, [.ref a_all_m28, .int size_m28])), ((am 29), .inr (8, [.ref a_all_m29, .int size_m29])), ((am 30), .inr (8, [.ref a_all_m30, .int size_m30])), ((am 31), .inr (8, [.ref a_all_m31, .int size_m31])), ((am 32), .inr (8, [.ref a_all_m32, .int size_m32])), ((am 33), .inr (8, [.ref a_all_m33, .int size_m33])), ((am 34), .inr (8, [.ref a_all_m34, .int size_m34])), (a_all_m34, .inl (cI, n_a_all_m34, .inl b_a_all_m34)), ((am 35), .inr (8, [.ref a_all_m35, .int size_m35])), (a_all_m35, .inl (cI, n_a_all_m35, .inl b_a_all_m35)), (a_all_m24, .inl (cI, n_a_all_m24, .inl b_a_all_m24)), (a_all_m25, .inl (cI, n_a_all_m25, .inl b_a_all_m25)), (a_all_m26, .inl (cI, n_a_all_m26, .inl b_a_all_m26)), (a_all_m27, .inl (cI, n_a_all_m27, .inl b_a_all_m27)), (a_all_m28, .inl (cI, n_a_all_m28, .inl b_a_all_m28)), (a_all_m29, .inl (cI, n_a_all_m29, .inl b_a_all_m29)), (a_all_m30, .inl (cI, n_a_all_m30, .inl b_a_all_m30)), (a_all_m31, .inl (cI, n_a_all_m31, .inl b_a_all_m31)), (a_all_m33, .inl (cI, n_a_all_m33, .inl b_a_all_m33)), (a_all_m32, .inl (cI, n_a_all_m32, .inl b_a_all_m32)), ((am 9), .inr (8, [.ref a_all_m9, .int size_m9])), ((am 10), .inr (8, [.ref a_all_m10, .int size_m10])), ((am 11), .inr (8, [.ref a_all_m11, .int size_m11])), ((am 12), .inr (8, [.ref a_all_m12, .int size_m12])), ((am 3), .inr (8, [.ref a_all_m3, .int 0])), (a_all_m3, .inl (cI, n_a_all_m3, .inl b_a_all_m3)), ((am 15), .inl (cI, n_m15, .inl b_m15)), ((am 0), .inl (cS, 14, .inr (.inr (.inr (.inr (stA D 40)))))), ((am 1), .inl (cS, 27, .inr (.inr (.inr (.inr (stA D 54)))))), (h0, .inr (9, moF am known_h0 0 wrong_h0 r10 r29 r30 r31 r32 found_h0)), ((am 21), .inr (8, [.ref q42, .int r33])), ((am 22), .inr (8, [.ref q43, .int r34])), ((am 5), .inr (8, [.ref q20, .int r11])), (q20, .inl (cI, r14, .inl r15)), ((am 20), .inr (8, [.ref q44, .int r35])), ((am 2), .inl (cI, n_m2, .inl b_m2)), ((am 7), .inr (8, [.ref q22, .int r13])), (q22, .inl (cI, r18, .inl r19)), ((am 4), .inr (8, [.ref q4, .int r1])), (q4, .inl (cI, r2, .inl r3)), (q42, .inl (cI, r36, .inl r37)), (q43, .inl (cI, r38, .inl r39)), (q44, .inl (cI, r40, .inl r41)), ((am 6), .inr (8, [.ref q21, .int r12])), (q21, .inl (cI, r16, .inl r17))]) (cl' := 0 + C5 + C23 + C46) (sl' := 0 + S6 + S24 + S47) rfl rfl rfl rfl rfl rfl ?_
      refine j_put (ws' := [((am 24), .inr (8, [.ref a_all_m24, .int size_m24])), ((am 25), .inr (8, [.ref a_all_m25, .int size_m25])), ((am 26), .inr (8, [.ref a_all_m26, .int size_m26])), ((am 27), .inr (8, [.ref a_all_m27, .int size_m27])), ((am 28), .inr (8, [.ref a_all_m28, .int size_m28])), ((am 29), .inr (8, [.ref a_all_m29, .int size_m29])), ((am 30), .inr (8, [.ref a_all_m30, .int size_m30])), ((am 31), .inr (8, [.ref a_all_m31, .int size_m31])), ((am 32), .inr (8, [.ref a_all_m32, .int size_m32])), ((am 33), .inr (8, [.ref a_all_m33, .int size_m33])), ((am 34), .inr (8, [.ref a_all_m34, .int size_m34])), (a_all_m34, .inl (cI, n_a_all_m34, .inl b_a_all_m34)), ((am 35), .inr (8, [.ref a_all_m35, .int size_m35])), (a_all_m35, .inl (cI, n_a_all_m35, .inl b_a_all_m35)), (a_all_m24, .inl (cI, n_a_all_m24, .inl b_a_all_m24)), (a_all_m25, .inl (cI, n_a_all_m25, .inl b_a_all_m25)), (a_all_m26, .inl (cI, n_a_all_m26, .inl b_a_all_m26)), (a_all_m27, .inl (cI, n_a_all_m27, .inl b_a_all_m27)), (a_all_m28, .inl (cI, n_a_all_m28, .inl b_a_all_m28)), (a_all_m29, .inl (cI, n_a_all_m29, .inl b_a_all_m29)), (a_all_m30, .inl (cI, n_a_all_m30, .inl b_a_all_m30)), (a_all_m31, .inl (cI, n_a_all_m31, .inl b_a_all_m31)), (a_all_m33, .inl (cI, n_a_all_m33, .inl b_a_all_m33)), (a_all_m32, .inl (cI, n_a_all_m32, .inl b_a_all_m32)), ((am 9), .inr (8, [.ref a_all_m9, .int size_m9])), ((am 10), .inr (8, [.ref a_all_m10, .int size_m10])), ((am 11), .inr (8, [.ref a_all_m11, .int size_m11])), ((am 12), .inr (8, [.ref a_all_m12, .int size_m12])), ((am 3), .inr (8, [.ref a_all_m3, .int 0])), (a_all_m3, .inl (cI, n_a_all_m3, .inl b_a_all_m3)), ((am 15), .inl (cI, n_m15, .inl b_m15)), ((am 0), .inl (cS, 14, .inr (.inr (.inr (.inr (stA D 40)))))), ((am 1), .inl (cS, 27, .inr (.inr (.inr (.inr (stA D 54)))))), (h0, .inr (9, moF am known_h0 0 (r17 (Int32.toNatClampNeg r30)) r10 r29 r30 r31 r32 found_h0)), ((am 21), .inr (8, [.ref q42, .int r33])), ((am 22), .inr (8, [.ref q43, .int r34])), ((am 5), .inr (8, [.ref q20, .int r11])), (q20, .inl (cI, r14, .inl r15)), ((am 20), .inr (8, [.ref q44, .int r35])), ((am 2), .inl (cI, n_m2, .inl b_m2)), ((am 7), .inr (8, [.ref q22, .int r13])), (q22, .inl (cI, r18, .inl r19)), ((am 4), .inr (8, [.ref q4, .int r1])), (q4, .inl (cI, r2, .inl r3)), (q42, .inl (cI, r36, .inl r37)), (q43, .inl (cI, r38, .inl r39)), (q44, .inl (cI, r40, .inl r41)), ((am 6), .inr (8, [.ref q21, .int r12])), (q21, .inl (cI, r16, .inl r17))]) ig_Mo tk_Mo nm_Mo rfl 33 rfl 14 (by decide) rfl m_1127 rfl (tk_Mo 14 (by decide)) rfl rfl (Nat.le_of_ble_eq_true rfl) d_Mo_read_65 rfl ?_
      refine j_iconst (v := (-1)) d_Mo_read_68 (by decide) ?_
      replace h := lf_s h
      obtain ⟨h, e1, e2⟩ := h
      replace h := Prod.mk.inj h
      obtain ⟨h9, h⟩ := h
      subst h9
      replace h := Prod.mk.inj h
      obtain ⟨h9, h⟩ := h
      subst h9
      replace h := Prod.mk.inj h
      obtain ⟨h9, h⟩ := h
      subst h9
      replace h := Prod.mk.inj h
      obtain ⟨h9, h⟩ := h
      subst h9
      replace h := Prod.mk.inj h
      obtain ⟨h9, h⟩ := h
      subst h9
      replace h := Prod.mk.inj h
      obtain ⟨h9, h⟩ := h
      subst h9
      replace h := Prod.mk.inj h
      obtain ⟨h9, h⟩ := h
      subst h9
      replace h := Prod.mk.inj h
      obtain ⟨h9, h⟩ := h
      subst h9
      replace h := Prod.mk.inj h
      obtain ⟨h9, h⟩ := h
      subst h9
      replace h := Prod.mk.inj h
      obtain ⟨h9, h⟩ := h
      subst h9
      replace h := Prod.mk.inj h
      obtain ⟨h9, h⟩ := h
      subst h9
      replace h := Prod.mk.inj h
      obtain ⟨h9, h⟩ := h
      subst h9
      replace h := Prod.mk.inj h
      obtain ⟨h9, h⟩ := h
      subst h9
      replace h := Prod.mk.inj h
      obtain ⟨h9, h⟩ := h
      subst h9
      replace h := Prod.mk.inj h
      obtain ⟨h9, h⟩ := h
      subst h9
      replace h := Prod.mk.inj h
      obtain ⟨h9, h⟩ := h
      subst h9
      replace h := Prod.mk.inj h
      obtain ⟨h9, h⟩ := h
      subst h9
      replace h := Prod.mk.inj h
      obtain ⟨h9, h⟩ := h
      subst h9
      replace h := Prod.mk.inj h
      obtain ⟨h9, h⟩ := h
      subst h9
      replace h := Prod.mk.inj h
      obtain ⟨h9, h⟩ := h
      subst h9
      replace h := Prod.mk.inj h
      obtain ⟨h9, h⟩ := h
      subst h9
      replace h := Prod.mk.inj h
      obtain ⟨h9, h⟩ := h
      subst h9
      replace h := Prod.mk.inj h
      obtain ⟨h9, h⟩ := h
      subst h9
      replace h := Prod.mk.inj h
      obtain ⟨h9, h⟩ := h
      subst h9
      replace h := Prod.mk.inj h
      obtain ⟨h9, h⟩ := h
      subst h9
      replace h := Prod.mk.inj h
      obtain ⟨h9, h⟩ := h
      subst h9
      replace h := Prod.mk.inj h
      obtain ⟨h9, h⟩ := h
      subst h9
      replace h := Prod.mk.inj h
      obtain ⟨h9, h⟩ := h
      subst h9
      replace h := Prod.mk.inj h
      obtain ⟨h9, h⟩ := h
      subst h9
      replace h := Prod.mk.inj h
      obtain ⟨h9, h⟩ := h
      subst h9
      replace h := Prod.mk.inj h
      obtain ⟨h9, h⟩ := h
      subst h9
      replace h := Prod.mk.inj h
      obtain ⟨h9, h⟩ := h
      subst h9
      replace h := Prod.mk.inj h
      obtain ⟨h9, h⟩ := h
      subst h9
      replace h := Prod.mk.inj h
      obtain ⟨h9, h⟩ := h
      subst h9
      replace h := Prod.mk.inj h
      obtain ⟨h9, h⟩ := h
      subst h9
      replace h := Prod.mk.inj h
      obtain ⟨h9, h⟩ := h
      subst h9
      replace h := Prod.mk.inj h
      obtain ⟨h9, h⟩ := h
      subst h9
      replace h := Prod.mk.inj h
      obtain ⟨h9, h⟩ := h
      subst h9
      replace h := Prod.mk.inj h
      obtain ⟨h9, h⟩ := h
      subst h9
      replace h := Prod.mk.inj h
      obtain ⟨h9, h⟩ := h
      subst h9
      replace h := Prod.mk.inj h
      obtain ⟨h9, h⟩ := h
      subst h9
      replace h := Prod.mk.inj h
      obtain ⟨h9, h⟩ := h
      subst h9
      replace h := Prod.mk.inj h
      obtain ⟨h9, h⟩ := h
      subst h9
      replace h := Prod.mk.inj h
      obtain ⟨h9, h⟩ := h
      subst h9
      replace h := Prod.mk.inj h
      obtain ⟨h9, h⟩ := h
      subst h9
      replace h := Prod.mk.inj h
      obtain ⟨h9, h⟩ := h
      subst h9
      replace h := Prod.mk.inj h
      obtain ⟨h9, h⟩ := h
      subst h9
      replace h := Prod.mk.inj h
      obtain ⟨h9, h⟩ := h
      subst h9
      replace h := Prod.mk.inj h
      obtain ⟨h9, h⟩ := h
      subst h9
      replace h := Prod.mk.inj h
      obtain ⟨h9, h⟩ := h
      subst h9
      replace h := Prod.mk.inj h
      obtain ⟨h9, h⟩ := h
      subst h9
      replace h := Prod.mk.inj h
      obtain ⟨h9, h⟩ := h
      subst h9
      replace h := Prod.mk.inj h
      obtain ⟨h9, h⟩ := h
      subst h9
      replace h := Prod.mk.inj h
      obtain ⟨h9, h⟩ := h
      subst h9
      replace h := Prod.mk.inj h
      obtain ⟨h9, h⟩ := h
      subst h9
      replace h := Prod.mk.inj h
      obtain ⟨h9, h⟩ := h
      subst h9
      replace h := Prod.mk.inj h
      obtain ⟨h9, h⟩ := h
      subst h9
      replace h := Prod.mk.inj h
      obtain ⟨h9, h⟩ := h
      subst h9
      replace h := Prod.mk.inj h
      obtain ⟨h9, h⟩ := h
      subst h9
      replace h := Prod.mk.inj h
      obtain ⟨h9, h⟩ := h
      subst h9
      replace h := Prod.mk.inj h
      obtain ⟨h9, h⟩ := h
      subst h9
      subst h
      refine j_widen (cl' := mc) (sl' := ms) (by omega) (by omega) ?_
      exact j_iret (w := [(h0, .inr (9, moF am known_h0 0 (r17 (Int32.toNatClampNeg r30)) r10 r29 r30 r31 r32 found_h0)), ((am 4), .inr (8, [.ref q4, .int r1])), ((am 3), .inr (8, [.ref a_all_m3, .int 0])), (a_all_m3, .inl (cI, n_a_all_m3, .inl b_a_all_m3)), ((am 5), .inr (8, [.ref q20, .int r11])), ((am 6), .inr (8, [.ref q21, .int r12])), ((am 7), .inr (8, [.ref q22, .int r13])), ((am 15), .inl (cI, n_m15, .inl b_m15)), ((am 0), .inl (cS, 14, .inr (.inr (.inr (.inr (stA D 40)))))), ((am 1), .inl (cS, 27, .inr (.inr (.inr (.inr (stA D 54)))))), ((am 21), .inr (8, [.ref q42, .int r33])), ((am 22), .inr (8, [.ref q43, .int r34])), ((am 20), .inr (8, [.ref q44, .int r35])), ((am 2), .inl (cI, n_m2, .inl b_m2)), ((am 24), .inr (8, [.ref a_all_m24, .int size_m24])), ((am 25), .inr (8, [.ref a_all_m25, .int size_m25])), ((am 26), .inr (8, [.ref a_all_m26, .int size_m26])), ((am 27), .inr (8, [.ref a_all_m27, .int size_m27])), ((am 28), .inr (8, [.ref a_all_m28, .int size_m28])), ((am 29), .inr (8, [.ref a_all_m29, .int size_m29])), ((am 30), .inr (8, [.ref a_all_m30, .int size_m30])), ((am 31), .inr (8, [.ref a_all_m31, .int size_m31])), ((am 32), .inr (8, [.ref a_all_m32, .int size_m32])), ((am 33), .inr (8, [.ref a_all_m33, .int size_m33])), ((am 34), .inr (8, [.ref a_all_m34, .int size_m34])), ((am 35), .inr (8, [.ref a_all_m35, .int size_m35])), ((am 9), .inr (8, [.ref a_all_m9, .int size_m9])), ((am 10), .inr (8, [.ref a_all_m10, .int size_m10])), ((am 11), .inr (8, [.ref a_all_m11, .int size_m11])), ((am 12), .inr (8, [.ref a_all_m12, .int size_m12])), (q42, .inl (cI, r36, .inl r37)), (q43, .inl (cI, r38, .inl r39)), (q44, .inl (cI, r40, .inl r41)), (a_all_m24, .inl (cI, n_a_all_m24, .inl b_a_all_m24)), (a_all_m25, .inl (cI, n_a_all_m25, .inl b_a_all_m25)), (a_all_m26, .inl (cI, n_a_all_m26, .inl b_a_all_m26)), (a_all_m27, .inl (cI, n_a_all_m27, .inl b_a_all_m27)), (a_all_m28, .inl (cI, n_a_all_m28, .inl b_a_all_m28)), (a_all_m29, .inl (cI, n_a_all_m29, .inl b_a_all_m29)), (a_all_m30, .inl (cI, n_a_all_m30, .inl b_a_all_m30)), (a_all_m31, .inl (cI, n_a_all_m31, .inl b_a_all_m31)), (a_all_m32, .inl (cI, n_a_all_m32, .inl b_a_all_m32)), (a_all_m33, .inl (cI, n_a_all_m33, .inl b_a_all_m33)), (a_all_m34, .inl (cI, n_a_all_m34, .inl b_a_all_m34)), (a_all_m35, .inl (cI, n_a_all_m35, .inl b_a_all_m35))]) hr d_Mo_read_69 [33, 42, 28, 29, 36, 47, 40, 30, 31, 32, 34, 35, 38, 39, 0, 1, 2, 3, 4, 5, 6, 7, 8, 9, 10, 12, 24, 25, 26, 27, 44, 45, 46, 14, 15, 16, 17, 18, 19, 20, 21, 23, 22, 11, 13] rfl (by decide) ⟨q4, q20, q21, q22, q42, q43, q44, a_all_m24, a_all_m25, a_all_m26, a_all_m27, a_all_m28, a_all_m29, a_all_m30, a_all_m31, a_all_m32, a_all_m33, a_all_m34, a_all_m35, a_all_m9, a_all_m10, a_all_m11, a_all_m12, rfl, rfl⟩
