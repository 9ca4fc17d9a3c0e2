noncomputable def F_Mo_cut_66 (f1_1_28 : Int32) (f2_1_28 : Int32) (f3_1_28 : Int32) (n9_28 : Nat) (b9_28 : Nat → Int32) (n10_28 : Nat) (b10_28 : Nat → Int32) (n11_28 : Nat) (b11_28 : Nat → Int32) (K_28 : Int32 → Int32 → Int32 → Int32 → Int32 → Int32 → Nat → (Nat → Int32) → Nat → (Nat → Int32) → Nat → (Nat → Int32) → Option ((Int32 × Int32 × Int32 × Int32 × Nat × (Nat → Int32) × Nat × (Nat → Int32) × Nat × (Nat → Int32)) × Nat × Nat)) (v3_66 : Int32) (v1_66 : Int32) (t0_66 : Int32) (f6_16_66 : Int32) : Option ((Int32 × Int32 × Int32 × Int32 × Nat × (Nat → Int32) × Nat × (Nat → Int32) × Nat × (Nat → Int32)) × Nat × Nat) :=
    bw (F_Nm_add t0_66 f1_1_28 n9_28 b9_28) fun ⟨r1, r2⟩ =>
    bw (F_Nm_add v1_66 f2_1_28 n10_28 b10_28) fun ⟨r9, r10⟩ =>
    bw (F_Nm_add f6_16_66 f3_1_28 n11_28 b11_28) fun ⟨r17, r18⟩ =>
    if t0_66 = 0 then (K_28 0 f6_16_66 f6_16_66 (f1_1_28 + 1) (f2_1_28 + 1) (f3_1_28 + 1) r1 r2 r9 r10 r17 r18)
    else if t0_66 = 1 then (K_28 0 f6_16_66 f6_16_66 (f1_1_28 + 1) (f2_1_28 + 1) (f3_1_28 + 1) r1 r2 r9 r10 r17 r18)
    else (K_28 1 f6_16_66 f6_16_66 (f1_1_28 + 1) (f2_1_28 + 1) (f3_1_28 + 1) r1 r2 r9 r10 r17 r18)
noncomputable def F_Mo_cut_28 (known_h0 : Int32) (thrown_h0 : Int32) (wrong_h0 : Int32) (at_h0 : Int32) (bad_h0 : Int32) (levels_h0 : Int32) (least_h0 : Int32) (found_h0 : Int32) (size_m4 : Int32) (n_a_all_m4 : Nat) (b_a_all_m4 : Nat → Int32) (n_m15 : Nat) (b_m15 : Nat → Int32) : Nat → Int32 → Int32 → Int32 → Int32 → Int32 → Int32 → Nat → (Nat → Int32) → Nat → (Nat → Int32) → Nat → (Nat → Int32) → Option ((Int32 × Int32 × Int32 × Int32 × Nat × (Nat → Int32) × Nat × (Nat → Int32) × Nat × (Nat → Int32)) × Nat × Nat)
  | 0, _, _, _, _, _, _, _, _, _, _, _, _ => none
  | k_28 + 1, v2_28, v1_28, f0_16_28, f1_1_28, f2_1_28, f3_1_28, n9_28, b9_28, n10_28, b10_28, n11_28, b11_28 =>
    if v2_28 = 0 then (some ((f0_16_28, f1_1_28, f2_1_28, f3_1_28, n9_28, b9_28, n10_28, b10_28, n11_28, b11_28), 0, 0))
    else (Option.bind (F_Mo_skip v1_28 known_h0 thrown_h0 wrong_h0 f0_16_28 at_h0 bad_h0 levels_h0 least_h0 found_h0 size_m4 n_a_all_m4 b_a_all_m4) fun r28 =>
      Option.bind (F_Mo_token r28 known_h0 thrown_h0 wrong_h0 f0_16_28 at_h0 bad_h0 levels_h0 least_h0 found_h0 size_m4 n_a_all_m4 b_a_all_m4 n_m15 b_m15) fun ⟨r30, r31⟩ =>
      if f1_1_28 = 16384 then (if r30 = 0 then (F_Mo_cut_66 f1_1_28 f2_1_28 f3_1_28 n9_28 b9_28 n10_28 b10_28 n11_28 b11_28 (F_Mo_cut_28 known_h0 thrown_h0 wrong_h0 at_h0 bad_h0 levels_h0 least_h0 found_h0 size_m4 n_a_all_m4 b_a_all_m4 n_m15 b_m15  k_28)  r30 r28 r30 r31)
        else (F_Mo_cut_66 f1_1_28 f2_1_28 f3_1_28 n9_28 b9_28 n10_28 b10_28 n11_28 b11_28 (F_Mo_cut_28 known_h0 thrown_h0 wrong_h0 at_h0 bad_h0 levels_h0 least_h0 found_h0 size_m4 n_a_all_m4 b_a_all_m4 n_m15 b_m15  k_28)  r30 r28 1 r31))
      else (F_Mo_cut_66 f1_1_28 f2_1_28 f3_1_28 n9_28 b9_28 n10_28 b10_28 n11_28 b11_28 (F_Mo_cut_28 known_h0 thrown_h0 wrong_h0 at_h0 bad_h0 levels_h0 least_h0 found_h0 size_m4 n_a_all_m4 b_a_all_m4 n_m15 b_m15  k_28)  r30 r28 r30 r31))
noncomputable def F_Mo_cut (known_h0 : Int32) (thrown_h0 : Int32) (wrong_h0 : Int32) (lastEnd_h0 : Int32) (at_h0 : Int32) (bad_h0 : Int32) (levels_h0 : Int32) (least_h0 : Int32) (found_h0 : Int32) (size_m5 : Int32) (size_m6 : Int32) (size_m7 : Int32) (size_m4 : Int32) (n_a_all_m4 : Nat) (b_a_all_m4 : Nat → Int32) (n_m15 : Nat) (b_m15 : Nat → Int32) (n_a_all_m5 : Nat) (b_a_all_m5 : Nat → Int32) (n_a_all_m6 : Nat) (b_a_all_m6 : Nat → Int32) (n_a_all_m7 : Nat) (b_a_all_m7 : Nat → Int32) : Option ((Int32 × Int32 × Int32 × Int32 × Nat × (Nat → Int32) × Nat × (Nat → Int32) × Nat × (Nat → Int32)) × Nat × Nat) :=
  F_Mo_cut_28 known_h0 thrown_h0 wrong_h0 at_h0 bad_h0 levels_h0 least_h0 found_h0 size_m4 n_a_all_m4 b_a_all_m4 n_m15 b_m15  FU 1 0 lastEnd_h0 0 0 0 n_a_all_m5 b_a_all_m5 n_a_all_m6 b_a_all_m6 n_a_all_m7 b_a_all_m7
theorem d_Mo_cut_0 : decode prog_12_method_17_code 0 = .ok (.aload_n 0, 1) := by decide +kernel
theorem d_Mo_cut_1 : decode prog_12_method_17_code 1 = .ok (.getfield 114, 3) := by decide +kernel
theorem d_Mo_cut_4 : decode prog_12_method_17_code 4 = .ok (.iconst 0, 1) := by decide +kernel
theorem d_Mo_cut_5 : decode prog_12_method_17_code 5 = .ok (.putfield 204, 3) := by decide +kernel
theorem d_Mo_cut_8 : decode prog_12_method_17_code 8 = .ok (.aload_n 0, 1) := by decide +kernel
theorem d_Mo_cut_9 : decode prog_12_method_17_code 9 = .ok (.getfield 117, 3) := by decide +kernel
theorem d_Mo_cut_12 : decode prog_12_method_17_code 12 = .ok (.iconst 0, 1) := by decide +kernel
theorem d_Mo_cut_13 : decode prog_12_method_17_code 13 = .ok (.putfield 204, 3) := by decide +kernel
theorem d_Mo_cut_16 : decode prog_12_method_17_code 16 = .ok (.aload_n 0, 1) := by decide +kernel
theorem d_Mo_cut_17 : decode prog_12_method_17_code 17 = .ok (.getfield 120, 3) := by decide +kernel
theorem d_Mo_cut_20 : decode prog_12_method_17_code 20 = .ok (.iconst 0, 1) := by decide +kernel
theorem d_Mo_cut_21 : decode prog_12_method_17_code 21 = .ok (.putfield 204, 3) := by decide +kernel
theorem d_Mo_cut_24 : decode prog_12_method_17_code 24 = .ok (.iconst 0, 1) := by decide +kernel
theorem d_Mo_cut_25 : decode prog_12_method_17_code 25 = .ok (.istore_n 1, 1) := by decide +kernel
theorem d_Mo_cut_26 : decode prog_12_method_17_code 26 = .ok (.iconst 1, 1) := by decide +kernel
theorem d_Mo_cut_27 : decode prog_12_method_17_code 27 = .ok (.istore_n 2, 1) := by decide +kernel
theorem d_Mo_cut_28 : decode prog_12_method_17_code 28 = .ok (.iload_n 2, 1) := by decide +kernel
theorem d_Mo_cut_29 : decode prog_12_method_17_code 29 = .ok (.ifCond .eq 88, 3) := by decide +kernel
theorem d_Mo_cut_32 : decode prog_12_method_17_code 32 = .ok (.aload_n 0, 1) := by decide +kernel
theorem d_Mo_cut_33 : decode prog_12_method_17_code 33 = .ok (.iload_n 1, 1) := by decide +kernel
theorem d_Mo_cut_34 : decode prog_12_method_17_code 34 = .ok (.invokevirtual 264, 3) := by decide +kernel
theorem d_Mo_cut_37 : decode prog_12_method_17_code 37 = .ok (.istore_n 1, 1) := by decide +kernel
theorem d_Mo_cut_38 : decode prog_12_method_17_code 38 = .ok (.aload_n 0, 1) := by decide +kernel
theorem d_Mo_cut_39 : decode prog_12_method_17_code 39 = .ok (.iload_n 1, 1) := by decide +kernel
theorem d_Mo_cut_40 : decode prog_12_method_17_code 40 = .ok (.invokevirtual 267, 3) := by decide +kernel
theorem d_Mo_cut_43 : decode prog_12_method_17_code 43 = .ok (.istore_n 3, 1) := by decide +kernel
theorem d_Mo_cut_44 : decode prog_12_method_17_code 44 = .ok (.aload_n 0, 1) := by decide +kernel
theorem d_Mo_cut_45 : decode prog_12_method_17_code 45 = .ok (.getfield 114, 3) := by decide +kernel
theorem d_Mo_cut_48 : decode prog_12_method_17_code 48 = .ok (.getfield 204, 3) := by decide +kernel
theorem d_Mo_cut_51 : decode prog_12_method_17_code 51 = .ok (.sipush 16384, 3) := by decide +kernel
theorem d_Mo_cut_54 : decode prog_12_method_17_code 54 = .ok (.if_icmp .ne 11, 3) := by decide +kernel
theorem d_Mo_cut_57 : decode prog_12_method_17_code 57 = .ok (.iload_n 3, 1) := by decide +kernel
theorem d_Mo_cut_58 : decode prog_12_method_17_code 58 = .ok (.ifCond .eq 7, 3) := by decide +kernel
theorem d_Mo_cut_61 : decode prog_12_method_17_code 61 = .ok (.iconst 1, 1) := by decide +kernel
theorem d_Mo_cut_62 : decode prog_12_method_17_code 62 = .ok (.goto 4, 3) := by decide +kernel
theorem d_Mo_cut_65 : decode prog_12_method_17_code 65 = .ok (.iload_n 3, 1) := by decide +kernel
theorem d_Mo_cut_66 : decode prog_12_method_17_code 66 = .ok (.istore_n 3, 1) := by decide +kernel
theorem d_Mo_cut_67 : decode prog_12_method_17_code 67 = .ok (.aload_n 0, 1) := by decide +kernel
theorem d_Mo_cut_68 : decode prog_12_method_17_code 68 = .ok (.getfield 114, 3) := by decide +kernel
theorem d_Mo_cut_71 : decode prog_12_method_17_code 71 = .ok (.iload_n 3, 1) := by decide +kernel
theorem d_Mo_cut_72 : decode prog_12_method_17_code 72 = .ok (.invokevirtual 200, 3) := by decide +kernel
theorem d_Mo_cut_75 : decode prog_12_method_17_code 75 = .ok (.aload_n 0, 1) := by decide +kernel
theorem d_Mo_cut_76 : decode prog_12_method_17_code 76 = .ok (.getfield 117, 3) := by decide +kernel
theorem d_Mo_cut_79 : decode prog_12_method_17_code 79 = .ok (.iload_n 1, 1) := by decide +kernel
theorem d_Mo_cut_80 : decode prog_12_method_17_code 80 = .ok (.invokevirtual 200, 3) := by decide +kernel
theorem d_Mo_cut_83 : decode prog_12_method_17_code 83 = .ok (.aload_n 0, 1) := by decide +kernel
theorem d_Mo_cut_84 : decode prog_12_method_17_code 84 = .ok (.getfield 120, 3) := by decide +kernel
theorem d_Mo_cut_87 : decode prog_12_method_17_code 87 = .ok (.aload_n 0, 1) := by decide +kernel
theorem d_Mo_cut_88 : decode prog_12_method_17_code 88 = .ok (.getfield 247, 3) := by decide +kernel
theorem d_Mo_cut_91 : decode prog_12_method_17_code 91 = .ok (.invokevirtual 200, 3) := by decide +kernel
theorem d_Mo_cut_94 : decode prog_12_method_17_code 94 = .ok (.aload_n 0, 1) := by decide +kernel
theorem d_Mo_cut_95 : decode prog_12_method_17_code 95 = .ok (.getfield 247, 3) := by decide +kernel
theorem d_Mo_cut_98 : decode prog_12_method_17_code 98 = .ok (.istore_n 1, 1) := by decide +kernel
theorem d_Mo_cut_99 : decode prog_12_method_17_code 99 = .ok (.iload_n 3, 1) := by decide +kernel
theorem d_Mo_cut_100 : decode prog_12_method_17_code 100 = .ok (.ifCond .eq 12, 3) := by decide +kernel
theorem d_Mo_cut_103 : decode prog_12_method_17_code 103 = .ok (.iload_n 3, 1) := by decide +kernel
theorem d_Mo_cut_104 : decode prog_12_method_17_code 104 = .ok (.iconst 1, 1) := by decide +kernel
theorem d_Mo_cut_105 : decode prog_12_method_17_code 105 = .ok (.if_icmp .eq 7, 3) := by decide +kernel
theorem d_Mo_cut_108 : decode prog_12_method_17_code 108 = .ok (.iconst 1, 1) := by decide +kernel
theorem d_Mo_cut_109 : decode prog_12_method_17_code 109 = .ok (.goto 4, 3) := by decide +kernel
theorem d_Mo_cut_112 : decode prog_12_method_17_code 112 = .ok (.iconst 0, 1) := by decide +kernel
theorem d_Mo_cut_113 : decode prog_12_method_17_code 113 = .ok (.istore_n 2, 1) := by decide +kernel
theorem d_Mo_cut_114 : decode prog_12_method_17_code 114 = .ok (.goto (-86), 3) := by decide +kernel
theorem d_Mo_cut_117 : decode prog_12_method_17_code 117 = .ok (.return_, 1) := by decide +kernel
set_option maxHeartbeats 4000000 in
set_option maxRecDepth 100000 in
theorem L_Mo_cut_28 (l : Launch) (D : va_G) (cI cB cJ cS : ClassId) (h0 : Nat) (am : Nat → Nat) (a_all_m5 : Nat) (a_all_m6 : Nat) (a_all_m7 : Nat) (a_all_m4 : Nat) (known_h0 : Int32) (thrown_h0 : Int32) (wrong_h0 : Int32) (lastEnd_h0 : Int32) (at_h0 : Int32) (bad_h0 : Int32) (levels_h0 : Int32) (least_h0 : Int32) (found_h0 : Int32) (size_m5 : Int32) (size_m6 : Int32) (size_m7 : Int32) (size_m4 : Int32) (n_a_all_m4 : Nat) (b_a_all_m4 : Nat → Int32) (n_m15 : Nat) (b_m15 : Nat → Int32) (n_a_all_m5 : Nat) (b_a_all_m5 : Nat → Int32) (n_a_all_m6 : Nat) (b_a_all_m6 : Nat → Int32) (n_a_all_m7 : Nat) (b_a_all_m7 : Nat → Int32) (o_0_16 : Int32) (o_1_1 : Int32) (o_2_1 : Int32) (o_3_1 : Int32) (on_nq_1_0 : Nat) (ob_nq_1_0 : Nat → Int32) (on_nq_2_0 : Nat) (ob_nq_2_0 : Nat → Int32) (on_nq_3_0 : Nat) (ob_nq_3_0 : Nat → Int32) (mc ms : Nat) (p : Program) (e : Env) (s : State) (m : MethodId) (below : List Frame) (meth : Method) (c : Code) (hr : meth.sig.returnType = (Option.none : Option Jvm.ClassFile.FieldType)) (hnm : meth.name = y_Mo_cut.name) : ∀ (k_28 : Nat) (q1_0_28 : Nat) (q2_0_28 : Nat) (q3_0_28 : Nat) (v2_28 : Int32) (v1_28 : Int32) (f0_16_28 : Int32) (f1_1_28 : Int32) (f2_1_28 : Int32) (f3_1_28 : Int32) (n9_28 : Nat) (b9_28 : Nat → Int32) (n10_28 : Nat) (b10_28 : Nat → Int32) (n11_28 : Nat) (b11_28 : Nat → Int32) (hz_v2_28 : zb v2_28) (cl_28 sl_28 C_28 S_28 : Nat), F_Mo_cut_28 known_h0 thrown_h0 wrong_h0 at_h0 bad_h0 levels_h0 least_h0 found_h0 size_m4 n_a_all_m4 b_a_all_m4 n_m15 b_m15  k_28 v2_28 v1_28 f0_16_28 f1_1_28 f2_1_28 f3_1_28 n9_28 b9_28 n10_28 b10_28 n11_28 b11_28 = some ((o_0_16, o_1_1, o_2_1, o_3_1, on_nq_1_0, ob_nq_1_0, on_nq_2_0, ob_nq_2_0, on_nq_3_0, ob_nq_3_0), C_28, S_28) → cl_28 + C_28 ≤ mc → sl_28 + S_28 ≤ ms → J (KxOf p l e { frames := 6, cells := mc, slots := ms, locals := 133 } s m [.ref h0].toArray below meth c D (gT cI cB cJ cS) [(h0, .inr (9, moF am known_h0 thrown_h0 wrong_h0 lastEnd_h0 at_h0 bad_h0 levels_h0 least_h0 found_h0)), ((am 5), .inr (8, [.ref a_all_m5, .int size_m5])), ((am 6), .inr (8, [.ref a_all_m6, .int size_m6])), ((am 7), .inr (8, [.ref a_all_m7, .int size_m7])), ((am 4), .inr (8, [.ref a_all_m4, .int size_m4])), (a_all_m4, .inl (cI, n_a_all_m4, .inl b_a_all_m4)), ((am 15), .inl (cI, n_m15, .inl b_m15)), ((am 0), .inl (cS, 14, .inr (.inr (.inr (.inr (stA D 40)))))), ((am 1), .inl (cS, 27, .inr (.inr (.inr (.inr (stA D 54)))))), (a_all_m5, .inl (cI, n_a_all_m5, .inl b_a_all_m5)), (a_all_m6, .inl (cI, n_a_all_m6, .inl b_a_all_m6)), (a_all_m7, .inl (cI, n_a_all_m7, .inl b_a_all_m7))] (fun v w => ∃ nq_1_0 : Nat, ∃ nq_2_0 : Nat, ∃ nq_3_0 : Nat, v = none ∧ w = [(h0, .inr (9, moF am known_h0 thrown_h0 wrong_h0 o_0_16 at_h0 bad_h0 levels_h0 least_h0 found_h0)), ((am 5), .inr (8, [.ref nq_1_0, .int o_1_1])), ((am 6), .inr (8, [.ref nq_2_0, .int o_2_1])), ((am 7), .inr (8, [.ref nq_3_0, .int o_3_1])), ((am 4), .inr (8, [.ref a_all_m4, .int size_m4])), (a_all_m4, .inl (cI, n_a_all_m4, .inl b_a_all_m4)), ((am 15), .inl (cI, n_m15, .inl b_m15)), ((am 0), .inl (cS, 14, .inr (.inr (.inr (.inr (stA D 40)))))), ((am 1), .inl (cS, 27, .inr (.inr (.inr (.inr (stA D 54)))))), (nq_1_0, .inl (cI, on_nq_1_0, .inl ob_nq_1_0)), (nq_2_0, .inl (cI, on_nq_2_0, .inl ob_nq_2_0)), (nq_3_0, .inl (cI, on_nq_3_0, .inl ob_nq_3_0))]) mc ms) prog_12_method_17_code 4 R_Mo 28 [(2, .int v2_28), (1, .int v1_28), (0, .ref h0)] [] [(h0, .inr (9, moF am known_h0 thrown_h0 wrong_h0 f0_16_28 at_h0 bad_h0 levels_h0 least_h0 found_h0)), ((am 5), .inr (8, [.ref q1_0_28, .int f1_1_28])), ((am 6), .inr (8, [.ref q2_0_28, .int f2_1_28])), ((am 7), .inr (8, [.ref q3_0_28, .int f3_1_28])), ((am 4), .inr (8, [.ref a_all_m4, .int size_m4])), (a_all_m4, .inl (cI, n_a_all_m4, .inl b_a_all_m4)), ((am 15), .inl (cI, n_m15, .inl b_m15)), ((am 0), .inl (cS, 14, .inr (.inr (.inr (.inr (stA D 40)))))), ((am 1), .inl (cS, 27, .inr (.inr (.inr (.inr (stA D 54)))))), (q1_0_28, .inl (cI, n9_28, .inl b9_28)), (q2_0_28, .inl (cI, n10_28, .inl b10_28)), (q3_0_28, .inl (cI, n11_28, .inl b11_28))] cl_28 sl_28 := by
  intro k_28
  induction k_28 with
  | zero => intro q1_0_28 q2_0_28 q3_0_28 v2_28 v1_28 f0_16_28 f1_1_28 f2_1_28 f3_1_28 n9_28 b9_28 n10_28 b10_28 n11_28 b11_28 hz_v2_28 cl_28 sl_28 C_28 S_28 h; rw [F_Mo_cut_28] at h; cases h
  | succ k_28 ih_28 =>
    intro q1_0_28 q2_0_28 q3_0_28 v2_28 v1_28 f0_16_28 f1_1_28 f2_1_28 f3_1_28 n9_28 b9_28 n10_28 b10_28 n11_28 b11_28 hz_v2_28 cl_28 sl_28 C_28 S_28 h hC hS
    rw [F_Mo_cut_28] at h
    have L_66 : ∀ (v3_66 : Int32) (v1_66 : Int32) (t0_66 : Int32) (f6_16_66 : Int32) (cl_66 sl_66 C_66 S_66 : Nat), F_Mo_cut_66 f1_1_28 f2_1_28 f3_1_28 n9_28 b9_28 n10_28 b10_28 n11_28 b11_28 (F_Mo_cut_28 known_h0 thrown_h0 wrong_h0 at_h0 bad_h0 levels_h0 least_h0 found_h0 size_m4 n_a_all_m4 b_a_all_m4 n_m15 b_m15  k_28)  v3_66 v1_66 t0_66 f6_16_66 = some ((o_0_16, o_1_1, o_2_1, o_3_1, on_nq_1_0, ob_nq_1_0, on_nq_2_0, ob_nq_2_0, on_nq_3_0, ob_nq_3_0), C_66, S_66) → cl_66 + C_66 ≤ mc → sl_66 + S_66 ≤ ms → J (KxOf p l e { frames := 6, cells := mc, slots := ms, locals := 133 } s m [.ref h0].toArray below meth c D (gT cI cB cJ cS) [(h0, .inr (9, moF am known_h0 thrown_h0 wrong_h0 lastEnd_h0 at_h0 bad_h0 levels_h0 least_h0 found_h0)), ((am 5), .inr (8, [.ref a_all_m5, .int size_m5])), ((am 6), .inr (8, [.ref a_all_m6, .int size_m6])), ((am 7), .inr (8, [.ref a_all_m7, .int size_m7])), ((am 4), .inr (8, [.ref a_all_m4, .int size_m4])), (a_all_m4, .inl (cI, n_a_all_m4, .inl b_a_all_m4)), ((am 15), .inl (cI, n_m15, .inl b_m15)), ((am 0), .inl (cS, 14, .inr (.inr (.inr (.inr (stA D 40)))))), ((am 1), .inl (cS, 27, .inr (.inr (.inr (.inr (stA D 54)))))), (a_all_m5, .inl (cI, n_a_all_m5, .inl b_a_all_m5)), (a_all_m6, .inl (cI, n_a_all_m6, .inl b_a_all_m6)), (a_all_m7, .inl (cI, n_a_all_m7, .inl b_a_all_m7))] (fun v w => ∃ nq_1_0 : Nat, ∃ nq_2_0 : Nat, ∃ nq_3_0 : Nat, v = none ∧ w = [(h0, .inr (9, moF am known_h0 thrown_h0 wrong_h0 o_0_16 at_h0 bad_h0 levels_h0 least_h0 found_h0)), ((am 5), .inr (8, [.ref nq_1_0, .int o_1_1])), ((am 6), .inr (8, [.ref nq_2_0, .int o_2_1])), ((am 7), .inr (8, [.ref nq_3_0, .int o_3_1])), ((am 4), .inr (8, [.ref a_all_m4, .int size_m4])), (a_all_m4, .inl (cI, n_a_all_m4, .inl b_a_all_m4)), ((am 15), .inl (cI, n_m15, .inl b_m15)), ((am 0), .inl (cS, 14, .inr (.inr (.inr (.inr (stA D 40)))))), ((am 1), .inl (cS, 27, .inr (.inr (.inr (.inr (stA D 54)))))), (nq_1_0, .inl (cI, on_nq_1_0, .inl ob_nq_1_0)), (nq_2_0, .inl (cI, on_nq_2_0, .inl ob_nq_2_0)), (nq_3_0, .inl (cI, on_nq_3_0, .inl ob_nq_3_0))]) mc ms) prog_12_method_17_code 4 R_Mo 66 [(3, .int v3_66), (1, .int v1_66), (2, .int v2_28), (0, .ref h0)] [.int t0_66] [((am 5), .inr (8, [.ref q1_0_28, .int f1_1_28])), ((am 6), .inr (8, [.ref q2_0_28, .int f2_1_28])), ((am 7), .inr (8, [.ref q3_0_28, .int f3_1_28])), (q1_0_28, .inl (cI, n9_28, .inl b9_28)), (q2_0_28, .inl (cI, n10_28, .inl b10_28)), (q3_0_28, .inl (cI, n11_28, .inl b11_28)), (h0, .inr (9, moF am known_h0 thrown_h0 wrong_h0 f6_16_66 at_h0 bad_h0 levels_h0 least_h0 found_h0)), ((am 4), .inr (8, [.ref a_all_m4, .int size_m4])), (a_all_m4, .inl (cI, n_a_all_m4, .inl b_a_all_m4)), ((am 15), .inl (cI, n_m15, .inl b_m15)), ((am 0), .inl (cS, 14, .inr (.inr (.inr (.inr (stA D 40)))))), ((am 1), .inl (cS, 27, .inr (.inr (.inr (.inr (stA D 54))))))] cl_66 sl_66 := by
      clear h
      intro v3_66 v1_66 t0_66 f6_16_66 cl_66 sl_66 C_66 S_66 h hC hS
      unfold F_Mo_cut_66 at h
      refine j_istore_n (lv' := [(3, .int t0_66), (1, .int v1_66), (2, .int v2_28), (0, .ref h0)]) d_Mo_cut_66 rfl (by decide) rfl ?_
      refine j_aload_n d_Mo_cut_67 rfl 3 rfl ?_
      refine j_get ig_Mo rfl 6 rfl 5 (by decide) rfl m_1118 rfl d_Mo_cut_68 ?_
      refine j_iload_n d_Mo_cut_71 rfl 0 rfl ?_
      replace h := bw_s h
      obtain ⟨⟨r1, r2⟩, C4, S5, C6, S7, k8, h, e1, e2⟩ := h
      replace hC : cl_66 + C4 + C6 ≤ mc := by omega
      replace hS : sl_66 + S5 + S7 ≤ ms := by omega
      clear e1 e2
      refine j_callV (n := 1) (As := [.int t0_66]) (rest := []) (wr := [((am 6), .inr (8, [.ref q2_0_28, .int f2_1_28])), ((am 7), .inr (8, [.ref q3_0_28, .int f3_1_28])), (q2_0_28, .inl (cI, n10_28, .inl b10_28)), (q3_0_28, .inl (cI, n11_28, .inl b11_28)), (h0, .inr (9, moF am known_h0 thrown_h0 wrong_h0 f6_16_66 at_h0 bad_h0 levels_h0 least_h0 found_h0)), ((am 4), .inr (8, [.ref a_all_m4, .int size_m4])), (a_all_m4, .inl (cI, n_a_all_m4, .inl b_a_all_m4)), ((am 15), .inl (cI, n_m15, .inl b_m15)), ((am 0), .inl (cS, 14, .inr (.inr (.inr (.inr (stA D 40)))))), ((am 1), .inl (cS, 27, .inr (.inr (.inr (.inr (stA D 54))))))]) (c_Nm_add l D cI cB cJ cS (am 5) q1_0_28 t0_66 f1_1_28 n9_28 b9_28  r1 r2 C4 S5 k8) k_Mo_200 (by decide) ⟨Nat.le_of_ble_eq_true rfl, Nat.le_of_ble_eq_true rfl⟩ rfl 0 rfl [0, 3] [1, 2, 4, 5, 6, 7, 8, 9, 10, 11] rfl (by decide) rfl (by decide) (by decide) rfl rfl (Nat.le_of_ble_eq_true rfl) d_Mo_cut_72 ⟨show cl_66 + C4 ≤ mc by omega, show sl_66 + S5 ≤ ms by omega⟩ (fun v w hq => ?_)
      obtain ⟨q3, rfl, rfl⟩ := hq
      refine j_norm (pc' := 75) (st' := []) (ws' := [((am 6), .inr (8, [.ref q2_0_28, .int f2_1_28])), ((am 7), .inr (8, [.ref q3_0_28, .int f3_1_28])), (q2_0_28, .inl (cI, n10_28, .inl b10_28)), (q3_0_28, .inl (cI, n11_28, .inl b11_28)), (h0, .inr (9, moF am known_h0 thrown_h0 wrong_h0 f6_16_66 at_h0 bad_h0 levels_h0 least_h0 found_h0)), ((am 4), .inr (8, [.ref a_all_m4, .int size_m4])), (a_all_m4, .inl (cI, n_a_all_m4, .inl b_a_all_m4)), ((am 15), .inl (cI, n_m15, .inl b_m15)), ((am 0), .inl (cS, 14, .inr (.inr (.inr (.inr (stA D 40)))))), ((am 1), .inl (cS, 27, .inr (.inr (.inr (.inr (stA D 54)))))), ((am 5), .inr (8, [.ref q3, .int (f1_1_28 + 1)])), (q3, .inl (cI, r1, .inl r2))]) (cl' := cl_66 + C4) (sl' := sl_66 + S5) rfl rfl rfl rfl rfl rfl ?_
      refine j_aload_n d_Mo_cut_75 rfl 3 rfl ?_
      refine j_get ig_Mo rfl 4 rfl 6 (by decide) rfl m_1119 rfl d_Mo_cut_76 ?_
      refine j_iload_n d_Mo_cut_79 rfl 1 rfl ?_
      replace h := bw_s h
      obtain ⟨⟨r9, r10⟩, C12, S13, C14, S15, k16, h, e1, e2⟩ := h
      replace hC : cl_66 + C4 + C12 + C14 ≤ mc := by omega
      replace hS : sl_66 + S5 + S13 + S15 ≤ ms := by omega
      clear e1 e2
      refine j_callV (n := 1) (As := [.int v1_66]) (rest := []) (wr := [((am 7), .inr (8, [.ref q3_0_28, .int f3_1_28])), (q3_0_28, .inl (cI, n11_28, .inl b11_28)), (h0, .inr (9, moF am known_h0 thrown_h0 wrong_h0 f6_16_66 at_h0 bad_h0 levels_h0 least_h0 found_h0)), ((am 4), .inr (8, [.ref a_all_m4, .int size_m4])), (a_all_m4, .inl (cI, n_a_all_m4, .inl b_a_all_m4)), ((am 15), .inl (cI, n_m15, .inl b_m15)), ((am 0), .inl (cS, 14, .inr (.inr (.inr (.inr (stA D 40)))))), ((am 1), .inl (cS, 27, .inr (.inr (.inr (.inr (stA D 54)))))), ((am 5), .inr (8, [.ref q3, .int (f1_1_28 + 1)])), (q3, .inl (cI, r1, .inl r2))]) (c_Nm_add l D cI cB cJ cS (am 6) q2_0_28 v1_66 f2_1_28 n10_28 b10_28  r9 r10 C12 S13 k16) k_Mo_200 (by decide) ⟨Nat.le_of_ble_eq_true rfl, Nat.le_of_ble_eq_true rfl⟩ rfl 0 rfl [0, 2] [1, 3, 4, 5, 6, 7, 8, 9, 10, 11] rfl (by decide) rfl (by decide) (by decide) rfl rfl (Nat.le_of_ble_eq_true rfl) d_Mo_cut_80 ⟨show cl_66 + C4 + C12 ≤ mc by omega, show sl_66 + S5 + S13 ≤ ms by omega⟩ (fun v w hq => ?_)
      obtain ⟨q11, rfl, rfl⟩ := hq
      refine j_norm (pc' := 83) (st' := []) (ws' := [((am 7), .inr (8, [.ref q3_0_28, .int f3_1_28])), (q3_0_28, .inl (cI, n11_28, .inl b11_28)), (h0, .inr (9, moF am known_h0 thrown_h0 wrong_h0 f6_16_66 at_h0 bad_h0 levels_h0 least_h0 found_h0)), ((am 4), .inr (8, [.ref a_all_m4, .int size_m4])), (a_all_m4, .inl (cI, n_a_all_m4, .inl b_a_all_m4)), ((am 15), .inl (cI, n_m15, .inl b_m15)), ((am 0), .inl (cS, 14, .inr (.inr (.inr (.inr (stA D 40)))))), ((am 1), .inl (cS, 27, .inr (.inr (.inr (.inr (stA D 54)))))), ((am 5), .inr (8, [.ref q3, .int (f1_1_28 + 1)])), (q3, .inl (cI, r1, .inl r2)), ((am 6), .inr (8, [.ref q11, .int (f2_1_28 + 1)])), (q11, .inl (cI, r9, .inl r10))]) (cl' := cl_66 + C4 + C12) (sl' := sl_66 + S5 + S13) rfl rfl rfl rfl rfl rfl ?_
      refine j_aload_n d_Mo_cut_83 rfl 3 rfl ?_
      refine j_get ig_Mo rfl 2 rfl 7 (by decide) rfl m_1120 rfl d_Mo_cut_84 ?_
      refine j_aload_n d_Mo_cut_87 rfl 3 rfl ?_
      refine j_get ig_Mo rfl 2 rfl 16 (by decide) rfl m_1129 rfl d_Mo_cut_88 ?_
      replace h := bw_s h
      obtain ⟨⟨r17, r18⟩, C20, S21, C22, S23, k24, h, e1, e2⟩ := h
      replace hC : cl_66 + C4 + C12 + C20 + C22 ≤ mc := by omega
      replace hS : sl_66 + S5 + S13 + S21 + S23 ≤ ms := by omega
      clear e1 e2
      refine j_callV (n := 1) (As := [.int f6_16_66]) (rest := []) (wr := [(h0, .inr (9, moF am known_h0 thrown_h0 wrong_h0 f6_16_66 at_h0 bad_h0 levels_h0 least_h0 found_h0)), ((am 4), .inr (8, [.ref a_all_m4, .int size_m4])), (a_all_m4, .inl (cI, n_a_all_m4, .inl b_a_all_m4)), ((am 15), .inl (cI, n_m15, .inl b_m15)), ((am 0), .inl (cS, 14, .inr (.inr (.inr (.inr (stA D 40)))))), ((am 1), .inl (cS, 27, .inr (.inr (.inr (.inr (stA D 54)))))), ((am 5), .inr (8, [.ref q3, .int (f1_1_28 + 1)])), (q3, .inl (cI, r1, .inl r2)), ((am 6), .inr (8, [.ref q11, .int (f2_1_28 + 1)])), (q11, .inl (cI, r9, .inl r10))]) (c_Nm_add l D cI cB cJ cS (am 7) q3_0_28 f6_16_66 f3_1_28 n11_28 b11_28  r17 r18 C20 S21 k24) k_Mo_200 (by decide) ⟨Nat.le_of_ble_eq_true rfl, Nat.le_of_ble_eq_true rfl⟩ rfl 0 rfl [0, 1] [2, 3, 4, 5, 6, 7, 8, 9, 10, 11] rfl (by decide) rfl (by decide) (by decide) rfl rfl (Nat.le_of_ble_eq_true rfl) d_Mo_cut_91 ⟨show cl_66 + C4 + C12 + C20 ≤ mc by omega, show sl_66 + S5 + S13 + S21 ≤ ms by omega⟩ (fun v w hq => ?_)
      obtain ⟨q19, rfl, rfl⟩ := hq
      refine j_norm (pc' := 94) (st' := []) (ws' := [(h0, .inr (9, moF am known_h0 thrown_h0 wrong_h0 f6_16_66 at_h0 bad_h0 levels_h0 least_h0 found_h0)), ((am 4), .inr (8, [.ref a_all_m4, .int size_m4])), (a_all_m4, .inl (cI, n_a_all_m4, .inl b_a_all_m4)), ((am 15), .inl (cI, n_m15, .inl b_m15)), ((am 0), .inl (cS, 14, .inr (.inr (.inr (.inr (stA D 40)))))), ((am 1), .inl (cS, 27, .inr (.inr (.inr (.inr (stA D 54)))))), ((am 5), .inr (8, [.ref q3, .int (f1_1_28 + 1)])), (q3, .inl (cI, r1, .inl r2)), ((am 6), .inr (8, [.ref q11, .int (f2_1_28 + 1)])), (q11, .inl (cI, r9, .inl r10)), ((am 7), .inr (8, [.ref q19, .int (f3_1_28 + 1)])), (q19, .inl (cI, r17, .inl r18))]) (cl' := cl_66 + C4 + C12 + C20) (sl' := sl_66 + S5 + S13 + S21) rfl rfl rfl rfl rfl rfl ?_
      refine j_aload_n d_Mo_cut_94 rfl 3 rfl ?_
      refine j_get ig_Mo rfl 0 rfl 16 (by decide) rfl m_1129 rfl d_Mo_cut_95 ?_
      refine j_istore_n (lv' := [(1, .int f6_16_66), (3, .int t0_66), (2, .int v2_28), (0, .ref h0)]) d_Mo_cut_98 rfl (by decide) rfl ?_
      refine j_iload_n d_Mo_cut_99 rfl 1 rfl ?_
      refine j_if_eq (tgt := 112) d_Mo_cut_100 (by decide) (fun c25 => ?_) (fun c25 => ?_)
      · replace h := it_t c25 h
        refine j_iconst (v := 0) d_Mo_cut_112 (by decide) ?_
        refine j_istore_n (lv' := [(2, .int 0), (1, .int f6_16_66), (3, .int t0_66), (0, .ref h0)]) d_Mo_cut_113 rfl (by decide) rfl ?_
        refine j_goto (tgt := 28) d_Mo_cut_114 (by decide) ?_
        refine j_sub (w := [(h0, .inr (9, moF am known_h0 thrown_h0 wrong_h0 f6_16_66 at_h0 bad_h0 levels_h0 least_h0 found_h0)), ((am 5), .inr (8, [.ref q3, .int (f1_1_28 + 1)])), ((am 6), .inr (8, [.ref q11, .int (f2_1_28 + 1)])), ((am 7), .inr (8, [.ref q19, .int (f3_1_28 + 1)])), ((am 4), .inr (8, [.ref a_all_m4, .int size_m4])), (a_all_m4, .inl (cI, n_a_all_m4, .inl b_a_all_m4)), ((am 15), .inl (cI, n_m15, .inl b_m15)), ((am 0), .inl (cS, 14, .inr (.inr (.inr (.inr (stA D 40)))))), ((am 1), .inl (cS, 27, .inr (.inr (.inr (.inr (stA D 54)))))), (q3, .inl (cI, r1, .inl r2)), (q11, .inl (cI, r9, .inl r10)), (q19, .inl (cI, r17, .inl r18))]) (lv' := [(2, .int 0), (1, .int f6_16_66), (0, .ref h0)]) [0, 6, 8, 10, 1, 2, 3, 4, 5, 7, 9, 11] rfl (by decide) [0, 1, 3] rfl ?_
        exact ih_28 q3 q11 q19 0 f6_16_66 f6_16_66 (f1_1_28 + 1) (f2_1_28 + 1) (f3_1_28 + 1) r1 r2 r9 r10 r17 r18 zb0 (cl_66 + C4 + C12 + C20) (sl_66 + S5 + S13 + S21) C22 S23 h hC hS
      · replace h := it_f c25 h
        refine j_iload_n d_Mo_cut_103 rfl 1 rfl ?_
        refine j_iconst (v := 1) d_Mo_cut_104 (by decide) ?_
        refine j_icmp_eq (tgt := 112) d_Mo_cut_105 (by decide) (fun c26 => ?_) (fun c26 => ?_)
        · replace h := it_t c26 h
          refine j_iconst (v := 0) d_Mo_cut_112 (by decide) ?_
          refine j_istore_n (lv' := [(2, .int 0), (1, .int f6_16_66), (3, .int t0_66), (0, .ref h0)]) d_Mo_cut_113 rfl (by decide) rfl ?_
          refine j_goto (tgt := 28) d_Mo_cut_114 (by decide) ?_
          refine j_sub (w := [(h0, .inr (9, moF am known_h0 thrown_h0 wrong_h0 f6_16_66 at_h0 bad_h0 levels_h0 least_h0 found_h0)), ((am 5), .inr (8, [.ref q3, .int (f1_1_28 + 1)])), ((am 6), .inr (8, [.ref q11, .int (f2_1_28 + 1)])), ((am 7), .inr (8, [.ref q19, .int (f3_1_28 + 1)])), ((am 4), .inr (8, [.ref a_all_m4, .int size_m4])), (a_all_m4, .inl (cI, n_a_all_m4, .inl b_a_all_m4)), ((am 15), .inl (cI, n_m15, .inl b_m15)), ((am 0), .inl (cS, 14, .inr (.inr (.inr (.inr (stA D 40)))))), ((am 1), .inl (cS, 27, .inr (.inr (.inr (.inr (stA D 54)))))), (q3, .inl (cI, r1, .inl r2)), (q11, .inl (cI, r9, .inl r10)), (q19, .inl (cI, r17, .inl r18))]) (lv' := [(2, .int 0), (1, .int f6_16_66), (0, .ref h0)]) [0, 6, 8, 10, 1, 2, 3, 4, 5, 7, 9, 11] rfl (by decide) [0, 1, 3] rfl ?_
          exact ih_28 q3 q11 q19 0 f6_16_66 f6_16_66 (f1_1_28 + 1) (f2_1_28 + 1) (f3_1_28 + 1) r1 r2 r9 r10 r17 r18 zb0 (cl_66 + C4 + C12 + C20) (sl_66 + S5 + S13 + S21) C22 S23 h hC hS
        · replace h := it_f c26 h
          refine j_iconst (v := 1) d_Mo_cut_108 (by decide) ?_
          refine j_goto (tgt := 113) d_Mo_cut_109 (by decide) ?_
          refine j_istore_n (lv' := [(2, .int 1), (1, .int f6_16_66), (3, .int t0_66), (0, .ref h0)]) d_Mo_cut_113 rfl (by decide) rfl ?_
          refine j_goto (tgt := 28) d_Mo_cut_114 (by decide) ?_
          refine j_sub (w := [(h0, .inr (9, moF am known_h0 thrown_h0 wrong_h0 f6_16_66 at_h0 bad_h0 levels_h0 least_h0 found_h0)), ((am 5), .inr (8, [.ref q3, .int (f1_1_28 + 1)])), ((am 6), .inr (8, [.ref q11, .int (f2_1_28 + 1)])), ((am 7), .inr (8, [.ref q19, .int (f3_1_28 + 1)])), ((am 4), .inr (8, [.ref a_all_m4, .int size_m4])), (a_all_m4, .inl (cI, n_a_all_m4, .inl b_a_all_m4)), ((am 15), .inl (cI, n_m15, .inl b_m15)), ((am 0), .inl (cS, 14, .inr (.inr (.inr (.inr (stA D 40)))))), ((am 1), .inl (cS, 27, .inr (.inr (.inr (.inr (stA D 54)))))), (q3, .inl (cI, r1, .inl r2)), (q11, .inl (cI, r9, .inl r10)), (q19, .inl (cI, r17, .inl r18))]) (lv' := [(2, .int 1), (1, .int f6_16_66), (0, .ref h0)]) [0, 6, 8, 10, 1, 2, 3, 4, 5, 7, 9, 11] rfl (by decide) [0, 1, 3] rfl ?_
          exact ih_28 q3 q11 q19 1 f6_16_66 f6_16_66 (f1_1_28 + 1) (f2_1_28 + 1) (f3_1_28 + 1) r1 r2 r9 r10 r17 r18 zb1 (cl_66 + C4 + C12 + C20) (sl_66 + S5 + S13 + S21) C22 S23 h hC hS
    refine j_iload_n d_Mo_cut_28 rfl 0 rfl ?_
    refine j_if_eq (tgt := 117) d_Mo_cut_29 (by decide) (fun c27 => ?_) (fun c27 => ?_)
    · replace h := it_t c27 h
      replace h := lf_s h
      obtain ⟨h, e1, e2⟩ := h
      replace h := Prod.mk.inj h
      obtain ⟨h9, h⟩ := h
      subst h9
      replace h := Prod.mk.inj h
      obtain ⟨h9, h⟩ := h
      subst h9
      replace h := Prod.mk.inj h
      obtain ⟨h9, h⟩ := h
      subst h9
      replace h := Prod.mk.inj h
      obtain ⟨h9, h⟩ := h
      subst h9
      replace h := Prod.mk.inj h
      obtain ⟨h9, h⟩ := h
      subst h9
      replace h := Prod.mk.inj h
      obtain ⟨h9, h⟩ := h
      subst h9
      replace h := Prod.mk.inj h
      obtain ⟨h9, h⟩ := h
      subst h9
      replace h := Prod.mk.inj h
      obtain ⟨h9, h⟩ := h
      subst h9
      replace h := Prod.mk.inj h
      obtain ⟨h9, h⟩ := h
      subst h9
      subst h
      refine j_widen (cl' := mc) (sl' := ms) (by omega) (by omega) ?_
      exact j_vret (w := [(h0, .inr (9, moF am known_h0 thrown_h0 wrong_h0 f0_16_28 at_h0 bad_h0 levels_h0 least_h0 found_h0)), ((am 5), .inr (8, [.ref q1_0_28, .int f1_1_28])), ((am 6), .inr (8, [.ref q2_0_28, .int f2_1_28])), ((am 7), .inr (8, [.ref q3_0_28, .int f3_1_28])), ((am 4), .inr (8, [.ref a_all_m4, .int size_m4])), (a_all_m4, .inl (cI, n_a_all_m4, .inl b_a_all_m4)), ((am 15), .inl (cI, n_m15, .inl b_m15)), ((am 0), .inl (cS, 14, .inr (.inr (.inr (.inr (stA D 40)))))), ((am 1), .inl (cS, 27, .inr (.inr (.inr (.inr (stA D 54)))))), (q1_0_28, .inl (cI, n9_28, .inl b9_28)), (q2_0_28, .inl (cI, n10_28, .inl b10_28)), (q3_0_28, .inl (cI, n11_28, .inl b11_28))]) hr d_Mo_cut_117 [0, 1, 2, 3, 4, 5, 6, 7, 8, 9, 10, 11] rfl (by decide) ⟨q1_0_28, q2_0_28, q3_0_28, rfl, rfl⟩
    · replace h := it_f c27 h
      refine j_aload_n d_Mo_cut_32 rfl 2 rfl ?_
      refine j_iload_n d_Mo_cut_33 rfl 1 rfl ?_
      replace h := bd_s h
      obtain ⟨r28, k29, h⟩ := h
      refine j_callV (n := 1) (As := [.int v1_28]) (rest := []) (wr := [((am 5), .inr (8, [.ref q1_0_28, .int f1_1_28])), ((am 6), .inr (8, [.ref q2_0_28, .int f2_1_28])), ((am 7), .inr (8, [.ref q3_0_28, .int f3_1_28])), ((am 15), .inl (cI, n_m15, .inl b_m15)), ((am 0), .inl (cS, 14, .inr (.inr (.inr (.inr (stA D 40)))))), ((am 1), .inl (cS, 27, .inr (.inr (.inr (.inr (stA D 54)))))), (q1_0_28, .inl (cI, n9_28, .inl b9_28)), (q2_0_28, .inl (cI, n10_28, .inl b10_28)), (q3_0_28, .inl (cI, n11_28, .inl b11_28))]) (c_Mo_skip l D cI cB cJ cS h0 am a_all_m4 v1_28 known_h0 thrown_h0 wrong_h0 f0_16_28 at_h0 bad_h0 levels_h0 least_h0 found_h0 size_m4 n_a_all_m4 b_a_all_m4  r28 k29) k_Mo_264 (by decide) ⟨Nat.le_of_ble_eq_true rfl, Nat.le_of_ble_eq_true rfl⟩ rfl 0 rfl [0, 4, 5] [1, 2, 3, 6, 7, 8, 9, 10, 11] rfl (by decide) rfl (by decide) (by decide) rfl rfl (Nat.le_of_ble_eq_true rfl) d_Mo_cut_34 ⟨show cl_28 + 0 ≤ mc by omega, show sl_28 + 0 ≤ ms by omega⟩ (fun v w hq => ?_)
      obtain ⟨rfl, rfl⟩ := hq
      refine j_norm (pc' := 37) (st' := [.int r28]) (ws' := [((am 5), .inr (8, [.ref q1_0_28, .int f1_1_28])), ((am 6), .inr (8, [.ref q2_0_28, .int f2_1_28])), ((am 7), .inr (8, [.ref q3_0_28, .int f3_1_28])), ((am 15), .inl (cI, n_m15, .inl b_m15)), ((am 0), .inl (cS, 14, .inr (.inr (.inr (.inr (stA D 40)))))), ((am 1), .inl (cS, 27, .inr (.inr (.inr (.inr (stA D 54)))))), (q1_0_28, .inl (cI, n9_28, .inl b9_28)), (q2_0_28, .inl (cI, n10_28, .inl b10_28)), (q3_0_28, .inl (cI, n11_28, .inl b11_28)), (h0, .inr (9, moF am known_h0 thrown_h0 wrong_h0 f0_16_28 at_h0 bad_h0 levels_h0 least_h0 found_h0)), ((am 4), .inr (8, [.ref a_all_m4, .int size_m4])), (a_all_m4, .inl (cI, n_a_all_m4, .inl b_a_all_m4))]) (cl' := cl_28) (sl' := sl_28) rfl rfl rfl rfl rfl rfl ?_
      refine j_istore_n (lv' := [(1, .int r28), (2, .int v2_28), (0, .ref h0)]) d_Mo_cut_37 rfl (by decide) rfl ?_
      refine j_aload_n d_Mo_cut_38 rfl 2 rfl ?_
      refine j_iload_n d_Mo_cut_39 rfl 0 rfl ?_
      replace h := bd_s h
      obtain ⟨⟨r30, r31⟩, k32, h⟩ := h
      refine j_callV (n := 1) (As := [.int r28]) (rest := []) (wr := [((am 5), .inr (8, [.ref q1_0_28, .int f1_1_28])), ((am 6), .inr (8, [.ref q2_0_28, .int f2_1_28])), ((am 7), .inr (8, [.ref q3_0_28, .int f3_1_28])), (q1_0_28, .inl (cI, n9_28, .inl b9_28)), (q2_0_28, .inl (cI, n10_28, .inl b10_28)), (q3_0_28, .inl (cI, n11_28, .inl b11_28))]) (c_Mo_token l D cI cB cJ cS h0 am a_all_m4 r28 known_h0 thrown_h0 wrong_h0 f0_16_28 at_h0 bad_h0 levels_h0 least_h0 found_h0 size_m4 n_a_all_m4 b_a_all_m4 n_m15 b_m15  r30 r31 k32) k_Mo_267 (by decide) ⟨Nat.le_of_ble_eq_true rfl, Nat.le_of_ble_eq_true rfl⟩ rfl 0 rfl [9, 10, 11, 3, 4, 5] [0, 1, 2, 6, 7, 8] rfl (by decide) rfl (by decide) (by decide) rfl rfl (Nat.le_of_ble_eq_true rfl) d_Mo_cut_40 ⟨show cl_28 + 0 ≤ mc by omega, show sl_28 + 0 ≤ ms by omega⟩ (fun v w hq => ?_)
      obtain ⟨rfl, rfl⟩ := hq
      refine j_norm (pc' := 43) (st' := [.int r30]) (ws' := [((am 5), .inr (8, [.ref q1_0_28, .int f1_1_28])), ((am 6), .inr (8, [.ref q2_0_28, .int f2_1_28])), ((am 7), .inr (8, [.ref q3_0_28, .int f3_1_28])), (q1_0_28, .inl (cI, n9_28, .inl b9_28)), (q2_0_28, .inl (cI, n10_28, .inl b10_28)), (q3_0_28, .inl (cI, n11_28, .inl b11_28)), (h0, .inr (9, moF am known_h0 thrown_h0 wrong_h0 r31 at_h0 bad_h0 levels_h0 least_h0 found_h0)), ((am 4), .inr (8, [.ref a_all_m4, .int size_m4])), (a_all_m4, .inl (cI, n_a_all_m4, .inl b_a_all_m4)), ((am 15), .inl (cI, n_m15, .inl b_m15)), ((am 0), .inl (cS, 14, .inr (.inr (.inr (.inr (stA D 40)))))), ((am 1), .inl (cS, 27, .inr (.inr (.inr (.inr (stA D 54))))))]) (cl' := cl_28) (sl' := sl_28) rfl rfl rfl rfl rfl rfl ?_
      refine j_istore_n (lv' := [(3, .int r30), (1, .int r28), (2, .int v2_28), (0, .ref h0)]) d_Mo_cut_43 rfl (by decide) rfl ?_
      refine j_aload_n d_Mo_cut_44 rfl 3 rfl ?_
      refine j_get ig_Mo rfl 6 rfl 5 (by decide) rfl m_1118 rfl d_Mo_cut_45 ?_
      refine j_getN ig_Nm rfl 0 rfl 1 (by decide) rfl mn_13 rfl d_Mo_cut_48 ?_
      refine j_sipush (v := 16384) d_Mo_cut_51 (by decide) ?_
      refine j_icmp_ne (tgt := 65) d_Mo_cut_54 (by decide) (fun c33 => ?_) (fun c33 => ?_)
      · replace h := it_f c33 h
        refine j_iload_n d_Mo_cut_65 rfl 0 rfl ?_
        refine j_sub (w := [((am 5), .inr (8, [.ref q1_0_28, .int f1_1_28])), ((am 6), .inr (8, [.ref q2_0_28, .int f2_1_28])), ((am 7), .inr (8, [.ref q3_0_28, .int f3_1_28])), (q1_0_28, .inl (cI, n9_28, .inl b9_28)), (q2_0_28, .inl (cI, n10_28, .inl b10_28)), (q3_0_28, .inl (cI, n11_28, .inl b11_28)), (h0, .inr (9, moF am known_h0 thrown_h0 wrong_h0 r31 at_h0 bad_h0 levels_h0 least_h0 found_h0)), ((am 4), .inr (8, [.ref a_all_m4, .int size_m4])), (a_all_m4, .inl (cI, n_a_all_m4, .inl b_a_all_m4)), ((am 15), .inl (cI, n_m15, .inl b_m15)), ((am 0), .inl (cS, 14, .inr (.inr (.inr (.inr (stA D 40)))))), ((am 1), .inl (cS, 27, .inr (.inr (.inr (.inr (stA D 54))))))]) (lv' := [(3, .int r30), (1, .int r28), (2, .int v2_28), (0, .ref h0)]) [0, 1, 2, 3, 4, 5, 6, 7, 8, 9, 10, 11] rfl (by decide) [0, 1, 2, 3] rfl ?_
        exact L_66 r30 r28 r30 r31 cl_28 sl_28 C_28 S_28 h hC hS
      · replace h := it_t c33 h
        refine j_iload_n d_Mo_cut_57 rfl 0 rfl ?_
        refine j_if_eq (tgt := 65) d_Mo_cut_58 (by decide) (fun c34 => ?_) (fun c34 => ?_)
        · replace h := it_t c34 h
          refine j_iload_n d_Mo_cut_65 rfl 0 rfl ?_
          refine j_sub (w := [((am 5), .inr (8, [.ref q1_0_28, .int f1_1_28])), ((am 6), .inr (8, [.ref q2_0_28, .int f2_1_28])), ((am 7), .inr (8, [.ref q3_0_28, .int f3_1_28])), (q1_0_28, .inl (cI, n9_28, .inl b9_28)), (q2_0_28, .inl (cI, n10_28, .inl b10_28)), (q3_0_28, .inl (cI, n11_28, .inl b11_28)), (h0, .inr (9, moF am known_h0 thrown_h0 wrong_h0 r31 at_h0 bad_h0 levels_h0 least_h0 found_h0)), ((am 4), .inr (8, [.ref a_all_m4, .int size_m4])), (a_all_m4, .inl (cI, n_a_all_m4, .inl b_a_all_m4)), ((am 15), .inl (cI, n_m15, .inl b_m15)), ((am 0), .inl (cS, 14, .inr (.inr (.inr (.inr (stA D 40)))))), ((am 1), .inl (cS, 27, .inr (.inr (.inr (.inr (stA D 54))))))]) (lv' := [(3, .int r30), (1, .int r28), (2, .int v2_28), (0, .ref h0)]) [0, 1, 2, 3, 4, 5, 6, 7, 8, 9, 10, 11] rfl (by decide) [0, 1, 2, 3] rfl ?_
          exact L_66 r30 r28 r30 r31 cl_28 sl_28 C_28 S_28 h hC hS
        · replace h := it_f c34 h
          refine j_iconst (v := 1) d_Mo_cut_61 (by decide) ?_
          refine j_goto (tgt := 66) d_Mo_cut_62 (by decide) ?_
          refine j_sub (w := [((am 5), .inr (8, [.ref q1_0_28, .int f1_1_28])), ((am 6), .inr (8, [.ref q2_0_28, .int f2_1_28])), ((am 7), .inr (8, [.ref q3_0_28, .int f3_1_28])), (q1_0_28, .inl (cI, n9_28, .inl b9_28)), (q2_0_28, .inl (cI, n10_28, .inl b10_28)), (q3_0_28, .inl (cI, n11_28, .inl b11_28)), (h0, .inr (9, moF am known_h0 thrown_h0 wrong_h0 r31 at_h0 bad_h0 levels_h0 least_h0 found_h0)), ((am 4), .inr (8, [.ref a_all_m4, .int size_m4])), (a_all_m4, .inl (cI, n_a_all_m4, .inl b_a_all_m4)), ((am 15), .inl (cI, n_m15, .inl b_m15)), ((am 0), .inl (cS, 14, .inr (.inr (.inr (.inr (stA D 40)))))), ((am 1), .inl (cS, 27, .inr (.inr (.inr (.inr (stA D 54))))))]) (lv' := [(3, .int r30), (1, .int r28), (2, .int v2_28), (0, .ref h0)]) [0, 1, 2, 3, 4, 5, 6, 7, 8, 9, 10, 11] rfl (by decide) [0, 1, 2, 3] rfl ?_
          exact L_66 r30 r28 1 r31 cl_28 sl_28 C_28 S_28 h hC hS
set_option maxHeartbeats 4000000 in
set_option maxRecDepth 100000 in
theorem c_Mo_cut (l : Launch) (D : va_G) (cI cB cJ cS : ClassId) (h0 : Nat) (am : Nat → Nat) (a_all_m5 : Nat) (a_all_m6 : Nat) (a_all_m7 : Nat) (a_all_m4 : Nat) (known_h0 : Int32) (thrown_h0 : Int32) (wrong_h0 : Int32) (lastEnd_h0 : Int32) (at_h0 : Int32) (bad_h0 : Int32) (levels_h0 : Int32) (least_h0 : Int32) (found_h0 : Int32) (size_m5 : Int32) (size_m6 : Int32) (size_m7 : Int32) (size_m4 : Int32) (n_a_all_m4 : Nat) (b_a_all_m4 : Nat → Int32) (n_m15 : Nat) (b_m15 : Nat → Int32) (n_a_all_m5 : Nat) (b_a_all_m5 : Nat → Int32) (n_a_all_m6 : Nat) (b_a_all_m6 : Nat → Int32) (n_a_all_m7 : Nat) (b_a_all_m7 : Nat → Int32) (o_0_16 : Int32) (o_1_1 : Int32) (o_2_1 : Int32) (o_3_1 : Int32) (on_nq_1_0 : Nat) (ob_nq_1_0 : Nat → Int32) (on_nq_2_0 : Nat) (ob_nq_2_0 : Nat → Int32) (on_nq_3_0 : Nat) (ob_nq_3_0 : Nat → Int32) (mc ms : Nat) (h : F_Mo_cut known_h0 thrown_h0 wrong_h0 lastEnd_h0 at_h0 bad_h0 levels_h0 least_h0 found_h0 size_m5 size_m6 size_m7 size_m4 n_a_all_m4 b_a_all_m4 n_m15 b_m15 n_a_all_m5 b_a_all_m5 n_a_all_m6 b_a_all_m6 n_a_all_m7 b_a_all_m7 = some ((o_0_16, o_1_1, o_2_1, o_3_1, on_nq_1_0, ob_nq_1_0, on_nq_2_0, ob_nq_2_0, on_nq_3_0, ob_nq_3_0), mc, ms)) : Ct l D (gT cI cB cJ cS) y_Mo_cut prog_12_method_17_code 4 (Option.none : Option Jvm.ClassFile.FieldType) 6 133 mc ms [.ref h0] [(h0, .inr (9, moF am known_h0 thrown_h0 wrong_h0 lastEnd_h0 at_h0 bad_h0 levels_h0 least_h0 found_h0)), ((am 5), .inr (8, [.ref a_all_m5, .int size_m5])), ((am 6), .inr (8, [.ref a_all_m6, .int size_m6])), ((am 7), .inr (8, [.ref a_all_m7, .int size_m7])), ((am 4), .inr (8, [.ref a_all_m4, .int size_m4])), (a_all_m4, .inl (cI, n_a_all_m4, .inl b_a_all_m4)), ((am 15), .inl (cI, n_m15, .inl b_m15)), ((am 0), .inl (cS, 14, .inr (.inr (.inr (.inr (stA D 40)))))), ((am 1), .inl (cS, 27, .inr (.inr (.inr (.inr (stA D 54)))))), (a_all_m5, .inl (cI, n_a_all_m5, .inl b_a_all_m5)), (a_all_m6, .inl (cI, n_a_all_m6, .inl b_a_all_m6)), (a_all_m7, .inl (cI, n_a_all_m7, .inl b_a_all_m7))] (fun v w => ∃ nq_1_0 : Nat, ∃ nq_2_0 : Nat, ∃ nq_3_0 : Nat, v = none ∧ w = [(h0, .inr (9, moF am known_h0 thrown_h0 wrong_h0 o_0_16 at_h0 bad_h0 levels_h0 least_h0 found_h0)), ((am 5), .inr (8, [.ref nq_1_0, .int o_1_1])), ((am 6), .inr (8, [.ref nq_2_0, .int o_2_1])), ((am 7), .inr (8, [.ref nq_3_0, .int o_3_1])), ((am 4), .inr (8, [.ref a_all_m4, .int size_m4])), (a_all_m4, .inl (cI, n_a_all_m4, .inl b_a_all_m4)), ((am 15), .inl (cI, n_m15, .inl b_m15)), ((am 0), .inl (cS, 14, .inr (.inr (.inr (.inr (stA D 40)))))), ((am 1), .inl (cS, 27, .inr (.inr (.inr (.inr (stA D 54)))))), (nq_1_0, .inl (cI, on_nq_1_0, .inl ob_nq_1_0)), (nq_2_0, .inl (cI, on_nq_2_0, .inl ob_nq_2_0)), (nq_3_0, .inl (cI, on_nq_3_0, .inl ob_nq_3_0))]) := by
  refine Ct.mk (by decide) (Nat.le_of_ble_eq_true rfl) ?_
  intro p e s m below meth c hr hnm
  refine j_norm (pc' := 0) (lv' := [(0, .ref h0)]) (st' := []) (ws' := [(h0, .inr (9, moF am known_h0 thrown_h0 wrong_h0 lastEnd_h0 at_h0 bad_h0 levels_h0 least_h0 found_h0)), ((am 5), .inr (8, [.ref a_all_m5, .int size_m5])), ((am 6), .inr (8, [.ref a_all_m6, .int size_m6])), ((am 7), .inr (8, [.ref a_all_m7, .int size_m7])), ((am 4), .inr (8, [.ref a_all_m4, .int size_m4])), (a_all_m4, .inl (cI, n_a_all_m4, .inl b_a_all_m4)), ((am 15), .inl (cI, n_m15, .inl b_m15)), ((am 0), .inl (cS, 14, .inr (.inr (.inr (.inr (stA D 40)))))), ((am 1), .inl (cS, 27, .inr (.inr (.inr (.inr (stA D 54)))))), (a_all_m5, .inl (cI, n_a_all_m5, .inl b_a_all_m5)), (a_all_m6, .inl (cI, n_a_all_m6, .inl b_a_all_m6)), (a_all_m7, .inl (cI, n_a_all_m7, .inl b_a_all_m7))]) (cl' := 0) (sl' := 0) rfl rfl rfl rfl rfl rfl ?_
  unfold F_Mo_cut at h
  have hC : 0 + mc ≤ mc := by omega
  have hS : 0 + ms ≤ ms := by omega
  refine j_aload_n d_Mo_cut_0 rfl 0 rfl ?_
  refine j_get ig_Mo rfl 0 rfl 5 (by decide) rfl m_1118 rfl d_Mo_cut_1 ?_
  refine j_iconst (v := 0) d_Mo_cut_4 (by decide) ?_
  refine j_putN (ws' := [(h0, .inr (9, moF am known_h0 thrown_h0 wrong_h0 lastEnd_h0 at_h0 bad_h0 levels_h0 least_h0 found_h0)), ((am 5), .inr (8, [.ref a_all_m5, .int 0])), ((am 6), .inr (8, [.ref a_all_m6, .int size_m6])), ((am 7), .inr (8, [.ref a_all_m7, .int size_m7])), ((am 4), .inr (8, [.ref a_all_m4, .int size_m4])), (a_all_m4, .inl (cI, n_a_all_m4, .inl b_a_all_m4)), ((am 15), .inl (cI, n_m15, .inl b_m15)), ((am 0), .inl (cS, 14, .inr (.inr (.inr (.inr (stA D 40)))))), ((am 1), .inl (cS, 27, .inr (.inr (.inr (.inr (stA D 54)))))), (a_all_m5, .inl (cI, n_a_all_m5, .inl b_a_all_m5)), (a_all_m6, .inl (cI, n_a_all_m6, .inl b_a_all_m6)), (a_all_m7, .inl (cI, n_a_all_m7, .inl b_a_all_m7))]) ig_Nm tk_Nm nm_Nm rfl 1 rfl 1 (by decide) rfl mn_13 rfl (tk_Nm 1 (by decide)) rfl rfl (Nat.le_of_ble_eq_true rfl) d_Mo_cut_5 rfl ?_
  refine j_aload_n d_Mo_cut_8 rfl 0 rfl ?_
  refine j_get ig_Mo rfl 0 rfl 6 (by decide) rfl m_1119 rfl d_Mo_cut_9 ?_
  refine j_iconst (v := 0) d_Mo_cut_12 (by decide) ?_
  refine j_putN (ws' := [(h0, .inr (9, moF am known_h0 thrown_h0 wrong_h0 lastEnd_h0 at_h0 bad_h0 levels_h0 least_h0 found_h0)), ((am 5), .inr (8, [.ref a_all_m5, .int 0])), ((am 6), .inr (8, [.ref a_all_m6, .int 0])), ((am 7), .inr (8, [.ref a_all_m7, .int size_m7])), ((am 4), .inr (8, [.ref a_all_m4, .int size_m4])), (a_all_m4, .inl (cI, n_a_all_m4, .inl b_a_all_m4)), ((am 15), .inl (cI, n_m15, .inl b_m15)), ((am 0), .inl (cS, 14, .inr (.inr (.inr (.inr (stA D 40)))))), ((am 1), .inl (cS, 27, .inr (.inr (.inr (.inr (stA D 54)))))), (a_all_m5, .inl (cI, n_a_all_m5, .inl b_a_all_m5)), (a_all_m6, .inl (cI, n_a_all_m6, .inl b_a_all_m6)), (a_all_m7, .inl (cI, n_a_all_m7, .inl b_a_all_m7))]) ig_Nm tk_Nm nm_Nm rfl 2 rfl 1 (by decide) rfl mn_13 rfl (tk_Nm 1 (by decide)) rfl rfl (Nat.le_of_ble_eq_true rfl) d_Mo_cut_13 rfl ?_
  refine j_aload_n d_Mo_cut_16 rfl 0 rfl ?_
  refine j_get ig_Mo rfl 0 rfl 7 (by decide) rfl m_1120 rfl d_Mo_cut_17 ?_
  refine j_iconst (v := 0) d_Mo_cut_20 (by decide) ?_
  refine j_putN (ws' := [(h0, .inr (9, moF am known_h0 thrown_h0 wrong_h0 lastEnd_h0 at_h0 bad_h0 levels_h0 least_h0 found_h0)), ((am 5), .inr (8, [.ref a_all_m5, .int 0])), ((am 6), .inr (8, [.ref a_all_m6, .int 0])), ((am 7), .inr (8, [.ref a_all_m7, .int 0])), ((am 4), .inr (8, [.ref a_all_m4, .int size_m4])), (a_all_m4, .inl (cI, n_a_all_m4, .inl b_a_all_m4)), ((am 15), .inl (cI, n_m15, .inl b_m15)), ((am 0), .inl (cS, 14, .inr (.inr (.inr (.inr (stA D 40)))))), ((am 1), .inl (cS, 27, .inr (.inr (.inr (.inr (stA D 54)))))), (a_all_m5, .inl (cI, n_a_all_m5, .inl b_a_all_m5)), (a_all_m6, .inl (cI, n_a_all_m6, .inl b_a_all_m6)), (a_all_m7, .inl (cI, n_a_all_m7, .inl b_a_all_m7))]) ig_Nm tk_Nm nm_Nm rfl 3 rfl 1 (by decide) rfl mn_13 rfl (tk_Nm 1 (by decide)) rfl rfl (Nat.le_of_ble_eq_true rfl) d_Mo_cut_21 rfl ?_
  refine j_iconst (v := 0) d_Mo_cut_24 (by decide) ?_
  refine j_istore_n (lv' := [(1, .int 0), (0, .ref h0)]) d_Mo_cut_25 rfl (by decide) rfl ?_
  refine j_iconst (v := 1) d_Mo_cut_26 (by decide) ?_
  refine j_istore_n (lv' := [(2, .int 1), (1, .int 0), (0, .ref h0)]) d_Mo_cut_27 rfl (by decide) rfl ?_
  refine j_sub (w := [(h0, .inr (9, moF am known_h0 thrown_h0 wrong_h0 lastEnd_h0 at_h0 bad_h0 levels_h0 least_h0 found_h0)), ((am 5), .inr (8, [.ref a_all_m5, .int 0])), ((am 6), .inr (8, [.ref a_all_m6, .int 0])), ((am 7), .inr (8, [.ref a_all_m7, .int 0])), ((am 4), .inr (8, [.ref a_all_m4, .int size_m4])), (a_all_m4, .inl (cI, n_a_all_m4, .inl b_a_all_m4)), ((am 15), .inl (cI, n_m15, .inl b_m15)), ((am 0), .inl (cS, 14, .inr (.inr (.inr (.inr (stA D 40)))))), ((am 1), .inl (cS, 27, .inr (.inr (.inr (.inr (stA D 54)))))), (a_all_m5, .inl (cI, n_a_all_m5, .inl b_a_all_m5)), (a_all_m6, .inl (cI, n_a_all_m6, .inl b_a_all_m6)), (a_all_m7, .inl (cI, n_a_all_m7, .inl b_a_all_m7))]) (lv' := [(2, .int 1), (1, .int 0), (0, .ref h0)]) [0, 1, 2, 3, 4, 5, 6, 7, 8, 9, 10, 11] rfl (by decide) [0, 1, 2] rfl ?_
  exact L_Mo_cut_28 l D cI cB cJ cS h0 am a_all_m5 a_all_m6 a_all_m7 a_all_m4 known_h0 thrown_h0 wrong_h0 lastEnd_h0 at_h0 bad_h0 levels_h0 least_h0 found_h0 size_m5 size_m6 size_m7 size_m4 n_a_all_m4 b_a_all_m4 n_m15 b_m15 n_a_all_m5 b_a_all_m5 n_a_all_m6 b_a_all_m6 n_a_all_m7 b_a_all_m7 o_0_16 o_1_1 o_2_1 o_3_1 on_nq_1_0 ob_nq_1_0 on_nq_2_0 ob_nq_2_0 on_nq_3_0 ob_nq_3_0 mc ms p e s m below meth c hr hnm FU a_all_m5 a_all_m6 a_all_m7 1 0 lastEnd_h0 0 0 0 n_a_all_m5 b_a_all_m5 n_a_all_m6 b_a_all_m6 n_a_all_m7 b_a_all_m7 zb1 0 0 mc ms h hC hS
def F_Mo_rankOf (p1 : Int32) (known_h0 : Int32) (thrown_h0 : Int32) (wrong_h0 : Int32) (lastEnd_h0 : Int32) (at_h0 : Int32) (bad_h0 : Int32) (levels_h0 : Int32) (least_h0 : Int32) (found_h0 : Int32) (n_m2 : Nat) (b_m2 : Nat → Int32) : Option (Int32) :=
  if p1 < 30 then (some 0)
  else (inb (p1 - 30) n_m2 (some (b_m2 (Int32.toNatClampNeg (p1 - 30)))))
theorem d_Mo_rankOf_0 : decode prog_12_method_18_code 0 = .ok (.iload_n 1, 1) := by decide +kernel
theorem d_Mo_rankOf_1 : decode prog_12_method_18_code 1 = .ok (.bipush 30, 2) := by decide +kernel
theorem d_Mo_rankOf_3 : decode prog_12_method_18_code 3 = .ok (.if_icmp .lt 15, 3) := by decide +kernel
theorem d_Mo_rankOf_6 : decode prog_12_method_18_code 6 = .ok (.aload_n 0, 1) := by decide +kernel
theorem d_Mo_rankOf_7 : decode prog_12_method_18_code 7 = .ok (.getfield 100, 3) := by decide +kernel
theorem d_Mo_rankOf_10 : decode prog_12_method_18_code 10 = .ok (.iload_n 1, 1) := by decide +kernel
theorem d_Mo_rankOf_11 : decode prog_12_method_18_code 11 = .ok (.bipush 30, 2) := by decide +kernel
theorem d_Mo_rankOf_13 : decode prog_12_method_18_code 13 = .ok (.isub, 1) := by decide +kernel
theorem d_Mo_rankOf_14 : decode prog_12_method_18_code 14 = .ok (.iaload, 1) := by decide +kernel
theorem d_Mo_rankOf_15 : decode prog_12_method_18_code 15 = .ok (.goto 4, 3) := by decide +kernel
theorem d_Mo_rankOf_18 : decode prog_12_method_18_code 18 = .ok (.iconst 0, 1) := by decide +kernel
theorem d_Mo_rankOf_19 : decode prog_12_method_18_code 19 = .ok (.ireturn, 1) := by decide +kernel
set_option maxHeartbeats 4000000 in
set_option maxRecDepth 100000 in
theorem c_Mo_rankOf (l : Launch) (D : va_G) (cI cB cJ cS : ClassId) (h0 : Nat) (am : Nat → Nat) (p1 : Int32) (known_h0 : Int32) (thrown_h0 : Int32) (wrong_h0 : Int32) (lastEnd_h0 : Int32) (at_h0 : Int32) (bad_h0 : Int32) (levels_h0 : Int32) (least_h0 : Int32) (found_h0 : Int32) (n_m2 : Nat) (b_m2 : Nat → Int32) (ret : Int32) (h : F_Mo_rankOf p1 known_h0 thrown_h0 wrong_h0 lastEnd_h0 at_h0 bad_h0 levels_h0 least_h0 found_h0 n_m2 b_m2 = some ret) : Ct l D (gT cI cB cJ cS) y_Mo_rankOf prog_12_method_18_code 2 (Option.some Jvm.ClassFile.FieldType.int) 0 0 0 0 [.ref h0, .int p1] [(h0, .inr (9, moF am known_h0 thrown_h0 wrong_h0 lastEnd_h0 at_h0 bad_h0 levels_h0 least_h0 found_h0)), ((am 2), .inl (cI, n_m2, .inl b_m2))] (fun v w => v = some (.int ret) ∧ w = [(h0, .inr (9, moF am known_h0 thrown_h0 wrong_h0 lastEnd_h0 at_h0 bad_h0 levels_h0 least_h0 found_h0)), ((am 2), .inl (cI, n_m2, .inl b_m2))]) := by
  refine Ct.mk (by decide) (Nat.le_of_ble_eq_true rfl) ?_
  intro p e s m below meth c hr hnm
  refine j_norm (pc' := 0) (lv' := [(0, .ref h0), (1, .int p1)]) (st' := []) (ws' := [(h0, .inr (9, moF am known_h0 thrown_h0 wrong_h0 lastEnd_h0 at_h0 bad_h0 levels_h0 least_h0 found_h0)), ((am 2), .inl (cI, n_m2, .inl b_m2))]) (cl' := 0) (sl' := 0) rfl rfl rfl rfl rfl rfl ?_
  unfold F_Mo_rankOf at h
  refine j_iload_n d_Mo_rankOf_0 rfl 1 rfl ?_
  refine j_bipush (v := 30) d_Mo_rankOf_1 (by decide) ?_
  refine j_icmp_lt (tgt := 18) d_Mo_rankOf_3 (by decide) (fun c1 => ?_) (fun c1 => ?_)
  · replace h := it_t c1 h
    refine j_iconst (v := 0) d_Mo_rankOf_18 (by decide) ?_
    replace h := Option.some.inj h
    subst h
    exact j_iret (w := [(h0, .inr (9, moF am known_h0 thrown_h0 wrong_h0 lastEnd_h0 at_h0 bad_h0 levels_h0 least_h0 found_h0)), ((am 2), .inl (cI, n_m2, .inl b_m2))]) hr d_Mo_rankOf_19 [0, 1] rfl (by decide) ⟨rfl, rfl⟩
  · replace h := it_f c1 h
    refine j_aload_n d_Mo_rankOf_6 rfl 0 rfl ?_
    refine j_get ig_Mo rfl 0 rfl 2 (by decide) rfl m_1115 rfl d_Mo_rankOf_7 ?_
    refine j_iload_n d_Mo_rankOf_10 rfl 1 rfl ?_
    refine j_bipush (v := 30) d_Mo_rankOf_11 (by decide) ?_
    refine j_isub d_Mo_rankOf_13 ?_
    replace h := inb_s h
    obtain ⟨i2, h⟩ := h
    refine j_iald (t0 := 0) 1 rfl rfl i2 d_Mo_rankOf_14 ?_
    refine j_goto (tgt := 19) d_Mo_rankOf_15 (by decide) ?_
    replace h := Option.some.inj h
    subst h
    exact j_iret (w := [(h0, .inr (9, moF am known_h0 thrown_h0 wrong_h0 lastEnd_h0 at_h0 bad_h0 levels_h0 least_h0 found_h0)), ((am 2), .inl (cI, n_m2, .inl b_m2))]) hr d_Mo_rankOf_19 [0, 1] rfl (by decide) ⟨rfl, rfl⟩
def F_Mo_kind (known_h0 : Int32) (thrown_h0 : Int32) (wrong_h0 : Int32) (lastEnd_h0 : Int32) (at_h0 : Int32) (bad_h0 : Int32) (levels_h0 : Int32) (least_h0 : Int32) (found_h0 : Int32) (size_m5 : Int32) (n_a_all_m5 : Nat) (b_a_all_m5 : Nat → Int32) : Option (Unit) :=
  Option.bind (F_Nm_at at_h0 size_m5 n_a_all_m5 b_a_all_m5) fun _ =>
  (some ())
theorem d_Mo_kind_0 : decode prog_12_method_19_code 0 = .ok (.aload_n 0, 1) := by decide +kernel
theorem d_Mo_kind_1 : decode prog_12_method_19_code 1 = .ok (.getfield 114, 3) := by decide +kernel
theorem d_Mo_kind_4 : decode prog_12_method_19_code 4 = .ok (.aload_n 0, 1) := by decide +kernel
theorem d_Mo_kind_5 : decode prog_12_method_19_code 5 = .ok (.getfield 270, 3) := by decide +kernel
theorem d_Mo_kind_8 : decode prog_12_method_19_code 8 = .ok (.invokevirtual 214, 3) := by decide +kernel
theorem d_Mo_kind_11 : decode prog_12_method_19_code 11 = .ok (.ireturn, 1) := by decide +kernel
set_option maxHeartbeats 4000000 in
set_option maxRecDepth 100000 in
theorem c_Mo_kind (l : Launch) (D : va_G) (cI cB cJ cS : ClassId) (h0 : Nat) (am : Nat → Nat) (a_all_m5 : Nat) (known_h0 : Int32) (thrown_h0 : Int32) (wrong_h0 : Int32) (lastEnd_h0 : Int32) (at_h0 : Int32) (bad_h0 : Int32) (levels_h0 : Int32) (least_h0 : Int32) (found_h0 : Int32) (size_m5 : Int32) (n_a_all_m5 : Nat) (b_a_all_m5 : Nat → Int32) (h : F_Mo_kind known_h0 thrown_h0 wrong_h0 lastEnd_h0 at_h0 bad_h0 levels_h0 least_h0 found_h0 size_m5 n_a_all_m5 b_a_all_m5 = some ()) : Ct l D (gT cI cB cJ cS) y_Mo_kind prog_12_method_19_code 1 (Option.some Jvm.ClassFile.FieldType.int) 1 21 0 0 [.ref h0] [(h0, .inr (9, moF am known_h0 thrown_h0 wrong_h0 lastEnd_h0 at_h0 bad_h0 levels_h0 least_h0 found_h0)), ((am 5), .inr (8, [.ref a_all_m5, .int size_m5])), (a_all_m5, .inl (cI, n_a_all_m5, .inl b_a_all_m5))] (fun v w => v = some (.int (b_a_all_m5 (Int32.toNatClampNeg at_h0))) ∧ w = [(h0, .inr (9, moF am known_h0 thrown_h0 wrong_h0 lastEnd_h0 at_h0 bad_h0 levels_h0 least_h0 found_h0)), ((am 5), .inr (8, [.ref a_all_m5, .int size_m5])), (a_all_m5, .inl (cI, n_a_all_m5, .inl b_a_all_m5))]) := by
  refine Ct.mk (by decide) (Nat.le_of_ble_eq_true rfl) ?_
  intro p e s m below meth c hr hnm
  refine j_norm (pc' := 0) (lv' := [(0, .ref h0)]) (st' := []) (ws' := [(h0, .inr (9, moF am known_h0 thrown_h0 wrong_h0 lastEnd_h0 at_h0 bad_h0 levels_h0 least_h0 found_h0)), ((am 5), .inr (8, [.ref a_all_m5, .int size_m5])), (a_all_m5, .inl (cI, n_a_all_m5, .inl b_a_all_m5))]) (cl' := 0) (sl' := 0) rfl rfl rfl rfl rfl rfl ?_
  unfold F_Mo_kind at h
  refine j_aload_n d_Mo_kind_0 rfl 0 rfl ?_
  refine j_get ig_Mo rfl 0 rfl 5 (by decide) rfl m_1118 rfl d_Mo_kind_1 ?_
  refine j_aload_n d_Mo_kind_4 rfl 0 rfl ?_
  refine j_get ig_Mo rfl 0 rfl 17 (by decide) rfl m_1130 rfl d_Mo_kind_5 ?_
  replace h := bd_s h
  obtain ⟨_, k1, h⟩ := h
  refine j_callV (n := 1) (As := [.int at_h0]) (rest := []) (wr := [(h0, .inr (9, moF am known_h0 thrown_h0 wrong_h0 lastEnd_h0 at_h0 bad_h0 levels_h0 least_h0 found_h0))]) (c_Nm_at l D cI cB cJ cS (am 5) a_all_m5 at_h0 size_m5 n_a_all_m5 b_a_all_m5  k1) k_Mo_214 (by decide) ⟨Nat.le_of_ble_eq_true rfl, Nat.le_of_ble_eq_true rfl⟩ rfl 0 rfl [1, 2] [0] rfl (by decide) rfl (by decide) (by decide) rfl rfl (Nat.le_of_ble_eq_true rfl) d_Mo_kind_8 ⟨Nat.le_of_ble_eq_true rfl, Nat.le_of_ble_eq_true rfl⟩ (fun v w hq => ?_)
  obtain ⟨rfl, rfl⟩ := hq
  refine j_norm (pc' := 11) (st' := [.int (b_a_all_m5 (Int32.toNatClampNeg at_h0))]) (ws' := [(h0, .inr (9, moF am known_h0 thrown_h0 wrong_h0 lastEnd_h0 at_h0 bad_h0 levels_h0 least_h0 found_h0)), ((am 5), .inr (8, [.ref a_all_m5, .int size_m5])), (a_all_m5, .inl (cI, n_a_all_m5, .inl b_a_all_m5))]) (cl' := 0) (sl' := 0) rfl rfl rfl rfl rfl rfl ?_
  replace h := Option.some.inj h
  exact j_iret (w := [(h0, .inr (9, moF am known_h0 thrown_h0 wrong_h0 lastEnd_h0 at_h0 bad_h0 levels_h0 least_h0 found_h0)), ((am 5), .inr (8, [.ref a_all_m5, .int size_m5])), (a_all_m5, .inl (cI, n_a_all_m5, .inl b_a_all_m5))]) hr d_Mo_kind_11 [0, 1, 2] rfl (by decide) ⟨rfl, rfl⟩
theorem d_Mo_fail_0 : decode prog_12_method_20_code 0 = .ok (.aload_n 0, 1) := by decide +kernel
theorem d_Mo_fail_1 : decode prog_12_method_20_code 1 = .ok (.aload_n 0, 1) := by decide +kernel
theorem d_Mo_fail_2 : decode prog_12_method_20_code 2 = .ok (.getfield 270, 3) := by decide +kernel
theorem d_Mo_fail_5 : decode prog_12_method_20_code 5 = .ok (.putfield 272, 3) := by decide +kernel
theorem d_Mo_fail_8 : decode prog_12_method_20_code 8 = .ok (.iconst 0, 1) := by decide +kernel
theorem d_Mo_fail_9 : decode prog_12_method_20_code 9 = .ok (.ireturn, 1) := by decide +kernel
set_option maxHeartbeats 4000000 in
set_option maxRecDepth 100000 in
theorem c_Mo_fail (l : Launch) (D : va_G) (cI cB cJ cS : ClassId) (h0 : Nat) (am : Nat → Nat) (known_h0 : Int32) (thrown_h0 : Int32) (wrong_h0 : Int32) (lastEnd_h0 : Int32) (at_h0 : Int32) (bad_h0 : Int32) (levels_h0 : Int32) (least_h0 : Int32) (found_h0 : Int32) : Ct l D (gT cI cB cJ cS) y_Mo_fail prog_12_method_20_code 1 (Option.some Jvm.ClassFile.FieldType.boolean) 0 0 0 0 [.ref h0] [(h0, .inr (9, moF am known_h0 thrown_h0 wrong_h0 lastEnd_h0 at_h0 bad_h0 levels_h0 least_h0 found_h0))] (fun v w => v = some (.int 0) ∧ zb 0 ∧ w = [(h0, .inr (9, moF am known_h0 thrown_h0 wrong_h0 lastEnd_h0 at_h0 at_h0 levels_h0 least_h0 found_h0))]) := by
  refine Ct.mk (by decide) (Nat.le_of_ble_eq_true rfl) ?_
  intro p e s m below meth c hr hnm
  refine j_norm (pc' := 0) (lv' := [(0, .ref h0)]) (st' := []) (ws' := [(h0, .inr (9, moF am known_h0 thrown_h0 wrong_h0 lastEnd_h0 at_h0 bad_h0 levels_h0 least_h0 found_h0))]) (cl' := 0) (sl' := 0) rfl rfl rfl rfl rfl rfl ?_
  refine j_aload_n d_Mo_fail_0 rfl 0 rfl ?_
  refine j_aload_n d_Mo_fail_1 rfl 0 rfl ?_
  refine j_get ig_Mo rfl 0 rfl 17 (by decide) rfl m_1130 rfl d_Mo_fail_2 ?_
  refine j_put (ws' := [(h0, .inr (9, moF am known_h0 thrown_h0 wrong_h0 lastEnd_h0 at_h0 at_h0 levels_h0 least_h0 found_h0))]) ig_Mo tk_Mo nm_Mo rfl 0 rfl 18 (by decide) rfl m_1131 rfl (tk_Mo 18 (by decide)) rfl rfl (Nat.le_of_ble_eq_true rfl) d_Mo_fail_5 rfl ?_
  refine j_iconst (v := 0) d_Mo_fail_8 (by decide) ?_
  exact j_zret (w := [(h0, .inr (9, moF am known_h0 thrown_h0 wrong_h0 lastEnd_h0 at_h0 at_h0 levels_h0 least_h0 found_h0))]) hr (zb_n zb0) d_Mo_fail_9 [0] rfl (by decide) ⟨rfl, zb0, rfl⟩
def F_Mo_take (p1 : Int32) (known_h0 : Int32) (thrown_h0 : Int32) (wrong_h0 : Int32) (lastEnd_h0 : Int32) (at_h0 : Int32) (bad_h0 : Int32) (levels_h0 : Int32) (least_h0 : Int32) (found_h0 : Int32) (size_m5 : Int32) (n_a_all_m5 : Nat) (b_a_all_m5 : Nat → Int32) : Option (Int32 × Int32 × Int32) :=
  Option.bind (F_Mo_kind known_h0 thrown_h0 wrong_h0 lastEnd_h0 at_h0 bad_h0 levels_h0 least_h0 found_h0 size_m5 n_a_all_m5 b_a_all_m5) fun _ =>
  if (b_a_all_m5 (Int32.toNatClampNeg at_h0)) = p1 then (some (1, at_h0 + 1, bad_h0))
  else (some (0, at_h0, at_h0))
theorem d_Mo_take_0 : decode prog_12_method_21_code 0 = .ok (.aload_n 0, 1) := by decide +kernel
theorem d_Mo_take_1 : decode prog_12_method_21_code 1 = .ok (.invokevirtual 275, 3) := by decide +kernel
theorem d_Mo_take_4 : decode prog_12_method_21_code 4 = .ok (.iload_n 1, 1) := by decide +kernel
theorem d_Mo_take_5 : decode prog_12_method_21_code 5 = .ok (.if_icmp .eq 8, 3) := by decide +kernel
theorem d_Mo_take_8 : decode prog_12_method_21_code 8 = .ok (.aload_n 0, 1) := by decide +kernel
theorem d_Mo_take_9 : decode prog_12_method_21_code 9 = .ok (.invokevirtual 278, 3) := by decide +kernel
theorem d_Mo_take_12 : decode prog_12_method_21_code 12 = .ok (.ireturn, 1) := by decide +kernel
theorem d_Mo_take_13 : decode prog_12_method_21_code 13 = .ok (.aload_n 0, 1) := by decide +kernel
theorem d_Mo_take_14 : decode prog_12_method_21_code 14 = .ok (.dup, 1) := by decide +kernel
theorem d_Mo_take_15 : decode prog_12_method_21_code 15 = .ok (.getfield 270, 3) := by decide +kernel
theorem d_Mo_take_18 : decode prog_12_method_21_code 18 = .ok (.iconst 1, 1) := by decide +kernel
theorem d_Mo_take_19 : decode prog_12_method_21_code 19 = .ok (.iadd, 1) := by decide +kernel
theorem d_Mo_take_20 : decode prog_12_method_21_code 20 = .ok (.putfield 270, 3) := by decide +kernel
theorem d_Mo_take_23 : decode prog_12_method_21_code 23 = .ok (.iconst 1, 1) := by decide +kernel
theorem d_Mo_take_24 : decode prog_12_method_21_code 24 = .ok (.ireturn, 1) := by decide +kernel
set_option maxHeartbeats 4000000 in
set_option maxRecDepth 100000 in
theorem c_Mo_take (l : Launch) (D : va_G) (cI cB cJ cS : ClassId) (h0 : Nat) (am : Nat → Nat) (a_all_m5 : Nat) (p1 : Int32) (known_h0 : Int32) (thrown_h0 : Int32) (wrong_h0 : Int32) (lastEnd_h0 : Int32) (at_h0 : Int32) (bad_h0 : Int32) (levels_h0 : Int32) (least_h0 : Int32) (found_h0 : Int32) (size_m5 : Int32) (n_a_all_m5 : Nat) (b_a_all_m5 : Nat → Int32) (ret : Int32) (o_0_17 : Int32) (o_0_18 : Int32) (h : F_Mo_take p1 known_h0 thrown_h0 wrong_h0 lastEnd_h0 at_h0 bad_h0 levels_h0 least_h0 found_h0 size_m5 n_a_all_m5 b_a_all_m5 = some (ret, o_0_17, o_0_18)) : Ct l D (gT cI cB cJ cS) y_Mo_take prog_12_method_21_code 2 (Option.some Jvm.ClassFile.FieldType.boolean) 2 41 0 0 [.ref h0, .int p1] [(h0, .inr (9, moF am known_h0 thrown_h0 wrong_h0 lastEnd_h0 at_h0 bad_h0 levels_h0 least_h0 found_h0)), ((am 5), .inr (8, [.ref a_all_m5, .int size_m5])), (a_all_m5, .inl (cI, n_a_all_m5, .inl b_a_all_m5))] (fun v w => v = some (.int ret) ∧ zb ret ∧ w = [(h0, .inr (9, moF am known_h0 thrown_h0 wrong_h0 lastEnd_h0 o_0_17 o_0_18 levels_h0 least_h0 found_h0)), ((am 5), .inr (8, [.ref a_all_m5, .int size_m5])), (a_all_m5, .inl (cI, n_a_all_m5, .inl b_a_all_m5))]) := by
  refine Ct.mk (by decide) (Nat.le_of_ble_eq_true rfl) ?_
  intro p e s m below meth c hr hnm
  refine j_norm (pc' := 0) (lv' := [(0, .ref h0), (1, .int p1)]) (st' := []) (ws' := [(h0, .inr (9, moF am known_h0 thrown_h0 wrong_h0 lastEnd_h0 at_h0 bad_h0 levels_h0 least_h0 found_h0)), ((am 5), .inr (8, [.ref a_all_m5, .int size_m5])), (a_all_m5, .inl (cI, n_a_all_m5, .inl b_a_all_m5))]) (cl' := 0) (sl' := 0) rfl rfl rfl rfl rfl rfl ?_
  unfold F_Mo_take at h
  refine j_aload_n d_Mo_take_0 rfl 0 rfl ?_
  replace h := bd_s h
  obtain ⟨_, k1, h⟩ := h
  refine j_callV (n := 0) (As := []) (rest := []) (wr := []) (c_Mo_kind l D cI cB cJ cS h0 am a_all_m5 known_h0 thrown_h0 wrong_h0 lastEnd_h0 at_h0 bad_h0 levels_h0 least_h0 found_h0 size_m5 n_a_all_m5 b_a_all_m5  k1) k_Mo_275 (by decide) ⟨Nat.le_of_ble_eq_true rfl, Nat.le_of_ble_eq_true rfl⟩ rfl 0 rfl [0, 1, 2] [] rfl (by decide) rfl (by decide) (by decide) rfl rfl (Nat.le_of_ble_eq_true rfl) d_Mo_take_1 ⟨Nat.le_of_ble_eq_true rfl, Nat.le_of_ble_eq_true rfl⟩ (fun v w hq => ?_)
  obtain ⟨rfl, rfl⟩ := hq
  refine j_norm (pc' := 4) (st' := [.int (b_a_all_m5 (Int32.toNatClampNeg at_h0))]) (ws' := [(h0, .inr (9, moF am known_h0 thrown_h0 wrong_h0 lastEnd_h0 at_h0 bad_h0 levels_h0 least_h0 found_h0)), ((am 5), .inr (8, [.ref a_all_m5, .int size_m5])), (a_all_m5, .inl (cI, n_a_all_m5, .inl b_a_all_m5))]) (cl' := 0) (sl' := 0) rfl rfl rfl rfl rfl rfl ?_
  refine j_iload_n d_Mo_take_4 rfl 1 rfl ?_
  refine j_icmp_eq (tgt := 13) d_Mo_take_5 (by decide) (fun c2 => ?_) (fun c2 => ?_)
  · replace h := it_t c2 h
    refine j_aload_n d_Mo_take_13 rfl 0 rfl ?_
    refine j_dup rfl d_Mo_take_14 ?_
    refine j_get ig_Mo rfl 0 rfl 17 (by decide) rfl m_1130 rfl d_Mo_take_15 ?_
    refine j_iconst (v := 1) d_Mo_take_18 (by decide) ?_
    refine j_iadd d_Mo_take_19 ?_
    refine j_put (ws' := [(h0, .inr (9, moF am known_h0 thrown_h0 wrong_h0 lastEnd_h0 (at_h0 + 1) bad_h0 levels_h0 least_h0 found_h0)), ((am 5), .inr (8, [.ref a_all_m5, .int size_m5])), (a_all_m5, .inl (cI, n_a_all_m5, .inl b_a_all_m5))]) ig_Mo tk_Mo nm_Mo rfl 0 rfl 17 (by decide) rfl m_1130 rfl (tk_Mo 17 (by decide)) rfl rfl (Nat.le_of_ble_eq_true rfl) d_Mo_take_20 rfl ?_
    refine j_iconst (v := 1) d_Mo_take_23 (by decide) ?_
    replace h := Option.some.inj h
    replace h := Prod.mk.inj h
    obtain ⟨h9, h⟩ := h
    subst h9
    replace h := Prod.mk.inj h
    obtain ⟨h9, h⟩ := h
    subst h9
    subst h
    exact j_zret (w := [(h0, .inr (9, moF am known_h0 thrown_h0 wrong_h0 lastEnd_h0 (at_h0 + 1) bad_h0 levels_h0 least_h0 found_h0)), ((am 5), .inr (8, [.ref a_all_m5, .int size_m5])), (a_all_m5, .inl (cI, n_a_all_m5, .inl b_a_all_m5))]) hr (zb_n zb1) d_Mo_take_24 [0, 1, 2] rfl (by decide) ⟨rfl, zb1, rfl⟩
  · replace h := it_f c2 h
    refine j_aload_n d_Mo_take_8 rfl 0 rfl ?_
    refine j_callV (n := 0) (As := []) (rest := []) (wr := [((am 5), .inr (8, [.ref a_all_m5, .int size_m5])), (a_all_m5, .inl (cI, n_a_all_m5, .inl b_a_all_m5))]) (c_Mo_fail l D cI cB cJ cS h0 am known_h0 thrown_h0 wrong_h0 lastEnd_h0 at_h0 bad_h0 levels_h0 least_h0 found_h0  ) k_Mo_278 (by decide) ⟨Nat.le_of_ble_eq_true rfl, Nat.le_of_ble_eq_true rfl⟩ rfl 0 rfl [0] [1, 2] rfl (by decide) rfl (by decide) (by decide) rfl rfl (Nat.le_of_ble_eq_true rfl) d_Mo_take_9 ⟨Nat.le_of_ble_eq_true rfl, Nat.le_of_ble_eq_true rfl⟩ (fun v w hq => ?_)
    obtain ⟨rfl, _, rfl⟩ := hq
    refine j_norm (pc' := 12) (st' := [.int 0]) (ws' := [((am 5), .inr (8, [.ref a_all_m5, .int size_m5])), (a_all_m5, .inl (cI, n_a_all_m5, .inl b_a_all_m5)), (h0, .inr (9, moF am known_h0 thrown_h0 wrong_h0 lastEnd_h0 at_h0 at_h0 levels_h0 least_h0 found_h0))]) (cl' := 0) (sl' := 0) rfl rfl rfl rfl rfl rfl ?_
    replace h := Option.some.inj h
    replace h := Prod.mk.inj h
    obtain ⟨h9, h⟩ := h
    subst h9
    replace h := Prod.mk.inj h
    obtain ⟨h9, h⟩ := h
    subst h9
    subst h
    exact j_zret (w := [(h0, .inr (9, moF am known_h0 thrown_h0 wrong_h0 lastEnd_h0 at_h0 at_h0 levels_h0 least_h0 found_h0)), ((am 5), .inr (8, [.ref a_all_m5, .int size_m5])), (a_all_m5, .inl (cI, n_a_all_m5, .inl b_a_all_m5))]) hr (zb_n zb0) d_Mo_take_12 [2, 0, 1] rfl (by decide) ⟨rfl, zb0, rfl⟩
def F_Mo_enter (p1 : Int32) (known_h0 : Int32) (thrown_h0 : Int32) (wrong_h0 : Int32) (lastEnd_h0 : Int32) (at_h0 : Int32) (bad_h0 : Int32) (levels_h0 : Int32) (least_h0 : Int32) (found_h0 : Int32) (size_m5 : Int32) (n_a_all_m5 : Nat) (b_a_all_m5 : Nat → Int32) : Option (Int32 × Int32 × Int32 × Int32) :=
  Option.bind (F_Mo_kind known_h0 thrown_h0 wrong_h0 lastEnd_h0 at_h0 bad_h0 levels_h0 least_h0 found_h0 size_m5 n_a_all_m5 b_a_all_m5) fun _ =>
  if (b_a_all_m5 (Int32.toNatClampNeg at_h0)) = p1 then (if levels_h0 = 60 then (some (0, at_h0, at_h0, levels_h0))
    else (some (1, at_h0 + 1, bad_h0, levels_h0 + 1)))
  else (some (0, at_h0, at_h0, levels_h0))
theorem d_Mo_enter_0 : decode prog_12_method_22_code 0 = .ok (.aload_n 0, 1) := by decide +kernel
theorem d_Mo_enter_1 : decode prog_12_method_22_code 1 = .ok (.invokevirtual 275, 3) := by decide +kernel
theorem d_Mo_enter_4 : decode prog_12_method_22_code 4 = .ok (.iload_n 1, 1) := by decide +kernel
theorem d_Mo_enter_5 : decode prog_12_method_22_code 5 = .ok (.if_icmp .ne 12, 3) := by decide +kernel
theorem d_Mo_enter_8 : decode prog_12_method_22_code 8 = .ok (.aload_n 0, 1) := by decide +kernel
theorem d_Mo_enter_9 : decode prog_12_method_22_code 9 = .ok (.getfield 282, 3) := by decide +kernel
theorem d_Mo_enter_12 : decode prog_12_method_22_code 12 = .ok (.bipush 60, 2) := by decide +kernel
theorem d_Mo_enter_14 : decode prog_12_method_22_code 14 = .ok (.if_icmp .ne 8, 3) := by decide +kernel
theorem d_Mo_enter_17 : decode prog_12_method_22_code 17 = .ok (.aload_n 0, 1) := by decide +kernel
theorem d_Mo_enter_18 : decode prog_12_method_22_code 18 = .ok (.invokevirtual 278, 3) := by decide +kernel
theorem d_Mo_enter_21 : decode prog_12_method_22_code 21 = .ok (.ireturn, 1) := by decide +kernel
theorem d_Mo_enter_22 : decode prog_12_method_22_code 22 = .ok (.aload_n 0, 1) := by decide +kernel
theorem d_Mo_enter_23 : decode prog_12_method_22_code 23 = .ok (.dup, 1) := by decide +kernel
theorem d_Mo_enter_24 : decode prog_12_method_22_code 24 = .ok (.getfield 282, 3) := by decide +kernel
theorem d_Mo_enter_27 : decode prog_12_method_22_code 27 = .ok (.iconst 1, 1) := by decide +kernel
theorem d_Mo_enter_28 : decode prog_12_method_22_code 28 = .ok (.iadd, 1) := by decide +kernel
theorem d_Mo_enter_29 : decode prog_12_method_22_code 29 = .ok (.putfield 282, 3) := by decide +kernel
theorem d_Mo_enter_32 : decode prog_12_method_22_code 32 = .ok (.aload_n 0, 1) := by decide +kernel
theorem d_Mo_enter_33 : decode prog_12_method_22_code 33 = .ok (.dup, 1) := by decide +kernel
theorem d_Mo_enter_34 : decode prog_12_method_22_code 34 = .ok (.getfield 270, 3) := by decide +kernel
theorem d_Mo_enter_37 : decode prog_12_method_22_code 37 = .ok (.iconst 1, 1) := by decide +kernel
theorem d_Mo_enter_38 : decode prog_12_method_22_code 38 = .ok (.iadd, 1) := by decide +kernel
theorem d_Mo_enter_39 : decode prog_12_method_22_code 39 = .ok (.putfield 270, 3) := by decide +kernel
theorem d_Mo_enter_42 : decode prog_12_method_22_code 42 = .ok (.iconst 1, 1) := by decide +kernel
theorem d_Mo_enter_43 : decode prog_12_method_22_code 43 = .ok (.ireturn, 1) := by decide +kernel
set_option maxHeartbeats 4000000 in
set_option maxRecDepth 100000 in
theorem c_Mo_enter (l : Launch) (D : va_G) (cI cB cJ cS : ClassId) (h0 : Nat) (am : Nat → Nat) (a_all_m5 : Nat) (p1 : Int32) (known_h0 : Int32) (thrown_h0 : Int32) (wrong_h0 : Int32) (lastEnd_h0 : Int32) (at_h0 : Int32) (bad_h0 : Int32) (levels_h0 : Int32) (least_h0 : Int32) (found_h0 : Int32) (size_m5 : Int32) (n_a_all_m5 : Nat) (b_a_all_m5 : Nat → Int32) (ret : Int32) (o_0_17 : Int32) (o_0_18 : Int32) (o_0_19 : Int32) (h : F_Mo_enter p1 known_h0 thrown_h0 wrong_h0 lastEnd_h0 at_h0 bad_h0 levels_h0 least_h0 found_h0 size_m5 n_a_all_m5 b_a_all_m5 = some (ret, o_0_17, o_0_18, o_0_19)) : Ct l D (gT cI cB cJ cS) y_Mo_enter prog_12_method_22_code 2 (Option.some Jvm.ClassFile.FieldType.boolean) 2 41 0 0 [.ref h0, .int p1] [(h0, .inr (9, moF am known_h0 thrown_h0 wrong_h0 lastEnd_h0 at_h0 bad_h0 levels_h0 least_h0 found_h0)), ((am 5), .inr (8, [.ref a_all_m5, .int size_m5])), (a_all_m5, .inl (cI, n_a_all_m5, .inl b_a_all_m5))] (fun v w => v = some (.int ret) ∧ zb ret ∧ w = [(h0, .inr (9, moF am known_h0 thrown_h0 wrong_h0 lastEnd_h0 o_0_17 o_0_18 o_0_19 least_h0 found_h0)), ((am 5), .inr (8, [.ref a_all_m5, .int size_m5])), (a_all_m5, .inl (cI, n_a_all_m5, .inl b_a_all_m5))]) := by
  refine Ct.mk (by decide) (Nat.le_of_ble_eq_true rfl) ?_
  intro p e s m below meth c hr hnm
  refine j_norm (pc' := 0) (lv' := [(0, .ref h0), (1, .int p1)]) (st' := []) (ws' := [(h0, .inr (9, moF am known_h0 thrown_h0 wrong_h0 lastEnd_h0 at_h0 bad_h0 levels_h0 least_h0 found_h0)), ((am 5), .inr (8, [.ref a_all_m5, .int size_m5])), (a_all_m5, .inl (cI, n_a_all_m5, .inl b_a_all_m5))]) (cl' := 0) (sl' := 0) rfl rfl rfl rfl rfl rfl ?_
  unfold F_Mo_enter at h
  refine j_aload_n d_Mo_enter_0 rfl 0 rfl ?_
  replace h := bd_s h
  obtain ⟨_, k1, h⟩ := h
  refine j_callV (n := 0) (As := []) (rest := []) (wr := []) (c_Mo_kind l D cI cB cJ cS h0 am a_all_m5 known_h0 thrown_h0 wrong_h0 lastEnd_h0 at_h0 bad_h0 levels_h0 least_h0 found_h0 size_m5 n_a_all_m5 b_a_all_m5  k1) k_Mo_275 (by decide) ⟨Nat.le_of_ble_eq_true rfl, Nat.le_of_ble_eq_true rfl⟩ rfl 0 rfl [0, 1, 2] [] rfl (by decide) rfl (by decide) (by decide) rfl rfl (Nat.le_of_ble_eq_true rfl) d_Mo_enter_1 ⟨Nat.le_of_ble_eq_true rfl, Nat.le_of_ble_eq_true rfl⟩ (fun v w hq => ?_)
  obtain ⟨rfl, rfl⟩ := hq
  refine j_norm (pc' := 4) (st' := [.int (b_a_all_m5 (Int32.toNatClampNeg at_h0))]) (ws' := [(h0, .inr (9, moF am known_h0 thrown_h0 wrong_h0 lastEnd_h0 at_h0 bad_h0 levels_h0 least_h0 found_h0)), ((am 5), .inr (8, [.ref a_all_m5, .int size_m5])), (a_all_m5, .inl (cI, n_a_all_m5, .inl b_a_all_m5))]) (cl' := 0) (sl' := 0) rfl rfl rfl rfl rfl rfl ?_
  refine j_iload_n d_Mo_enter_4 rfl 1 rfl ?_
  refine j_icmp_ne (tgt := 17) d_Mo_enter_5 (by decide) (fun c2 => ?_) (fun c2 => ?_)
  · replace h := it_f c2 h
    refine j_aload_n d_Mo_enter_17 rfl 0 rfl ?_
    refine j_callV (n := 0) (As := []) (rest := []) (wr := [((am 5), .inr (8, [.ref a_all_m5, .int size_m5])), (a_all_m5, .inl (cI, n_a_all_m5, .inl b_a_all_m5))]) (c_Mo_fail l D cI cB cJ cS h0 am known_h0 thrown_h0 wrong_h0 lastEnd_h0 at_h0 bad_h0 levels_h0 least_h0 found_h0  ) k_Mo_278 (by decide) ⟨Nat.le_of_ble_eq_true rfl, Nat.le_of_ble_eq_true rfl⟩ rfl 0 rfl [0] [1, 2] rfl (by decide) rfl (by decide) (by decide) rfl rfl (Nat.le_of_ble_eq_true rfl) d_Mo_enter_18 ⟨Nat.le_of_ble_eq_true rfl, Nat.le_of_ble_eq_true rfl⟩ (fun v w hq => ?_)
    obtain ⟨rfl, _, rfl⟩ := hq
    refine j_norm (pc' := 21) (st' := [.int 0]) (ws' := [((am 5), .inr (8, [.ref a_all_m5, .int size_m5])), (a_all_m5, .inl (cI, n_a_all_m5, .inl b_a_all_m5)), (h0, .inr (9, moF am known_h0 thrown_h0 wrong_h0 lastEnd_h0 at_h0 at_h0 levels_h0 least_h0 found_h0))]) (cl' := 0) (sl' := 0) rfl rfl rfl rfl rfl rfl ?_
    replace h := Option.some.inj h
    replace h := Prod.mk.inj h
    obtain ⟨h9, h⟩ := h
    subst h9
    replace h := Prod.mk.inj h
    obtain ⟨h9, h⟩ := h
    subst h9
    replace h := Prod.mk.inj h
    obtain ⟨h9, h⟩ := h
    subst h9
    subst h
    exact j_zret (w := [(h0, .inr (9, moF am known_h0 thrown_h0 wrong_h0 lastEnd_h0 at_h0 at_h0 levels_h0 least_h0 found_h0)), ((am 5), .inr (8, [.ref a_all_m5, .int size_m5])), (a_all_m5, .inl (cI, n_a_all_m5, .inl b_a_all_m5))]) hr (zb_n zb0) d_Mo_enter_21 [2, 0, 1] rfl (by decide) ⟨rfl, zb0, rfl⟩
  · replace h := it_t c2 h
    refine j_aload_n d_Mo_enter_8 rfl 0 rfl ?_
    refine j_get ig_Mo rfl 0 rfl 19 (by decide) rfl m_1132 rfl d_Mo_enter_9 ?_
    refine j_bipush (v := 60) d_Mo_enter_12 (by decide) ?_
    refine j_icmp_ne (tgt := 22) d_Mo_enter_14 (by decide) (fun c4 => ?_) (fun c4 => ?_)
    · replace h := it_f c4 h
      refine j_aload_n d_Mo_enter_22 rfl 0 rfl ?_
      refine j_dup rfl d_Mo_enter_23 ?_
      refine j_get ig_Mo rfl 0 rfl 19 (by decide) rfl m_1132 rfl d_Mo_enter_24 ?_
      refine j_iconst (v := 1) d_Mo_enter_27 (by decide) ?_
      refine j_iadd d_Mo_enter_28 ?_
      refine j_put (ws' := [(h0, .inr (9, moF am known_h0 thrown_h0 wrong_h0 lastEnd_h0 at_h0 bad_h0 (levels_h0 + 1) least_h0 found_h0)), ((am 5), .inr (8, [.ref a_all_m5, .int size_m5])), (a_all_m5, .inl (cI, n_a_all_m5, .inl b_a_all_m5))]) ig_Mo tk_Mo nm_Mo rfl 0 rfl 19 (by decide) rfl m_1132 rfl (tk_Mo 19 (by decide)) rfl rfl (Nat.le_of_ble_eq_true rfl) d_Mo_enter_29 rfl ?_
      refine j_aload_n d_Mo_enter_32 rfl 0 rfl ?_
      refine j_dup rfl d_Mo_enter_33 ?_
      refine j_get ig_Mo rfl 0 rfl 17 (by decide) rfl m_1130 rfl d_Mo_enter_34 ?_
      refine j_iconst (v := 1) d_Mo_enter_37 (by decide) ?_
      refine j_iadd d_Mo_enter_38 ?_
      refine j_put (ws' := [(h0, .inr (9, moF am known_h0 thrown_h0 wrong_h0 lastEnd_h0 (at_h0 + 1) bad_h0 (levels_h0 + 1) least_h0 found_h0)), ((am 5), .inr (8, [.ref a_all_m5, .int size_m5])), (a_all_m5, .inl (cI, n_a_all_m5, .inl b_a_all_m5))]) ig_Mo tk_Mo nm_Mo rfl 0 rfl 17 (by decide) rfl m_1130 rfl (tk_Mo 17 (by decide)) rfl rfl (Nat.le_of_ble_eq_true rfl) d_Mo_enter_39 rfl ?_
      refine j_iconst (v := 1) d_Mo_enter_42 (by decide) ?_
      replace h := Option.some.inj h
      replace h := Prod.mk.inj h
      obtain ⟨h9, h⟩ := h
      subst h9
      replace h := Prod.mk.inj h
      obtain ⟨h9, h⟩ := h
      subst h9
      replace h := Prod.mk.inj h
      obtain ⟨h9, h⟩ := h
      subst h9
      subst h
      exact j_zret (w := [(h0, .inr (9, moF am known_h0 thrown_h0 wrong_h0 lastEnd_h0 (at_h0 + 1) bad_h0 (levels_h0 + 1) least_h0 found_h0)), ((am 5), .inr (8, [.ref a_all_m5, .int size_m5])), (a_all_m5, .inl (cI, n_a_all_m5, .inl b_a_all_m5))]) hr (zb_n zb1) d_Mo_enter_43 [0, 1, 2] rfl (by decide) ⟨rfl, zb1, rfl⟩
    · replace h := it_t c4 h
      refine j_aload_n d_Mo_enter_17 rfl 0 rfl ?_
      refine j_callV (n := 0) (As := []) (rest := []) (wr := [((am 5), .inr (8, [.ref a_all_m5, .int size_m5])), (a_all_m5, .inl (cI, n_a_all_m5, .inl b_a_all_m5))]) (c_Mo_fail l D cI cB cJ cS h0 am known_h0 thrown_h0 wrong_h0 lastEnd_h0 at_h0 bad_h0 levels_h0 least_h0 found_h0  ) k_Mo_278 (by decide) ⟨Nat.le_of_ble_eq_true rfl, Nat.le_of_ble_eq_true rfl⟩ rfl 0 rfl [0] [1, 2] rfl (by decide) rfl (by decide) (by decide) rfl rfl (Nat.le_of_ble_eq_true rfl) d_Mo_enter_18 ⟨Nat.le_of_ble_eq_true rfl, Nat.le_of_ble_eq_true rfl⟩ (fun v w hq => ?_)
      obtain ⟨rfl, _, rfl⟩ := hq
      refine j_norm (pc' := 21) (st' := [.int 0]) (ws' := [((am 5), .inr (8, [.ref a_all_m5, .int size_m5])), (a_all_m5, .inl (cI, n_a_all_m5, .inl b_a_all_m5)), (h0, .inr (9, moF am known_h0 thrown_h0 wrong_h0 lastEnd_h0 at_h0 at_h0 levels_h0 least_h0 found_h0))]) (cl' := 0) (sl' := 0) rfl rfl rfl rfl rfl rfl ?_
      replace h := Option.some.inj h
      replace h := Prod.mk.inj h
      obtain ⟨h9, h⟩ := h
      subst h9
      replace h := Prod.mk.inj h
      obtain ⟨h9, h⟩ := h
      subst h9
      replace h := Prod.mk.inj h
      obtain ⟨h9, h⟩ := h
      subst h9
      subst h
      exact j_zret (w := [(h0, .inr (9, moF am known_h0 thrown_h0 wrong_h0 lastEnd_h0 at_h0 at_h0 levels_h0 least_h0 found_h0)), ((am 5), .inr (8, [.ref a_all_m5, .int size_m5])), (a_all_m5, .inl (cI, n_a_all_m5, .inl b_a_all_m5))]) hr (zb_n zb0) d_Mo_enter_21 [2, 0, 1] rfl (by decide) ⟨rfl, zb0, rfl⟩
def F_Mo_leave (p1 : Int32) (known_h0 : Int32) (thrown_h0 : Int32) (wrong_h0 : Int32) (lastEnd_h0 : Int32) (at_h0 : Int32) (bad_h0 : Int32) (levels_h0 : Int32) (least_h0 : Int32) (found_h0 : Int32) (size_m5 : Int32) (n_a_all_m5 : Nat) (b_a_all_m5 : Nat → Int32) : Option (Int32 × Int32 × Int32) :=
  Option.bind (F_Mo_take p1 known_h0 thrown_h0 wrong_h0 lastEnd_h0 at_h0 bad_h0 (levels_h0 - 1) least_h0 found_h0 size_m5 n_a_all_m5 b_a_all_m5) fun ⟨r1, r2, r3⟩ =>
  (some (r1, r2, r3))
theorem d_Mo_leave_0 : decode prog_12_method_23_code 0 = .ok (.aload_n 0, 1) := by decide +kernel
theorem d_Mo_leave_1 : decode prog_12_method_23_code 1 = .ok (.dup, 1) := by decide +kernel
theorem d_Mo_leave_2 : decode prog_12_method_23_code 2 = .ok (.getfield 282, 3) := by decide +kernel
theorem d_Mo_leave_5 : decode prog_12_method_23_code 5 = .ok (.iconst 1, 1) := by decide +kernel
theorem d_Mo_leave_6 : decode prog_12_method_23_code 6 = .ok (.isub, 1) := by decide +kernel
theorem d_Mo_leave_7 : decode prog_12_method_23_code 7 = .ok (.putfield 282, 3) := by decide +kernel
theorem d_Mo_leave_10 : decode prog_12_method_23_code 10 = .ok (.aload_n 0, 1) := by decide +kernel
theorem d_Mo_leave_11 : decode prog_12_method_23_code 11 = .ok (.iload_n 1, 1) := by decide +kernel
theorem d_Mo_leave_12 : decode prog_12_method_23_code 12 = .ok (.invokevirtual 285, 3) := by decide +kernel
theorem d_Mo_leave_15 : decode prog_12_method_23_code 15 = .ok (.ireturn, 1) := by decide +kernel
set_option maxHeartbeats 4000000 in
set_option maxRecDepth 100000 in
theorem c_Mo_leave (l : Launch) (D : va_G) (cI cB cJ cS : ClassId) (h0 : Nat) (am : Nat → Nat) (a_all_m5 : Nat) (p1 : Int32) (known_h0 : Int32) (thrown_h0 : Int32) (wrong_h0 : Int32) (lastEnd_h0 : Int32) (at_h0 : Int32) (bad_h0 : Int32) (levels_h0 : Int32) (least_h0 : Int32) (found_h0 : Int32) (size_m5 : Int32) (n_a_all_m5 : Nat) (b_a_all_m5 : Nat → Int32) (ret : Int32) (o_0_17 : Int32) (o_0_18 : Int32) (h : F_Mo_leave p1 known_h0 thrown_h0 wrong_h0 lastEnd_h0 at_h0 bad_h0 levels_h0 least_h0 found_h0 size_m5 n_a_all_m5 b_a_all_m5 = some (ret, o_0_17, o_0_18)) : Ct l D (gT cI cB cJ cS) y_Mo_leave prog_12_method_23_code 2 (Option.some Jvm.ClassFile.FieldType.boolean) 3 62 0 0 [.ref h0, .int p1] [(h0, .inr (9, moF am known_h0 thrown_h0 wrong_h0 lastEnd_h0 at_h0 bad_h0 levels_h0 least_h0 found_h0)), ((am 5), .inr (8, [.ref a_all_m5, .int size_m5])), (a_all_m5, .inl (cI, n_a_all_m5, .inl b_a_all_m5))] (fun v w => v = some (.int ret) ∧ zb ret ∧ w = [(h0, .inr (9, moF am known_h0 thrown_h0 wrong_h0 lastEnd_h0 o_0_17 o_0_18 (levels_h0 - 1) least_h0 found_h0)), ((am 5), .inr (8, [.ref a_all_m5, .int size_m5])), (a_all_m5, .inl (cI, n_a_all_m5, .inl b_a_all_m5))]) := by
  refine Ct.mk (by decide) (Nat.le_of_ble_eq_true rfl) ?_
  intro p e s m below meth c hr hnm
  refine j_norm (pc' := 0) (lv' := [(0, .ref h0), (1, .int p1)]) (st' := []) (ws' := [(h0, .inr (9, moF am known_h0 thrown_h0 wrong_h0 lastEnd_h0 at_h0 bad_h0 levels_h0 least_h0 found_h0)), ((am 5), .inr (8, [.ref a_all_m5, .int size_m5])), (a_all_m5, .inl (cI, n_a_all_m5, .inl b_a_all_m5))]) (cl' := 0) (sl' := 0) rfl rfl rfl rfl rfl rfl ?_
  unfold F_Mo_leave at h
  refine j_aload_n d_Mo_leave_0 rfl 0 rfl ?_
  refine j_dup rfl d_Mo_leave_1 ?_
  refine j_get ig_Mo rfl 0 rfl 19 (by decide) rfl m_1132 rfl d_Mo_leave_2 ?_
  refine j_iconst (v := 1) d_Mo_leave_5 (by decide) ?_
  refine j_isub d_Mo_leave_6 ?_
  refine j_put (ws' := [(h0, .inr (9, moF am known_h0 thrown_h0 wrong_h0 lastEnd_h0 at_h0 bad_h0 (levels_h0 - 1) least_h0 found_h0)), ((am 5), .inr (8, [.ref a_all_m5, .int size_m5])), (a_all_m5, .inl (cI, n_a_all_m5, .inl b_a_all_m5))]) ig_Mo tk_Mo nm_Mo rfl 0 rfl 19 (by decide) rfl m_1132 rfl (tk_Mo 19 (by decide)) rfl rfl (Nat.le_of_ble_eq_true rfl) d_Mo_leave_7 rfl ?_
  refine j_aload_n d_Mo_leave_10 rfl 0 rfl ?_
  refine j_iload_n d_Mo_leave_11 rfl 1 rfl ?_
  replace h := bd_s h
  obtain ⟨⟨r1, r2, r3⟩, k5, h⟩ := h
  refine j_callV (n := 1) (As := [.int p1]) (rest := []) (wr := []) (c_Mo_take l D cI cB cJ cS h0 am a_all_m5 p1 known_h0 thrown_h0 wrong_h0 lastEnd_h0 at_h0 bad_h0 (levels_h0 - 1) least_h0 found_h0 size_m5 n_a_all_m5 b_a_all_m5  r1 r2 r3 k5) k_Mo_285 (by decide) ⟨Nat.le_of_ble_eq_true rfl, Nat.le_of_ble_eq_true rfl⟩ rfl 0 rfl [0, 1, 2] [] rfl (by decide) rfl (by decide) (by decide) rfl rfl (Nat.le_of_ble_eq_true rfl) d_Mo_leave_12 ⟨Nat.le_of_ble_eq_true rfl, Nat.le_of_ble_eq_true rfl⟩ (fun v w hq => ?_)
  obtain ⟨rfl, z4, rfl⟩ := hq
  refine j_norm (pc' := 15) (st' := [.int r1]) (ws' := [(h0, .inr (9, moF am known_h0 thrown_h0 wrong_h0 lastEnd_h0 r2 r3 (levels_h0 - 1) least_h0 found_h0)), ((am 5), .inr (8, [.ref a_all_m5, .int size_m5])), (a_all_m5, .inl (cI, n_a_all_m5, .inl b_a_all_m5))]) (cl' := 0) (sl' := 0) rfl rfl rfl rfl rfl rfl ?_
  replace h := Option.some.inj h
  replace h := Prod.mk.inj h
  obtain ⟨h9, h⟩ := h
  subst h9
  replace h := Prod.mk.inj h
  obtain ⟨h9, h⟩ := h
  subst h9
  subst h
  exact j_zret (w := [(h0, .inr (9, moF am known_h0 thrown_h0 wrong_h0 lastEnd_h0 r2 r3 (levels_h0 - 1) least_h0 found_h0)), ((am 5), .inr (8, [.ref a_all_m5, .int size_m5])), (a_all_m5, .inl (cI, n_a_all_m5, .inl b_a_all_m5))]) hr (zb_n z4) d_Mo_leave_15 [0, 1, 2] rfl (by decide) ⟨rfl, z4, rfl⟩
noncomputable def F_Mo_push (p1 : Int32) (p2 : Int32) (known_h0 : Int32) (thrown_h0 : Int32) (wrong_h0 : Int32) (lastEnd_h0 : Int32) (at_h0 : Int32) (bad_h0 : Int32) (levels_h0 : Int32) (least_h0 : Int32) (found_h0 : Int32) (size_m20 : Int32) (n_a_all_m20 : Nat) (b_a_all_m20 : Nat → Int32) : Option ((Nat × (Nat → Int32)) × Nat × Nat) :=
  bw (F_Nm_add p1 size_m20 n_a_all_m20 b_a_all_m20) fun ⟨r1, r2⟩ =>
  bw (F_Nm_add 0 (size_m20 + 1) r1 r2) fun ⟨r9, r10⟩ =>
  bw (F_Nm_add 0 ((size_m20 + 1) + 1) r9 r10) fun ⟨r17, r18⟩ =>
  bw (F_Nm_add 0 (((size_m20 + 1) + 1) + 1) r17 r18) fun ⟨r25, r26⟩ =>
  bw (F_Nm_add p2 ((((size_m20 + 1) + 1) + 1) + 1) r25 r26) fun ⟨r33, r34⟩ =>
  (some ((r33, r34), 0, 0))
theorem d_Mo_push_0 : decode prog_12_method_24_code 0 = .ok (.aload_n 0, 1) := by decide +kernel
theorem d_Mo_push_1 : decode prog_12_method_24_code 1 = .ok (.getfield 142, 3) := by decide +kernel
theorem d_Mo_push_4 : decode prog_12_method_24_code 4 = .ok (.iload_n 1, 1) := by decide +kernel
theorem d_Mo_push_5 : decode prog_12_method_24_code 5 = .ok (.invokevirtual 200, 3) := by decide +kernel
theorem d_Mo_push_8 : decode prog_12_method_24_code 8 = .ok (.aload_n 0, 1) := by decide +kernel
theorem d_Mo_push_9 : decode prog_12_method_24_code 9 = .ok (.getfield 142, 3) := by decide +kernel
theorem d_Mo_push_12 : decode prog_12_method_24_code 12 = .ok (.iconst 0, 1) := by decide +kernel
theorem d_Mo_push_13 : decode prog_12_method_24_code 13 = .ok (.invokevirtual 200, 3) := by decide +kernel
theorem d_Mo_push_16 : decode prog_12_method_24_code 16 = .ok (.aload_n 0, 1) := by decide +kernel
theorem d_Mo_push_17 : decode prog_12_method_24_code 17 = .ok (.getfield 142, 3) := by decide +kernel
theorem d_Mo_push_20 : decode prog_12_method_24_code 20 = .ok (.iconst 0, 1) := by decide +kernel
theorem d_Mo_push_21 : decode prog_12_method_24_code 21 = .ok (.invokevirtual 200, 3) := by decide +kernel
theorem d_Mo_push_24 : decode prog_12_method_24_code 24 = .ok (.aload_n 0, 1) := by decide +kernel
theorem d_Mo_push_25 : decode prog_12_method_24_code 25 = .ok (.getfield 142, 3) := by decide +kernel
theorem d_Mo_push_28 : decode prog_12_method_24_code 28 = .ok (.iconst 0, 1) := by decide +kernel
theorem d_Mo_push_29 : decode prog_12_method_24_code 29 = .ok (.invokevirtual 200, 3) := by decide +kernel
theorem d_Mo_push_32 : decode prog_12_method_24_code 32 = .ok (.aload_n 0, 1) := by decide +kernel
theorem d_Mo_push_33 : decode prog_12_method_24_code 33 = .ok (.getfield 142, 3) := by decide +kernel
theorem d_Mo_push_36 : decode prog_12_method_24_code 36 = .ok (.iload_n 2, 1) := by decide +kernel
theorem d_Mo_push_37 : decode prog_12_method_24_code 37 = .ok (.invokevirtual 200, 3) := by decide +kernel
theorem d_Mo_push_40 : decode prog_12_method_24_code 40 = .ok (.return_, 1) := by decide +kernel
set_option maxHeartbeats 4000000 in
set_option maxRecDepth 100000 in
theorem c_Mo_push (l : Launch) (D : va_G) (cI cB cJ cS : ClassId) (h0 : Nat) (am : Nat → Nat) (a_all_m20 : Nat) (p1 : Int32) (p2 : Int32) (known_h0 : Int32) (thrown_h0 : Int32) (wrong_h0 : Int32) (lastEnd_h0 : Int32) (at_h0 : Int32) (bad_h0 : Int32) (levels_h0 : Int32) (least_h0 : Int32) (found_h0 : Int32) (size_m20 : Int32) (n_a_all_m20 : Nat) (b_a_all_m20 : Nat → Int32) (on_nq_1_0 : Nat) (ob_nq_1_0 : Nat → Int32) (mc ms : Nat) (h : F_Mo_push p1 p2 known_h0 thrown_h0 wrong_h0 lastEnd_h0 at_h0 bad_h0 levels_h0 least_h0 found_h0 size_m20 n_a_all_m20 b_a_all_m20 = some ((on_nq_1_0, ob_nq_1_0), mc, ms)) : Ct l D (gT cI cB cJ cS) y_Mo_push prog_12_method_24_code 3 (Option.none : Option Jvm.ClassFile.FieldType) 1 23 mc ms [.ref h0, .int p1, .int p2] [(h0, .inr (9, moF am known_h0 thrown_h0 wrong_h0 lastEnd_h0 at_h0 bad_h0 levels_h0 least_h0 found_h0)), ((am 20), .inr (8, [.ref a_all_m20, .int size_m20])), (a_all_m20, .inl (cI, n_a_all_m20, .inl b_a_all_m20))] (fun v w => ∃ nq_1_0 : Nat, v = none ∧ w = [(h0, .inr (9, moF am known_h0 thrown_h0 wrong_h0 lastEnd_h0 at_h0 bad_h0 levels_h0 least_h0 found_h0)), ((am 20), .inr (8, [.ref nq_1_0, .int (((((size_m20 + 1) + 1) + 1) + 1) + 1)])), (nq_1_0, .inl (cI, on_nq_1_0, .inl ob_nq_1_0))]) := by
  refine Ct.mk (by decide) (Nat.le_of_ble_eq_true rfl) ?_
  intro p e s m below meth c hr hnm
  refine j_norm (pc' := 0) (lv' := [(0, .ref h0), (1, .int p1), (2, .int p2)]) (st' := []) (ws' := [(h0, .inr (9, moF am known_h0 thrown_h0 wrong_h0 lastEnd_h0 at_h0 bad_h0 levels_h0 least_h0 found_h0)), ((am 20), .inr (8, [.ref a_all_m20, .int size_m20])), (a_all_m20, .inl (cI, n_a_all_m20, .inl b_a_all_m20))]) (cl' := 0) (sl' := 0) rfl rfl rfl rfl rfl rfl ?_
  unfold F_Mo_push at h
  have hC : 0 + mc ≤ mc := by omega
  have hS : 0 + ms ≤ ms := by omega
  refine j_aload_n d_Mo_push_0 rfl 0 rfl ?_
  refine j_get ig_Mo rfl 0 rfl 20 (by decide) rfl m_1133 rfl d_Mo_push_1 ?_
  refine j_iload_n d_Mo_push_4 rfl 1 rfl ?_
  replace h := bw_s h
  obtain ⟨⟨r1, r2⟩, C4, S5, C6, S7, k8, h, e1, e2⟩ := h
  replace hC : 0 + C4 + C6 ≤ mc := by omega
  replace hS : 0 + S5 + S7 ≤ ms := by omega
  clear e1 e2
  refine j_callV (n := 1) (As := [.int p1]) (rest := []) (wr := [(h0, .inr (9, moF am known_h0 thrown_h0 wrong_h0 lastEnd_h0 at_h0 bad_h0 levels_h0 least_h0 found_h0))]) (c_Nm_add l D cI cB cJ cS (am 20) a_all_m20 p1 size_m20 n_a_all_m20 b_a_all_m20  r1 r2 C4 S5 k8) k_Mo_200 (by decide) ⟨Nat.le_of_ble_eq_true rfl, Nat.le_of_ble_eq_true rfl⟩ rfl 0 rfl [1, 2] [0] rfl (by decide) rfl (by decide) (by decide) rfl rfl (Nat.le_of_ble_eq_true rfl) d_Mo_push_5 ⟨show 0 + C4 ≤ mc by omega, show 0 + S5 ≤ ms by omega⟩ (fun v w hq => ?_)
  obtain ⟨q3, rfl, rfl⟩ := hq
  refine j_norm (pc' := 8) (st' := []) (ws' := [(h0, .inr (9, moF am known_h0 thrown_h0 wrong_h0 lastEnd_h0 at_h0 bad_h0 levels_h0 least_h0 found_h0)), ((am 20), .inr (8, [.ref q3, .int (size_m20 + 1)])), (q3, .inl (cI, r1, .inl r2))]) (cl' := 0 + C4) (sl' := 0 + S5) rfl rfl rfl rfl rfl rfl ?_
  refine j_aload_n d_Mo_push_8 rfl 0 rfl ?_
  refine j_get ig_Mo rfl 0 rfl 20 (by decide) rfl m_1133 rfl d_Mo_push_9 ?_
  refine j_iconst (v := 0) d_Mo_push_12 (by decide) ?_
  replace h := bw_s h
  obtain ⟨⟨r9, r10⟩, C12, S13, C14, S15, k16, h, e1, e2⟩ := h
  replace hC : 0 + C4 + C12 + C14 ≤ mc := by omega
  replace hS : 0 + S5 + S13 + S15 ≤ ms := by omega
  clear e1 e2
  refine j_callV (n := 1) (As := [.int 0]) (rest := []) (wr := [(h0, .inr (9, moF am known_h0 thrown_h0 wrong_h0 lastEnd_h0 at_h0 bad_h0 levels_h0 least_h0 found_h0))]) (c_Nm_add l D cI cB cJ cS (am 20) q3 0 (size_m20 + 1) r1 r2  r9 r10 C12 S13 k16) k_Mo_200 (by decide) ⟨Nat.le_of_ble_eq_true rfl, Nat.le_of_ble_eq_true rfl⟩ rfl 0 rfl [1, 2] [0] rfl (by decide) rfl (by decide) (by decide) rfl rfl (Nat.le_of_ble_eq_true rfl) d_Mo_push_13 ⟨show 0 + C4 + C12 ≤ mc by omega, show 0 + S5 + S13 ≤ ms by omega⟩ (fun v w hq => ?_)
  obtain ⟨q11, rfl, rfl⟩ := hq
  refine j_norm (pc' := 16) (st' := []) (ws' := [(h0, .inr (9, moF am known_h0 thrown_h0 wrong_h0 lastEnd_h0 at_h0 bad_h0 levels_h0 least_h0 found_h0)), ((am 20), .inr (8, [.ref q11, .int ((size_m20 + 1) + 1)])), (q11, .inl (cI, r9, .inl r10))]) (cl' := 0 + C4 + C12) (sl' := 0 + S5 + S13) rfl rfl rfl rfl rfl rfl ?_
  refine j_aload_n d_Mo_push_16 rfl 0 rfl ?_
  refine j_get ig_Mo rfl 0 rfl 20 (by decide) rfl m_1133 rfl d_Mo_push_17 ?_
  refine j_iconst (v := 0) d_Mo_push_20 (by decide) ?_
  replace h := bw_s h
  obtain ⟨⟨r17, r18⟩, C20, S21, C22, S23, k24, h, e1, e2⟩ := h
  replace hC : 0 + C4 + C12 + C20 + C22 ≤ mc := by omega
  replace hS : 0 + S5 + S13 + S21 + S23 ≤ ms := by omega
  clear e1 e2
  refine j_callV (n := 1) (As := [.int 0]) (rest := []) (wr := [(h0, .inr (9, moF am known_h0 thrown_h0 wrong_h0 lastEnd_h0 at_h0 bad_h0 levels_h0 least_h0 found_h0))]) (c_Nm_add l D cI cB cJ cS (am 20) q11 0 ((size_m20 + 1) + 1) r9 r10  r17 r18 C20 S21 k24) k_Mo_200 (by decide) ⟨Nat.le_of_ble_eq_true rfl, Nat.le_of_ble_eq_true rfl⟩ rfl 0 rfl [1, 2] [0] rfl (by decide) rfl (by decide) (by decide) rfl rfl (Nat.le_of_ble_eq_true rfl) d_Mo_push_21 ⟨show 0 + C4 + C12 + C20 ≤ mc by omega, show 0 + S5 + S13 + S21 ≤ ms by omega⟩ (fun v w hq => ?_)
  obtain ⟨q19, rfl, rfl⟩ := hq
  refine j_norm (pc' := 24) (st' := []) (ws' := [(h0, .inr (9, moF am known_h0 thrown_h0 wrong_h0 lastEnd_h0 at_h0 bad_h0 levels_h0 least_h0 found_h0)), ((am 20), .inr (8, [.ref q19, .int (((size_m20 + 1) + 1) + 1)])), (q19, .inl (cI, r17, .inl r18))]) (cl' := 0 + C4 + C12 + C20) (sl' := 0 + S5 + S13 + S21) rfl rfl rfl rfl rfl rfl ?_
  refine j_aload_n d_Mo_push_24 rfl 0 rfl ?_
  refine j_get ig_Mo rfl 0 rfl 20 (by decide) rfl m_1133 rfl d_Mo_push_25 ?_
  refine j_iconst (v := 0) d_Mo_push_28 (by decide) ?_
  replace h := bw_s h
  obtain ⟨⟨r25, r26⟩, C28, S29, C30, S31, k32, h, e1, e2⟩ := h
  replace hC : 0 + C4 + C12 + C20 + C28 + C30 ≤ mc := by omega
  replace hS : 0 + S5 + S13 + S21 + S29 + S31 ≤ ms := by omega
  clear e1 e2
  refine j_callV (n := 1) (As := [.int 0]) (rest := []) (wr := [(h0, .inr (9, moF am known_h0 thrown_h0 wrong_h0 lastEnd_h0 at_h0 bad_h0 levels_h0 least_h0 found_h0))]) (c_Nm_add l D cI cB cJ cS (am 20) q19 0 (((size_m20 + 1) + 1) + 1) r17 r18  r25 r26 C28 S29 k32) k_Mo_200 (by decide) ⟨Nat.le_of_ble_eq_true rfl, Nat.le_of_ble_eq_true rfl⟩ rfl 0 rfl [1, 2] [0] rfl (by decide) rfl (by decide) (by decide) rfl rfl (Nat.le_of_ble_eq_true rfl) d_Mo_push_29 ⟨show 0 + C4 + C12 + C20 + C28 ≤ mc by omega, show 0 + S5 + S13 + S21 + S29 ≤ ms by omega⟩ (fun v w hq => ?_)
  obtain ⟨q27, rfl, rfl⟩ := hq
  refine j_norm (pc' := 32) (st' := []) (ws' := [(h0, .inr (9, moF am known_h0 thrown_h0 wrong_h0 lastEnd_h0 at_h0 bad_h0 levels_h0 least_h0 found_h0)), ((am 20), .inr (8, [.ref q27, .int ((((size_m20 + 1) + 1) + 1) + 1)])), (q27, .inl (cI, r25, .inl r26))]) (cl' := 0 + C4 + C12 + C20 + C28) (sl' := 0 + S5 + S13 + S21 + S29) rfl rfl rfl rfl rfl rfl ?_
  refine j_aload_n d_Mo_push_32 rfl 0 rfl ?_
  refine j_get ig_Mo rfl 0 rfl 20 (by decide) rfl m_1133 rfl d_Mo_push_33 ?_
  refine j_iload_n d_Mo_push_36 rfl 2 rfl ?_
  replace h := bw_s h
  obtain ⟨⟨r33, r34⟩, C36, S37, C38, S39, k40, h, e1, e2⟩ := h
  replace hC : 0 + C4 + C12 + C20 + C28 + C36 + C38 ≤ mc := by omega
  replace hS : 0 + S5 + S13 + S21 + S29 + S37 + S39 ≤ ms := by omega
  clear e1 e2
  refine j_callV (n := 1) (As := [.int p2]) (rest := []) (wr := [(h0, .inr (9, moF am known_h0 thrown_h0 wrong_h0 lastEnd_h0 at_h0 bad_h0 levels_h0 least_h0 found_h0))]) (c_Nm_add l D cI cB cJ cS (am 20) q27 p2 ((((size_m20 + 1) + 1) + 1) + 1) r25 r26  r33 r34 C36 S37 k40) k_Mo_200 (by decide) ⟨Nat.le_of_ble_eq_true rfl, Nat.le_of_ble_eq_true rfl⟩ rfl 0 rfl [1, 2] [0] rfl (by decide) rfl (by decide) (by decide) rfl rfl (Nat.le_of_ble_eq_true rfl) d_Mo_push_37 ⟨show 0 + C4 + C12 + C20 + C28 + C36 ≤ mc by omega, show 0 + S5 + S13 + S21 + S29 + S37 ≤ ms by omega⟩ (fun v w hq => ?_)
  obtain ⟨q35, rfl, rfl⟩ := hq
  refine j_norm (pc' := 40) (st' := []) (ws' := [(h0, .inr (9, moF am known_h0 thrown_h0 wrong_h0 lastEnd_h0 at_h0 bad_h0 levels_h0 least_h0 found_h0)), ((am 20), .inr (8, [.ref q35, .int (((((size_m20 + 1) + 1) + 1) + 1) + 1)])), (q35, .inl (cI, r33, .inl r34))]) (cl' := 0 + C4 + C12 + C20 + C28 + C36) (sl' := 0 + S5 + S13 + S21 + S29 + S37) rfl rfl rfl rfl rfl rfl ?_
  replace h := lf_s h
  obtain ⟨h, e1, e2⟩ := h
  replace h := Prod.mk.inj h
  obtain ⟨h9, h⟩ := h
  subst h9
  subst h
  refine j_widen (cl' := mc) (sl' := ms) (by omega) (by omega) ?_
  exact j_vret (w := [(h0, .inr (9, moF am known_h0 thrown_h0 wrong_h0 lastEnd_h0 at_h0 bad_h0 levels_h0 least_h0 found_h0)), ((am 20), .inr (8, [.ref q35, .int (((((size_m20 + 1) + 1) + 1) + 1) + 1)])), (q35, .inl (cI, r33, .inl r34))]) hr d_Mo_push_40 [0, 1, 2] rfl (by decide) ⟨q35, rfl, rfl⟩
def F_Mo_top (p1 : Int32) (known_h0 : Int32) (thrown_h0 : Int32) (wrong_h0 : Int32) (lastEnd_h0 : Int32) (at_h0 : Int32) (bad_h0 : Int32) (levels_h0 : Int32) (least_h0 : Int32) (found_h0 : Int32) (size_m20 : Int32) (n_a_all_m20 : Nat) (b_a_all_m20 : Nat → Int32) : Option (Unit) :=
  Option.bind (F_Nm_at ((size_m20 - 5) + p1) size_m20 n_a_all_m20 b_a_all_m20) fun _ =>
  (some ())
theorem d_Mo_top_0 : decode prog_12_method_25_code 0 = .ok (.aload_n 0, 1) := by decide +kernel
theorem d_Mo_top_1 : decode prog_12_method_25_code 1 = .ok (.getfield 142, 3) := by decide +kernel
theorem d_Mo_top_4 : decode prog_12_method_25_code 4 = .ok (.aload_n 0, 1) := by decide +kernel
theorem d_Mo_top_5 : decode prog_12_method_25_code 5 = .ok (.getfield 142, 3) := by decide +kernel
theorem d_Mo_top_8 : decode prog_12_method_25_code 8 = .ok (.getfield 204, 3) := by decide +kernel
theorem d_Mo_top_11 : decode prog_12_method_25_code 11 = .ok (.iconst 5, 1) := by decide +kernel
theorem d_Mo_top_12 : decode prog_12_method_25_code 12 = .ok (.isub, 1) := by decide +kernel
theorem d_Mo_top_13 : decode prog_12_method_25_code 13 = .ok (.iload_n 1, 1) := by decide +kernel
theorem d_Mo_top_14 : decode prog_12_method_25_code 14 = .ok (.iadd, 1) := by decide +kernel
theorem d_Mo_top_15 : decode prog_12_method_25_code 15 = .ok (.invokevirtual 214, 3) := by decide +kernel
theorem d_Mo_top_18 : decode prog_12_method_25_code 18 = .ok (.ireturn, 1) := by decide +kernel
set_option maxHeartbeats 4000000 in
set_option maxRecDepth 100000 in
theorem c_Mo_top (l : Launch) (D : va_G) (cI cB cJ cS : ClassId) (h0 : Nat) (am : Nat → Nat) (a_all_m20 : Nat) (p1 : Int32) (known_h0 : Int32) (thrown_h0 : Int32) (wrong_h0 : Int32) (lastEnd_h0 : Int32) (at_h0 : Int32) (bad_h0 : Int32) (levels_h0 : Int32) (least_h0 : Int32) (found_h0 : Int32) (size_m20 : Int32) (n_a_all_m20 : Nat) (b_a_all_m20 : Nat → Int32) (h : F_Mo_top p1 known_h0 thrown_h0 wrong_h0 lastEnd_h0 at_h0 bad_h0 levels_h0 least_h0 found_h0 size_m20 n_a_all_m20 b_a_all_m20 = some ()) : Ct l D (gT cI cB cJ cS) y_Mo_top prog_12_method_25_code 2 (Option.some Jvm.ClassFile.FieldType.int) 1 21 0 0 [.ref h0, .int p1] [(h0, .inr (9, moF am known_h0 thrown_h0 wrong_h0 lastEnd_h0 at_h0 bad_h0 levels_h0 least_h0 found_h0)), ((am 20), .inr (8, [.ref a_all_m20, .int size_m20])), (a_all_m20, .inl (cI, n_a_all_m20, .inl b_a_all_m20))] (fun v w => v = some (.int (b_a_all_m20 (Int32.toNatClampNeg ((size_m20 - 5) + p1)))) ∧ w = [(h0, .inr (9, moF am known_h0 thrown_h0 wrong_h0 lastEnd_h0 at_h0 bad_h0 levels_h0 least_h0 found_h0)), ((am 20), .inr (8, [.ref a_all_m20, .int size_m20])), (a_all_m20, .inl (cI, n_a_all_m20, .inl b_a_all_m20))]) := by
  refine Ct.mk (by decide) (Nat.le_of_ble_eq_true rfl) ?_
  intro p e s m below meth c hr hnm
  refine j_norm (pc' := 0) (lv' := [(0, .ref h0), (1, .int p1)]) (st' := []) (ws' := [(h0, .inr (9, moF am known_h0 thrown_h0 wrong_h0 lastEnd_h0 at_h0 bad_h0 levels_h0 least_h0 found_h0)), ((am 20), .inr (8, [.ref a_all_m20, .int size_m20])), (a_all_m20, .inl (cI, n_a_all_m20, .inl b_a_all_m20))]) (cl' := 0) (sl' := 0) rfl rfl rfl rfl rfl rfl ?_
  unfold F_Mo_top at h
  refine j_aload_n d_Mo_top_0 rfl 0 rfl ?_
  refine j_get ig_Mo rfl 0 rfl 20 (by decide) rfl m_1133 rfl d_Mo_top_1 ?_
  refine j_aload_n d_Mo_top_4 rfl 0 rfl ?_
  refine j_get ig_Mo rfl 0 rfl 20 (by decide) rfl m_1133 rfl d_Mo_top_5 ?_
  refine j_getN ig_Nm rfl 1 rfl 1 (by decide) rfl mn_13 rfl d_Mo_top_8 ?_
  refine j_iconst (v := 5) d_Mo_top_11 (by decide) ?_
  refine j_isub d_Mo_top_12 ?_
  refine j_iload_n d_Mo_top_13 rfl 1 rfl ?_
  refine j_iadd d_Mo_top_14 ?_
  replace h := bd_s h
  obtain ⟨_, k1, h⟩ := h
  refine j_callV (n := 1) (As := [.int ((size_m20 - 5) + p1)]) (rest := []) (wr := [(h0, .inr (9, moF am known_h0 thrown_h0 wrong_h0 lastEnd_h0 at_h0 bad_h0 levels_h0 least_h0 found_h0))]) (c_Nm_at l D cI cB cJ cS (am 20) a_all_m20 ((size_m20 - 5) + p1) size_m20 n_a_all_m20 b_a_all_m20  k1) k_Mo_214 (by decide) ⟨Nat.le_of_ble_eq_true rfl, Nat.le_of_ble_eq_true rfl⟩ rfl 0 rfl [1, 2] [0] rfl (by decide) rfl (by decide) (by decide) rfl rfl (Nat.le_of_ble_eq_true rfl) d_Mo_top_15 ⟨Nat.le_of_ble_eq_true rfl, Nat.le_of_ble_eq_true rfl⟩ (fun v w hq => ?_)
  obtain ⟨rfl, rfl⟩ := hq
  refine j_norm (pc' := 18) (st' := [.int (b_a_all_m20 (Int32.toNatClampNeg ((size_m20 - 5) + p1)))]) (ws' := [(h0, .inr (9, moF am known_h0 thrown_h0 wrong_h0 lastEnd_h0 at_h0 bad_h0 levels_h0 least_h0 found_h0)), ((am 20), .inr (8, [.ref a_all_m20, .int size_m20])), (a_all_m20, .inl (cI, n_a_all_m20, .inl b_a_all_m20))]) (cl' := 0) (sl' := 0) rfl rfl rfl rfl rfl rfl ?_
  replace h := Option.some.inj h
  exact j_iret (w := [(h0, .inr (9, moF am known_h0 thrown_h0 wrong_h0 lastEnd_h0 at_h0 bad_h0 levels_h0 least_h0 found_h0)), ((am 20), .inr (8, [.ref a_all_m20, .int size_m20])), (a_all_m20, .inl (cI, n_a_all_m20, .inl b_a_all_m20))]) hr d_Mo_top_18 [0, 1, 2] rfl (by decide) ⟨rfl, rfl⟩
def F_Mo_setTop (p1 : Int32) (p2 : Int32) (known_h0 : Int32) (thrown_h0 : Int32) (wrong_h0 : Int32) (lastEnd_h0 : Int32) (at_h0 : Int32) (bad_h0 : Int32) (levels_h0 : Int32) (least_h0 : Int32) (found_h0 : Int32) (size_m20 : Int32) (n_a_all_m20 : Nat) (b_a_all_m20 : Nat → Int32) : Option (Unit) :=
  inb ((size_m20 - 5) + p1) n_a_all_m20 (some ())
theorem d_Mo_setTop_0 : decode prog_12_method_26_code 0 = .ok (.aload_n 0, 1) := by decide +kernel
theorem d_Mo_setTop_1 : decode prog_12_method_26_code 1 = .ok (.getfield 142, 3) := by decide +kernel
theorem d_Mo_setTop_4 : decode prog_12_method_26_code 4 = .ok (.getfield 288, 3) := by decide +kernel
theorem d_Mo_setTop_7 : decode prog_12_method_26_code 7 = .ok (.aload_n 0, 1) := by decide +kernel
theorem d_Mo_setTop_8 : decode prog_12_method_26_code 8 = .ok (.getfield 142, 3) := by decide +kernel
theorem d_Mo_setTop_11 : decode prog_12_method_26_code 11 = .ok (.getfield 204, 3) := by decide +kernel
theorem d_Mo_setTop_14 : decode prog_12_method_26_code 14 = .ok (.iconst 5, 1) := by decide +kernel
theorem d_Mo_setTop_15 : decode prog_12_method_26_code 15 = .ok (.isub, 1) := by decide +kernel
theorem d_Mo_setTop_16 : decode prog_12_method_26_code 16 = .ok (.iload_n 1, 1) := by decide +kernel
theorem d_Mo_setTop_17 : decode prog_12_method_26_code 17 = .ok (.iadd, 1) := by decide +kernel
theorem d_Mo_setTop_18 : decode prog_12_method_26_code 18 = .ok (.iload_n 2, 1) := by decide +kernel
theorem d_Mo_setTop_19 : decode prog_12_method_26_code 19 = .ok (.iastore, 1) := by decide +kernel
theorem d_Mo_setTop_20 : decode prog_12_method_26_code 20 = .ok (.return_, 1) := by decide +kernel
set_option maxHeartbeats 4000000 in
set_option maxRecDepth 100000 in
theorem c_Mo_setTop (l : Launch) (D : va_G) (cI cB cJ cS : ClassId) (h0 : Nat) (am : Nat → Nat) (a_all_m20 : Nat) (p1 : Int32) (p2 : Int32) (known_h0 : Int32) (thrown_h0 : Int32) (wrong_h0 : Int32) (lastEnd_h0 : Int32) (at_h0 : Int32) (bad_h0 : Int32) (levels_h0 : Int32) (least_h0 : Int32) (found_h0 : Int32) (size_m20 : Int32) (n_a_all_m20 : Nat) (b_a_all_m20 : Nat → Int32) (h : F_Mo_setTop p1 p2 known_h0 thrown_h0 wrong_h0 lastEnd_h0 at_h0 bad_h0 levels_h0 least_h0 found_h0 size_m20 n_a_all_m20 b_a_all_m20 = some ()) : Ct l D (gT cI cB cJ cS) y_Mo_setTop prog_12_method_26_code 3 (Option.none : Option Jvm.ClassFile.FieldType) 0 0 0 0 [.ref h0, .int p1, .int p2] [(h0, .inr (9, moF am known_h0 thrown_h0 wrong_h0 lastEnd_h0 at_h0 bad_h0 levels_h0 least_h0 found_h0)), ((am 20), .inr (8, [.ref a_all_m20, .int size_m20])), (a_all_m20, .inl (cI, n_a_all_m20, .inl b_a_all_m20))] (fun v w => v = none ∧ w = [(h0, .inr (9, moF am known_h0 thrown_h0 wrong_h0 lastEnd_h0 at_h0 bad_h0 levels_h0 least_h0 found_h0)), ((am 20), .inr (8, [.ref a_all_m20, .int size_m20])), (a_all_m20, .inl (cI, n_a_all_m20, .inl (upd b_a_all_m20 (Int32.toNatClampNeg ((size_m20 - 5) + p1)) p2)))]) := by
  refine Ct.mk (by decide) (Nat.le_of_ble_eq_true rfl) ?_
  intro p e s m below meth c hr hnm
  refine j_norm (pc' := 0) (lv' := [(0, .ref h0), (1, .int p1), (2, .int p2)]) (st' := []) (ws' := [(h0, .inr (9, moF am known_h0 thrown_h0 wrong_h0 lastEnd_h0 at_h0 bad_h0 levels_h0 least_h0 found_h0)), ((am 20), .inr (8, [.ref a_all_m20, .int size_m20])), (a_all_m20, .inl (cI, n_a_all_m20, .inl b_a_all_m20))]) (cl' := 0) (sl' := 0) rfl rfl rfl rfl rfl rfl ?_
  unfold F_Mo_setTop at h
  refine j_aload_n d_Mo_setTop_0 rfl 0 rfl ?_
  refine j_get ig_Mo rfl 0 rfl 20 (by decide) rfl m_1133 rfl d_Mo_setTop_1 ?_
  refine j_getN ig_Nm rfl 1 rfl 0 (by decide) rfl mn_12 rfl d_Mo_setTop_4 ?_
  refine j_aload_n d_Mo_setTop_7 rfl 0 rfl ?_
  refine j_get ig_Mo rfl 0 rfl 20 (by decide) rfl m_1133 rfl d_Mo_setTop_8 ?_
  refine j_getN ig_Nm rfl 1 rfl 1 (by decide) rfl mn_13 rfl d_Mo_setTop_11 ?_
  refine j_iconst (v := 5) d_Mo_setTop_14 (by decide) ?_
  refine j_isub d_Mo_setTop_15 ?_
  refine j_iload_n d_Mo_setTop_16 rfl 1 rfl ?_
  refine j_iadd d_Mo_setTop_17 ?_
  refine j_iload_n d_Mo_setTop_18 rfl 2 rfl ?_
  replace h := inb_s h
  obtain ⟨i1, h⟩ := h
  refine j_iast (t0 := 0) (ws' := [(h0, .inr (9, moF am known_h0 thrown_h0 wrong_h0 lastEnd_h0 at_h0 bad_h0 levels_h0 least_h0 found_h0)), ((am 20), .inr (8, [.ref a_all_m20, .int size_m20])), (a_all_m20, .inl (cI, n_a_all_m20, .inl (upd b_a_all_m20 (Int32.toNatClampNeg ((size_m20 - 5) + p1)) p2)))]) 2 rfl rfl i1 d_Mo_setTop_19 rfl ?_
  replace h := Option.some.inj h
  exact j_vret (w := [(h0, .inr (9, moF am known_h0 thrown_h0 wrong_h0 lastEnd_h0 at_h0 bad_h0 levels_h0 least_h0 found_h0)), ((am 20), .inr (8, [.ref a_all_m20, .int size_m20])), (a_all_m20, .inl (cI, n_a_all_m20, .inl (upd b_a_all_m20 (Int32.toNatClampNeg ((size_m20 - 5) + p1)) p2)))]) hr d_Mo_setTop_20 [0, 1, 2] rfl (by decide) ⟨rfl, rfl⟩
def F_Mo_mark_33 (at_h0 : Int32) (bad_h0 : Int32) (size_m20 : Int32) (n_a_all_m20 : Nat) (b_a_all_m20 : Nat → Int32) (v1_33 : Int32) : Option (Int32 × Int32 × (Nat → Int32)) :=
    if v1_33 < 0 then (some (0, at_h0, b_a_all_m20))
    else (Option.bind (F_Nm_at (v1_33 + 1) size_m20 n_a_all_m20 b_a_all_m20) fun _ =>
      if (b_a_all_m20 (Int32.toNatClampNeg (v1_33 + 1))) ≤ 1 then (inb (v1_33 + 2) n_a_all_m20 (some (1, bad_h0, upd b_a_all_m20 (Int32.toNatClampNeg (v1_33 + 2)) 1)))
      else (some (0, at_h0, b_a_all_m20)))
def F_Mo_mark_10 (at_h0 : Int32) (bad_h0 : Int32) (size_m20 : Int32) (n_a_all_m20 : Nat) (b_a_all_m20 : Nat → Int32) : Nat → Int32 → Option (Int32 × Int32 × (Nat → Int32))
  | 0, _ => none
  | k_10 + 1, v1_10 =>
    if v1_10 < 0 then (F_Mo_mark_33 at_h0 bad_h0 size_m20 n_a_all_m20 b_a_all_m20   v1_10)
    else (Option.bind (F_Nm_at v1_10 size_m20 n_a_all_m20 b_a_all_m20) fun _ =>
      if (b_a_all_m20 (Int32.toNatClampNeg v1_10)) = 2 then (F_Mo_mark_33 at_h0 bad_h0 size_m20 n_a_all_m20 b_a_all_m20   v1_10)
      else (F_Mo_mark_10 at_h0 bad_h0 size_m20 n_a_all_m20 b_a_all_m20  k_10 (v1_10 - 5)))
def F_Mo_mark (known_h0 : Int32) (thrown_h0 : Int32) (wrong_h0 : Int32) (lastEnd_h0 : Int32) (at_h0 : Int32) (bad_h0 : Int32) (levels_h0 : Int32) (least_h0 : Int32) (found_h0 : Int32) (size_m20 : Int32) (n_a_all_m20 : Nat) (b_a_all_m20 : Nat → Int32) : Option (Int32 × Int32 × (Nat → Int32)) :=
  F_Mo_mark_10 at_h0 bad_h0 size_m20 n_a_all_m20 b_a_all_m20  FU (size_m20 - 5)
theorem d_Mo_mark_0 : decode prog_12_method_27_code 0 = .ok (.aload_n 0, 1) := by decide +kernel
theorem d_Mo_mark_1 : decode prog_12_method_27_code 1 = .ok (.getfield 142, 3) := by decide +kernel
theorem d_Mo_mark_4 : decode prog_12_method_27_code 4 = .ok (.getfield 204, 3) := by decide +kernel
theorem d_Mo_mark_7 : decode prog_12_method_27_code 7 = .ok (.iconst 5, 1) := by decide +kernel
theorem d_Mo_mark_8 : decode prog_12_method_27_code 8 = .ok (.isub, 1) := by decide +kernel
theorem d_Mo_mark_9 : decode prog_12_method_27_code 9 = .ok (.istore_n 1, 1) := by decide +kernel
theorem d_Mo_mark_10 : decode prog_12_method_27_code 10 = .ok (.iload_n 1, 1) := by decide +kernel
theorem d_Mo_mark_11 : decode prog_12_method_27_code 11 = .ok (.ifCond .lt 22, 3) := by decide +kernel
theorem d_Mo_mark_14 : decode prog_12_method_27_code 14 = .ok (.aload_n 0, 1) := by decide +kernel
theorem d_Mo_mark_15 : decode prog_12_method_27_code 15 = .ok (.getfield 142, 3) := by decide +kernel
theorem d_Mo_mark_18 : decode prog_12_method_27_code 18 = .ok (.iload_n 1, 1) := by decide +kernel
theorem d_Mo_mark_19 : decode prog_12_method_27_code 19 = .ok (.invokevirtual 214, 3) := by decide +kernel
theorem d_Mo_mark_22 : decode prog_12_method_27_code 22 = .ok (.iconst 2, 1) := by decide +kernel
theorem d_Mo_mark_23 : decode prog_12_method_27_code 23 = .ok (.if_icmp .eq 10, 3) := by decide +kernel
theorem d_Mo_mark_26 : decode prog_12_method_27_code 26 = .ok (.iload_n 1, 1) := by decide +kernel
theorem d_Mo_mark_27 : decode prog_12_method_27_code 27 = .ok (.iconst 5, 1) := by decide +kernel
theorem d_Mo_mark_28 : decode prog_12_method_27_code 28 = .ok (.isub, 1) := by decide +kernel
theorem d_Mo_mark_29 : decode prog_12_method_27_code 29 = .ok (.istore_n 1, 1) := by decide +kernel
theorem d_Mo_mark_30 : decode prog_12_method_27_code 30 = .ok (.goto (-20), 3) := by decide +kernel
theorem d_Mo_mark_33 : decode prog_12_method_27_code 33 = .ok (.iload_n 1, 1) := by decide +kernel
theorem d_Mo_mark_34 : decode prog_12_method_27_code 34 = .ok (.ifCond .lt 17, 3) := by decide +kernel
theorem d_Mo_mark_37 : decode prog_12_method_27_code 37 = .ok (.aload_n 0, 1) := by decide +kernel
theorem d_Mo_mark_38 : decode prog_12_method_27_code 38 = .ok (.getfield 142, 3) := by decide +kernel
theorem d_Mo_mark_41 : decode prog_12_method_27_code 41 = .ok (.iload_n 1, 1) := by decide +kernel
theorem d_Mo_mark_42 : decode prog_12_method_27_code 42 = .ok (.iconst 1, 1) := by decide +kernel
theorem d_Mo_mark_43 : decode prog_12_method_27_code 43 = .ok (.iadd, 1) := by decide +kernel
theorem d_Mo_mark_44 : decode prog_12_method_27_code 44 = .ok (.invokevirtual 214, 3) := by decide +kernel
theorem d_Mo_mark_47 : decode prog_12_method_27_code 47 = .ok (.iconst 1, 1) := by decide +kernel
theorem d_Mo_mark_48 : decode prog_12_method_27_code 48 = .ok (.if_icmp .le 8, 3) := by decide +kernel
theorem d_Mo_mark_51 : decode prog_12_method_27_code 51 = .ok (.aload_n 0, 1) := by decide +kernel
theorem d_Mo_mark_52 : decode prog_12_method_27_code 52 = .ok (.invokevirtual 278, 3) := by decide +kernel
theorem d_Mo_mark_55 : decode prog_12_method_27_code 55 = .ok (.ireturn, 1) := by decide +kernel
theorem d_Mo_mark_56 : decode prog_12_method_27_code 56 = .ok (.aload_n 0, 1) := by decide +kernel
theorem d_Mo_mark_57 : decode prog_12_method_27_code 57 = .ok (.getfield 142, 3) := by decide +kernel
theorem d_Mo_mark_60 : decode prog_12_method_27_code 60 = .ok (.getfield 288, 3) := by decide +kernel
theorem d_Mo_mark_63 : decode prog_12_method_27_code 63 = .ok (.iload_n 1, 1) := by decide +kernel
theorem d_Mo_mark_64 : decode prog_12_method_27_code 64 = .ok (.iconst 2, 1) := by decide +kernel
theorem d_Mo_mark_65 : decode prog_12_method_27_code 65 = .ok (.iadd, 1) := by decide +kernel
theorem d_Mo_mark_66 : decode prog_12_method_27_code 66 = .ok (.iconst 1, 1) := by decide +kernel
theorem d_Mo_mark_67 : decode prog_12_method_27_code 67 = .ok (.iastore, 1) := by decide +kernel
theorem d_Mo_mark_68 : decode prog_12_method_27_code 68 = .ok (.iconst 1, 1) := by decide +kernel
theorem d_Mo_mark_69 : decode prog_12_method_27_code 69 = .ok (.ireturn, 1) := by decide +kernel
set_option maxHeartbeats 4000000 in
set_option maxRecDepth 100000 in
theorem L_Mo_mark_33 (l : Launch) (D : va_G) (cI cB cJ cS : ClassId) (h0 : Nat) (am : Nat → Nat) (a_all_m20 : Nat) (known_h0 : Int32) (thrown_h0 : Int32) (wrong_h0 : Int32) (lastEnd_h0 : Int32) (at_h0 : Int32) (bad_h0 : Int32) (levels_h0 : Int32) (least_h0 : Int32) (found_h0 : Int32) (size_m20 : Int32) (n_a_all_m20 : Nat) (b_a_all_m20 : Nat → Int32) (ret : Int32) (o_0_18 : Int32) (ob_2 : Nat → Int32) (p : Program) (e : Env) (s : State) (m : MethodId) (below : List Frame) (meth : Method) (c : Code) (hr : meth.sig.returnType = (Option.some Jvm.ClassFile.FieldType.boolean)) (hnm : meth.name = y_Mo_mark.name) : ∀ (v1_33 : Int32), F_Mo_mark_33 at_h0 bad_h0 size_m20 n_a_all_m20 b_a_all_m20   v1_33 = some (ret, o_0_18, ob_2) → J (KxOf p l e { frames := 1, cells := 0, slots := 0, locals := 21 } s m [.ref h0].toArray below meth c D (gT cI cB cJ cS) [(h0, .inr (9, moF am known_h0 thrown_h0 wrong_h0 lastEnd_h0 at_h0 bad_h0 levels_h0 least_h0 found_h0)), ((am 20), .inr (8, [.ref a_all_m20, .int size_m20])), (a_all_m20, .inl (cI, n_a_all_m20, .inl b_a_all_m20))] (fun v w => v = some (.int ret) ∧ zb ret ∧ w = [(h0, .inr (9, moF am known_h0 thrown_h0 wrong_h0 lastEnd_h0 at_h0 o_0_18 levels_h0 least_h0 found_h0)), ((am 20), .inr (8, [.ref a_all_m20, .int size_m20])), (a_all_m20, .inl (cI, n_a_all_m20, .inl ob_2))]) 0 0) prog_12_method_27_code 2 R_Mo 33 [(1, .int v1_33), (0, .ref h0)] [] [(h0, .inr (9, moF am known_h0 thrown_h0 wrong_h0 lastEnd_h0 at_h0 bad_h0 levels_h0 least_h0 found_h0)), ((am 20), .inr (8, [.ref a_all_m20, .int size_m20])), (a_all_m20, .inl (cI, n_a_all_m20, .inl b_a_all_m20))] 0 0 := by
  intro v1_33 h
  unfold F_Mo_mark_33 at h
  refine j_iload_n d_Mo_mark_33 rfl 0 rfl ?_
  refine j_if_lt (tgt := 51) d_Mo_mark_34 (by decide) (fun c1 => ?_) (fun c1 => ?_)
  · replace h := it_t c1 h
    refine j_aload_n d_Mo_mark_51 rfl 1 rfl ?_
    refine j_callV (n := 0) (As := []) (rest := []) (wr := [((am 20), .inr (8, [.ref a_all_m20, .int size_m20])), (a_all_m20, .inl (cI, n_a_all_m20, .inl b_a_all_m20))]) (c_Mo_fail l D cI cB cJ cS h0 am known_h0 thrown_h0 wrong_h0 lastEnd_h0 at_h0 bad_h0 levels_h0 least_h0 found_h0  ) k_Mo_278 (by decide) ⟨Nat.le_of_ble_eq_true rfl, Nat.le_of_ble_eq_true rfl⟩ rfl 0 rfl [0] [1, 2] rfl (by decide) rfl (by decide) (by decide) rfl rfl (Nat.le_of_ble_eq_true rfl) d_Mo_mark_52 ⟨Nat.le_of_ble_eq_true rfl, Nat.le_of_ble_eq_true rfl⟩ (fun v w hq => ?_)
    obtain ⟨rfl, _, rfl⟩ := hq
    refine j_norm (pc' := 55) (st' := [.int 0]) (ws' := [((am 20), .inr (8, [.ref a_all_m20, .int size_m20])), (a_all_m20, .inl (cI, n_a_all_m20, .inl b_a_all_m20)), (h0, .inr (9, moF am known_h0 thrown_h0 wrong_h0 lastEnd_h0 at_h0 at_h0 levels_h0 least_h0 found_h0))]) (cl' := 0) (sl' := 0) rfl rfl rfl rfl rfl rfl ?_
    replace h := Option.some.inj h
    replace h := Prod.mk.inj h
    obtain ⟨h9, h⟩ := h
    subst h9
    replace h := Prod.mk.inj h
    obtain ⟨h9, h⟩ := h
    subst h9
    subst h
    exact j_zret (w := [(h0, .inr (9, moF am known_h0 thrown_h0 wrong_h0 lastEnd_h0 at_h0 at_h0 levels_h0 least_h0 found_h0)), ((am 20), .inr (8, [.ref a_all_m20, .int size_m20])), (a_all_m20, .inl (cI, n_a_all_m20, .inl b_a_all_m20))]) hr (zb_n zb0) d_Mo_mark_55 [2, 0, 1] rfl (by decide) ⟨rfl, zb0, rfl⟩
  · replace h := it_f c1 h
    refine j_aload_n d_Mo_mark_37 rfl 1 rfl ?_
    refine j_get ig_Mo rfl 0 rfl 20 (by decide) rfl m_1133 rfl d_Mo_mark_38 ?_
    refine j_iload_n d_Mo_mark_41 rfl 0 rfl ?_
    refine j_iconst (v := 1) d_Mo_mark_42 (by decide) ?_
    refine j_iadd d_Mo_mark_43 ?_
    replace h := bd_s h
    obtain ⟨_, k3, h⟩ := h
    refine j_callV (n := 1) (As := [.int (v1_33 + 1)]) (rest := []) (wr := [(h0, .inr (9, moF am known_h0 thrown_h0 wrong_h0 lastEnd_h0 at_h0 bad_h0 levels_h0 least_h0 found_h0))]) (c_Nm_at l D cI cB cJ cS (am 20) a_all_m20 (v1_33 + 1) size_m20 n_a_all_m20 b_a_all_m20  k3) k_Mo_214 (by decide) ⟨Nat.le_of_ble_eq_true rfl, Nat.le_of_ble_eq_true rfl⟩ rfl 0 rfl [1, 2] [0] rfl (by decide) rfl (by decide) (by decide) rfl rfl (Nat.le_of_ble_eq_true rfl) d_Mo_mark_44 ⟨Nat.le_of_ble_eq_true rfl, Nat.le_of_ble_eq_true rfl⟩ (fun v w hq => ?_)
    obtain ⟨rfl, rfl⟩ := hq
    refine j_norm (pc' := 47) (st' := [.int (b_a_all_m20 (Int32.toNatClampNeg (v1_33 + 1)))]) (ws' := [(h0, .inr (9, moF am known_h0 thrown_h0 wrong_h0 lastEnd_h0 at_h0 bad_h0 levels_h0 least_h0 found_h0)), ((am 20), .inr (8, [.ref a_all_m20, .int size_m20])), (a_all_m20, .inl (cI, n_a_all_m20, .inl b_a_all_m20))]) (cl' := 0) (sl' := 0) rfl rfl rfl rfl rfl rfl ?_
    refine j_iconst (v := 1) d_Mo_mark_47 (by decide) ?_
    refine j_icmp_le (tgt := 56) d_Mo_mark_48 (by decide) (fun c4 => ?_) (fun c4 => ?_)
    · replace h := it_t c4 h
      refine j_aload_n d_Mo_mark_56 rfl 1 rfl ?_
      refine j_get ig_Mo rfl 0 rfl 20 (by decide) rfl m_1133 rfl d_Mo_mark_57 ?_
      refine j_getN ig_Nm rfl 1 rfl 0 (by decide) rfl mn_12 rfl d_Mo_mark_60 ?_
      refine j_iload_n d_Mo_mark_63 rfl 0 rfl ?_
      refine j_iconst (v := 2) d_Mo_mark_64 (by decide) ?_
      refine j_iadd d_Mo_mark_65 ?_
      refine j_iconst (v := 1) d_Mo_mark_66 (by decide) ?_
      replace h := inb_s h
      obtain ⟨i5, h⟩ := h
      refine j_iast (t0 := 0) (ws' := [(h0, .inr (9, moF am known_h0 thrown_h0 wrong_h0 lastEnd_h0 at_h0 bad_h0 levels_h0 least_h0 found_h0)), ((am 20), .inr (8, [.ref a_all_m20, .int size_m20])), (a_all_m20, .inl (cI, n_a_all_m20, .inl (upd b_a_all_m20 (Int32.toNatClampNeg (v1_33 + 2)) 1)))]) 2 rfl rfl i5 d_Mo_mark_67 rfl ?_
      refine j_iconst (v := 1) d_Mo_mark_68 (by decide) ?_
      replace h := Option.some.inj h
      replace h := Prod.mk.inj h
      obtain ⟨h9, h⟩ := h
      subst h9
      replace h := Prod.mk.inj h
      obtain ⟨h9, h⟩ := h
      subst h9
      subst h
      exact j_zret (w := [(h0, .inr (9, moF am known_h0 thrown_h0 wrong_h0 lastEnd_h0 at_h0 bad_h0 levels_h0 least_h0 found_h0)), ((am 20), .inr (8, [.ref a_all_m20, .int size_m20])), (a_all_m20, .inl (cI, n_a_all_m20, .inl (upd b_a_all_m20 (Int32.toNatClampNeg (v1_33 + 2)) 1)))]) hr (zb_n zb1) d_Mo_mark_69 [0, 1, 2] rfl (by decide) ⟨rfl, zb1, rfl⟩
    · replace h := it_f c4 h
      refine j_aload_n d_Mo_mark_51 rfl 1 rfl ?_
      refine j_callV (n := 0) (As := []) (rest := []) (wr := [((am 20), .inr (8, [.ref a_all_m20, .int size_m20])), (a_all_m20, .inl (cI, n_a_all_m20, .inl b_a_all_m20))]) (c_Mo_fail l D cI cB cJ cS h0 am known_h0 thrown_h0 wrong_h0 lastEnd_h0 at_h0 bad_h0 levels_h0 least_h0 found_h0  ) k_Mo_278 (by decide) ⟨Nat.le_of_ble_eq_true rfl, Nat.le_of_ble_eq_true rfl⟩ rfl 0 rfl [0] [1, 2] rfl (by decide) rfl (by decide) (by decide) rfl rfl (Nat.le_of_ble_eq_true rfl) d_Mo_mark_52 ⟨Nat.le_of_ble_eq_true rfl, Nat.le_of_ble_eq_true rfl⟩ (fun v w hq => ?_)
      obtain ⟨rfl, _, rfl⟩ := hq
      refine j_norm (pc' := 55) (st' := [.int 0]) (ws' := [((am 20), .inr (8, [.ref a_all_m20, .int size_m20])), (a_all_m20, .inl (cI, n_a_all_m20, .inl b_a_all_m20)), (h0, .inr (9, moF am known_h0 thrown_h0 wrong_h0 lastEnd_h0 at_h0 at_h0 levels_h0 least_h0 found_h0))]) (cl' := 0) (sl' := 0) rfl rfl rfl rfl rfl rfl ?_
      replace h := Option.some.inj h
      replace h := Prod.mk.inj h
      obtain ⟨h9, h⟩ := h
      subst h9
      replace h := Prod.mk.inj h
      obtain ⟨h9, h⟩ := h
      subst h9
      subst h
      exact j_zret (w := [(h0, .inr (9, moF am known_h0 thrown_h0 wrong_h0 lastEnd_h0 at_h0 at_h0 levels_h0 least_h0 found_h0)), ((am 20), .inr (8, [.ref a_all_m20, .int size_m20])), (a_all_m20, .inl (cI, n_a_all_m20, .inl b_a_all_m20))]) hr (zb_n zb0) d_Mo_mark_55 [2, 0, 1] rfl (by decide) ⟨rfl, zb0, rfl⟩
set_option maxHeartbeats 4000000 in
set_option maxRecDepth 100000 in
theorem L_Mo_mark_10 (l : Launch) (D : va_G) (cI cB cJ cS : ClassId) (h0 : Nat) (am : Nat → Nat) (a_all_m20 : Nat) (known_h0 : Int32) (thrown_h0 : Int32) (wrong_h0 : Int32) (lastEnd_h0 : Int32) (at_h0 : Int32) (bad_h0 : Int32) (levels_h0 : Int32) (least_h0 : Int32) (found_h0 : Int32) (size_m20 : Int32) (n_a_all_m20 : Nat) (b_a_all_m20 : Nat → Int32) (ret : Int32) (o_0_18 : Int32) (ob_2 : Nat → Int32) (p : Program) (e : Env) (s : State) (m : MethodId) (below : List Frame) (meth : Method) (c : Code) (hr : meth.sig.returnType = (Option.some Jvm.ClassFile.FieldType.boolean)) (hnm : meth.name = y_Mo_mark.name) : ∀ (k_10 : Nat) (v1_10 : Int32), F_Mo_mark_10 at_h0 bad_h0 size_m20 n_a_all_m20 b_a_all_m20  k_10 v1_10 = some (ret, o_0_18, ob_2) → J (KxOf p l e { frames := 1, cells := 0, slots := 0, locals := 21 } s m [.ref h0].toArray below meth c D (gT cI cB cJ cS) [(h0, .inr (9, moF am known_h0 thrown_h0 wrong_h0 lastEnd_h0 at_h0 bad_h0 levels_h0 least_h0 found_h0)), ((am 20), .inr (8, [.ref a_all_m20, .int size_m20])), (a_all_m20, .inl (cI, n_a_all_m20, .inl b_a_all_m20))] (fun v w => v = some (.int ret) ∧ zb ret ∧ w = [(h0, .inr (9, moF am known_h0 thrown_h0 wrong_h0 lastEnd_h0 at_h0 o_0_18 levels_h0 least_h0 found_h0)), ((am 20), .inr (8, [.ref a_all_m20, .int size_m20])), (a_all_m20, .inl (cI, n_a_all_m20, .inl ob_2))]) 0 0) prog_12_method_27_code 2 R_Mo 10 [(1, .int v1_10), (0, .ref h0)] [] [(h0, .inr (9, moF am known_h0 thrown_h0 wrong_h0 lastEnd_h0 at_h0 bad_h0 levels_h0 least_h0 found_h0)), ((am 20), .inr (8, [.ref a_all_m20, .int size_m20])), (a_all_m20, .inl (cI, n_a_all_m20, .inl b_a_all_m20))] 0 0 := by
  intro k_10
  induction k_10 with
  | zero => intro v1_10 h; rw [F_Mo_mark_10] at h; cases h
  | succ k_10 ih_10 =>
    intro v1_10 h
    rw [F_Mo_mark_10] at h
    refine j_iload_n d_Mo_mark_10 rfl 0 rfl ?_
    refine j_if_lt (tgt := 33) d_Mo_mark_11 (by decide) (fun c7 => ?_) (fun c7 => ?_)
    · replace h := it_t c7 h
      refine j_sub (w := [(h0, .inr (9, moF am known_h0 thrown_h0 wrong_h0 lastEnd_h0 at_h0 bad_h0 levels_h0 least_h0 found_h0)), ((am 20), .inr (8, [.ref a_all_m20, .int size_m20])), (a_all_m20, .inl (cI, n_a_all_m20, .inl b_a_all_m20))]) (lv' := [(1, .int v1_10), (0, .ref h0)]) [0, 1, 2] rfl (by decide) [0, 1] rfl ?_
      exact L_Mo_mark_33 l D cI cB cJ cS h0 am a_all_m20 known_h0 thrown_h0 wrong_h0 lastEnd_h0 at_h0 bad_h0 levels_h0 least_h0 found_h0 size_m20 n_a_all_m20 b_a_all_m20 ret o_0_18 ob_2 p e s m below meth c hr hnm v1_10 h
    · replace h := it_f c7 h
      refine j_aload_n d_Mo_mark_14 rfl 1 rfl ?_
      refine j_get ig_Mo rfl 0 rfl 20 (by decide) rfl m_1133 rfl d_Mo_mark_15 ?_
      refine j_iload_n d_Mo_mark_18 rfl 0 rfl ?_
      replace h := bd_s h
      obtain ⟨_, k8, h⟩ := h
      refine j_callV (n := 1) (As := [.int v1_10]) (rest := []) (wr := [(h0, .inr (9, moF am known_h0 thrown_h0 wrong_h0 lastEnd_h0 at_h0 bad_h0 levels_h0 least_h0 found_h0))]) (c_Nm_at l D cI cB cJ cS (am 20) a_all_m20 v1_10 size_m20 n_a_all_m20 b_a_all_m20  k8) k_Mo_214 (by decide) ⟨Nat.le_of_ble_eq_true rfl, Nat.le_of_ble_eq_true rfl⟩ rfl 0 rfl [1, 2] [0] rfl (by decide) rfl (by decide) (by decide) rfl rfl (Nat.le_of_ble_eq_true rfl) d_Mo_mark_19 ⟨Nat.le_of_ble_eq_true rfl, Nat.le_of_ble_eq_true rfl⟩ (fun v w hq => ?_)
      obtain ⟨rfl, rfl⟩ := hq
      refine j_norm (pc' := 22) (st' := [.int (b_a_all_m20 (Int32.toNatClampNeg v1_10))]) (ws' := [(h0, .inr (9, moF am known_h0 thrown_h0 wrong_h0 lastEnd_h0 at_h0 bad_h0 levels_h0 least_h0 found_h0)), ((am 20), .inr (8, [.ref a_all_m20, .int size_m20])), (a_all_m20, .inl (cI, n_a_all_m20, .inl b_a_all_m20))]) (cl' := 0) (sl' := 0) rfl rfl rfl rfl rfl rfl ?_
      refine j_iconst (v := 2) d_Mo_mark_22 (by decide) ?_
      refine j_icmp_eq (tgt := 33) d_Mo_mark_23 (by decide) (fun c9 => ?_) (fun c9 => ?_)
      · replace h := it_t c9 h
        refine j_sub (w := [(h0, .inr (9, moF am known_h0 thrown_h0 wrong_h0 lastEnd_h0 at_h0 bad_h0 levels_h0 least_h0 found_h0)), ((am 20), .inr (8, [.ref a_all_m20, .int size_m20])), (a_all_m20, .inl (cI, n_a_all_m20, .inl b_a_all_m20))]) (lv' := [(1, .int v1_10), (0, .ref h0)]) [0, 1, 2] rfl (by decide) [0, 1] rfl ?_
        exact L_Mo_mark_33 l D cI cB cJ cS h0 am a_all_m20 known_h0 thrown_h0 wrong_h0 lastEnd_h0 at_h0 bad_h0 levels_h0 least_h0 found_h0 size_m20 n_a_all_m20 b_a_all_m20 ret o_0_18 ob_2 p e s m below meth c hr hnm v1_10 h
      · replace h := it_f c9 h
        refine j_iload_n d_Mo_mark_26 rfl 0 rfl ?_
        refine j_iconst (v := 5) d_Mo_mark_27 (by decide) ?_
        refine j_isub d_Mo_mark_28 ?_
        refine j_istore_n (lv' := [(1, .int (v1_10 - 5)), (0, .ref h0)]) d_Mo_mark_29 rfl (by decide) rfl ?_
        refine j_goto (tgt := 10) d_Mo_mark_30 (by decide) ?_
        refine j_sub (w := [(h0, .inr (9, moF am known_h0 thrown_h0 wrong_h0 lastEnd_h0 at_h0 bad_h0 levels_h0 least_h0 found_h0)), ((am 20), .inr (8, [.ref a_all_m20, .int size_m20])), (a_all_m20, .inl (cI, n_a_all_m20, .inl b_a_all_m20))]) (lv' := [(1, .int (v1_10 - 5)), (0, .ref h0)]) [0, 1, 2] rfl (by decide) [0, 1] rfl ?_
        exact ih_10 (v1_10 - 5) h
set_option maxHeartbeats 4000000 in
set_option maxRecDepth 100000 in
theorem c_Mo_mark (l : Launch) (D : va_G) (cI cB cJ cS : ClassId) (h0 : Nat) (am : Nat → Nat) (a_all_m20 : Nat) (known_h0 : Int32) (thrown_h0 : Int32) (wrong_h0 : Int32) (lastEnd_h0 : Int32) (at_h0 : Int32) (bad_h0 : Int32) (levels_h0 : Int32) (least_h0 : Int32) (found_h0 : Int32) (size_m20 : Int32) (n_a_all_m20 : Nat) (b_a_all_m20 : Nat → Int32) (ret : Int32) (o_0_18 : Int32) (ob_2 : Nat → Int32) (h : F_Mo_mark known_h0 thrown_h0 wrong_h0 lastEnd_h0 at_h0 bad_h0 levels_h0 least_h0 found_h0 size_m20 n_a_all_m20 b_a_all_m20 = some (ret, o_0_18, ob_2)) : Ct l D (gT cI cB cJ cS) y_Mo_mark prog_12_method_27_code 2 (Option.some Jvm.ClassFile.FieldType.boolean) 1 21 0 0 [.ref h0] [(h0, .inr (9, moF am known_h0 thrown_h0 wrong_h0 lastEnd_h0 at_h0 bad_h0 levels_h0 least_h0 found_h0)), ((am 20), .inr (8, [.ref a_all_m20, .int size_m20])), (a_all_m20, .inl (cI, n_a_all_m20, .inl b_a_all_m20))] (fun v w => v = some (.int ret) ∧ zb ret ∧ w = [(h0, .inr (9, moF am known_h0 thrown_h0 wrong_h0 lastEnd_h0 at_h0 o_0_18 levels_h0 least_h0 found_h0)), ((am 20), .inr (8, [.ref a_all_m20, .int size_m20])), (a_all_m20, .inl (cI, n_a_all_m20, .inl ob_2))]) := by
  refine Ct.mk (by decide) (Nat.le_of_ble_eq_true rfl) ?_
  intro p e s m below meth c hr hnm
  refine j_norm (pc' := 0) (lv' := [(0, .ref h0)]) (st' := []) (ws' := [(h0, .inr (9, moF am known_h0 thrown_h0 wrong_h0 lastEnd_h0 at_h0 bad_h0 levels_h0 least_h0 found_h0)), ((am 20), .inr (8, [.ref a_all_m20, .int size_m20])), (a_all_m20, .inl (cI, n_a_all_m20, .inl b_a_all_m20))]) (cl' := 0) (sl' := 0) rfl rfl rfl rfl rfl rfl ?_
  unfold F_Mo_mark at h
  refine j_aload_n d_Mo_mark_0 rfl 0 rfl ?_
  refine j_get ig_Mo rfl 0 rfl 20 (by decide) rfl m_1133 rfl d_Mo_mark_1 ?_
  refine j_getN ig_Nm rfl 1 rfl 1 (by decide) rfl mn_13 rfl d_Mo_mark_4 ?_
  refine j_iconst (v := 5) d_Mo_mark_7 (by decide) ?_
  refine j_isub d_Mo_mark_8 ?_
  refine j_istore_n (lv' := [(1, .int (size_m20 - 5)), (0, .ref h0)]) d_Mo_mark_9 rfl (by decide) rfl ?_
  refine j_sub (w := [(h0, .inr (9, moF am known_h0 thrown_h0 wrong_h0 lastEnd_h0 at_h0 bad_h0 levels_h0 least_h0 found_h0)), ((am 20), .inr (8, [.ref a_all_m20, .int size_m20])), (a_all_m20, .inl (cI, n_a_all_m20, .inl b_a_all_m20))]) (lv' := [(1, .int (size_m20 - 5)), (0, .ref h0)]) [0, 1, 2] rfl (by decide) [0, 1] rfl ?_
  exact L_Mo_mark_10 l D cI cB cJ cS h0 am a_all_m20 known_h0 thrown_h0 wrong_h0 lastEnd_h0 at_h0 bad_h0 levels_h0 least_h0 found_h0 size_m20 n_a_all_m20 b_a_all_m20 ret o_0_18 ob_2 p e s m below meth c hr hnm FU (size_m20 - 5) h
theorem d_Mo_failed_0 : decode prog_12_method_29_code 0 = .ok (.aload_n 0, 1) := by decide +kernel
theorem d_Mo_failed_1 : decode prog_12_method_29_code 1 = .ok (.invokevirtual 278, 3) := by decide +kernel
theorem d_Mo_failed_4 : decode prog_12_method_29_code 4 = .ok (.ifCond .ne 7, 3) := by decide +kernel
theorem d_Mo_failed_7 : decode prog_12_method_29_code 7 = .ok (.iconst 1, 1) := by decide +kernel
theorem d_Mo_failed_8 : decode prog_12_method_29_code 8 = .ok (.goto 4, 3) := by decide +kernel
theorem d_Mo_failed_12 : decode prog_12_method_29_code 12 = .ok (.ireturn, 1) := by decide +kernel
set_option maxHeartbeats 4000000 in
set_option maxRecDepth 100000 in
theorem c_Mo_failed (l : Launch) (D : va_G) (cI cB cJ cS : ClassId) (h0 : Nat) (am : Nat → Nat) (known_h0 : Int32) (thrown_h0 : Int32) (wrong_h0 : Int32) (lastEnd_h0 : Int32) (at_h0 : Int32) (bad_h0 : Int32) (levels_h0 : Int32) (least_h0 : Int32) (found_h0 : Int32) : Ct l D (gT cI cB cJ cS) y_Mo_failed prog_12_method_29_code 1 (Option.some Jvm.ClassFile.FieldType.boolean) 1 20 0 0 [.ref h0] [(h0, .inr (9, moF am known_h0 thrown_h0 wrong_h0 lastEnd_h0 at_h0 bad_h0 levels_h0 least_h0 found_h0))] (fun v w => v = some (.int 1) ∧ zb 1 ∧ w = [(h0, .inr (9, moF am known_h0 thrown_h0 wrong_h0 lastEnd_h0 at_h0 at_h0 levels_h0 least_h0 found_h0))]) := by
  refine Ct.mk (by decide) (Nat.le_of_ble_eq_true rfl) ?_
  intro p e s m below meth c hr hnm
  refine j_norm (pc' := 0) (lv' := [(0, .ref h0)]) (st' := []) (ws' := [(h0, .inr (9, moF am known_h0 thrown_h0 wrong_h0 lastEnd_h0 at_h0 bad_h0 levels_h0 least_h0 found_h0))]) (cl' := 0) (sl' := 0) rfl rfl rfl rfl rfl rfl ?_
  refine j_aload_n d_Mo_failed_0 rfl 0 rfl ?_
  refine j_callV (n := 0) (As := []) (rest := []) (wr := []) (c_Mo_fail l D cI cB cJ cS h0 am known_h0 thrown_h0 wrong_h0 lastEnd_h0 at_h0 bad_h0 levels_h0 least_h0 found_h0  ) k_Mo_278 (by decide) ⟨Nat.le_of_ble_eq_true rfl, Nat.le_of_ble_eq_true rfl⟩ rfl 0 rfl [0] [] rfl (by decide) rfl (by decide) (by decide) rfl rfl (Nat.le_of_ble_eq_true rfl) d_Mo_failed_1 ⟨Nat.le_of_ble_eq_true rfl, Nat.le_of_ble_eq_true rfl⟩ (fun v w hq => ?_)
  obtain ⟨rfl, _, rfl⟩ := hq
  refine j_norm (pc' := 4) (st' := [.int 0]) (ws' := [(h0, .inr (9, moF am known_h0 thrown_h0 wrong_h0 lastEnd_h0 at_h0 at_h0 levels_h0 least_h0 found_h0))]) (cl' := 0) (sl' := 0) rfl rfl rfl rfl rfl rfl ?_
  refine j_if_ne (tgt := 11) d_Mo_failed_4 (by decide) (fun c2 => absurd (by decide) c2) (fun c2 => ?_)
  refine j_iconst (v := 1) d_Mo_failed_7 (by decide) ?_
  refine j_goto (tgt := 12) d_Mo_failed_8 (by decide) ?_
  exact j_zret (w := [(h0, .inr (9, moF am known_h0 thrown_h0 wrong_h0 lastEnd_h0 at_h0 at_h0 levels_h0 least_h0 found_h0))]) hr (zb_n zb1) d_Mo_failed_12 [0] rfl (by decide) ⟨rfl, zb1, rfl⟩
def F_Mo_isColonBefore (known_h0 : Int32) (thrown_h0 : Int32) (wrong_h0 : Int32) (lastEnd_h0 : Int32) (at_h0 : Int32) (bad_h0 : Int32) (levels_h0 : Int32) (least_h0 : Int32) (found_h0 : Int32) (size_m5 : Int32) (n_a_all_m5 : Nat) (b_a_all_m5 : Nat → Int32) : Option (Int32) :=
  Option.bind (F_Nm_at (at_h0 - 1) size_m5 n_a_all_m5 b_a_all_m5) fun _ =>
  if (b_a_all_m5 (Int32.toNatClampNeg (at_h0 - 1))) = 38 then (some 1)
  else (some 0)
theorem d_Mo_isColonBefore_0 : decode prog_12_method_31_code 0 = .ok (.aload_n 0, 1) := by decide +kernel
theorem d_Mo_isColonBefore_1 : decode prog_12_method_31_code 1 = .ok (.getfield 114, 3) := by decide +kernel
theorem d_Mo_isColonBefore_4 : decode prog_12_method_31_code 4 = .ok (.aload_n 0, 1) := by decide +kernel
theorem d_Mo_isColonBefore_5 : decode prog_12_method_31_code 5 = .ok (.getfield 270, 3) := by decide +kernel
theorem d_Mo_isColonBefore_8 : decode prog_12_method_31_code 8 = .ok (.iconst 1, 1) := by decide +kernel
theorem d_Mo_isColonBefore_9 : decode prog_12_method_31_code 9 = .ok (.isub, 1) := by decide +kernel
theorem d_Mo_isColonBefore_10 : decode prog_12_method_31_code 10 = .ok (.invokevirtual 214, 3) := by decide +kernel
theorem d_Mo_isColonBefore_13 : decode prog_12_method_31_code 13 = .ok (.bipush 38, 2) := by decide +kernel
theorem d_Mo_isColonBefore_15 : decode prog_12_method_31_code 15 = .ok (.if_icmp .ne 7, 3) := by decide +kernel
theorem d_Mo_isColonBefore_18 : decode prog_12_method_31_code 18 = .ok (.iconst 1, 1) := by decide +kernel
theorem d_Mo_isColonBefore_19 : decode prog_12_method_31_code 19 = .ok (.goto 4, 3) := by decide +kernel
theorem d_Mo_isColonBefore_22 : decode prog_12_method_31_code 22 = .ok (.iconst 0, 1) := by decide +kernel
theorem d_Mo_isColonBefore_23 : decode prog_12_method_31_code 23 = .ok (.ireturn, 1) := by decide +kernel
set_option maxHeartbeats 4000000 in
set_option maxRecDepth 100000 in
theorem c_Mo_isColonBefore (l : Launch) (D : va_G) (cI cB cJ cS : ClassId) (h0 : Nat) (am : Nat → Nat) (a_all_m5 : Nat) (known_h0 : Int32) (thrown_h0 : Int32) (wrong_h0 : Int32) (lastEnd_h0 : Int32) (at_h0 : Int32) (bad_h0 : Int32) (levels_h0 : Int32) (least_h0 : Int32) (found_h0 : Int32) (size_m5 : Int32) (n_a_all_m5 : Nat) (b_a_all_m5 : Nat → Int32) (ret : Int32) (h : F_Mo_isColonBefore known_h0 thrown_h0 wrong_h0 lastEnd_h0 at_h0 bad_h0 levels_h0 least_h0 found_h0 size_m5 n_a_all_m5 b_a_all_m5 = some ret) : Ct l D (gT cI cB cJ cS) y_Mo_isColonBefore prog_12_method_31_code 1 (Option.some Jvm.ClassFile.FieldType.boolean) 1 21 0 0 [.ref h0] [(h0, .inr (9, moF am known_h0 thrown_h0 wrong_h0 lastEnd_h0 at_h0 bad_h0 levels_h0 least_h0 found_h0)), ((am 5), .inr (8, [.ref a_all_m5, .int size_m5])), (a_all_m5, .inl (cI, n_a_all_m5, .inl b_a_all_m5))] (fun v w => v = some (.int ret) ∧ zb ret ∧ w = [(h0, .inr (9, moF am known_h0 thrown_h0 wrong_h0 lastEnd_h0 at_h0 bad_h0 levels_h0 least_h0 found_h0)), ((am 5), .inr (8, [.ref a_all_m5, .int size_m5])), (a_all_m5, .inl (cI, n_a_all_m5, .inl b_a_all_m5))]) := by
  refine Ct.mk (by decide) (Nat.le_of_ble_eq_true rfl) ?_
  intro p e s m below meth c hr hnm
  refine j_norm (pc' := 0) (lv' := [(0, .ref h0)]) (st' := []) (ws' := [(h0, .inr (9, moF am known_h0 thrown_h0 wrong_h0 lastEnd_h0 at_h0 bad_h0 levels_h0 least_h0 found_h0)), ((am 5), .inr (8, [.ref a_all_m5, .int size_m5])), (a_all_m5, .inl (cI, n_a_all_m5, .inl b_a_all_m5))]) (cl' := 0) (sl' := 0) rfl rfl rfl rfl rfl rfl ?_
  unfold F_Mo_isColonBefore at h
  refine j_aload_n d_Mo_isColonBefore_0 rfl 0 rfl ?_
  refine j_get ig_Mo rfl 0 rfl 5 (by decide) rfl m_1118 rfl d_Mo_isColonBefore_1 ?_
  refine j_aload_n d_Mo_isColonBefore_4 rfl 0 rfl ?_
  refine j_get ig_Mo rfl 0 rfl 17 (by decide) rfl m_1130 rfl d_Mo_isColonBefore_5 ?_
  refine j_iconst (v := 1) d_Mo_isColonBefore_8 (by decide) ?_
  refine j_isub d_Mo_isColonBefore_9 ?_
  replace h := bd_s h
  obtain ⟨_, k1, h⟩ := h
  refine j_callV (n := 1) (As := [.int (at_h0 - 1)]) (rest := []) (wr := [(h0, .inr (9, moF am known_h0 thrown_h0 wrong_h0 lastEnd_h0 at_h0 bad_h0 levels_h0 least_h0 found_h0))]) (c_Nm_at l D cI cB cJ cS (am 5) a_all_m5 (at_h0 - 1) size_m5 n_a_all_m5 b_a_all_m5  k1) k_Mo_214 (by decide) ⟨Nat.le_of_ble_eq_true rfl, Nat.le_of_ble_eq_true rfl⟩ rfl 0 rfl [1, 2] [0] rfl (by decide) rfl (by decide) (by decide) rfl rfl (Nat.le_of_ble_eq_true rfl) d_Mo_isColonBefore_10 ⟨Nat.le_of_ble_eq_true rfl, Nat.le_of_ble_eq_true rfl⟩ (fun v w hq => ?_)
  obtain ⟨rfl, rfl⟩ := hq
  refine j_norm (pc' := 13) (st' := [.int (b_a_all_m5 (Int32.toNatClampNeg (at_h0 - 1)))]) (ws' := [(h0, .inr (9, moF am known_h0 thrown_h0 wrong_h0 lastEnd_h0 at_h0 bad_h0 levels_h0 least_h0 found_h0)), ((am 5), .inr (8, [.ref a_all_m5, .int size_m5])), (a_all_m5, .inl (cI, n_a_all_m5, .inl b_a_all_m5))]) (cl' := 0) (sl' := 0) rfl rfl rfl rfl rfl rfl ?_
  refine j_bipush (v := 38) d_Mo_isColonBefore_13 (by decide) ?_
  refine j_icmp_ne (tgt := 22) d_Mo_isColonBefore_15 (by decide) (fun c2 => ?_) (fun c2 => ?_)
  · replace h := it_f c2 h
    refine j_iconst (v := 0) d_Mo_isColonBefore_22 (by decide) ?_
    replace h := Option.some.inj h
    subst h
    exact j_zret (w := [(h0, .inr (9, moF am known_h0 thrown_h0 wrong_h0 lastEnd_h0 at_h0 bad_h0 levels_h0 least_h0 found_h0)), ((am 5), .inr (8, [.ref a_all_m5, .int size_m5])), (a_all_m5, .inl (cI, n_a_all_m5, .inl b_a_all_m5))]) hr (zb_n zb0) d_Mo_isColonBefore_23 [0, 1, 2] rfl (by decide) ⟨rfl, zb0, rfl⟩
  · replace h := it_t c2 h
    refine j_iconst (v := 1) d_Mo_isColonBefore_18 (by decide) ?_
    refine j_goto (tgt := 23) d_Mo_isColonBefore_19 (by decide) ?_
    replace h := Option.some.inj h
    subst h
    exact j_zret (w := [(h0, .inr (9, moF am known_h0 thrown_h0 wrong_h0 lastEnd_h0 at_h0 bad_h0 levels_h0 least_h0 found_h0)), ((am 5), .inr (8, [.ref a_all_m5, .int size_m5])), (a_all_m5, .inl (cI, n_a_all_m5, .inl b_a_all_m5))]) hr (zb_n zb1) d_Mo_isColonBefore_23 [0, 1, 2] rfl (by decide) ⟨rfl, zb1, rfl⟩
def F_Mo_isEmptyOpen (known_h0 : Int32) (thrown_h0 : Int32) (wrong_h0 : Int32) (lastEnd_h0 : Int32) (at_h0 : Int32) (bad_h0 : Int32) (levels_h0 : Int32) (least_h0 : Int32) (found_h0 : Int32) (size_m5 : Int32) (n_a_all_m5 : Nat) (b_a_all_m5 : Nat → Int32) : Option (Int32) :=
  Option.bind (F_Nm_at (at_h0 - 1) size_m5 n_a_all_m5 b_a_all_m5) fun _ =>
  if (b_a_all_m5 (Int32.toNatClampNeg (at_h0 - 1))) = 50 then (some 1)
  else (Option.bind (F_Nm_at (at_h0 - 1) size_m5 n_a_all_m5 b_a_all_m5) fun _ =>
    if (b_a_all_m5 (Int32.toNatClampNeg (at_h0 - 1))) = 52 then (some 1)
    else (some 0))
theorem d_Mo_isEmptyOpen_0 : decode prog_12_method_32_code 0 = .ok (.aload_n 0, 1) := by decide +kernel
theorem d_Mo_isEmptyOpen_1 : decode prog_12_method_32_code 1 = .ok (.getfield 114, 3) := by decide +kernel
theorem d_Mo_isEmptyOpen_4 : decode prog_12_method_32_code 4 = .ok (.aload_n 0, 1) := by decide +kernel
theorem d_Mo_isEmptyOpen_5 : decode prog_12_method_32_code 5 = .ok (.getfield 270, 3) := by decide +kernel
theorem d_Mo_isEmptyOpen_8 : decode prog_12_method_32_code 8 = .ok (.iconst 1, 1) := by decide +kernel
theorem d_Mo_isEmptyOpen_9 : decode prog_12_method_32_code 9 = .ok (.isub, 1) := by decide +kernel
theorem d_Mo_isEmptyOpen_10 : decode prog_12_method_32_code 10 = .ok (.invokevirtual 214, 3) := by decide +kernel
theorem d_Mo_isEmptyOpen_13 : decode prog_12_method_32_code 13 = .ok (.bipush 50, 2) := by decide +kernel
theorem d_Mo_isEmptyOpen_15 : decode prog_12_method_32_code 15 = .ok (.if_icmp .eq 21, 3) := by decide +kernel
theorem d_Mo_isEmptyOpen_18 : decode prog_12_method_32_code 18 = .ok (.aload_n 0, 1) := by decide +kernel
theorem d_Mo_isEmptyOpen_19 : decode prog_12_method_32_code 19 = .ok (.getfield 114, 3) := by decide +kernel
theorem d_Mo_isEmptyOpen_22 : decode prog_12_method_32_code 22 = .ok (.aload_n 0, 1) := by decide +kernel
theorem d_Mo_isEmptyOpen_23 : decode prog_12_method_32_code 23 = .ok (.getfield 270, 3) := by decide +kernel
theorem d_Mo_isEmptyOpen_26 : decode prog_12_method_32_code 26 = .ok (.iconst 1, 1) := by decide +kernel
theorem d_Mo_isEmptyOpen_27 : decode prog_12_method_32_code 27 = .ok (.isub, 1) := by decide +kernel
theorem d_Mo_isEmptyOpen_28 : decode prog_12_method_32_code 28 = .ok (.invokevirtual 214, 3) := by decide +kernel
theorem d_Mo_isEmptyOpen_31 : decode prog_12_method_32_code 31 = .ok (.bipush 52, 2) := by decide +kernel
theorem d_Mo_isEmptyOpen_33 : decode prog_12_method_32_code 33 = .ok (.if_icmp .ne 7, 3) := by decide +kernel
theorem d_Mo_isEmptyOpen_36 : decode prog_12_method_32_code 36 = .ok (.iconst 1, 1) := by decide +kernel
theorem d_Mo_isEmptyOpen_37 : decode prog_12_method_32_code 37 = .ok (.goto 4, 3) := by decide +kernel
theorem d_Mo_isEmptyOpen_40 : decode prog_12_method_32_code 40 = .ok (.iconst 0, 1) := by decide +kernel
theorem d_Mo_isEmptyOpen_41 : decode prog_12_method_32_code 41 = .ok (.ireturn, 1) := by decide +kernel
set_option maxHeartbeats 4000000 in
set_option maxRecDepth 100000 in
theorem c_Mo_isEmptyOpen (l : Launch) (D : va_G) (cI cB cJ cS : ClassId) (h0 : Nat) (am : Nat → Nat) (a_all_m5 : Nat) (known_h0 : Int32) (thrown_h0 : Int32) (wrong_h0 : Int32) (lastEnd_h0 : Int32) (at_h0 : Int32) (bad_h0 : Int32) (levels_h0 : Int32) (least_h0 : Int32) (found_h0 : Int32) (size_m5 : Int32) (n_a_all_m5 : Nat) (b_a_all_m5 : Nat → Int32) (ret : Int32) (h : F_Mo_isEmptyOpen known_h0 thrown_h0 wrong_h0 lastEnd_h0 at_h0 bad_h0 levels_h0 least_h0 found_h0 size_m5 n_a_all_m5 b_a_all_m5 = some ret) : Ct l D (gT cI cB cJ cS) y_Mo_isEmptyOpen prog_12_method_32_code 1 (Option.some Jvm.ClassFile.FieldType.boolean) 1 21 0 0 [.ref h0] [(h0, .inr (9, moF am known_h0 thrown_h0 wrong_h0 lastEnd_h0 at_h0 bad_h0 levels_h0 least_h0 found_h0)), ((am 5), .inr (8, [.ref a_all_m5, .int size_m5])), (a_all_m5, .inl (cI, n_a_all_m5, .inl b_a_all_m5))] (fun v w => v = some (.int ret) ∧ zb ret ∧ w = [(h0, .inr (9, moF am known_h0 thrown_h0 wrong_h0 lastEnd_h0 at_h0 bad_h0 levels_h0 least_h0 found_h0)), ((am 5), .inr (8, [.ref a_all_m5, .int size_m5])), (a_all_m5, .inl (cI, n_a_all_m5, .inl b_a_all_m5))]) := by
  refine Ct.mk (by decide) (Nat.le_of_ble_eq_true rfl) ?_
  intro p e s m below meth c hr hnm
  refine j_norm (pc' := 0) (lv' := [(0, .ref h0)]) (st' := []) (ws' := [(h0, .inr (9, moF am known_h0 thrown_h0 wrong_h0 lastEnd_h0 at_h0 bad_h0 levels_h0 least_h0 found_h0)), ((am 5), .inr (8, [.ref a_all_m5, .int size_m5])), (a_all_m5, .inl (cI, n_a_all_m5, .inl b_a_all_m5))]) (cl' := 0) (sl' := 0) rfl rfl rfl rfl rfl rfl ?_
  unfold F_Mo_isEmptyOpen at h
  refine j_aload_n d_Mo_isEmptyOpen_0 rfl 0 rfl ?_
  refine j_get ig_Mo rfl 0 rfl 5 (by decide) rfl m_1118 rfl d_Mo_isEmptyOpen_1 ?_
  refine j_aload_n d_Mo_isEmptyOpen_4 rfl 0 rfl ?_
  refine j_get ig_Mo rfl 0 rfl 17 (by decide) rfl m_1130 rfl d_Mo_isEmptyOpen_5 ?_
  refine j_iconst (v := 1) d_Mo_isEmptyOpen_8 (by decide) ?_
  refine j_isub d_Mo_isEmptyOpen_9 ?_
  replace h := bd_s h
  obtain ⟨_, k1, h⟩ := h
  refine j_callV (n := 1) (As := [.int (at_h0 - 1)]) (rest := []) (wr := [(h0, .inr (9, moF am known_h0 thrown_h0 wrong_h0 lastEnd_h0 at_h0 bad_h0 levels_h0 least_h0 found_h0))]) (c_Nm_at l D cI cB cJ cS (am 5) a_all_m5 (at_h0 - 1) size_m5 n_a_all_m5 b_a_all_m5  k1) k_Mo_214 (by decide) ⟨Nat.le_of_ble_eq_true rfl, Nat.le_of_ble_eq_true rfl⟩ rfl 0 rfl [1, 2] [0] rfl (by decide) rfl (by decide) (by decide) rfl rfl (Nat.le_of_ble_eq_true rfl) d_Mo_isEmptyOpen_10 ⟨Nat.le_of_ble_eq_true rfl, Nat.le_of_ble_eq_true rfl⟩ (fun v w hq => ?_)
  obtain ⟨rfl, rfl⟩ := hq
  refine j_norm (pc' := 13) (st' := [.int (b_a_all_m5 (Int32.toNatClampNeg (at_h0 - 1)))]) (ws' := [(h0, .inr (9, moF am known_h0 thrown_h0 wrong_h0 lastEnd_h0 at_h0 bad_h0 levels_h0 least_h0 found_h0)), ((am 5), .inr (8, [.ref a_all_m5, .int size_m5])), (a_all_m5, .inl (cI, n_a_all_m5, .inl b_a_all_m5))]) (cl' := 0) (sl' := 0) rfl rfl rfl rfl rfl rfl ?_
  refine j_bipush (v := 50) d_Mo_isEmptyOpen_13 (by decide) ?_
  refine j_icmp_eq (tgt := 36) d_Mo_isEmptyOpen_15 (by decide) (fun c2 => ?_) (fun c2 => ?_)
  · replace h := it_t c2 h
    refine j_iconst (v := 1) d_Mo_isEmptyOpen_36 (by decide) ?_
    refine j_goto (tgt := 41) d_Mo_isEmptyOpen_37 (by decide) ?_
    replace h := Option.some.inj h
    subst h
    exact j_zret (w := [(h0, .inr (9, moF am known_h0 thrown_h0 wrong_h0 lastEnd_h0 at_h0 bad_h0 levels_h0 least_h0 found_h0)), ((am 5), .inr (8, [.ref a_all_m5, .int size_m5])), (a_all_m5, .inl (cI, n_a_all_m5, .inl b_a_all_m5))]) hr (zb_n zb1) d_Mo_isEmptyOpen_41 [0, 1, 2] rfl (by decide) ⟨rfl, zb1, rfl⟩
  · replace h := it_f c2 h
    refine j_aload_n d_Mo_isEmptyOpen_18 rfl 0 rfl ?_
    refine j_get ig_Mo rfl 0 rfl 5 (by decide) rfl m_1118 rfl d_Mo_isEmptyOpen_19 ?_
    refine j_aload_n d_Mo_isEmptyOpen_22 rfl 0 rfl ?_
    refine j_get ig_Mo rfl 0 rfl 17 (by decide) rfl m_1130 rfl d_Mo_isEmptyOpen_23 ?_
    refine j_iconst (v := 1) d_Mo_isEmptyOpen_26 (by decide) ?_
    refine j_isub d_Mo_isEmptyOpen_27 ?_
    replace h := bd_s h
    obtain ⟨_, k3, h⟩ := h
    refine j_callV (n := 1) (As := [.int (at_h0 - 1)]) (rest := []) (wr := [(h0, .inr (9, moF am known_h0 thrown_h0 wrong_h0 lastEnd_h0 at_h0 bad_h0 levels_h0 least_h0 found_h0))]) (c_Nm_at l D cI cB cJ cS (am 5) a_all_m5 (at_h0 - 1) size_m5 n_a_all_m5 b_a_all_m5  k3) k_Mo_214 (by decide) ⟨Nat.le_of_ble_eq_true rfl, Nat.le_of_ble_eq_true rfl⟩ rfl 0 rfl [1, 2] [0] rfl (by decide) rfl (by decide) (by decide) rfl rfl (Nat.le_of_ble_eq_true rfl) d_Mo_isEmptyOpen_28 ⟨Nat.le_of_ble_eq_true rfl, Nat.le_of_ble_eq_true rfl⟩ (fun v w hq => ?_)
    obtain ⟨rfl, rfl⟩ := hq
    refine j_norm (pc' := 31) (st' := [.int (b_a_all_m5 (Int32.toNatClampNeg (at_h0 - 1)))]) (ws' := [(h0, .inr (9, moF am known_h0 thrown_h0 wrong_h0 lastEnd_h0 at_h0 bad_h0 levels_h0 least_h0 found_h0)), ((am 5), .inr (8, [.ref a_all_m5, .int size_m5])), (a_all_m5, .inl (cI, n_a_all_m5, .inl b_a_all_m5))]) (cl' := 0) (sl' := 0) rfl rfl rfl rfl rfl rfl ?_
    refine j_bipush (v := 52) d_Mo_isEmptyOpen_31 (by decide) ?_
    refine j_icmp_ne (tgt := 40) d_Mo_isEmptyOpen_33 (by decide) (fun c4 => ?_) (fun c4 => ?_)
    · replace h := it_f c4 h
      refine j_iconst (v := 0) d_Mo_isEmptyOpen_40 (by decide) ?_
      replace h := Option.some.inj h
      subst h
      exact j_zret (w := [(h0, .inr (9, moF am known_h0 thrown_h0 wrong_h0 lastEnd_h0 at_h0 bad_h0 levels_h0 least_h0 found_h0)), ((am 5), .inr (8, [.ref a_all_m5, .int size_m5])), (a_all_m5, .inl (cI, n_a_all_m5, .inl b_a_all_m5))]) hr (zb_n zb0) d_Mo_isEmptyOpen_41 [0, 1, 2] rfl (by decide) ⟨rfl, zb0, rfl⟩
    · replace h := it_t c4 h
      refine j_iconst (v := 1) d_Mo_isEmptyOpen_36 (by decide) ?_
      refine j_goto (tgt := 41) d_Mo_isEmptyOpen_37 (by decide) ?_
      replace h := Option.some.inj h
      subst h
      exact j_zret (w := [(h0, .inr (9, moF am known_h0 thrown_h0 wrong_h0 lastEnd_h0 at_h0 bad_h0 levels_h0 least_h0 found_h0)), ((am 5), .inr (8, [.ref a_all_m5, .int size_m5])), (a_all_m5, .inl (cI, n_a_all_m5, .inl b_a_all_m5))]) hr (zb_n zb1) d_Mo_isEmptyOpen_41 [0, 1, 2] rfl (by decide) ⟨rfl, zb1, rfl⟩
