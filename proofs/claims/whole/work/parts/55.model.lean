noncomputable def F_Mo_readSeveral_50 (v1_4 : Int32) (K_4 : Int32 → Int32 → Int32 → Int32 → Int32 → Int32 → Nat → (Nat → Int32) → Option ((Int32 × Int32 × Int32 × Int32 × Int32 × Nat × (Nat → Int32)) × Nat × Nat)) (v2_50 : Int32) (f0_1_50 : Int32) (n2_50 : Nat) (b2_50 : Nat → Int32) (f3_17_50 : Int32) (f3_18_50 : Int32) (f3_19_50 : Int32) : Option ((Int32 × Int32 × Int32 × Int32 × Int32 × Nat × (Nat → Int32)) × Nat × Nat) :=
    if v2_50 = 0 then (K_4 v2_50 (v1_4 + 1) f3_17_50 f3_18_50 f3_19_50 f0_1_50 n2_50 b2_50)
    else (K_4 v2_50 (v1_4 + 1) (f3_17_50 + 1) f3_18_50 f3_19_50 f0_1_50 n2_50 b2_50)
noncomputable def F_Mo_readSeveral_34 (v1_4 : Int32) (K_4 : Int32 → Int32 → Int32 → Int32 → Int32 → Int32 → Nat → (Nat → Int32) → Option ((Int32 × Int32 × Int32 × Int32 × Int32 × Nat × (Nat → Int32)) × Nat × Nat)) (t0_34 : Int32) (f0_1_34 : Int32) (n2_34 : Nat) (b2_34 : Nat → Int32) (f3_17_34 : Int32) (f3_18_34 : Int32) (f3_19_34 : Int32) : Option ((Int32 × Int32 × Int32 × Int32 × Int32 × Nat × (Nat → Int32)) × Nat × Nat) :=
    if t0_34 = 0 then (F_Mo_readSeveral_50 v1_4 K_4  t0_34 f0_1_34 n2_34 b2_34 f3_17_34 f3_18_34 f3_19_34)
    else if (v1_4 + 1) = 8 then (some ((0, f3_17_34, f3_17_34, f3_19_34, f0_1_34, n2_34, b2_34), 0, 0))
    else (F_Mo_readSeveral_50 v1_4 K_4  t0_34 f0_1_34 n2_34 b2_34 f3_17_34 f3_18_34 f3_19_34)
noncomputable def F_Mo_readSeveral_4 (known_h0 : Int32) (thrown_h0 : Int32) (wrong_h0 : Int32) (lastEnd_h0 : Int32) (least_h0 : Int32) (found_h0 : Int32) (size_m5 : Int32) (n_a_all_m5 : Nat) (b_a_all_m5 : Nat → Int32) (n_m2 : Nat) (b_m2 : Nat → Int32) : Nat → Int32 → Int32 → Int32 → Int32 → Int32 → Int32 → Nat → (Nat → Int32) → Option ((Int32 × Int32 × Int32 × Int32 × Int32 × Nat × (Nat → Int32)) × Nat × Nat)
  | 0, _, _, _, _, _, _, _, _ => none
  | k_4 + 1, v2_4, v1_4, f0_17_4, f0_18_4, f0_19_4, f1_1_4, n4_4, b4_4 =>
    if v2_4 = 0 then (some ((1, f0_17_4, f0_18_4, f0_19_4, f1_1_4, n4_4, b4_4), 0, 0))
    else (bw (F_Mo_readExpression known_h0 thrown_h0 wrong_h0 lastEnd_h0 f0_17_4 f0_18_4 f0_19_4 least_h0 found_h0 f1_1_4 size_m5 n_a_all_m5 b_a_all_m5 n4_4 b4_4 n_m2 b_m2) fun ⟨r6, r7, r8, r9, r10, r11, r12⟩ =>
      if r6 = 0 then (some ((0, r7, r8, r9, r10, r11, r12), 0, 0))
      else (Option.bind (F_Mo_kind known_h0 thrown_h0 wrong_h0 lastEnd_h0 r7 r8 r9 least_h0 found_h0 size_m5 n_a_all_m5 b_a_all_m5) fun _ =>
        if (b_a_all_m5 (Int32.toNatClampNeg r7)) = 54 then (F_Mo_readSeveral_34 v1_4 (F_Mo_readSeveral_4 known_h0 thrown_h0 wrong_h0 lastEnd_h0 least_h0 found_h0 size_m5 n_a_all_m5 b_a_all_m5 n_m2 b_m2  k_4)  1 r10 r11 r12 r7 r8 r9)
        else (F_Mo_readSeveral_34 v1_4 (F_Mo_readSeveral_4 known_h0 thrown_h0 wrong_h0 lastEnd_h0 least_h0 found_h0 size_m5 n_a_all_m5 b_a_all_m5 n_m2 b_m2  k_4)  0 r10 r11 r12 r7 r8 r9)))
noncomputable def F_Mo_readSeveral (known_h0 : Int32) (thrown_h0 : Int32) (wrong_h0 : Int32) (lastEnd_h0 : Int32) (at_h0 : Int32) (bad_h0 : Int32) (levels_h0 : Int32) (least_h0 : Int32) (found_h0 : Int32) (size_m20 : Int32) (size_m5 : Int32) (n_a_all_m5 : Nat) (b_a_all_m5 : Nat → Int32) (n_a_all_m20 : Nat) (b_a_all_m20 : Nat → Int32) (n_m2 : Nat) (b_m2 : Nat → Int32) : Option ((Int32 × Int32 × Int32 × Int32 × Int32 × Nat × (Nat → Int32)) × Nat × Nat) :=
  F_Mo_readSeveral_4 known_h0 thrown_h0 wrong_h0 lastEnd_h0 least_h0 found_h0 size_m5 n_a_all_m5 b_a_all_m5 n_m2 b_m2  FU 1 0 at_h0 bad_h0 levels_h0 size_m20 n_a_all_m20 b_a_all_m20
theorem d_Mo_readSeveral_0 : decode prog_12_method_34_code 0 = .ok (.iconst 0, 1) := by decide +kernel
theorem d_Mo_readSeveral_1 : decode prog_12_method_34_code 1 = .ok (.istore_n 1, 1) := by decide +kernel
theorem d_Mo_readSeveral_2 : decode prog_12_method_34_code 2 = .ok (.iconst 1, 1) := by decide +kernel
theorem d_Mo_readSeveral_3 : decode prog_12_method_34_code 3 = .ok (.istore_n 2, 1) := by decide +kernel
theorem d_Mo_readSeveral_4 : decode prog_12_method_34_code 4 = .ok (.iload_n 2, 1) := by decide +kernel
theorem d_Mo_readSeveral_5 : decode prog_12_method_34_code 5 = .ok (.ifCond .eq 69, 3) := by decide +kernel
theorem d_Mo_readSeveral_8 : decode prog_12_method_34_code 8 = .ok (.aload_n 0, 1) := by decide +kernel
theorem d_Mo_readSeveral_9 : decode prog_12_method_34_code 9 = .ok (.invokevirtual 326, 3) := by decide +kernel
theorem d_Mo_readSeveral_12 : decode prog_12_method_34_code 12 = .ok (.ifCond .ne 5, 3) := by decide +kernel
theorem d_Mo_readSeveral_15 : decode prog_12_method_34_code 15 = .ok (.iconst 0, 1) := by decide +kernel
theorem d_Mo_readSeveral_16 : decode prog_12_method_34_code 16 = .ok (.ireturn, 1) := by decide +kernel
theorem d_Mo_readSeveral_17 : decode prog_12_method_34_code 17 = .ok (.iinc 1 1, 3) := by decide +kernel
theorem d_Mo_readSeveral_20 : decode prog_12_method_34_code 20 = .ok (.aload_n 0, 1) := by decide +kernel
theorem d_Mo_readSeveral_21 : decode prog_12_method_34_code 21 = .ok (.invokevirtual 275, 3) := by decide +kernel
theorem d_Mo_readSeveral_24 : decode prog_12_method_34_code 24 = .ok (.bipush 54, 2) := by decide +kernel
theorem d_Mo_readSeveral_26 : decode prog_12_method_34_code 26 = .ok (.if_icmp .ne 7, 3) := by decide +kernel
theorem d_Mo_readSeveral_29 : decode prog_12_method_34_code 29 = .ok (.iconst 1, 1) := by decide +kernel
theorem d_Mo_readSeveral_30 : decode prog_12_method_34_code 30 = .ok (.goto 4, 3) := by decide +kernel
theorem d_Mo_readSeveral_33 : decode prog_12_method_34_code 33 = .ok (.iconst 0, 1) := by decide +kernel
theorem d_Mo_readSeveral_34 : decode prog_12_method_34_code 34 = .ok (.istore_n 2, 1) := by decide +kernel
theorem d_Mo_readSeveral_35 : decode prog_12_method_34_code 35 = .ok (.iload_n 2, 1) := by decide +kernel
theorem d_Mo_readSeveral_36 : decode prog_12_method_34_code 36 = .ok (.ifCond .eq 14, 3) := by decide +kernel
theorem d_Mo_readSeveral_39 : decode prog_12_method_34_code 39 = .ok (.iload_n 1, 1) := by decide +kernel
theorem d_Mo_readSeveral_40 : decode prog_12_method_34_code 40 = .ok (.bipush 8, 2) := by decide +kernel
theorem d_Mo_readSeveral_42 : decode prog_12_method_34_code 42 = .ok (.if_icmp .ne 8, 3) := by decide +kernel
theorem d_Mo_readSeveral_45 : decode prog_12_method_34_code 45 = .ok (.aload_n 0, 1) := by decide +kernel
theorem d_Mo_readSeveral_46 : decode prog_12_method_34_code 46 = .ok (.invokevirtual 278, 3) := by decide +kernel
theorem d_Mo_readSeveral_49 : decode prog_12_method_34_code 49 = .ok (.ireturn, 1) := by decide +kernel
theorem d_Mo_readSeveral_50 : decode prog_12_method_34_code 50 = .ok (.aload_n 0, 1) := by decide +kernel
theorem d_Mo_readSeveral_51 : decode prog_12_method_34_code 51 = .ok (.iload_n 2, 1) := by decide +kernel
theorem d_Mo_readSeveral_52 : decode prog_12_method_34_code 52 = .ok (.ifCond .eq 12, 3) := by decide +kernel
theorem d_Mo_readSeveral_55 : decode prog_12_method_34_code 55 = .ok (.aload_n 0, 1) := by decide +kernel
theorem d_Mo_readSeveral_56 : decode prog_12_method_34_code 56 = .ok (.getfield 270, 3) := by decide +kernel
theorem d_Mo_readSeveral_59 : decode prog_12_method_34_code 59 = .ok (.iconst 1, 1) := by decide +kernel
theorem d_Mo_readSeveral_60 : decode prog_12_method_34_code 60 = .ok (.iadd, 1) := by decide +kernel
theorem d_Mo_readSeveral_61 : decode prog_12_method_34_code 61 = .ok (.goto 7, 3) := by decide +kernel
theorem d_Mo_readSeveral_64 : decode prog_12_method_34_code 64 = .ok (.aload_n 0, 1) := by decide +kernel
theorem d_Mo_readSeveral_65 : decode prog_12_method_34_code 65 = .ok (.getfield 270, 3) := by decide +kernel
theorem d_Mo_readSeveral_68 : decode prog_12_method_34_code 68 = .ok (.putfield 270, 3) := by decide +kernel
theorem d_Mo_readSeveral_71 : decode prog_12_method_34_code 71 = .ok (.goto (-67), 3) := by decide +kernel
theorem d_Mo_readSeveral_74 : decode prog_12_method_34_code 74 = .ok (.iconst 1, 1) := by decide +kernel
theorem d_Mo_readSeveral_75 : decode prog_12_method_34_code 75 = .ok (.ireturn, 1) := by decide +kernel
set_option maxHeartbeats 4000000 in
set_option maxRecDepth 100000 in
theorem L_Mo_readSeveral_4 (l : Launch) (D : va_G) (cI cB cJ cS : ClassId) (h0 : Nat) (am : Nat → Nat) (a_all_m20 : Nat) (a_all_m5 : Nat) (known_h0 : Int32) (thrown_h0 : Int32) (wrong_h0 : Int32) (lastEnd_h0 : Int32) (at_h0 : Int32) (bad_h0 : Int32) (levels_h0 : Int32) (least_h0 : Int32) (found_h0 : Int32) (size_m20 : Int32) (size_m5 : Int32) (n_a_all_m5 : Nat) (b_a_all_m5 : Nat → Int32) (n_a_all_m20 : Nat) (b_a_all_m20 : Nat → Int32) (n_m2 : Nat) (b_m2 : Nat → Int32) (ret : Int32) (o_0_17 : Int32) (o_0_18 : Int32) (o_0_19 : Int32) (o_1_1 : Int32) (on_nq_1_0 : Nat) (ob_nq_1_0 : Nat → Int32) (mc ms : Nat) (p : Program) (e : Env) (s : State) (m : MethodId) (below : List Frame) (meth : Method) (c : Code) (hr : meth.sig.returnType = (Option.some Jvm.ClassFile.FieldType.boolean)) (hnm : meth.name = y_Mo_readSeveral.name) : ∀ (k_4 : Nat) (q1_0_4 : Nat) (v2_4 : Int32) (v1_4 : Int32) (f0_17_4 : Int32) (f0_18_4 : Int32) (f0_19_4 : Int32) (f1_1_4 : Int32) (n4_4 : Nat) (b4_4 : Nat → Int32) (hz_v2_4 : zb v2_4) (cl_4 sl_4 C_4 S_4 : Nat), F_Mo_readSeveral_4 known_h0 thrown_h0 wrong_h0 lastEnd_h0 least_h0 found_h0 size_m5 n_a_all_m5 b_a_all_m5 n_m2 b_m2  k_4 v2_4 v1_4 f0_17_4 f0_18_4 f0_19_4 f1_1_4 n4_4 b4_4 = some ((ret, o_0_17, o_0_18, o_0_19, o_1_1, on_nq_1_0, ob_nq_1_0), C_4, S_4) → cl_4 + C_4 ≤ mc → sl_4 + S_4 ≤ ms → J (KxOf p l e { frames := 5, cells := mc, slots := ms, locals := 113 } s m [.ref h0].toArray below meth c D (gT cI cB cJ cS) [(h0, .inr (9, moF am known_h0 thrown_h0 wrong_h0 lastEnd_h0 at_h0 bad_h0 levels_h0 least_h0 found_h0)), ((am 20), .inr (8, [.ref a_all_m20, .int size_m20])), ((am 5), .inr (8, [.ref a_all_m5, .int size_m5])), (a_all_m5, .inl (cI, n_a_all_m5, .inl b_a_all_m5)), (a_all_m20, .inl (cI, n_a_all_m20, .inl b_a_all_m20)), ((am 2), .inl (cI, n_m2, .inl b_m2))] (fun v w => ∃ nq_1_0 : Nat, v = some (.int ret) ∧ zb ret ∧ w = [(h0, .inr (9, moF am known_h0 thrown_h0 wrong_h0 lastEnd_h0 o_0_17 o_0_18 o_0_19 least_h0 found_h0)), ((am 20), .inr (8, [.ref nq_1_0, .int o_1_1])), ((am 5), .inr (8, [.ref a_all_m5, .int size_m5])), (a_all_m5, .inl (cI, n_a_all_m5, .inl b_a_all_m5)), ((am 2), .inl (cI, n_m2, .inl b_m2)), (nq_1_0, .inl (cI, on_nq_1_0, .inl ob_nq_1_0))]) mc ms) prog_12_method_34_code 3 R_Mo 4 [(2, .int v2_4), (1, .int v1_4), (0, .ref h0)] [] [(h0, .inr (9, moF am known_h0 thrown_h0 wrong_h0 lastEnd_h0 f0_17_4 f0_18_4 f0_19_4 least_h0 found_h0)), ((am 20), .inr (8, [.ref q1_0_4, .int f1_1_4])), ((am 5), .inr (8, [.ref a_all_m5, .int size_m5])), (a_all_m5, .inl (cI, n_a_all_m5, .inl b_a_all_m5)), (q1_0_4, .inl (cI, n4_4, .inl b4_4)), ((am 2), .inl (cI, n_m2, .inl b_m2))] cl_4 sl_4 := by
  intro k_4
  induction k_4 with
  | zero => intro q1_0_4 v2_4 v1_4 f0_17_4 f0_18_4 f0_19_4 f1_1_4 n4_4 b4_4 hz_v2_4 cl_4 sl_4 C_4 S_4 h; rw [F_Mo_readSeveral_4] at h; cases h
  | succ k_4 ih_4 =>
    intro q1_0_4 v2_4 v1_4 f0_17_4 f0_18_4 f0_19_4 f1_1_4 n4_4 b4_4 hz_v2_4 cl_4 sl_4 C_4 S_4 h hC hS
    rw [F_Mo_readSeveral_4] at h
    have L_50 : ∀ (q0_0_50 : Nat) (v2_50 : Int32) (f0_1_50 : Int32) (n2_50 : Nat) (b2_50 : Nat → Int32) (f3_17_50 : Int32) (f3_18_50 : Int32) (f3_19_50 : Int32) (hz_v2_50 : zb v2_50) (cl_50 sl_50 C_50 S_50 : Nat), F_Mo_readSeveral_50 v1_4 (F_Mo_readSeveral_4 known_h0 thrown_h0 wrong_h0 lastEnd_h0 least_h0 found_h0 size_m5 n_a_all_m5 b_a_all_m5 n_m2 b_m2  k_4)  v2_50 f0_1_50 n2_50 b2_50 f3_17_50 f3_18_50 f3_19_50 = some ((ret, o_0_17, o_0_18, o_0_19, o_1_1, on_nq_1_0, ob_nq_1_0), C_50, S_50) → cl_50 + C_50 ≤ mc → sl_50 + S_50 ≤ ms → J (KxOf p l e { frames := 5, cells := mc, slots := ms, locals := 113 } s m [.ref h0].toArray below meth c D (gT cI cB cJ cS) [(h0, .inr (9, moF am known_h0 thrown_h0 wrong_h0 lastEnd_h0 at_h0 bad_h0 levels_h0 least_h0 found_h0)), ((am 20), .inr (8, [.ref a_all_m20, .int size_m20])), ((am 5), .inr (8, [.ref a_all_m5, .int size_m5])), (a_all_m5, .inl (cI, n_a_all_m5, .inl b_a_all_m5)), (a_all_m20, .inl (cI, n_a_all_m20, .inl b_a_all_m20)), ((am 2), .inl (cI, n_m2, .inl b_m2))] (fun v w => ∃ nq_1_0 : Nat, v = some (.int ret) ∧ zb ret ∧ w = [(h0, .inr (9, moF am known_h0 thrown_h0 wrong_h0 lastEnd_h0 o_0_17 o_0_18 o_0_19 least_h0 found_h0)), ((am 20), .inr (8, [.ref nq_1_0, .int o_1_1])), ((am 5), .inr (8, [.ref a_all_m5, .int size_m5])), (a_all_m5, .inl (cI, n_a_all_m5, .inl b_a_all_m5)), ((am 2), .inl (cI, n_m2, .inl b_m2)), (nq_1_0, .inl (cI, on_nq_1_0, .inl ob_nq_1_0))]) mc ms) prog_12_method_34_code 3 R_Mo 50 [(2, .int v2_50), (1, .int (v1_4 + 1)), (0, .ref h0)] [] [((am 20), .inr (8, [.ref q0_0_50, .int f0_1_50])), ((am 2), .inl (cI, n_m2, .inl b_m2)), (q0_0_50, .inl (cI, n2_50, .inl b2_50)), (h0, .inr (9, moF am known_h0 thrown_h0 wrong_h0 lastEnd_h0 f3_17_50 f3_18_50 f3_19_50 least_h0 found_h0)), ((am 5), .inr (8, [.ref a_all_m5, .int size_m5])), (a_all_m5, .inl (cI, n_a_all_m5, .inl b_a_all_m5))] cl_50 sl_50 := by
      clear h
      intro q0_0_50 v2_50 f0_1_50 n2_50 b2_50 f3_17_50 f3_18_50 f3_19_50 hz_v2_50 cl_50 sl_50 C_50 S_50 h hC hS
      unfold F_Mo_readSeveral_50 at h
      refine j_aload_n d_Mo_readSeveral_50 rfl 2 rfl ?_
      refine j_iload_n d_Mo_readSeveral_51 rfl 0 rfl ?_
      refine j_if_eq (tgt := 64) d_Mo_readSeveral_52 (by decide) (fun c1 => ?_) (fun c1 => ?_)
      · replace h := it_t c1 h
        refine j_aload_n d_Mo_readSeveral_64 rfl 2 rfl ?_
        refine j_get ig_Mo rfl 3 rfl 17 (by decide) rfl m_1130 rfl d_Mo_readSeveral_65 ?_
        refine j_put (ws' := [((am 20), .inr (8, [.ref q0_0_50, .int f0_1_50])), ((am 2), .inl (cI, n_m2, .inl b_m2)), (q0_0_50, .inl (cI, n2_50, .inl b2_50)), (h0, .inr (9, moF am known_h0 thrown_h0 wrong_h0 lastEnd_h0 f3_17_50 f3_18_50 f3_19_50 least_h0 found_h0)), ((am 5), .inr (8, [.ref a_all_m5, .int size_m5])), (a_all_m5, .inl (cI, n_a_all_m5, .inl b_a_all_m5))]) ig_Mo tk_Mo nm_Mo rfl 3 rfl 17 (by decide) rfl m_1130 rfl (tk_Mo 17 (by decide)) rfl rfl (Nat.le_of_ble_eq_true rfl) d_Mo_readSeveral_68 rfl ?_
        refine j_goto (tgt := 4) d_Mo_readSeveral_71 (by decide) ?_
        refine j_sub (w := [(h0, .inr (9, moF am known_h0 thrown_h0 wrong_h0 lastEnd_h0 f3_17_50 f3_18_50 f3_19_50 least_h0 found_h0)), ((am 20), .inr (8, [.ref q0_0_50, .int f0_1_50])), ((am 5), .inr (8, [.ref a_all_m5, .int size_m5])), (a_all_m5, .inl (cI, n_a_all_m5, .inl b_a_all_m5)), (q0_0_50, .inl (cI, n2_50, .inl b2_50)), ((am 2), .inl (cI, n_m2, .inl b_m2))]) (lv' := [(2, .int v2_50), (1, .int (v1_4 + 1)), (0, .ref h0)]) [3, 0, 4, 5, 2, 1] rfl (by decide) [0, 1, 2] rfl ?_
        exact ih_4 q0_0_50 v2_50 (v1_4 + 1) f3_17_50 f3_18_50 f3_19_50 f0_1_50 n2_50 b2_50 hz_v2_50 cl_50 sl_50 C_50 S_50 h hC hS
      · replace h := it_f c1 h
        refine j_aload_n d_Mo_readSeveral_55 rfl 2 rfl ?_
        refine j_get ig_Mo rfl 3 rfl 17 (by decide) rfl m_1130 rfl d_Mo_readSeveral_56 ?_
        refine j_iconst (v := 1) d_Mo_readSeveral_59 (by decide) ?_
        refine j_iadd d_Mo_readSeveral_60 ?_
        refine j_goto (tgt := 68) d_Mo_readSeveral_61 (by decide) ?_
        refine j_put (ws' := [((am 20), .inr (8, [.ref q0_0_50, .int f0_1_50])), ((am 2), .inl (cI, n_m2, .inl b_m2)), (q0_0_50, .inl (cI, n2_50, .inl b2_50)), (h0, .inr (9, moF am known_h0 thrown_h0 wrong_h0 lastEnd_h0 (f3_17_50 + 1) f3_18_50 f3_19_50 least_h0 found_h0)), ((am 5), .inr (8, [.ref a_all_m5, .int size_m5])), (a_all_m5, .inl (cI, n_a_all_m5, .inl b_a_all_m5))]) ig_Mo tk_Mo nm_Mo rfl 3 rfl 17 (by decide) rfl m_1130 rfl (tk_Mo 17 (by decide)) rfl rfl (Nat.le_of_ble_eq_true rfl) d_Mo_readSeveral_68 rfl ?_
        refine j_goto (tgt := 4) d_Mo_readSeveral_71 (by decide) ?_
        refine j_sub (w := [(h0, .inr (9, moF am known_h0 thrown_h0 wrong_h0 lastEnd_h0 (f3_17_50 + 1) f3_18_50 f3_19_50 least_h0 found_h0)), ((am 20), .inr (8, [.ref q0_0_50, .int f0_1_50])), ((am 5), .inr (8, [.ref a_all_m5, .int size_m5])), (a_all_m5, .inl (cI, n_a_all_m5, .inl b_a_all_m5)), (q0_0_50, .inl (cI, n2_50, .inl b2_50)), ((am 2), .inl (cI, n_m2, .inl b_m2))]) (lv' := [(2, .int v2_50), (1, .int (v1_4 + 1)), (0, .ref h0)]) [3, 0, 4, 5, 2, 1] rfl (by decide) [0, 1, 2] rfl ?_
        exact ih_4 q0_0_50 v2_50 (v1_4 + 1) (f3_17_50 + 1) f3_18_50 f3_19_50 f0_1_50 n2_50 b2_50 hz_v2_50 cl_50 sl_50 C_50 S_50 h hC hS
    have L_34 : ∀ (q0_0_34 : Nat) (t0_34 : Int32) (f0_1_34 : Int32) (n2_34 : Nat) (b2_34 : Nat → Int32) (f3_17_34 : Int32) (f3_18_34 : Int32) (f3_19_34 : Int32) (hz_t0_34 : zb t0_34) (cl_34 sl_34 C_34 S_34 : Nat), F_Mo_readSeveral_34 v1_4 (F_Mo_readSeveral_4 known_h0 thrown_h0 wrong_h0 lastEnd_h0 least_h0 found_h0 size_m5 n_a_all_m5 b_a_all_m5 n_m2 b_m2  k_4)  t0_34 f0_1_34 n2_34 b2_34 f3_17_34 f3_18_34 f3_19_34 = some ((ret, o_0_17, o_0_18, o_0_19, o_1_1, on_nq_1_0, ob_nq_1_0), C_34, S_34) → cl_34 + C_34 ≤ mc → sl_34 + S_34 ≤ ms → J (KxOf p l e { frames := 5, cells := mc, slots := ms, locals := 113 } s m [.ref h0].toArray below meth c D (gT cI cB cJ cS) [(h0, .inr (9, moF am known_h0 thrown_h0 wrong_h0 lastEnd_h0 at_h0 bad_h0 levels_h0 least_h0 found_h0)), ((am 20), .inr (8, [.ref a_all_m20, .int size_m20])), ((am 5), .inr (8, [.ref a_all_m5, .int size_m5])), (a_all_m5, .inl (cI, n_a_all_m5, .inl b_a_all_m5)), (a_all_m20, .inl (cI, n_a_all_m20, .inl b_a_all_m20)), ((am 2), .inl (cI, n_m2, .inl b_m2))] (fun v w => ∃ nq_1_0 : Nat, v = some (.int ret) ∧ zb ret ∧ w = [(h0, .inr (9, moF am known_h0 thrown_h0 wrong_h0 lastEnd_h0 o_0_17 o_0_18 o_0_19 least_h0 found_h0)), ((am 20), .inr (8, [.ref nq_1_0, .int o_1_1])), ((am 5), .inr (8, [.ref a_all_m5, .int size_m5])), (a_all_m5, .inl (cI, n_a_all_m5, .inl b_a_all_m5)), ((am 2), .inl (cI, n_m2, .inl b_m2)), (nq_1_0, .inl (cI, on_nq_1_0, .inl ob_nq_1_0))]) mc ms) prog_12_method_34_code 3 R_Mo 34 [(1, .int (v1_4 + 1)), (2, .int v2_4), (0, .ref h0)] [.int t0_34] [((am 20), .inr (8, [.ref q0_0_34, .int f0_1_34])), ((am 2), .inl (cI, n_m2, .inl b_m2)), (q0_0_34, .inl (cI, n2_34, .inl b2_34)), (h0, .inr (9, moF am known_h0 thrown_h0 wrong_h0 lastEnd_h0 f3_17_34 f3_18_34 f3_19_34 least_h0 found_h0)), ((am 5), .inr (8, [.ref a_all_m5, .int size_m5])), (a_all_m5, .inl (cI, n_a_all_m5, .inl b_a_all_m5))] cl_34 sl_34 := by
      clear h
      intro q0_0_34 t0_34 f0_1_34 n2_34 b2_34 f3_17_34 f3_18_34 f3_19_34 hz_t0_34 cl_34 sl_34 C_34 S_34 h hC hS
      unfold F_Mo_readSeveral_34 at h
      refine j_istore_n (lv' := [(2, .int t0_34), (1, .int (v1_4 + 1)), (0, .ref h0)]) d_Mo_readSeveral_34 rfl (by decide) rfl ?_
      refine j_iload_n d_Mo_readSeveral_35 rfl 0 rfl ?_
      refine j_if_eq (tgt := 50) d_Mo_readSeveral_36 (by decide) (fun c2 => ?_) (fun c2 => ?_)
      · replace h := it_t c2 h
        refine j_sub (w := [((am 20), .inr (8, [.ref q0_0_34, .int f0_1_34])), ((am 2), .inl (cI, n_m2, .inl b_m2)), (q0_0_34, .inl (cI, n2_34, .inl b2_34)), (h0, .inr (9, moF am known_h0 thrown_h0 wrong_h0 lastEnd_h0 f3_17_34 f3_18_34 f3_19_34 least_h0 found_h0)), ((am 5), .inr (8, [.ref a_all_m5, .int size_m5])), (a_all_m5, .inl (cI, n_a_all_m5, .inl b_a_all_m5))]) (lv' := [(2, .int t0_34), (1, .int (v1_4 + 1)), (0, .ref h0)]) [0, 1, 2, 3, 4, 5] rfl (by decide) [0, 1, 2] rfl ?_
        exact L_50 q0_0_34 t0_34 f0_1_34 n2_34 b2_34 f3_17_34 f3_18_34 f3_19_34 hz_t0_34 cl_34 sl_34 C_34 S_34 h hC hS
      · replace h := it_f c2 h
        refine j_iload_n d_Mo_readSeveral_39 rfl 1 rfl ?_
        refine j_bipush (v := 8) d_Mo_readSeveral_40 (by decide) ?_
        refine j_icmp_ne (tgt := 50) d_Mo_readSeveral_42 (by decide) (fun c3 => ?_) (fun c3 => ?_)
        · replace h := it_f c3 h
          refine j_sub (w := [((am 20), .inr (8, [.ref q0_0_34, .int f0_1_34])), ((am 2), .inl (cI, n_m2, .inl b_m2)), (q0_0_34, .inl (cI, n2_34, .inl b2_34)), (h0, .inr (9, moF am known_h0 thrown_h0 wrong_h0 lastEnd_h0 f3_17_34 f3_18_34 f3_19_34 least_h0 found_h0)), ((am 5), .inr (8, [.ref a_all_m5, .int size_m5])), (a_all_m5, .inl (cI, n_a_all_m5, .inl b_a_all_m5))]) (lv' := [(2, .int t0_34), (1, .int (v1_4 + 1)), (0, .ref h0)]) [0, 1, 2, 3, 4, 5] rfl (by decide) [0, 1, 2] rfl ?_
          exact L_50 q0_0_34 t0_34 f0_1_34 n2_34 b2_34 f3_17_34 f3_18_34 f3_19_34 hz_t0_34 cl_34 sl_34 C_34 S_34 h hC hS
        · replace h := it_t c3 h
          refine j_aload_n d_Mo_readSeveral_45 rfl 2 rfl ?_
          refine j_callV (n := 0) (As := []) (rest := []) (wr := [((am 20), .inr (8, [.ref q0_0_34, .int f0_1_34])), ((am 2), .inl (cI, n_m2, .inl b_m2)), (q0_0_34, .inl (cI, n2_34, .inl b2_34)), ((am 5), .inr (8, [.ref a_all_m5, .int size_m5])), (a_all_m5, .inl (cI, n_a_all_m5, .inl b_a_all_m5))]) (c_Mo_fail l D cI cB cJ cS h0 am known_h0 thrown_h0 wrong_h0 lastEnd_h0 f3_17_34 f3_18_34 f3_19_34 least_h0 found_h0  ) k_Mo_278 (by decide) ⟨Nat.le_of_ble_eq_true rfl, Nat.le_of_ble_eq_true rfl⟩ rfl 0 rfl [3] [0, 1, 2, 4, 5] rfl (by decide) rfl (by decide) (by decide) rfl rfl (Nat.le_of_ble_eq_true rfl) d_Mo_readSeveral_46 ⟨show cl_34 + 0 ≤ mc by omega, show sl_34 + 0 ≤ ms by omega⟩ (fun v w hq => ?_)
          obtain ⟨rfl, _, rfl⟩ := hq
          refine j_norm (pc' := 49) (st' := [.int 0]) (ws' := [((am 20), .inr (8, [.ref q0_0_34, .int f0_1_34])), ((am 2), .inl (cI, n_m2, .inl b_m2)), (q0_0_34, .inl (cI, n2_34, .inl b2_34)), ((am 5), .inr (8, [.ref a_all_m5, .int size_m5])), (a_all_m5, .inl (cI, n_a_all_m5, .inl b_a_all_m5)), (h0, .inr (9, moF am known_h0 thrown_h0 wrong_h0 lastEnd_h0 f3_17_34 f3_17_34 f3_19_34 least_h0 found_h0))]) (cl' := cl_34) (sl' := sl_34) rfl rfl rfl rfl rfl rfl ?_
          replace h := lf_s h
          obtain ⟨h, e1, e2⟩ := h
          replace h := Prod.mk.inj h
          obtain ⟨h9, h⟩ := h
          subst h9
          replace h := Prod.mk.inj h
          obtain ⟨h9, h⟩ := h
          subst h9
          replace h := Prod.mk.inj h
          obtain ⟨h9, h⟩ := h
          subst h9
          replace h := Prod.mk.inj h
          obtain ⟨h9, h⟩ := h
          subst h9
          replace h := Prod.mk.inj h
          obtain ⟨h9, h⟩ := h
          subst h9
          replace h := Prod.mk.inj h
          obtain ⟨h9, h⟩ := h
          subst h9
          subst h
          refine j_widen (cl' := mc) (sl' := ms) (by omega) (by omega) ?_
          exact j_zret (w := [(h0, .inr (9, moF am known_h0 thrown_h0 wrong_h0 lastEnd_h0 f3_17_34 f3_17_34 f3_19_34 least_h0 found_h0)), ((am 20), .inr (8, [.ref q0_0_34, .int f0_1_34])), ((am 5), .inr (8, [.ref a_all_m5, .int size_m5])), (a_all_m5, .inl (cI, n_a_all_m5, .inl b_a_all_m5)), ((am 2), .inl (cI, n_m2, .inl b_m2)), (q0_0_34, .inl (cI, n2_34, .inl b2_34))]) hr (zb_n zb0) d_Mo_readSeveral_49 [5, 0, 3, 4, 1, 2] rfl (by decide) ⟨q0_0_34, rfl, zb0, rfl⟩
    refine j_iload_n d_Mo_readSeveral_4 rfl 0 rfl ?_
    refine j_if_eq (tgt := 74) d_Mo_readSeveral_5 (by decide) (fun c5 => ?_) (fun c5 => ?_)
    · replace h := it_t c5 h
      refine j_iconst (v := 1) d_Mo_readSeveral_74 (by decide) ?_
      replace h := lf_s h
      obtain ⟨h, e1, e2⟩ := h
      replace h := Prod.mk.inj h
      obtain ⟨h9, h⟩ := h
      subst h9
      replace h := Prod.mk.inj h
      obtain ⟨h9, h⟩ := h
      subst h9
      replace h := Prod.mk.inj h
      obtain ⟨h9, h⟩ := h
      subst h9
      replace h := Prod.mk.inj h
      obtain ⟨h9, h⟩ := h
      subst h9
      replace h := Prod.mk.inj h
      obtain ⟨h9, h⟩ := h
      subst h9
      replace h := Prod.mk.inj h
      obtain ⟨h9, h⟩ := h
      subst h9
      subst h
      refine j_widen (cl' := mc) (sl' := ms) (by omega) (by omega) ?_
      exact j_zret (w := [(h0, .inr (9, moF am known_h0 thrown_h0 wrong_h0 lastEnd_h0 f0_17_4 f0_18_4 f0_19_4 least_h0 found_h0)), ((am 20), .inr (8, [.ref q1_0_4, .int f1_1_4])), ((am 5), .inr (8, [.ref a_all_m5, .int size_m5])), (a_all_m5, .inl (cI, n_a_all_m5, .inl b_a_all_m5)), ((am 2), .inl (cI, n_m2, .inl b_m2)), (q1_0_4, .inl (cI, n4_4, .inl b4_4))]) hr (zb_n zb1) d_Mo_readSeveral_75 [0, 1, 2, 3, 5, 4] rfl (by decide) ⟨q1_0_4, rfl, zb1, rfl⟩
    · replace h := it_f c5 h
      refine j_aload_n d_Mo_readSeveral_8 rfl 2 rfl ?_
      replace h := bw_s h
      obtain ⟨⟨r6, r7, r8, r9, r10, r11, r12⟩, C15, S16, C17, S18, k19, h, e1, e2⟩ := h
      replace hC : cl_4 + C15 + C17 ≤ mc := by omega
      replace hS : sl_4 + S16 + S18 ≤ ms := by omega
      clear e1 e2
      refine j_callV (n := 0) (As := []) (rest := []) (wr := []) (c_Mo_readExpression l D cI cB cJ cS h0 am q1_0_4 a_all_m5 known_h0 thrown_h0 wrong_h0 lastEnd_h0 f0_17_4 f0_18_4 f0_19_4 least_h0 found_h0 f1_1_4 size_m5 n_a_all_m5 b_a_all_m5 n4_4 b4_4 n_m2 b_m2  r6 r7 r8 r9 r10 r11 r12 C15 S16 k19) k_Mo_326 (by decide) ⟨Nat.le_of_ble_eq_true rfl, Nat.le_of_ble_eq_true rfl⟩ rfl 0 rfl [0, 1, 2, 3, 4, 5] [] rfl (by decide) rfl (by decide) (by decide) rfl rfl (Nat.le_of_ble_eq_true rfl) d_Mo_readSeveral_9 ⟨show cl_4 + C15 ≤ mc by omega, show sl_4 + S16 ≤ ms by omega⟩ (fun v w hq => ?_)
      obtain ⟨q13, rfl, z14, rfl⟩ := hq
      refine j_norm (pc' := 12) (st' := [.int r6]) (ws' := [(h0, .inr (9, moF am known_h0 thrown_h0 wrong_h0 lastEnd_h0 r7 r8 r9 least_h0 found_h0)), ((am 20), .inr (8, [.ref q13, .int r10])), ((am 5), .inr (8, [.ref a_all_m5, .int size_m5])), (a_all_m5, .inl (cI, n_a_all_m5, .inl b_a_all_m5)), ((am 2), .inl (cI, n_m2, .inl b_m2)), (q13, .inl (cI, r11, .inl r12))]) (cl' := cl_4 + C15) (sl' := sl_4 + S16) rfl rfl rfl rfl rfl rfl ?_
      refine j_if_ne (tgt := 17) d_Mo_readSeveral_12 (by decide) (fun c20 => ?_) (fun c20 => ?_)
      · replace h := it_f c20 h
        refine j_iinc (v := v1_4 + 1) (lv' := [(1, .int (v1_4 + 1)), (2, .int v2_4), (0, .ref h0)]) d_Mo_readSeveral_17 1 rfl rfl (by decide) rfl ?_
        refine j_aload_n d_Mo_readSeveral_20 rfl 2 rfl ?_
        replace h := bd_s h
        obtain ⟨_, k21, h⟩ := h
        refine j_callV (n := 0) (As := []) (rest := []) (wr := [((am 20), .inr (8, [.ref q13, .int r10])), ((am 2), .inl (cI, n_m2, .inl b_m2)), (q13, .inl (cI, r11, .inl r12))]) (c_Mo_kind l D cI cB cJ cS h0 am a_all_m5 known_h0 thrown_h0 wrong_h0 lastEnd_h0 r7 r8 r9 least_h0 found_h0 size_m5 n_a_all_m5 b_a_all_m5  k21) k_Mo_275 (by decide) ⟨Nat.le_of_ble_eq_true rfl, Nat.le_of_ble_eq_true rfl⟩ rfl 0 rfl [0, 2, 3] [1, 4, 5] rfl (by decide) rfl (by decide) (by decide) rfl rfl (Nat.le_of_ble_eq_true rfl) d_Mo_readSeveral_21 ⟨show cl_4 + C15 + 0 ≤ mc by omega, show sl_4 + S16 + 0 ≤ ms by omega⟩ (fun v w hq => ?_)
        obtain ⟨rfl, rfl⟩ := hq
        refine j_norm (pc' := 24) (st' := [.int (b_a_all_m5 (Int32.toNatClampNeg r7))]) (ws' := [((am 20), .inr (8, [.ref q13, .int r10])), ((am 2), .inl (cI, n_m2, .inl b_m2)), (q13, .inl (cI, r11, .inl r12)), (h0, .inr (9, moF am known_h0 thrown_h0 wrong_h0 lastEnd_h0 r7 r8 r9 least_h0 found_h0)), ((am 5), .inr (8, [.ref a_all_m5, .int size_m5])), (a_all_m5, .inl (cI, n_a_all_m5, .inl b_a_all_m5))]) (cl' := cl_4 + C15) (sl' := sl_4 + S16) rfl rfl rfl rfl rfl rfl ?_
        refine j_bipush (v := 54) d_Mo_readSeveral_24 (by decide) ?_
        refine j_icmp_ne (tgt := 33) d_Mo_readSeveral_26 (by decide) (fun c22 => ?_) (fun c22 => ?_)
        · replace h := it_f c22 h
          refine j_iconst (v := 0) d_Mo_readSeveral_33 (by decide) ?_
          refine j_sub (w := [((am 20), .inr (8, [.ref q13, .int r10])), ((am 2), .inl (cI, n_m2, .inl b_m2)), (q13, .inl (cI, r11, .inl r12)), (h0, .inr (9, moF am known_h0 thrown_h0 wrong_h0 lastEnd_h0 r7 r8 r9 least_h0 found_h0)), ((am 5), .inr (8, [.ref a_all_m5, .int size_m5])), (a_all_m5, .inl (cI, n_a_all_m5, .inl b_a_all_m5))]) (lv' := [(1, .int (v1_4 + 1)), (2, .int v2_4), (0, .ref h0)]) [0, 1, 2, 3, 4, 5] rfl (by decide) [0, 1, 2] rfl ?_
          exact L_34 q13 0 r10 r11 r12 r7 r8 r9 zb0 (cl_4 + C15) (sl_4 + S16) C17 S18 h hC hS
        · replace h := it_t c22 h
          refine j_iconst (v := 1) d_Mo_readSeveral_29 (by decide) ?_
          refine j_goto (tgt := 34) d_Mo_readSeveral_30 (by decide) ?_
          refine j_sub (w := [((am 20), .inr (8, [.ref q13, .int r10])), ((am 2), .inl (cI, n_m2, .inl b_m2)), (q13, .inl (cI, r11, .inl r12)), (h0, .inr (9, moF am known_h0 thrown_h0 wrong_h0 lastEnd_h0 r7 r8 r9 least_h0 found_h0)), ((am 5), .inr (8, [.ref a_all_m5, .int size_m5])), (a_all_m5, .inl (cI, n_a_all_m5, .inl b_a_all_m5))]) (lv' := [(1, .int (v1_4 + 1)), (2, .int v2_4), (0, .ref h0)]) [0, 1, 2, 3, 4, 5] rfl (by decide) [0, 1, 2] rfl ?_
          exact L_34 q13 1 r10 r11 r12 r7 r8 r9 zb1 (cl_4 + C15) (sl_4 + S16) C17 S18 h hC hS
      · replace h := it_t c20 h
        refine j_iconst (v := 0) d_Mo_readSeveral_15 (by decide) ?_
        replace h := lf_s h
        obtain ⟨h, e1, e2⟩ := h
        replace h := Prod.mk.inj h
        obtain ⟨h9, h⟩ := h
        subst h9
        replace h := Prod.mk.inj h
        obtain ⟨h9, h⟩ := h
        subst h9
        replace h := Prod.mk.inj h
        obtain ⟨h9, h⟩ := h
        subst h9
        replace h := Prod.mk.inj h
        obtain ⟨h9, h⟩ := h
        subst h9
        replace h := Prod.mk.inj h
        obtain ⟨h9, h⟩ := h
        subst h9
        replace h := Prod.mk.inj h
        obtain ⟨h9, h⟩ := h
        subst h9
        subst h
        refine j_widen (cl' := mc) (sl' := ms) (by omega) (by omega) ?_
        exact j_zret (w := [(h0, .inr (9, moF am known_h0 thrown_h0 wrong_h0 lastEnd_h0 r7 r8 r9 least_h0 found_h0)), ((am 20), .inr (8, [.ref q13, .int r10])), ((am 5), .inr (8, [.ref a_all_m5, .int size_m5])), (a_all_m5, .inl (cI, n_a_all_m5, .inl b_a_all_m5)), ((am 2), .inl (cI, n_m2, .inl b_m2)), (q13, .inl (cI, r11, .inl r12))]) hr (zb_n zb0) d_Mo_readSeveral_16 [0, 1, 2, 3, 4, 5] rfl (by decide) ⟨q13, rfl, zb0, rfl⟩
set_option maxHeartbeats 4000000 in
set_option maxRecDepth 100000 in
theorem c_Mo_readSeveral (l : Launch) (D : va_G) (cI cB cJ cS : ClassId) (h0 : Nat) (am : Nat → Nat) (a_all_m20 : Nat) (a_all_m5 : Nat) (known_h0 : Int32) (thrown_h0 : Int32) (wrong_h0 : Int32) (lastEnd_h0 : Int32) (at_h0 : Int32) (bad_h0 : Int32) (levels_h0 : Int32) (least_h0 : Int32) (found_h0 : Int32) (size_m20 : Int32) (size_m5 : Int32) (n_a_all_m5 : Nat) (b_a_all_m5 : Nat → Int32) (n_a_all_m20 : Nat) (b_a_all_m20 : Nat → Int32) (n_m2 : Nat) (b_m2 : Nat → Int32) (ret : Int32) (o_0_17 : Int32) (o_0_18 : Int32) (o_0_19 : Int32) (o_1_1 : Int32) (on_nq_1_0 : Nat) (ob_nq_1_0 : Nat → Int32) (mc ms : Nat) (h : F_Mo_readSeveral known_h0 thrown_h0 wrong_h0 lastEnd_h0 at_h0 bad_h0 levels_h0 least_h0 found_h0 size_m20 size_m5 n_a_all_m5 b_a_all_m5 n_a_all_m20 b_a_all_m20 n_m2 b_m2 = some ((ret, o_0_17, o_0_18, o_0_19, o_1_1, on_nq_1_0, ob_nq_1_0), mc, ms)) : Ct l D (gT cI cB cJ cS) y_Mo_readSeveral prog_12_method_34_code 3 (Option.some Jvm.ClassFile.FieldType.boolean) 5 113 mc ms [.ref h0] [(h0, .inr (9, moF am known_h0 thrown_h0 wrong_h0 lastEnd_h0 at_h0 bad_h0 levels_h0 least_h0 found_h0)), ((am 20), .inr (8, [.ref a_all_m20, .int size_m20])), ((am 5), .inr (8, [.ref a_all_m5, .int size_m5])), (a_all_m5, .inl (cI, n_a_all_m5, .inl b_a_all_m5)), (a_all_m20, .inl (cI, n_a_all_m20, .inl b_a_all_m20)), ((am 2), .inl (cI, n_m2, .inl b_m2))] (fun v w => ∃ nq_1_0 : Nat, v = some (.int ret) ∧ zb ret ∧ w = [(h0, .inr (9, moF am known_h0 thrown_h0 wrong_h0 lastEnd_h0 o_0_17 o_0_18 o_0_19 least_h0 found_h0)), ((am 20), .inr (8, [.ref nq_1_0, .int o_1_1])), ((am 5), .inr (8, [.ref a_all_m5, .int size_m5])), (a_all_m5, .inl (cI, n_a_all_m5, .inl b_a_all_m5)), ((am 2), .inl (cI, n_m2, .inl b_m2)), (nq_1_0, .inl (cI, on_nq_1_0, .inl ob_nq_1_0))]) := by
  refine Ct.mk (by decide) (Nat.le_of_ble_eq_true rfl) ?_
  intro p e s m below meth c hr hnm
  refine j_norm (pc' := 0) (lv' := [(0, .ref h0)]) (st' := []) (ws' := [(h0, .inr (9, moF am known_h0 thrown_h0 wrong_h0 lastEnd_h0 at_h0 bad_h0 levels_h0 least_h0 found_h0)), ((am 20), .inr (8, [.ref a_all_m20, .int size_m20])), ((am 5), .inr (8, [.ref a_all_m5, .int size_m5])), (a_all_m5, .inl (cI, n_a_all_m5, .inl b_a_all_m5)), (a_all_m20, .inl (cI, n_a_all_m20, .inl b_a_all_m20)), ((am 2), .inl (cI, n_m2, .inl b_m2))]) (cl' := 0) (sl' := 0) rfl rfl rfl rfl rfl rfl ?_
  unfold F_Mo_readSeveral at h
  have hC : 0 + mc ≤ mc := by omega
  have hS : 0 + ms ≤ ms := by omega
  refine j_iconst (v := 0) d_Mo_readSeveral_0 (by decide) ?_
  refine j_istore_n (lv' := [(1, .int 0), (0, .ref h0)]) d_Mo_readSeveral_1 rfl (by decide) rfl ?_
  refine j_iconst (v := 1) d_Mo_readSeveral_2 (by decide) ?_
  refine j_istore_n (lv' := [(2, .int 1), (1, .int 0), (0, .ref h0)]) d_Mo_readSeveral_3 rfl (by decide) rfl ?_
  refine j_sub (w := [(h0, .inr (9, moF am known_h0 thrown_h0 wrong_h0 lastEnd_h0 at_h0 bad_h0 levels_h0 least_h0 found_h0)), ((am 20), .inr (8, [.ref a_all_m20, .int size_m20])), ((am 5), .inr (8, [.ref a_all_m5, .int size_m5])), (a_all_m5, .inl (cI, n_a_all_m5, .inl b_a_all_m5)), (a_all_m20, .inl (cI, n_a_all_m20, .inl b_a_all_m20)), ((am 2), .inl (cI, n_m2, .inl b_m2))]) (lv' := [(2, .int 1), (1, .int 0), (0, .ref h0)]) [0, 1, 2, 3, 4, 5] rfl (by decide) [0, 1, 2] rfl ?_
  exact L_Mo_readSeveral_4 l D cI cB cJ cS h0 am a_all_m20 a_all_m5 known_h0 thrown_h0 wrong_h0 lastEnd_h0 at_h0 bad_h0 levels_h0 least_h0 found_h0 size_m20 size_m5 n_a_all_m5 b_a_all_m5 n_a_all_m20 b_a_all_m20 n_m2 b_m2 ret o_0_17 o_0_18 o_0_19 o_1_1 on_nq_1_0 ob_nq_1_0 mc ms p e s m below meth c hr hnm FU a_all_m20 1 0 at_h0 bad_h0 levels_h0 size_m20 n_a_all_m20 b_a_all_m20 zb1 0 0 mc ms h hC hS
noncomputable def F_Mo_readCondition (known_h0 : Int32) (thrown_h0 : Int32) (wrong_h0 : Int32) (lastEnd_h0 : Int32) (at_h0 : Int32) (bad_h0 : Int32) (levels_h0 : Int32) (least_h0 : Int32) (found_h0 : Int32) (size_m5 : Int32) (n_a_all_m5 : Nat) (b_a_all_m5 : Nat → Int32) (size_m20 : Int32) (n_a_all_m20 : Nat) (b_a_all_m20 : Nat → Int32) (n_m2 : Nat) (b_m2 : Nat → Int32) : Option ((Int32 × Int32 × Int32 × Int32 × Int32 × Nat × (Nat → Int32)) × Nat × Nat) :=
  Option.bind (F_Mo_enter 50 known_h0 thrown_h0 wrong_h0 lastEnd_h0 at_h0 bad_h0 levels_h0 least_h0 found_h0 size_m5 n_a_all_m5 b_a_all_m5) fun ⟨r1, r2, r3, r4⟩ =>
  if r1 = 0 then (some ((0, r2, r3, r4, size_m20, n_a_all_m20, b_a_all_m20), 0, 0))
  else (bw (F_Mo_readExpression known_h0 thrown_h0 wrong_h0 lastEnd_h0 r2 r3 r4 least_h0 found_h0 size_m20 size_m5 n_a_all_m5 b_a_all_m5 n_a_all_m20 b_a_all_m20 n_m2 b_m2) fun ⟨r8, r9, r10, r11, r12, r13, r14⟩ =>
    if r8 = 0 then (some ((0, r9, r10, r11, r12, r13, r14), 0, 0))
    else (Option.bind (F_Mo_leave 51 known_h0 thrown_h0 wrong_h0 lastEnd_h0 r9 r10 r11 least_h0 found_h0 size_m5 n_a_all_m5 b_a_all_m5) fun ⟨r23, r24, r25⟩ =>
      if r23 = 0 then (some ((0, r24, r25, (r11 - 1), r12, r13, r14), 0, 0))
      else (some ((1, r24, r25, (r11 - 1), r12, r13, r14), 0, 0))))
theorem d_Mo_readCondition_0 : decode prog_12_method_41_code 0 = .ok (.aload_n 0, 1) := by decide +kernel
theorem d_Mo_readCondition_1 : decode prog_12_method_41_code 1 = .ok (.bipush 50, 2) := by decide +kernel
theorem d_Mo_readCondition_3 : decode prog_12_method_41_code 3 = .ok (.invokevirtual 297, 3) := by decide +kernel
theorem d_Mo_readCondition_6 : decode prog_12_method_41_code 6 = .ok (.ifCond .eq 23, 3) := by decide +kernel
theorem d_Mo_readCondition_9 : decode prog_12_method_41_code 9 = .ok (.aload_n 0, 1) := by decide +kernel
theorem d_Mo_readCondition_10 : decode prog_12_method_41_code 10 = .ok (.invokevirtual 326, 3) := by decide +kernel
theorem d_Mo_readCondition_13 : decode prog_12_method_41_code 13 = .ok (.ifCond .eq 16, 3) := by decide +kernel
theorem d_Mo_readCondition_16 : decode prog_12_method_41_code 16 = .ok (.aload_n 0, 1) := by decide +kernel
theorem d_Mo_readCondition_17 : decode prog_12_method_41_code 17 = .ok (.bipush 51, 2) := by decide +kernel
theorem d_Mo_readCondition_19 : decode prog_12_method_41_code 19 = .ok (.invokevirtual 338, 3) := by decide +kernel
theorem d_Mo_readCondition_22 : decode prog_12_method_41_code 22 = .ok (.ifCond .eq 7, 3) := by decide +kernel
theorem d_Mo_readCondition_25 : decode prog_12_method_41_code 25 = .ok (.iconst 1, 1) := by decide +kernel
theorem d_Mo_readCondition_26 : decode prog_12_method_41_code 26 = .ok (.goto 4, 3) := by decide +kernel
theorem d_Mo_readCondition_29 : decode prog_12_method_41_code 29 = .ok (.iconst 0, 1) := by decide +kernel
theorem d_Mo_readCondition_30 : decode prog_12_method_41_code 30 = .ok (.ireturn, 1) := by decide +kernel
set_option maxHeartbeats 4000000 in
set_option maxRecDepth 100000 in
theorem c_Mo_readCondition (l : Launch) (D : va_G) (cI cB cJ cS : ClassId) (h0 : Nat) (am : Nat → Nat) (a_all_m5 : Nat) (a_all_m20 : Nat) (known_h0 : Int32) (thrown_h0 : Int32) (wrong_h0 : Int32) (lastEnd_h0 : Int32) (at_h0 : Int32) (bad_h0 : Int32) (levels_h0 : Int32) (least_h0 : Int32) (found_h0 : Int32) (size_m5 : Int32) (n_a_all_m5 : Nat) (b_a_all_m5 : Nat → Int32) (size_m20 : Int32) (n_a_all_m20 : Nat) (b_a_all_m20 : Nat → Int32) (n_m2 : Nat) (b_m2 : Nat → Int32) (ret : Int32) (o_0_17 : Int32) (o_0_18 : Int32) (o_0_19 : Int32) (o_3_1 : Int32) (on_nq_3_0 : Nat) (ob_nq_3_0 : Nat → Int32) (mc ms : Nat) (h : F_Mo_readCondition known_h0 thrown_h0 wrong_h0 lastEnd_h0 at_h0 bad_h0 levels_h0 least_h0 found_h0 size_m5 n_a_all_m5 b_a_all_m5 size_m20 n_a_all_m20 b_a_all_m20 n_m2 b_m2 = some ((ret, o_0_17, o_0_18, o_0_19, o_3_1, on_nq_3_0, ob_nq_3_0), mc, ms)) : Ct l D (gT cI cB cJ cS) y_Mo_readCondition prog_12_method_41_code 1 (Option.some Jvm.ClassFile.FieldType.boolean) 5 113 mc ms [.ref h0] [(h0, .inr (9, moF am known_h0 thrown_h0 wrong_h0 lastEnd_h0 at_h0 bad_h0 levels_h0 least_h0 found_h0)), ((am 5), .inr (8, [.ref a_all_m5, .int size_m5])), (a_all_m5, .inl (cI, n_a_all_m5, .inl b_a_all_m5)), ((am 20), .inr (8, [.ref a_all_m20, .int size_m20])), (a_all_m20, .inl (cI, n_a_all_m20, .inl b_a_all_m20)), ((am 2), .inl (cI, n_m2, .inl b_m2))] (fun v w => ∃ nq_3_0 : Nat, v = some (.int ret) ∧ zb ret ∧ w = [(h0, .inr (9, moF am known_h0 thrown_h0 wrong_h0 lastEnd_h0 o_0_17 o_0_18 o_0_19 least_h0 found_h0)), ((am 5), .inr (8, [.ref a_all_m5, .int size_m5])), (a_all_m5, .inl (cI, n_a_all_m5, .inl b_a_all_m5)), ((am 20), .inr (8, [.ref nq_3_0, .int o_3_1])), ((am 2), .inl (cI, n_m2, .inl b_m2)), (nq_3_0, .inl (cI, on_nq_3_0, .inl ob_nq_3_0))]) := by
  refine Ct.mk (by decide) (Nat.le_of_ble_eq_true rfl) ?_
  intro p e s m below meth c hr hnm
  refine j_norm (pc' := 0) (lv' := [(0, .ref h0)]) (st' := []) (ws' := [(h0, .inr (9, moF am known_h0 thrown_h0 wrong_h0 lastEnd_h0 at_h0 bad_h0 levels_h0 least_h0 found_h0)), ((am 5), .inr (8, [.ref a_all_m5, .int size_m5])), (a_all_m5, .inl (cI, n_a_all_m5, .inl b_a_all_m5)), ((am 20), .inr (8, [.ref a_all_m20, .int size_m20])), (a_all_m20, .inl (cI, n_a_all_m20, .inl b_a_all_m20)), ((am 2), .inl (cI, n_m2, .inl b_m2))]) (cl' := 0) (sl' := 0) rfl rfl rfl rfl rfl rfl ?_
  unfold F_Mo_readCondition at h
  have hC : 0 + mc ≤ mc := by omega
  have hS : 0 + ms ≤ ms := by omega
  refine j_aload_n d_Mo_readCondition_0 rfl 0 rfl ?_
  refine j_bipush (v := 50) d_Mo_readCondition_1 (by decide) ?_
  replace h := bd_s h
  obtain ⟨⟨r1, r2, r3, r4⟩, k6, h⟩ := h
  refine j_callV (n := 1) (As := [.int 50]) (rest := []) (wr := [((am 20), .inr (8, [.ref a_all_m20, .int size_m20])), (a_all_m20, .inl (cI, n_a_all_m20, .inl b_a_all_m20)), ((am 2), .inl (cI, n_m2, .inl b_m2))]) (c_Mo_enter l D cI cB cJ cS h0 am a_all_m5 50 known_h0 thrown_h0 wrong_h0 lastEnd_h0 at_h0 bad_h0 levels_h0 least_h0 found_h0 size_m5 n_a_all_m5 b_a_all_m5  r1 r2 r3 r4 k6) k_Mo_297 (by decide) ⟨Nat.le_of_ble_eq_true rfl, Nat.le_of_ble_eq_true rfl⟩ rfl 0 rfl [0, 1, 2] [3, 4, 5] rfl (by decide) rfl (by decide) (by decide) rfl rfl (Nat.le_of_ble_eq_true rfl) d_Mo_readCondition_3 ⟨show 0 + 0 ≤ mc by omega, show 0 + 0 ≤ ms by omega⟩ (fun v w hq => ?_)
  obtain ⟨rfl, z5, rfl⟩ := hq
  refine j_norm (pc' := 6) (st' := [.int r1]) (ws' := [((am 20), .inr (8, [.ref a_all_m20, .int size_m20])), (a_all_m20, .inl (cI, n_a_all_m20, .inl b_a_all_m20)), ((am 2), .inl (cI, n_m2, .inl b_m2)), (h0, .inr (9, moF am known_h0 thrown_h0 wrong_h0 lastEnd_h0 r2 r3 r4 least_h0 found_h0)), ((am 5), .inr (8, [.ref a_all_m5, .int size_m5])), (a_all_m5, .inl (cI, n_a_all_m5, .inl b_a_all_m5))]) (cl' := 0) (sl' := 0) rfl rfl rfl rfl rfl rfl ?_
  refine j_if_eq (tgt := 29) d_Mo_readCondition_6 (by decide) (fun c7 => ?_) (fun c7 => ?_)
  · replace h := it_t c7 h
    refine j_iconst (v := 0) d_Mo_readCondition_29 (by decide) ?_
    replace h := lf_s h
    obtain ⟨h, e1, e2⟩ := h
    replace h := Prod.mk.inj h
    obtain ⟨h9, h⟩ := h
    subst h9
    replace h := Prod.mk.inj h
    obtain ⟨h9, h⟩ := h
    subst h9
    replace h := Prod.mk.inj h
    obtain ⟨h9, h⟩ := h
    subst h9
    replace h := Prod.mk.inj h
    obtain ⟨h9, h⟩ := h
    subst h9
    replace h := Prod.mk.inj h
    obtain ⟨h9, h⟩ := h
    subst h9
    replace h := Prod.mk.inj h
    obtain ⟨h9, h⟩ := h
    subst h9
    subst h
    refine j_widen (cl' := mc) (sl' := ms) (by omega) (by omega) ?_
    exact j_zret (w := [(h0, .inr (9, moF am known_h0 thrown_h0 wrong_h0 lastEnd_h0 r2 r3 r4 least_h0 found_h0)), ((am 5), .inr (8, [.ref a_all_m5, .int size_m5])), (a_all_m5, .inl (cI, n_a_all_m5, .inl b_a_all_m5)), ((am 20), .inr (8, [.ref a_all_m20, .int size_m20])), ((am 2), .inl (cI, n_m2, .inl b_m2)), (a_all_m20, .inl (cI, n_a_all_m20, .inl b_a_all_m20))]) hr (zb_n zb0) d_Mo_readCondition_30 [3, 4, 5, 0, 2, 1] rfl (by decide) ⟨a_all_m20, rfl, zb0, rfl⟩
  · replace h := it_f c7 h
    refine j_aload_n d_Mo_readCondition_9 rfl 0 rfl ?_
    replace h := bw_s h
    obtain ⟨⟨r8, r9, r10, r11, r12, r13, r14⟩, C17, S18, C19, S20, k21, h, e1, e2⟩ := h
    replace hC : 0 + C17 + C19 ≤ mc := by omega
    replace hS : 0 + S18 + S20 ≤ ms := by omega
    clear e1 e2
    refine j_callV (n := 0) (As := []) (rest := []) (wr := []) (c_Mo_readExpression l D cI cB cJ cS h0 am a_all_m20 a_all_m5 known_h0 thrown_h0 wrong_h0 lastEnd_h0 r2 r3 r4 least_h0 found_h0 size_m20 size_m5 n_a_all_m5 b_a_all_m5 n_a_all_m20 b_a_all_m20 n_m2 b_m2  r8 r9 r10 r11 r12 r13 r14 C17 S18 k21) k_Mo_326 (by decide) ⟨Nat.le_of_ble_eq_true rfl, Nat.le_of_ble_eq_true rfl⟩ rfl 0 rfl [3, 0, 4, 5, 1, 2] [] rfl (by decide) rfl (by decide) (by decide) rfl rfl (Nat.le_of_ble_eq_true rfl) d_Mo_readCondition_10 ⟨show 0 + C17 ≤ mc by omega, show 0 + S18 ≤ ms by omega⟩ (fun v w hq => ?_)
    obtain ⟨q15, rfl, z16, rfl⟩ := hq
    refine j_norm (pc' := 13) (st' := [.int r8]) (ws' := [(h0, .inr (9, moF am known_h0 thrown_h0 wrong_h0 lastEnd_h0 r9 r10 r11 least_h0 found_h0)), ((am 20), .inr (8, [.ref q15, .int r12])), ((am 5), .inr (8, [.ref a_all_m5, .int size_m5])), (a_all_m5, .inl (cI, n_a_all_m5, .inl b_a_all_m5)), ((am 2), .inl (cI, n_m2, .inl b_m2)), (q15, .inl (cI, r13, .inl r14))]) (cl' := 0 + C17) (sl' := 0 + S18) rfl rfl rfl rfl rfl rfl ?_
    refine j_if_eq (tgt := 29) d_Mo_readCondition_13 (by decide) (fun c22 => ?_) (fun c22 => ?_)
    · replace h := it_t c22 h
      refine j_iconst (v := 0) d_Mo_readCondition_29 (by decide) ?_
      replace h := lf_s h
      obtain ⟨h, e1, e2⟩ := h
      replace h := Prod.mk.inj h
      obtain ⟨h9, h⟩ := h
      subst h9
      replace h := Prod.mk.inj h
      obtain ⟨h9, h⟩ := h
      subst h9
      replace h := Prod.mk.inj h
      obtain ⟨h9, h⟩ := h
      subst h9
      replace h := Prod.mk.inj h
      obtain ⟨h9, h⟩ := h
      subst h9
      replace h := Prod.mk.inj h
      obtain ⟨h9, h⟩ := h
      subst h9
      replace h := Prod.mk.inj h
      obtain ⟨h9, h⟩ := h
      subst h9
      subst h
      refine j_widen (cl' := mc) (sl' := ms) (by omega) (by omega) ?_
      exact j_zret (w := [(h0, .inr (9, moF am known_h0 thrown_h0 wrong_h0 lastEnd_h0 r9 r10 r11 least_h0 found_h0)), ((am 5), .inr (8, [.ref a_all_m5, .int size_m5])), (a_all_m5, .inl (cI, n_a_all_m5, .inl b_a_all_m5)), ((am 20), .inr (8, [.ref q15, .int r12])), ((am 2), .inl (cI, n_m2, .inl b_m2)), (q15, .inl (cI, r13, .inl r14))]) hr (zb_n zb0) d_Mo_readCondition_30 [0, 2, 3, 1, 4, 5] rfl (by decide) ⟨q15, rfl, zb0, rfl⟩
    · replace h := it_f c22 h
      refine j_aload_n d_Mo_readCondition_16 rfl 0 rfl ?_
      refine j_bipush (v := 51) d_Mo_readCondition_17 (by decide) ?_
      replace h := bd_s h
      obtain ⟨⟨r23, r24, r25⟩, k27, h⟩ := h
      refine j_callV (n := 1) (As := [.int 51]) (rest := []) (wr := [((am 20), .inr (8, [.ref q15, .int r12])), ((am 2), .inl (cI, n_m2, .inl b_m2)), (q15, .inl (cI, r13, .inl r14))]) (c_Mo_leave l D cI cB cJ cS h0 am a_all_m5 51 known_h0 thrown_h0 wrong_h0 lastEnd_h0 r9 r10 r11 least_h0 found_h0 size_m5 n_a_all_m5 b_a_all_m5  r23 r24 r25 k27) k_Mo_338 (by decide) ⟨Nat.le_of_ble_eq_true rfl, Nat.le_of_ble_eq_true rfl⟩ rfl 0 rfl [0, 2, 3] [1, 4, 5] rfl (by decide) rfl (by decide) (by decide) rfl rfl (Nat.le_of_ble_eq_true rfl) d_Mo_readCondition_19 ⟨show 0 + C17 + 0 ≤ mc by omega, show 0 + S18 + 0 ≤ ms by omega⟩ (fun v w hq => ?_)
      obtain ⟨rfl, z26, rfl⟩ := hq
      refine j_norm (pc' := 22) (st' := [.int r23]) (ws' := [((am 20), .inr (8, [.ref q15, .int r12])), ((am 2), .inl (cI, n_m2, .inl b_m2)), (q15, .inl (cI, r13, .inl r14)), (h0, .inr (9, moF am known_h0 thrown_h0 wrong_h0 lastEnd_h0 r24 r25 (r11 - 1) least_h0 found_h0)), ((am 5), .inr (8, [.ref a_all_m5, .int size_m5])), (a_all_m5, .inl (cI, n_a_all_m5, .inl b_a_all_m5))]) (cl' := 0 + C17) (sl' := 0 + S18) rfl rfl rfl rfl rfl rfl ?_
      refine j_if_eq (tgt := 29) d_Mo_readCondition_22 (by decide) (fun c28 => ?_) (fun c28 => ?_)
      · replace h := it_t c28 h
        refine j_iconst (v := 0) d_Mo_readCondition_29 (by decide) ?_
        replace h := lf_s h
        obtain ⟨h, e1, e2⟩ := h
        replace h := Prod.mk.inj h
        obtain ⟨h9, h⟩ := h
        subst h9
        replace h := Prod.mk.inj h
        obtain ⟨h9, h⟩ := h
        subst h9
        replace h := Prod.mk.inj h
        obtain ⟨h9, h⟩ := h
        subst h9
        replace h := Prod.mk.inj h
        obtain ⟨h9, h⟩ := h
        subst h9
        replace h := Prod.mk.inj h
        obtain ⟨h9, h⟩ := h
        subst h9
        replace h := Prod.mk.inj h
        obtain ⟨h9, h⟩ := h
        subst h9
        subst h
        refine j_widen (cl' := mc) (sl' := ms) (by omega) (by omega) ?_
        exact j_zret (w := [(h0, .inr (9, moF am known_h0 thrown_h0 wrong_h0 lastEnd_h0 r24 r25 (r11 - 1) least_h0 found_h0)), ((am 5), .inr (8, [.ref a_all_m5, .int size_m5])), (a_all_m5, .inl (cI, n_a_all_m5, .inl b_a_all_m5)), ((am 20), .inr (8, [.ref q15, .int r12])), ((am 2), .inl (cI, n_m2, .inl b_m2)), (q15, .inl (cI, r13, .inl r14))]) hr (zb_n zb0) d_Mo_readCondition_30 [3, 4, 5, 0, 1, 2] rfl (by decide) ⟨q15, rfl, zb0, rfl⟩
      · replace h := it_f c28 h
        refine j_iconst (v := 1) d_Mo_readCondition_25 (by decide) ?_
        refine j_goto (tgt := 30) d_Mo_readCondition_26 (by decide) ?_
        replace h := lf_s h
        obtain ⟨h, e1, e2⟩ := h
        replace h := Prod.mk.inj h
        obtain ⟨h9, h⟩ := h
        subst h9
        replace h := Prod.mk.inj h
        obtain ⟨h9, h⟩ := h
        subst h9
        replace h := Prod.mk.inj h
        obtain ⟨h9, h⟩ := h
        subst h9
        replace h := Prod.mk.inj h
        obtain ⟨h9, h⟩ := h
        subst h9
        replace h := Prod.mk.inj h
        obtain ⟨h9, h⟩ := h
        subst h9
        replace h := Prod.mk.inj h
        obtain ⟨h9, h⟩ := h
        subst h9
        subst h
        refine j_widen (cl' := mc) (sl' := ms) (by omega) (by omega) ?_
        exact j_zret (w := [(h0, .inr (9, moF am known_h0 thrown_h0 wrong_h0 lastEnd_h0 r24 r25 (r11 - 1) least_h0 found_h0)), ((am 5), .inr (8, [.ref a_all_m5, .int size_m5])), (a_all_m5, .inl (cI, n_a_all_m5, .inl b_a_all_m5)), ((am 20), .inr (8, [.ref q15, .int r12])), ((am 2), .inl (cI, n_m2, .inl b_m2)), (q15, .inl (cI, r13, .inl r14))]) hr (zb_n zb1) d_Mo_readCondition_30 [3, 4, 5, 0, 1, 2] rfl (by decide) ⟨q15, rfl, zb1, rfl⟩
noncomputable def F_Mo_readTargets_0 (known_h0 : Int32) (thrown_h0 : Int32) (wrong_h0 : Int32) (lastEnd_h0 : Int32) (bad_h0 : Int32) (levels_h0 : Int32) (least_h0 : Int32) (found_h0 : Int32) (size_m5 : Int32) (n_a_all_m5 : Nat) (b_a_all_m5 : Nat → Int32) (size_m20 : Int32) (n_a_all_m20 : Nat) (b_a_all_m20 : Nat → Int32) (n_m2 : Nat) (b_m2 : Nat → Int32) : Nat → Int32 → Option ((Int32 × Int32 × Int32 × Int32 × Int32 × Nat × (Nat → Int32)) × Nat × Nat)
  | 0, _ => none
  | k_0 + 1, f0_17_0 =>
    Option.bind (F_Mo_kind known_h0 thrown_h0 wrong_h0 lastEnd_h0 f0_17_0 bad_h0 levels_h0 least_h0 found_h0 size_m5 n_a_all_m5 b_a_all_m5) fun _ =>
    if (b_a_all_m5 (Int32.toNatClampNeg f0_17_0)) = 56 then (Option.bind (F_Mo_take 2 known_h0 thrown_h0 wrong_h0 lastEnd_h0 (f0_17_0 + 1) bad_h0 levels_h0 least_h0 found_h0 size_m5 n_a_all_m5 b_a_all_m5) fun ⟨r3, r4, r5⟩ =>
      if r3 = 0 then (some ((0, r4, r5, levels_h0, size_m20, n_a_all_m20, b_a_all_m20), 0, 0))
      else (Option.bind (F_Mo_enter 50 known_h0 thrown_h0 wrong_h0 lastEnd_h0 r4 r5 levels_h0 least_h0 found_h0 size_m5 n_a_all_m5 b_a_all_m5) fun ⟨r9, r10, r11, r12⟩ =>
        if r9 = 0 then (some ((0, r10, r11, r12, size_m20, n_a_all_m20, b_a_all_m20), 0, 0))
        else (Option.bind (F_Mo_kind known_h0 thrown_h0 wrong_h0 lastEnd_h0 r10 r11 r12 least_h0 found_h0 size_m5 n_a_all_m5 b_a_all_m5) fun _ =>
          if (b_a_all_m5 (Int32.toNatClampNeg r10)) = 51 then (Option.bind (F_Mo_leave 51 known_h0 thrown_h0 wrong_h0 lastEnd_h0 r10 r11 r12 least_h0 found_h0 size_m5 n_a_all_m5 b_a_all_m5) fun ⟨r18, r19, r20⟩ =>
            if r18 = 0 then (some ((0, r19, r20, (r12 - 1), size_m20, n_a_all_m20, b_a_all_m20), 0, 0))
            else (some ((1, r19, r20, (r12 - 1), size_m20, n_a_all_m20, b_a_all_m20), 0, 0)))
          else (bw (F_Mo_readSeveral known_h0 thrown_h0 wrong_h0 lastEnd_h0 r10 r11 r12 least_h0 found_h0 size_m20 size_m5 n_a_all_m5 b_a_all_m5 n_a_all_m20 b_a_all_m20 n_m2 b_m2) fun ⟨r24, r25, r26, r27, r28, r29, r30⟩ =>
            if r24 = 0 then (some ((0, r25, r26, r27, r28, r29, r30), 0, 0))
            else (Option.bind (F_Mo_leave 51 known_h0 thrown_h0 wrong_h0 lastEnd_h0 r25 r26 r27 least_h0 found_h0 size_m5 n_a_all_m5 b_a_all_m5) fun ⟨r39, r40, r41⟩ =>
              if r39 = 0 then (some ((0, r40, r41, (r27 - 1), r28, r29, r30), 0, 0))
              else (some ((1, r40, r41, (r27 - 1), r28, r29, r30), 0, 0)))))))
    else (F_Mo_readTargets_0 known_h0 thrown_h0 wrong_h0 lastEnd_h0 bad_h0 levels_h0 least_h0 found_h0 size_m5 n_a_all_m5 b_a_all_m5 size_m20 n_a_all_m20 b_a_all_m20 n_m2 b_m2  k_0 (f0_17_0 + 1))
noncomputable def F_Mo_readTargets (known_h0 : Int32) (thrown_h0 : Int32) (wrong_h0 : Int32) (lastEnd_h0 : Int32) (at_h0 : Int32) (bad_h0 : Int32) (levels_h0 : Int32) (least_h0 : Int32) (found_h0 : Int32) (size_m5 : Int32) (n_a_all_m5 : Nat) (b_a_all_m5 : Nat → Int32) (size_m20 : Int32) (n_a_all_m20 : Nat) (b_a_all_m20 : Nat → Int32) (n_m2 : Nat) (b_m2 : Nat → Int32) : Option ((Int32 × Int32 × Int32 × Int32 × Int32 × Nat × (Nat → Int32)) × Nat × Nat) :=
  F_Mo_readTargets_0 known_h0 thrown_h0 wrong_h0 lastEnd_h0 bad_h0 levels_h0 least_h0 found_h0 size_m5 n_a_all_m5 b_a_all_m5 size_m20 n_a_all_m20 b_a_all_m20 n_m2 b_m2  FU at_h0
theorem d_Mo_readTargets_0 : decode prog_12_method_43_code 0 = .ok (.aload_n 0, 1) := by decide +kernel
theorem d_Mo_readTargets_1 : decode prog_12_method_43_code 1 = .ok (.invokevirtual 275, 3) := by decide +kernel
theorem d_Mo_readTargets_4 : decode prog_12_method_43_code 4 = .ok (.bipush 56, 2) := by decide +kernel
theorem d_Mo_readTargets_6 : decode prog_12_method_43_code 6 = .ok (.if_icmp .eq 16, 3) := by decide +kernel
theorem d_Mo_readTargets_9 : decode prog_12_method_43_code 9 = .ok (.aload_n 0, 1) := by decide +kernel
theorem d_Mo_readTargets_10 : decode prog_12_method_43_code 10 = .ok (.dup, 1) := by decide +kernel
theorem d_Mo_readTargets_11 : decode prog_12_method_43_code 11 = .ok (.getfield 270, 3) := by decide +kernel
theorem d_Mo_readTargets_14 : decode prog_12_method_43_code 14 = .ok (.iconst 1, 1) := by decide +kernel
theorem d_Mo_readTargets_15 : decode prog_12_method_43_code 15 = .ok (.iadd, 1) := by decide +kernel
theorem d_Mo_readTargets_16 : decode prog_12_method_43_code 16 = .ok (.putfield 270, 3) := by decide +kernel
theorem d_Mo_readTargets_19 : decode prog_12_method_43_code 19 = .ok (.goto (-19), 3) := by decide +kernel
theorem d_Mo_readTargets_22 : decode prog_12_method_43_code 22 = .ok (.aload_n 0, 1) := by decide +kernel
theorem d_Mo_readTargets_23 : decode prog_12_method_43_code 23 = .ok (.dup, 1) := by decide +kernel
theorem d_Mo_readTargets_24 : decode prog_12_method_43_code 24 = .ok (.getfield 270, 3) := by decide +kernel
theorem d_Mo_readTargets_27 : decode prog_12_method_43_code 27 = .ok (.iconst 1, 1) := by decide +kernel
theorem d_Mo_readTargets_28 : decode prog_12_method_43_code 28 = .ok (.iadd, 1) := by decide +kernel
theorem d_Mo_readTargets_29 : decode prog_12_method_43_code 29 = .ok (.putfield 270, 3) := by decide +kernel
theorem d_Mo_readTargets_32 : decode prog_12_method_43_code 32 = .ok (.aload_n 0, 1) := by decide +kernel
theorem d_Mo_readTargets_33 : decode prog_12_method_43_code 33 = .ok (.iconst 2, 1) := by decide +kernel
theorem d_Mo_readTargets_34 : decode prog_12_method_43_code 34 = .ok (.invokevirtual 285, 3) := by decide +kernel
theorem d_Mo_readTargets_37 : decode prog_12_method_43_code 37 = .ok (.ifCond .eq 41, 3) := by decide +kernel
theorem d_Mo_readTargets_40 : decode prog_12_method_43_code 40 = .ok (.aload_n 0, 1) := by decide +kernel
theorem d_Mo_readTargets_41 : decode prog_12_method_43_code 41 = .ok (.bipush 50, 2) := by decide +kernel
theorem d_Mo_readTargets_43 : decode prog_12_method_43_code 43 = .ok (.invokevirtual 297, 3) := by decide +kernel
theorem d_Mo_readTargets_46 : decode prog_12_method_43_code 46 = .ok (.ifCond .eq 32, 3) := by decide +kernel
theorem d_Mo_readTargets_49 : decode prog_12_method_43_code 49 = .ok (.aload_n 0, 1) := by decide +kernel
theorem d_Mo_readTargets_50 : decode prog_12_method_43_code 50 = .ok (.invokevirtual 275, 3) := by decide +kernel
theorem d_Mo_readTargets_53 : decode prog_12_method_43_code 53 = .ok (.bipush 51, 2) := by decide +kernel
theorem d_Mo_readTargets_55 : decode prog_12_method_43_code 55 = .ok (.if_icmp .eq 10, 3) := by decide +kernel
theorem d_Mo_readTargets_58 : decode prog_12_method_43_code 58 = .ok (.aload_n 0, 1) := by decide +kernel
theorem d_Mo_readTargets_59 : decode prog_12_method_43_code 59 = .ok (.invokevirtual 344, 3) := by decide +kernel
theorem d_Mo_readTargets_62 : decode prog_12_method_43_code 62 = .ok (.ifCond .eq 16, 3) := by decide +kernel
theorem d_Mo_readTargets_65 : decode prog_12_method_43_code 65 = .ok (.aload_n 0, 1) := by decide +kernel
theorem d_Mo_readTargets_66 : decode prog_12_method_43_code 66 = .ok (.bipush 51, 2) := by decide +kernel
theorem d_Mo_readTargets_68 : decode prog_12_method_43_code 68 = .ok (.invokevirtual 338, 3) := by decide +kernel
theorem d_Mo_readTargets_71 : decode prog_12_method_43_code 71 = .ok (.ifCond .eq 7, 3) := by decide +kernel
theorem d_Mo_readTargets_74 : decode prog_12_method_43_code 74 = .ok (.iconst 1, 1) := by decide +kernel
theorem d_Mo_readTargets_75 : decode prog_12_method_43_code 75 = .ok (.goto 4, 3) := by decide +kernel
theorem d_Mo_readTargets_78 : decode prog_12_method_43_code 78 = .ok (.iconst 0, 1) := by decide +kernel
theorem d_Mo_readTargets_79 : decode prog_12_method_43_code 79 = .ok (.ireturn, 1) := by decide +kernel
set_option maxHeartbeats 4000000 in
set_option maxRecDepth 100000 in
theorem L_Mo_readTargets_0 (l : Launch) (D : va_G) (cI cB cJ cS : ClassId) (h0 : Nat) (am : Nat → Nat) (a_all_m5 : Nat) (a_all_m20 : Nat) (known_h0 : Int32) (thrown_h0 : Int32) (wrong_h0 : Int32) (lastEnd_h0 : Int32) (at_h0 : Int32) (bad_h0 : Int32) (levels_h0 : Int32) (least_h0 : Int32) (found_h0 : Int32) (size_m5 : Int32) (n_a_all_m5 : Nat) (b_a_all_m5 : Nat → Int32) (size_m20 : Int32) (n_a_all_m20 : Nat) (b_a_all_m20 : Nat → Int32) (n_m2 : Nat) (b_m2 : Nat → Int32) (ret : Int32) (o_0_17 : Int32) (o_0_18 : Int32) (o_0_19 : Int32) (o_3_1 : Int32) (on_nq_3_0 : Nat) (ob_nq_3_0 : Nat → Int32) (mc ms : Nat) (p : Program) (e : Env) (s : State) (m : MethodId) (below : List Frame) (meth : Method) (c : Code) (hr : meth.sig.returnType = (Option.some Jvm.ClassFile.FieldType.boolean)) (hnm : meth.name = y_Mo_readTargets.name) : ∀ (k_0 : Nat) (f0_17_0 : Int32) (cl_0 sl_0 C_0 S_0 : Nat), F_Mo_readTargets_0 known_h0 thrown_h0 wrong_h0 lastEnd_h0 bad_h0 levels_h0 least_h0 found_h0 size_m5 n_a_all_m5 b_a_all_m5 size_m20 n_a_all_m20 b_a_all_m20 n_m2 b_m2  k_0 f0_17_0 = some ((ret, o_0_17, o_0_18, o_0_19, o_3_1, on_nq_3_0, ob_nq_3_0), C_0, S_0) → cl_0 + C_0 ≤ mc → sl_0 + S_0 ≤ ms → J (KxOf p l e { frames := 6, cells := mc, slots := ms, locals := 135 } s m [.ref h0].toArray below meth c D (gT cI cB cJ cS) [(h0, .inr (9, moF am known_h0 thrown_h0 wrong_h0 lastEnd_h0 at_h0 bad_h0 levels_h0 least_h0 found_h0)), ((am 5), .inr (8, [.ref a_all_m5, .int size_m5])), (a_all_m5, .inl (cI, n_a_all_m5, .inl b_a_all_m5)), ((am 20), .inr (8, [.ref a_all_m20, .int size_m20])), (a_all_m20, .inl (cI, n_a_all_m20, .inl b_a_all_m20)), ((am 2), .inl (cI, n_m2, .inl b_m2))] (fun v w => ∃ nq_3_0 : Nat, v = some (.int ret) ∧ zb ret ∧ w = [(h0, .inr (9, moF am known_h0 thrown_h0 wrong_h0 lastEnd_h0 o_0_17 o_0_18 o_0_19 least_h0 found_h0)), ((am 5), .inr (8, [.ref a_all_m5, .int size_m5])), (a_all_m5, .inl (cI, n_a_all_m5, .inl b_a_all_m5)), ((am 20), .inr (8, [.ref nq_3_0, .int o_3_1])), ((am 2), .inl (cI, n_m2, .inl b_m2)), (nq_3_0, .inl (cI, on_nq_3_0, .inl ob_nq_3_0))]) mc ms) prog_12_method_43_code 1 R_Mo 0 [(0, .ref h0)] [] [(h0, .inr (9, moF am known_h0 thrown_h0 wrong_h0 lastEnd_h0 f0_17_0 bad_h0 levels_h0 least_h0 found_h0)), ((am 5), .inr (8, [.ref a_all_m5, .int size_m5])), (a_all_m5, .inl (cI, n_a_all_m5, .inl b_a_all_m5)), ((am 20), .inr (8, [.ref a_all_m20, .int size_m20])), (a_all_m20, .inl (cI, n_a_all_m20, .inl b_a_all_m20)), ((am 2), .inl (cI, n_m2, .inl b_m2))] cl_0 sl_0 := by
  intro k_0
  induction k_0 with
  | zero => intro f0_17_0 cl_0 sl_0 C_0 S_0 h; rw [F_Mo_readTargets_0] at h; cases h
  | succ k_0 ih_0 =>
    intro f0_17_0 cl_0 sl_0 C_0 S_0 h hC hS
    rw [F_Mo_readTargets_0] at h
    refine j_aload_n d_Mo_readTargets_0 rfl 0 rfl ?_
    replace h := bd_s h
    obtain ⟨_, k1, h⟩ := h
    refine j_callV (n := 0) (As := []) (rest := []) (wr := [((am 20), .inr (8, [.ref a_all_m20, .int size_m20])), (a_all_m20, .inl (cI, n_a_all_m20, .inl b_a_all_m20)), ((am 2), .inl (cI, n_m2, .inl b_m2))]) (c_Mo_kind l D cI cB cJ cS h0 am a_all_m5 known_h0 thrown_h0 wrong_h0 lastEnd_h0 f0_17_0 bad_h0 levels_h0 least_h0 found_h0 size_m5 n_a_all_m5 b_a_all_m5  k1) k_Mo_275 (by decide) ⟨Nat.le_of_ble_eq_true rfl, Nat.le_of_ble_eq_true rfl⟩ rfl 0 rfl [0, 1, 2] [3, 4, 5] rfl (by decide) rfl (by decide) (by decide) rfl rfl (Nat.le_of_ble_eq_true rfl) d_Mo_readTargets_1 ⟨show cl_0 + 0 ≤ mc by omega, show sl_0 + 0 ≤ ms by omega⟩ (fun v w hq => ?_)
    obtain ⟨rfl, rfl⟩ := hq
    refine j_norm (pc' := 4) (st' := [.int (b_a_all_m5 (Int32.toNatClampNeg f0_17_0))]) (ws' := [((am 20), .inr (8, [.ref a_all_m20, .int size_m20])), (a_all_m20, .inl (cI, n_a_all_m20, .inl b_a_all_m20)), ((am 2), .inl (cI, n_m2, .inl b_m2)), (h0, .inr (9, moF am known_h0 thrown_h0 wrong_h0 lastEnd_h0 f0_17_0 bad_h0 levels_h0 least_h0 found_h0)), ((am 5), .inr (8, [.ref a_all_m5, .int size_m5])), (a_all_m5, .inl (cI, n_a_all_m5, .inl b_a_all_m5))]) (cl' := cl_0) (sl' := sl_0) rfl rfl rfl rfl rfl rfl ?_
    refine j_bipush (v := 56) d_Mo_readTargets_4 (by decide) ?_
    refine j_icmp_eq (tgt := 22) d_Mo_readTargets_6 (by decide) (fun c2 => ?_) (fun c2 => ?_)
    · replace h := it_t c2 h
      refine j_aload_n d_Mo_readTargets_22 rfl 0 rfl ?_
      refine j_dup rfl d_Mo_readTargets_23 ?_
      refine j_get ig_Mo rfl 3 rfl 17 (by decide) rfl m_1130 rfl d_Mo_readTargets_24 ?_
      refine j_iconst (v := 1) d_Mo_readTargets_27 (by decide) ?_
      refine j_iadd d_Mo_readTargets_28 ?_
      refine j_put (ws' := [((am 20), .inr (8, [.ref a_all_m20, .int size_m20])), (a_all_m20, .inl (cI, n_a_all_m20, .inl b_a_all_m20)), ((am 2), .inl (cI, n_m2, .inl b_m2)), (h0, .inr (9, moF am known_h0 thrown_h0 wrong_h0 lastEnd_h0 (f0_17_0 + 1) bad_h0 levels_h0 least_h0 found_h0)), ((am 5), .inr (8, [.ref a_all_m5, .int size_m5])), (a_all_m5, .inl (cI, n_a_all_m5, .inl b_a_all_m5))]) ig_Mo tk_Mo nm_Mo rfl 3 rfl 17 (by decide) rfl m_1130 rfl (tk_Mo 17 (by decide)) rfl rfl (Nat.le_of_ble_eq_true rfl) d_Mo_readTargets_29 rfl ?_
      refine j_aload_n d_Mo_readTargets_32 rfl 0 rfl ?_
      refine j_iconst (v := 2) d_Mo_readTargets_33 (by decide) ?_
      replace h := bd_s h
      obtain ⟨⟨r3, r4, r5⟩, k7, h⟩ := h
      refine j_callV (n := 1) (As := [.int 2]) (rest := []) (wr := [((am 20), .inr (8, [.ref a_all_m20, .int size_m20])), (a_all_m20, .inl (cI, n_a_all_m20, .inl b_a_all_m20)), ((am 2), .inl (cI, n_m2, .inl b_m2))]) (c_Mo_take l D cI cB cJ cS h0 am a_all_m5 2 known_h0 thrown_h0 wrong_h0 lastEnd_h0 (f0_17_0 + 1) bad_h0 levels_h0 least_h0 found_h0 size_m5 n_a_all_m5 b_a_all_m5  r3 r4 r5 k7) k_Mo_285 (by decide) ⟨Nat.le_of_ble_eq_true rfl, Nat.le_of_ble_eq_true rfl⟩ rfl 0 rfl [3, 4, 5] [0, 1, 2] rfl (by decide) rfl (by decide) (by decide) rfl rfl (Nat.le_of_ble_eq_true rfl) d_Mo_readTargets_34 ⟨show cl_0 + 0 ≤ mc by omega, show sl_0 + 0 ≤ ms by omega⟩ (fun v w hq => ?_)
      obtain ⟨rfl, z6, rfl⟩ := hq
      refine j_norm (pc' := 37) (st' := [.int r3]) (ws' := [((am 20), .inr (8, [.ref a_all_m20, .int size_m20])), (a_all_m20, .inl (cI, n_a_all_m20, .inl b_a_all_m20)), ((am 2), .inl (cI, n_m2, .inl b_m2)), (h0, .inr (9, moF am known_h0 thrown_h0 wrong_h0 lastEnd_h0 r4 r5 levels_h0 least_h0 found_h0)), ((am 5), .inr (8, [.ref a_all_m5, .int size_m5])), (a_all_m5, .inl (cI, n_a_all_m5, .inl b_a_all_m5))]) (cl' := cl_0) (sl' := sl_0) rfl rfl rfl rfl rfl rfl ?_
      refine j_if_eq (tgt := 78) d_Mo_readTargets_37 (by decide) (fun c8 => ?_) (fun c8 => ?_)
      · replace h := it_t c8 h
        refine j_iconst (v := 0) d_Mo_readTargets_78 (by decide) ?_
        replace h := lf_s h
        obtain ⟨h, e1, e2⟩ := h
        replace h := Prod.mk.inj h
        obtain ⟨h9, h⟩ := h
        subst h9
        replace h := Prod.mk.inj h
        obtain ⟨h9, h⟩ := h
        subst h9
        replace h := Prod.mk.inj h
        obtain ⟨h9, h⟩ := h
        subst h9
        replace h := Prod.mk.inj h
        obtain ⟨h9, h⟩ := h
        subst h9
        replace h := Prod.mk.inj h
        obtain ⟨h9, h⟩ := h
        subst h9
        replace h := Prod.mk.inj h
        obtain ⟨h9, h⟩ := h
        subst h9
        subst h
        refine j_widen (cl' := mc) (sl' := ms) (by omega) (by omega) ?_
        exact j_zret (w := [(h0, .inr (9, moF am known_h0 thrown_h0 wrong_h0 lastEnd_h0 r4 r5 levels_h0 least_h0 found_h0)), ((am 5), .inr (8, [.ref a_all_m5, .int size_m5])), (a_all_m5, .inl (cI, n_a_all_m5, .inl b_a_all_m5)), ((am 20), .inr (8, [.ref a_all_m20, .int size_m20])), ((am 2), .inl (cI, n_m2, .inl b_m2)), (a_all_m20, .inl (cI, n_a_all_m20, .inl b_a_all_m20))]) hr (zb_n zb0) d_Mo_readTargets_79 [3, 4, 5, 0, 2, 1] rfl (by decide) ⟨a_all_m20, rfl, zb0, rfl⟩
      · replace h := it_f c8 h
        refine j_aload_n d_Mo_readTargets_40 rfl 0 rfl ?_
        refine j_bipush (v := 50) d_Mo_readTargets_41 (by decide) ?_
        replace h := bd_s h
        obtain ⟨⟨r9, r10, r11, r12⟩, k14, h⟩ := h
        refine j_callV (n := 1) (As := [.int 50]) (rest := []) (wr := [((am 20), .inr (8, [.ref a_all_m20, .int size_m20])), (a_all_m20, .inl (cI, n_a_all_m20, .inl b_a_all_m20)), ((am 2), .inl (cI, n_m2, .inl b_m2))]) (c_Mo_enter l D cI cB cJ cS h0 am a_all_m5 50 known_h0 thrown_h0 wrong_h0 lastEnd_h0 r4 r5 levels_h0 least_h0 found_h0 size_m5 n_a_all_m5 b_a_all_m5  r9 r10 r11 r12 k14) k_Mo_297 (by decide) ⟨Nat.le_of_ble_eq_true rfl, Nat.le_of_ble_eq_true rfl⟩ rfl 0 rfl [3, 4, 5] [0, 1, 2] rfl (by decide) rfl (by decide) (by decide) rfl rfl (Nat.le_of_ble_eq_true rfl) d_Mo_readTargets_43 ⟨show cl_0 + 0 ≤ mc by omega, show sl_0 + 0 ≤ ms by omega⟩ (fun v w hq => ?_)
        obtain ⟨rfl, z13, rfl⟩ := hq
        refine j_norm (pc' := 46) (st' := [.int r9]) (ws' := [((am 20), .inr (8, [.ref a_all_m20, .int size_m20])), (a_all_m20, .inl (cI, n_a_all_m20, .inl b_a_all_m20)), ((am 2), .inl (cI, n_m2, .inl b_m2)), (h0, .inr (9, moF am known_h0 thrown_h0 wrong_h0 lastEnd_h0 r10 r11 r12 least_h0 found_h0)), ((am 5), .inr (8, [.ref a_all_m5, .int size_m5])), (a_all_m5, .inl (cI, n_a_all_m5, .inl b_a_all_m5))]) (cl' := cl_0) (sl' := sl_0) rfl rfl rfl rfl rfl rfl ?_
        refine j_if_eq (tgt := 78) d_Mo_readTargets_46 (by decide) (fun c15 => ?_) (fun c15 => ?_)
        · replace h := it_t c15 h
          refine j_iconst (v := 0) d_Mo_readTargets_78 (by decide) ?_
          replace h := lf_s h
          obtain ⟨h, e1, e2⟩ := h
          replace h := Prod.mk.inj h
          obtain ⟨h9, h⟩ := h
          subst h9
          replace h := Prod.mk.inj h
          obtain ⟨h9, h⟩ := h
          subst h9
          replace h := Prod.mk.inj h
          obtain ⟨h9, h⟩ := h
          subst h9
          replace h := Prod.mk.inj h
          obtain ⟨h9, h⟩ := h
          subst h9
          replace h := Prod.mk.inj h
          obtain ⟨h9, h⟩ := h
          subst h9
          replace h := Prod.mk.inj h
          obtain ⟨h9, h⟩ := h
          subst h9
          subst h
          refine j_widen (cl' := mc) (sl' := ms) (by omega) (by omega) ?_
          exact j_zret (w := [(h0, .inr (9, moF am known_h0 thrown_h0 wrong_h0 lastEnd_h0 r10 r11 r12 least_h0 found_h0)), ((am 5), .inr (8, [.ref a_all_m5, .int size_m5])), (a_all_m5, .inl (cI, n_a_all_m5, .inl b_a_all_m5)), ((am 20), .inr (8, [.ref a_all_m20, .int size_m20])), ((am 2), .inl (cI, n_m2, .inl b_m2)), (a_all_m20, .inl (cI, n_a_all_m20, .inl b_a_all_m20))]) hr (zb_n zb0) d_Mo_readTargets_79 [3, 4, 5, 0, 2, 1] rfl (by decide) ⟨a_all_m20, rfl, zb0, rfl⟩
        · replace h := it_f c15 h
          refine j_aload_n d_Mo_readTargets_49 rfl 0 rfl ?_
          replace h := bd_s h
          obtain ⟨_, k16, h⟩ := h
          refine j_callV (n := 0) (As := []) (rest := []) (wr := [((am 20), .inr (8, [.ref a_all_m20, .int size_m20])), (a_all_m20, .inl (cI, n_a_all_m20, .inl b_a_all_m20)), ((am 2), .inl (cI, n_m2, .inl b_m2))]) (c_Mo_kind l D cI cB cJ cS h0 am a_all_m5 known_h0 thrown_h0 wrong_h0 lastEnd_h0 r10 r11 r12 least_h0 found_h0 size_m5 n_a_all_m5 b_a_all_m5  k16) k_Mo_275 (by decide) ⟨Nat.le_of_ble_eq_true rfl, Nat.le_of_ble_eq_true rfl⟩ rfl 0 rfl [3, 4, 5] [0, 1, 2] rfl (by decide) rfl (by decide) (by decide) rfl rfl (Nat.le_of_ble_eq_true rfl) d_Mo_readTargets_50 ⟨show cl_0 + 0 ≤ mc by omega, show sl_0 + 0 ≤ ms by omega⟩ (fun v w hq => ?_)
          obtain ⟨rfl, rfl⟩ := hq
          refine j_norm (pc' := 53) (st' := [.int (b_a_all_m5 (Int32.toNatClampNeg r10))]) (ws' := [((am 20), .inr (8, [.ref a_all_m20, .int size_m20])), (a_all_m20, .inl (cI, n_a_all_m20, .inl b_a_all_m20)), ((am 2), .inl (cI, n_m2, .inl b_m2)), (h0, .inr (9, moF am known_h0 thrown_h0 wrong_h0 lastEnd_h0 r10 r11 r12 least_h0 found_h0)), ((am 5), .inr (8, [.ref a_all_m5, .int size_m5])), (a_all_m5, .inl (cI, n_a_all_m5, .inl b_a_all_m5))]) (cl' := cl_0) (sl' := sl_0) rfl rfl rfl rfl rfl rfl ?_
          refine j_bipush (v := 51) d_Mo_readTargets_53 (by decide) ?_
          refine j_icmp_eq (tgt := 65) d_Mo_readTargets_55 (by decide) (fun c17 => ?_) (fun c17 => ?_)
          · replace h := it_t c17 h
            refine j_aload_n d_Mo_readTargets_65 rfl 0 rfl ?_
            refine j_bipush (v := 51) d_Mo_readTargets_66 (by decide) ?_
            replace h := bd_s h
            obtain ⟨⟨r18, r19, r20⟩, k22, h⟩ := h
            refine j_callV (n := 1) (As := [.int 51]) (rest := []) (wr := [((am 20), .inr (8, [.ref a_all_m20, .int size_m20])), (a_all_m20, .inl (cI, n_a_all_m20, .inl b_a_all_m20)), ((am 2), .inl (cI, n_m2, .inl b_m2))]) (c_Mo_leave l D cI cB cJ cS h0 am a_all_m5 51 known_h0 thrown_h0 wrong_h0 lastEnd_h0 r10 r11 r12 least_h0 found_h0 size_m5 n_a_all_m5 b_a_all_m5  r18 r19 r20 k22) k_Mo_338 (by decide) ⟨Nat.le_of_ble_eq_true rfl, Nat.le_of_ble_eq_true rfl⟩ rfl 0 rfl [3, 4, 5] [0, 1, 2] rfl (by decide) rfl (by decide) (by decide) rfl rfl (Nat.le_of_ble_eq_true rfl) d_Mo_readTargets_68 ⟨show cl_0 + 0 ≤ mc by omega, show sl_0 + 0 ≤ ms by omega⟩ (fun v w hq => ?_)
            obtain ⟨rfl, z21, rfl⟩ := hq
            refine j_norm (pc' := 71) (st' := [.int r18]) (ws' := [((am 20), .inr (8, [.ref a_all_m20, .int size_m20])), (a_all_m20, .inl (cI, n_a_all_m20, .inl b_a_all_m20)), ((am 2), .inl (cI, n_m2, .inl b_m2)), (h0, .inr (9, moF am known_h0 thrown_h0 wrong_h0 lastEnd_h0 r19 r20 (r12 - 1) least_h0 found_h0)), ((am 5), .inr (8, [.ref a_all_m5, .int size_m5])), (a_all_m5, .inl (cI, n_a_all_m5, .inl b_a_all_m5))]) (cl' := cl_0) (sl' := sl_0) rfl rfl rfl rfl rfl rfl ?_
            refine j_if_eq (tgt := 78) d_Mo_readTargets_71 (by decide) (fun c23 => ?_) (fun c23 => ?_)
            · replace h := it_t c23 h
              refine j_iconst (v := 0) d_Mo_readTargets_78 (by decide) ?_
              replace h := lf_s h
              obtain ⟨h, e1, e2⟩ := h
              replace h := Prod.mk.inj h
              obtain ⟨h9, h⟩ := h
              subst h9
              replace h := Prod.mk.inj h
              obtain ⟨h9, h⟩ := h
              subst h9
              replace h := Prod.mk.inj h
              obtain ⟨h9, h⟩ := h
              subst h9
              replace h := Prod.mk.inj h
              obtain ⟨h9, h⟩ := h
              subst h9
              replace h := Prod.mk.inj h
              obtain ⟨h9, h⟩ := h
              subst h9
              replace h := Prod.mk.inj h
              obtain ⟨h9, h⟩ := h
              subst h9
              subst h
              refine j_widen (cl' := mc) (sl' := ms) (by omega) (by omega) ?_
              exact j_zret (w := [(h0, .inr (9, moF am known_h0 thrown_h0 wrong_h0 lastEnd_h0 r19 r20 (r12 - 1) least_h0 found_h0)), ((am 5), .inr (8, [.ref a_all_m5, .int size_m5])), (a_all_m5, .inl (cI, n_a_all_m5, .inl b_a_all_m5)), ((am 20), .inr (8, [.ref a_all_m20, .int size_m20])), ((am 2), .inl (cI, n_m2, .inl b_m2)), (a_all_m20, .inl (cI, n_a_all_m20, .inl b_a_all_m20))]) hr (zb_n zb0) d_Mo_readTargets_79 [3, 4, 5, 0, 2, 1] rfl (by decide) ⟨a_all_m20, rfl, zb0, rfl⟩
            · replace h := it_f c23 h
              refine j_iconst (v := 1) d_Mo_readTargets_74 (by decide) ?_
              refine j_goto (tgt := 79) d_Mo_readTargets_75 (by decide) ?_
              replace h := lf_s h
              obtain ⟨h, e1, e2⟩ := h
              replace h := Prod.mk.inj h
              obtain ⟨h9, h⟩ := h
              subst h9
              replace h := Prod.mk.inj h
              obtain ⟨h9, h⟩ := h
              subst h9
              replace h := Prod.mk.inj h
              obtain ⟨h9, h⟩ := h
              subst h9
              replace h := Prod.mk.inj h
              obtain ⟨h9, h⟩ := h
              subst h9
              replace h := Prod.mk.inj h
              obtain ⟨h9, h⟩ := h
              subst h9
              replace h := Prod.mk.inj h
              obtain ⟨h9, h⟩ := h
              subst h9
              subst h
              refine j_widen (cl' := mc) (sl' := ms) (by omega) (by omega) ?_
              exact j_zret (w := [(h0, .inr (9, moF am known_h0 thrown_h0 wrong_h0 lastEnd_h0 r19 r20 (r12 - 1) least_h0 found_h0)), ((am 5), .inr (8, [.ref a_all_m5, .int size_m5])), (a_all_m5, .inl (cI, n_a_all_m5, .inl b_a_all_m5)), ((am 20), .inr (8, [.ref a_all_m20, .int size_m20])), ((am 2), .inl (cI, n_m2, .inl b_m2)), (a_all_m20, .inl (cI, n_a_all_m20, .inl b_a_all_m20))]) hr (zb_n zb1) d_Mo_readTargets_79 [3, 4, 5, 0, 2, 1] rfl (by decide) ⟨a_all_m20, rfl, zb1, rfl⟩
          · replace h := it_f c17 h
            refine j_aload_n d_Mo_readTargets_58 rfl 0 rfl ?_
            replace h := bw_s h
            obtain ⟨⟨r24, r25, r26, r27, r28, r29, r30⟩, C33, S34, C35, S36, k37, h, e1, e2⟩ := h
            replace hC : cl_0 + C33 + C35 ≤ mc := by omega
            replace hS : sl_0 + S34 + S36 ≤ ms := by omega
            clear e1 e2
            refine j_callV (n := 0) (As := []) (rest := []) (wr := []) (c_Mo_readSeveral l D cI cB cJ cS h0 am a_all_m20 a_all_m5 known_h0 thrown_h0 wrong_h0 lastEnd_h0 r10 r11 r12 least_h0 found_h0 size_m20 size_m5 n_a_all_m5 b_a_all_m5 n_a_all_m20 b_a_all_m20 n_m2 b_m2  r24 r25 r26 r27 r28 r29 r30 C33 S34 k37) k_Mo_344 (by decide) ⟨Nat.le_of_ble_eq_true rfl, Nat.le_of_ble_eq_true rfl⟩ rfl 0 rfl [3, 0, 4, 5, 1, 2] [] rfl (by decide) rfl (by decide) (by decide) rfl rfl (Nat.le_of_ble_eq_true rfl) d_Mo_readTargets_59 ⟨show cl_0 + C33 ≤ mc by omega, show sl_0 + S34 ≤ ms by omega⟩ (fun v w hq => ?_)
            obtain ⟨q31, rfl, z32, rfl⟩ := hq
            refine j_norm (pc' := 62) (st' := [.int r24]) (ws' := [(h0, .inr (9, moF am known_h0 thrown_h0 wrong_h0 lastEnd_h0 r25 r26 r27 least_h0 found_h0)), ((am 20), .inr (8, [.ref q31, .int r28])), ((am 5), .inr (8, [.ref a_all_m5, .int size_m5])), (a_all_m5, .inl (cI, n_a_all_m5, .inl b_a_all_m5)), ((am 2), .inl (cI, n_m2, .inl b_m2)), (q31, .inl (cI, r29, .inl r30))]) (cl' := cl_0 + C33) (sl' := sl_0 + S34) rfl rfl rfl rfl rfl rfl ?_
            refine j_if_eq (tgt := 78) d_Mo_readTargets_62 (by decide) (fun c38 => ?_) (fun c38 => ?_)
            · replace h := it_t c38 h
              refine j_iconst (v := 0) d_Mo_readTargets_78 (by decide) ?_
              replace h := lf_s h
              obtain ⟨h, e1, e2⟩ := h
              replace h := Prod.mk.inj h
              obtain ⟨h9, h⟩ := h
              subst h9
              replace h := Prod.mk.inj h
              obtain ⟨h9, h⟩ := h
              subst h9
              replace h := Prod.mk.inj h
              obtain ⟨h9, h⟩ := h
              subst h9
              replace h := Prod.mk.inj h
              obtain ⟨h9, h⟩ := h
              subst h9
              replace h := Prod.mk.inj h
              obtain ⟨h9, h⟩ := h
              subst h9
              replace h := Prod.mk.inj h
              obtain ⟨h9, h⟩ := h
              subst h9
              subst h
              refine j_widen (cl' := mc) (sl' := ms) (by omega) (by omega) ?_
              exact j_zret (w := [(h0, .inr (9, moF am known_h0 thrown_h0 wrong_h0 lastEnd_h0 r25 r26 r27 least_h0 found_h0)), ((am 5), .inr (8, [.ref a_all_m5, .int size_m5])), (a_all_m5, .inl (cI, n_a_all_m5, .inl b_a_all_m5)), ((am 20), .inr (8, [.ref q31, .int r28])), ((am 2), .inl (cI, n_m2, .inl b_m2)), (q31, .inl (cI, r29, .inl r30))]) hr (zb_n zb0) d_Mo_readTargets_79 [0, 2, 3, 1, 4, 5] rfl (by decide) ⟨q31, rfl, zb0, rfl⟩
            · replace h := it_f c38 h
              refine j_aload_n d_Mo_readTargets_65 rfl 0 rfl ?_
              refine j_bipush (v := 51) d_Mo_readTargets_66 (by decide) ?_
              replace h := bd_s h
              obtain ⟨⟨r39, r40, r41⟩, k43, h⟩ := h
              refine j_callV (n := 1) (As := [.int 51]) (rest := []) (wr := [((am 20), .inr (8, [.ref q31, .int r28])), ((am 2), .inl (cI, n_m2, .inl b_m2)), (q31, .inl (cI, r29, .inl r30))]) (c_Mo_leave l D cI cB cJ cS h0 am a_all_m5 51 known_h0 thrown_h0 wrong_h0 lastEnd_h0 r25 r26 r27 least_h0 found_h0 size_m5 n_a_all_m5 b_a_all_m5  r39 r40 r41 k43) k_Mo_338 (by decide) ⟨Nat.le_of_ble_eq_true rfl, Nat.le_of_ble_eq_true rfl⟩ rfl 0 rfl [0, 2, 3] [1, 4, 5] rfl (by decide) rfl (by decide) (by decide) rfl rfl (Nat.le_of_ble_eq_true rfl) d_Mo_readTargets_68 ⟨show cl_0 + C33 + 0 ≤ mc by omega, show sl_0 + S34 + 0 ≤ ms by omega⟩ (fun v w hq => ?_)
              obtain ⟨rfl, z42, rfl⟩ := hq
              refine j_norm (pc' := 71) (st' := [.int r39]) (ws' := [((am 20), .inr (8, [.ref q31, .int r28])), ((am 2), .inl (cI, n_m2, .inl b_m2)), (q31, .inl (cI, r29, .inl r30)), (h0, .inr (9, moF am known_h0 thrown_h0 wrong_h0 lastEnd_h0 r40 r41 (r27 - 1) least_h0 found_h0)), ((am 5), .inr (8, [.ref a_all_m5, .int size_m5])), (a_all_m5, .inl (cI, n_a_all_m5, .inl b_a_all_m5))]) (cl' := cl_0 + C33) (sl' := sl_0 + S34) rfl rfl rfl rfl rfl rfl ?_
              refine j_if_eq (tgt := 78) d_Mo_readTargets_71 (by decide) (fun c44 => ?_) (fun c44 => ?_)
              · replace h := it_t c44 h
                refine j_iconst (v := 0) d_Mo_readTargets_78 (by decide) ?_
                replace h := lf_s h
                obtain ⟨h, e1, e2⟩ := h
                replace h := Prod.mk.inj h
                obtain ⟨h9, h⟩ := h
                subst h9
                replace h := Prod.mk.inj h
                obtain ⟨h9, h⟩ := h
                subst h9
                replace h := Prod.mk.inj h
                obtain ⟨h9, h⟩ := h
                subst h9
                replace h := Prod.mk.inj h
                obtain ⟨h9, h⟩ := h
                subst h9
                replace h := Prod.mk.inj h
                obtain ⟨h9, h⟩ := h
                subst h9
                replace h := Prod.mk.inj h
                obtain ⟨h9, h⟩ := h
                subst h9
                subst h
                refine j_widen (cl' := mc) (sl' := ms) (by omega) (by omega) ?_
                exact j_zret (w := [(h0, .inr (9, moF am known_h0 thrown_h0 wrong_h0 lastEnd_h0 r40 r41 (r27 - 1) least_h0 found_h0)), ((am 5), .inr (8, [.ref a_all_m5, .int size_m5])), (a_all_m5, .inl (cI, n_a_all_m5, .inl b_a_all_m5)), ((am 20), .inr (8, [.ref q31, .int r28])), ((am 2), .inl (cI, n_m2, .inl b_m2)), (q31, .inl (cI, r29, .inl r30))]) hr (zb_n zb0) d_Mo_readTargets_79 [3, 4, 5, 0, 1, 2] rfl (by decide) ⟨q31, rfl, zb0, rfl⟩
              · replace h := it_f c44 h
                refine j_iconst (v := 1) d_Mo_readTargets_74 (by decide) ?_
                refine j_goto (tgt := 79) d_Mo_readTargets_75 (by decide) ?_
                replace h := lf_s h
                obtain ⟨h, e1, e2⟩ := h
                replace h := Prod.mk.inj h
                obtain ⟨h9, h⟩ := h
                subst h9
                replace h := Prod.mk.inj h
                obtain ⟨h9, h⟩ := h
                subst h9
                replace h := Prod.mk.inj h
                obtain ⟨h9, h⟩ := h
                subst h9
                replace h := Prod.mk.inj h
                obtain ⟨h9, h⟩ := h
                subst h9
                replace h := Prod.mk.inj h
                obtain ⟨h9, h⟩ := h
                subst h9
                replace h := Prod.mk.inj h
                obtain ⟨h9, h⟩ := h
                subst h9
                subst h
                refine j_widen (cl' := mc) (sl' := ms) (by omega) (by omega) ?_
                exact j_zret (w := [(h0, .inr (9, moF am known_h0 thrown_h0 wrong_h0 lastEnd_h0 r40 r41 (r27 - 1) least_h0 found_h0)), ((am 5), .inr (8, [.ref a_all_m5, .int size_m5])), (a_all_m5, .inl (cI, n_a_all_m5, .inl b_a_all_m5)), ((am 20), .inr (8, [.ref q31, .int r28])), ((am 2), .inl (cI, n_m2, .inl b_m2)), (q31, .inl (cI, r29, .inl r30))]) hr (zb_n zb1) d_Mo_readTargets_79 [3, 4, 5, 0, 1, 2] rfl (by decide) ⟨q31, rfl, zb1, rfl⟩
    · replace h := it_f c2 h
      refine j_aload_n d_Mo_readTargets_9 rfl 0 rfl ?_
      refine j_dup rfl d_Mo_readTargets_10 ?_
      refine j_get ig_Mo rfl 3 rfl 17 (by decide) rfl m_1130 rfl d_Mo_readTargets_11 ?_
      refine j_iconst (v := 1) d_Mo_readTargets_14 (by decide) ?_
      refine j_iadd d_Mo_readTargets_15 ?_
      refine j_put (ws' := [((am 20), .inr (8, [.ref a_all_m20, .int size_m20])), (a_all_m20, .inl (cI, n_a_all_m20, .inl b_a_all_m20)), ((am 2), .inl (cI, n_m2, .inl b_m2)), (h0, .inr (9, moF am known_h0 thrown_h0 wrong_h0 lastEnd_h0 (f0_17_0 + 1) bad_h0 levels_h0 least_h0 found_h0)), ((am 5), .inr (8, [.ref a_all_m5, .int size_m5])), (a_all_m5, .inl (cI, n_a_all_m5, .inl b_a_all_m5))]) ig_Mo tk_Mo nm_Mo rfl 3 rfl 17 (by decide) rfl m_1130 rfl (tk_Mo 17 (by decide)) rfl rfl (Nat.le_of_ble_eq_true rfl) d_Mo_readTargets_16 rfl ?_
      refine j_goto (tgt := 0) d_Mo_readTargets_19 (by decide) ?_
      refine j_sub (w := [(h0, .inr (9, moF am known_h0 thrown_h0 wrong_h0 lastEnd_h0 (f0_17_0 + 1) bad_h0 levels_h0 least_h0 found_h0)), ((am 5), .inr (8, [.ref a_all_m5, .int size_m5])), (a_all_m5, .inl (cI, n_a_all_m5, .inl b_a_all_m5)), ((am 20), .inr (8, [.ref a_all_m20, .int size_m20])), (a_all_m20, .inl (cI, n_a_all_m20, .inl b_a_all_m20)), ((am 2), .inl (cI, n_m2, .inl b_m2))]) (lv' := [(0, .ref h0)]) [3, 4, 5, 0, 1, 2] rfl (by decide) [0] rfl ?_
      exact ih_0 (f0_17_0 + 1) cl_0 sl_0 C_0 S_0 h hC hS
set_option maxHeartbeats 4000000 in
set_option maxRecDepth 100000 in
theorem c_Mo_readTargets (l : Launch) (D : va_G) (cI cB cJ cS : ClassId) (h0 : Nat) (am : Nat → Nat) (a_all_m5 : Nat) (a_all_m20 : Nat) (known_h0 : Int32) (thrown_h0 : Int32) (wrong_h0 : Int32) (lastEnd_h0 : Int32) (at_h0 : Int32) (bad_h0 : Int32) (levels_h0 : Int32) (least_h0 : Int32) (found_h0 : Int32) (size_m5 : Int32) (n_a_all_m5 : Nat) (b_a_all_m5 : Nat → Int32) (size_m20 : Int32) (n_a_all_m20 : Nat) (b_a_all_m20 : Nat → Int32) (n_m2 : Nat) (b_m2 : Nat → Int32) (ret : Int32) (o_0_17 : Int32) (o_0_18 : Int32) (o_0_19 : Int32) (o_3_1 : Int32) (on_nq_3_0 : Nat) (ob_nq_3_0 : Nat → Int32) (mc ms : Nat) (h : F_Mo_readTargets known_h0 thrown_h0 wrong_h0 lastEnd_h0 at_h0 bad_h0 levels_h0 least_h0 found_h0 size_m5 n_a_all_m5 b_a_all_m5 size_m20 n_a_all_m20 b_a_all_m20 n_m2 b_m2 = some ((ret, o_0_17, o_0_18, o_0_19, o_3_1, on_nq_3_0, ob_nq_3_0), mc, ms)) : Ct l D (gT cI cB cJ cS) y_Mo_readTargets prog_12_method_43_code 1 (Option.some Jvm.ClassFile.FieldType.boolean) 6 135 mc ms [.ref h0] [(h0, .inr (9, moF am known_h0 thrown_h0 wrong_h0 lastEnd_h0 at_h0 bad_h0 levels_h0 least_h0 found_h0)), ((am 5), .inr (8, [.ref a_all_m5, .int size_m5])), (a_all_m5, .inl (cI, n_a_all_m5, .inl b_a_all_m5)), ((am 20), .inr (8, [.ref a_all_m20, .int size_m20])), (a_all_m20, .inl (cI, n_a_all_m20, .inl b_a_all_m20)), ((am 2), .inl (cI, n_m2, .inl b_m2))] (fun v w => ∃ nq_3_0 : Nat, v = some (.int ret) ∧ zb ret ∧ w = [(h0, .inr (9, moF am known_h0 thrown_h0 wrong_h0 lastEnd_h0 o_0_17 o_0_18 o_0_19 least_h0 found_h0)), ((am 5), .inr (8, [.ref a_all_m5, .int size_m5])), (a_all_m5, .inl (cI, n_a_all_m5, .inl b_a_all_m5)), ((am 20), .inr (8, [.ref nq_3_0, .int o_3_1])), ((am 2), .inl (cI, n_m2, .inl b_m2)), (nq_3_0, .inl (cI, on_nq_3_0, .inl ob_nq_3_0))]) := by
  refine Ct.mk (by decide) (Nat.le_of_ble_eq_true rfl) ?_
  intro p e s m below meth c hr hnm
  refine j_norm (pc' := 0) (lv' := [(0, .ref h0)]) (st' := []) (ws' := [(h0, .inr (9, moF am known_h0 thrown_h0 wrong_h0 lastEnd_h0 at_h0 bad_h0 levels_h0 least_h0 found_h0)), ((am 5), .inr (8, [.ref a_all_m5, .int size_m5])), (a_all_m5, .inl (cI, n_a_all_m5, .inl b_a_all_m5)), ((am 20), .inr (8, [.ref a_all_m20, .int size_m20])), (a_all_m20, .inl (cI, n_a_all_m20, .inl b_a_all_m20)), ((am 2), .inl (cI, n_m2, .inl b_m2))]) (cl' := 0) (sl' := 0) rfl rfl rfl rfl rfl rfl ?_
  unfold F_Mo_readTargets at h
  have hC : 0 + mc ≤ mc := by omega
  have hS : 0 + ms ≤ ms := by omega
  refine j_sub (w := [(h0, .inr (9, moF am known_h0 thrown_h0 wrong_h0 lastEnd_h0 at_h0 bad_h0 levels_h0 least_h0 found_h0)), ((am 5), .inr (8, [.ref a_all_m5, .int size_m5])), (a_all_m5, .inl (cI, n_a_all_m5, .inl b_a_all_m5)), ((am 20), .inr (8, [.ref a_all_m20, .int size_m20])), (a_all_m20, .inl (cI, n_a_all_m20, .inl b_a_all_m20)), ((am 2), .inl (cI, n_m2, .inl b_m2))]) (lv' := [(0, .ref h0)]) [0, 1, 2, 3, 4, 5] rfl (by decide) [0] rfl ?_
  exact L_Mo_readTargets_0 l D cI cB cJ cS h0 am a_all_m5 a_all_m20 known_h0 thrown_h0 wrong_h0 lastEnd_h0 at_h0 bad_h0 levels_h0 least_h0 found_h0 size_m5 n_a_all_m5 b_a_all_m5 size_m20 n_a_all_m20 b_a_all_m20 n_m2 b_m2 ret o_0_17 o_0_18 o_0_19 o_3_1 on_nq_3_0 ob_nq_3_0 mc ms p e s m below meth c hr hnm FU at_h0 0 0 mc ms h hC hS
noncomputable def F_Mo_readWorking (known_h0 : Int32) (thrown_h0 : Int32) (wrong_h0 : Int32) (lastEnd_h0 : Int32) (at_h0 : Int32) (bad_h0 : Int32) (levels_h0 : Int32) (least_h0 : Int32) (found_h0 : Int32) (size_m20 : Int32) (size_m5 : Int32) (n_a_all_m5 : Nat) (b_a_all_m5 : Nat → Int32) (n_a_all_m20 : Nat) (b_a_all_m20 : Nat → Int32) (n_m2 : Nat) (b_m2 : Nat → Int32) : Option ((Int32 × Int32 × Int32 × Int32 × Int32 × Nat × (Nat → Int32)) × Nat × Nat) :=
  bw (F_Mo_readExpression known_h0 thrown_h0 wrong_h0 lastEnd_h0 at_h0 bad_h0 levels_h0 least_h0 found_h0 size_m20 size_m5 n_a_all_m5 b_a_all_m5 n_a_all_m20 b_a_all_m20 n_m2 b_m2) fun ⟨r1, r2, r3, r4, r5, r6, r7⟩ =>
  if r1 = 0 then (some ((0, r2, r3, r4, r5, r6, r7), 0, 0))
  else (Option.bind (F_Mo_kind known_h0 thrown_h0 wrong_h0 lastEnd_h0 r2 r3 r4 least_h0 found_h0 size_m5 n_a_all_m5 b_a_all_m5) fun _ =>
    if (b_a_all_m5 (Int32.toNatClampNeg r2)) = 56 then (Option.bind (F_Mo_isTarget at_h0 r2 known_h0 thrown_h0 wrong_h0 lastEnd_h0 r2 r3 r4 least_h0 found_h0 size_m5 n_a_all_m5 b_a_all_m5) fun r18 =>
      if r18 = 0 then (some ((0, r2, r2, r4, r5, r6, r7), 0, 0))
      else (bw (F_Mo_readExpression known_h0 thrown_h0 wrong_h0 lastEnd_h0 (r2 + 1) r3 r4 least_h0 found_h0 r5 size_m5 n_a_all_m5 b_a_all_m5 r6 r7 n_m2 b_m2) fun ⟨r22, r23, r24, r25, r26, r27, r28⟩ =>
        (some ((r22, r23, r24, r25, r26, r27, r28), 0, 0))))
    else (some ((1, r2, r3, r4, r5, r6, r7), 0, 0)))
theorem d_Mo_readWorking_0 : decode prog_12_method_44_code 0 = .ok (.aload_n 0, 1) := by decide +kernel
theorem d_Mo_readWorking_1 : decode prog_12_method_44_code 1 = .ok (.getfield 270, 3) := by decide +kernel
theorem d_Mo_readWorking_4 : decode prog_12_method_44_code 4 = .ok (.istore_n 1, 1) := by decide +kernel
theorem d_Mo_readWorking_5 : decode prog_12_method_44_code 5 = .ok (.aload_n 0, 1) := by decide +kernel
theorem d_Mo_readWorking_6 : decode prog_12_method_44_code 6 = .ok (.invokevirtual 326, 3) := by decide +kernel
theorem d_Mo_readWorking_9 : decode prog_12_method_44_code 9 = .ok (.ifCond .ne 5, 3) := by decide +kernel
theorem d_Mo_readWorking_12 : decode prog_12_method_44_code 12 = .ok (.iconst 0, 1) := by decide +kernel
theorem d_Mo_readWorking_13 : decode prog_12_method_44_code 13 = .ok (.ireturn, 1) := by decide +kernel
theorem d_Mo_readWorking_14 : decode prog_12_method_44_code 14 = .ok (.aload_n 0, 1) := by decide +kernel
theorem d_Mo_readWorking_15 : decode prog_12_method_44_code 15 = .ok (.invokevirtual 275, 3) := by decide +kernel
theorem d_Mo_readWorking_18 : decode prog_12_method_44_code 18 = .ok (.bipush 56, 2) := by decide +kernel
theorem d_Mo_readWorking_20 : decode prog_12_method_44_code 20 = .ok (.if_icmp .eq 5, 3) := by decide +kernel
theorem d_Mo_readWorking_23 : decode prog_12_method_44_code 23 = .ok (.iconst 1, 1) := by decide +kernel
theorem d_Mo_readWorking_24 : decode prog_12_method_44_code 24 = .ok (.ireturn, 1) := by decide +kernel
theorem d_Mo_readWorking_25 : decode prog_12_method_44_code 25 = .ok (.aload_n 0, 1) := by decide +kernel
theorem d_Mo_readWorking_26 : decode prog_12_method_44_code 26 = .ok (.iload_n 1, 1) := by decide +kernel
theorem d_Mo_readWorking_27 : decode prog_12_method_44_code 27 = .ok (.aload_n 0, 1) := by decide +kernel
theorem d_Mo_readWorking_28 : decode prog_12_method_44_code 28 = .ok (.getfield 270, 3) := by decide +kernel
theorem d_Mo_readWorking_31 : decode prog_12_method_44_code 31 = .ok (.invokevirtual 347, 3) := by decide +kernel
theorem d_Mo_readWorking_34 : decode prog_12_method_44_code 34 = .ok (.ifCond .ne 8, 3) := by decide +kernel
theorem d_Mo_readWorking_37 : decode prog_12_method_44_code 37 = .ok (.aload_n 0, 1) := by decide +kernel
theorem d_Mo_readWorking_38 : decode prog_12_method_44_code 38 = .ok (.invokevirtual 278, 3) := by decide +kernel
theorem d_Mo_readWorking_41 : decode prog_12_method_44_code 41 = .ok (.ireturn, 1) := by decide +kernel
theorem d_Mo_readWorking_42 : decode prog_12_method_44_code 42 = .ok (.aload_n 0, 1) := by decide +kernel
theorem d_Mo_readWorking_43 : decode prog_12_method_44_code 43 = .ok (.dup, 1) := by decide +kernel
theorem d_Mo_readWorking_44 : decode prog_12_method_44_code 44 = .ok (.getfield 270, 3) := by decide +kernel
theorem d_Mo_readWorking_47 : decode prog_12_method_44_code 47 = .ok (.iconst 1, 1) := by decide +kernel
theorem d_Mo_readWorking_48 : decode prog_12_method_44_code 48 = .ok (.iadd, 1) := by decide +kernel
theorem d_Mo_readWorking_49 : decode prog_12_method_44_code 49 = .ok (.putfield 270, 3) := by decide +kernel
theorem d_Mo_readWorking_52 : decode prog_12_method_44_code 52 = .ok (.aload_n 0, 1) := by decide +kernel
theorem d_Mo_readWorking_53 : decode prog_12_method_44_code 53 = .ok (.invokevirtual 326, 3) := by decide +kernel
theorem d_Mo_readWorking_56 : decode prog_12_method_44_code 56 = .ok (.ireturn, 1) := by decide +kernel
set_option maxHeartbeats 4000000 in
set_option maxRecDepth 100000 in
theorem c_Mo_readWorking (l : Launch) (D : va_G) (cI cB cJ cS : ClassId) (h0 : Nat) (am : Nat → Nat) (a_all_m20 : Nat) (a_all_m5 : Nat) (known_h0 : Int32) (thrown_h0 : Int32) (wrong_h0 : Int32) (lastEnd_h0 : Int32) (at_h0 : Int32) (bad_h0 : Int32) (levels_h0 : Int32) (least_h0 : Int32) (found_h0 : Int32) (size_m20 : Int32) (size_m5 : Int32) (n_a_all_m5 : Nat) (b_a_all_m5 : Nat → Int32) (n_a_all_m20 : Nat) (b_a_all_m20 : Nat → Int32) (n_m2 : Nat) (b_m2 : Nat → Int32) (ret : Int32) (o_0_17 : Int32) (o_0_18 : Int32) (o_0_19 : Int32) (o_1_1 : Int32) (on_nq_1_0 : Nat) (ob_nq_1_0 : Nat → Int32) (mc ms : Nat) (h : F_Mo_readWorking known_h0 thrown_h0 wrong_h0 lastEnd_h0 at_h0 bad_h0 levels_h0 least_h0 found_h0 size_m20 size_m5 n_a_all_m5 b_a_all_m5 n_a_all_m20 b_a_all_m20 n_m2 b_m2 = some ((ret, o_0_17, o_0_18, o_0_19, o_1_1, on_nq_1_0, ob_nq_1_0), mc, ms)) : Ct l D (gT cI cB cJ cS) y_Mo_readWorking prog_12_method_44_code 2 (Option.some Jvm.ClassFile.FieldType.boolean) 5 113 mc ms [.ref h0] [(h0, .inr (9, moF am known_h0 thrown_h0 wrong_h0 lastEnd_h0 at_h0 bad_h0 levels_h0 least_h0 found_h0)), ((am 20), .inr (8, [.ref a_all_m20, .int size_m20])), ((am 5), .inr (8, [.ref a_all_m5, .int size_m5])), (a_all_m5, .inl (cI, n_a_all_m5, .inl b_a_all_m5)), (a_all_m20, .inl (cI, n_a_all_m20, .inl b_a_all_m20)), ((am 2), .inl (cI, n_m2, .inl b_m2))] (fun v w => ∃ nq_1_0 : Nat, v = some (.int ret) ∧ zb ret ∧ w = [(h0, .inr (9, moF am known_h0 thrown_h0 wrong_h0 lastEnd_h0 o_0_17 o_0_18 o_0_19 least_h0 found_h0)), ((am 20), .inr (8, [.ref nq_1_0, .int o_1_1])), ((am 5), .inr (8, [.ref a_all_m5, .int size_m5])), (a_all_m5, .inl (cI, n_a_all_m5, .inl b_a_all_m5)), ((am 2), .inl (cI, n_m2, .inl b_m2)), (nq_1_0, .inl (cI, on_nq_1_0, .inl ob_nq_1_0))]) := by
  refine Ct.mk (by decide) (Nat.le_of_ble_eq_true rfl) ?_
  intro p e s m below meth c hr hnm
  refine j_norm (pc' := 0) (lv' := [(0, .ref h0)]) (st' := []) (ws' := [(h0, .inr (9, moF am known_h0 thrown_h0 wrong_h0 lastEnd_h0 at_h0 bad_h0 levels_h0 least_h0 found_h0)), ((am 20), .inr (8, [.ref a_all_m20, .int size_m20])), ((am 5), .inr (8, [.ref a_all_m5, .int size_m5])), (a_all_m5, .inl (cI, n_a_all_m5, .inl b_a_all_m5)), (a_all_m20, .inl (cI, n_a_all_m20, .inl b_a_all_m20)), ((am 2), .inl (cI, n_m2, .inl b_m2))]) (cl' := 0) (sl' := 0) rfl rfl rfl rfl rfl rfl ?_
  unfold F_Mo_readWorking at h
  have hC : 0 + mc ≤ mc := by omega
  have hS : 0 + ms ≤ ms := by omega
  refine j_aload_n d_Mo_readWorking_0 rfl 0 rfl ?_
  refine j_get ig_Mo rfl 0 rfl 17 (by decide) rfl m_1130 rfl d_Mo_readWorking_1 ?_
  refine j_istore_n (lv' := [(1, .int at_h0), (0, .ref h0)]) d_Mo_readWorking_4 rfl (by decide) rfl ?_
  refine j_aload_n d_Mo_readWorking_5 rfl 1 rfl ?_
  replace h := bw_s h
  obtain ⟨⟨r1, r2, r3, r4, r5, r6, r7⟩, C10, S11, C12, S13, k14, h, e1, e2⟩ := h
  replace hC : 0 + C10 + C12 ≤ mc := by omega
  replace hS : 0 + S11 + S13 ≤ ms := by omega
  clear e1 e2
  refine j_callV (n := 0) (As := []) (rest := []) (wr := []) (c_Mo_readExpression l D cI cB cJ cS h0 am a_all_m20 a_all_m5 known_h0 thrown_h0 wrong_h0 lastEnd_h0 at_h0 bad_h0 levels_h0 least_h0 found_h0 size_m20 size_m5 n_a_all_m5 b_a_all_m5 n_a_all_m20 b_a_all_m20 n_m2 b_m2  r1 r2 r3 r4 r5 r6 r7 C10 S11 k14) k_Mo_326 (by decide) ⟨Nat.le_of_ble_eq_true rfl, Nat.le_of_ble_eq_true rfl⟩ rfl 0 rfl [0, 1, 2, 3, 4, 5] [] rfl (by decide) rfl (by decide) (by decide) rfl rfl (Nat.le_of_ble_eq_true rfl) d_Mo_readWorking_6 ⟨show 0 + C10 ≤ mc by omega, show 0 + S11 ≤ ms by omega⟩ (fun v w hq => ?_)
  obtain ⟨q8, rfl, z9, rfl⟩ := hq
  refine j_norm (pc' := 9) (st' := [.int r1]) (ws' := [(h0, .inr (9, moF am known_h0 thrown_h0 wrong_h0 lastEnd_h0 r2 r3 r4 least_h0 found_h0)), ((am 20), .inr (8, [.ref q8, .int r5])), ((am 5), .inr (8, [.ref a_all_m5, .int size_m5])), (a_all_m5, .inl (cI, n_a_all_m5, .inl b_a_all_m5)), ((am 2), .inl (cI, n_m2, .inl b_m2)), (q8, .inl (cI, r6, .inl r7))]) (cl' := 0 + C10) (sl' := 0 + S11) rfl rfl rfl rfl rfl rfl ?_
  refine j_if_ne (tgt := 14) d_Mo_readWorking_9 (by decide) (fun c15 => ?_) (fun c15 => ?_)
  · replace h := it_f c15 h
    refine j_aload_n d_Mo_readWorking_14 rfl 1 rfl ?_
    replace h := bd_s h
    obtain ⟨_, k16, h⟩ := h
    refine j_callV (n := 0) (As := []) (rest := []) (wr := [((am 20), .inr (8, [.ref q8, .int r5])), ((am 2), .inl (cI, n_m2, .inl b_m2)), (q8, .inl (cI, r6, .inl r7))]) (c_Mo_kind l D cI cB cJ cS h0 am a_all_m5 known_h0 thrown_h0 wrong_h0 lastEnd_h0 r2 r3 r4 least_h0 found_h0 size_m5 n_a_all_m5 b_a_all_m5  k16) k_Mo_275 (by decide) ⟨Nat.le_of_ble_eq_true rfl, Nat.le_of_ble_eq_true rfl⟩ rfl 0 rfl [0, 2, 3] [1, 4, 5] rfl (by decide) rfl (by decide) (by decide) rfl rfl (Nat.le_of_ble_eq_true rfl) d_Mo_readWorking_15 ⟨show 0 + C10 + 0 ≤ mc by omega, show 0 + S11 + 0 ≤ ms by omega⟩ (fun v w hq => ?_)
    obtain ⟨rfl, rfl⟩ := hq
    refine j_norm (pc' := 18) (st' := [.int (b_a_all_m5 (Int32.toNatClampNeg r2))]) (ws' := [((am 20), .inr (8, [.ref q8, .int r5])), ((am 2), .inl (cI, n_m2, .inl b_m2)), (q8, .inl (cI, r6, .inl r7)), (h0, .inr (9, moF am known_h0 thrown_h0 wrong_h0 lastEnd_h0 r2 r3 r4 least_h0 found_h0)), ((am 5), .inr (8, [.ref a_all_m5, .int size_m5])), (a_all_m5, .inl (cI, n_a_all_m5, .inl b_a_all_m5))]) (cl' := 0 + C10) (sl' := 0 + S11) rfl rfl rfl rfl rfl rfl ?_
    refine j_bipush (v := 56) d_Mo_readWorking_18 (by decide) ?_
    refine j_icmp_eq (tgt := 25) d_Mo_readWorking_20 (by decide) (fun c17 => ?_) (fun c17 => ?_)
    · replace h := it_t c17 h
      refine j_aload_n d_Mo_readWorking_25 rfl 1 rfl ?_
      refine j_iload_n d_Mo_readWorking_26 rfl 0 rfl ?_
      refine j_aload_n d_Mo_readWorking_27 rfl 1 rfl ?_
      refine j_get ig_Mo rfl 3 rfl 17 (by decide) rfl m_1130 rfl d_Mo_readWorking_28 ?_
      replace h := bd_s h
      obtain ⟨r18, k20, h⟩ := h
      refine j_callV (n := 2) (As := [.int at_h0, .int r2]) (rest := []) (wr := [((am 20), .inr (8, [.ref q8, .int r5])), ((am 2), .inl (cI, n_m2, .inl b_m2)), (q8, .inl (cI, r6, .inl r7))]) (c_Mo_isTarget l D cI cB cJ cS h0 am a_all_m5 at_h0 r2 known_h0 thrown_h0 wrong_h0 lastEnd_h0 r2 r3 r4 least_h0 found_h0 size_m5 n_a_all_m5 b_a_all_m5  r18 k20) k_Mo_347 (by decide) ⟨Nat.le_of_ble_eq_true rfl, Nat.le_of_ble_eq_true rfl⟩ rfl 0 rfl [3, 4, 5] [0, 1, 2] rfl (by decide) rfl (by decide) (by decide) rfl rfl (Nat.le_of_ble_eq_true rfl) d_Mo_readWorking_31 ⟨show 0 + C10 + 0 ≤ mc by omega, show 0 + S11 + 0 ≤ ms by omega⟩ (fun v w hq => ?_)
      obtain ⟨rfl, z19, rfl⟩ := hq
      refine j_norm (pc' := 34) (st' := [.int r18]) (ws' := [((am 20), .inr (8, [.ref q8, .int r5])), ((am 2), .inl (cI, n_m2, .inl b_m2)), (q8, .inl (cI, r6, .inl r7)), (h0, .inr (9, moF am known_h0 thrown_h0 wrong_h0 lastEnd_h0 r2 r3 r4 least_h0 found_h0)), ((am 5), .inr (8, [.ref a_all_m5, .int size_m5])), (a_all_m5, .inl (cI, n_a_all_m5, .inl b_a_all_m5))]) (cl' := 0 + C10) (sl' := 0 + S11) rfl rfl rfl rfl rfl rfl ?_
      refine j_if_ne (tgt := 42) d_Mo_readWorking_34 (by decide) (fun c21 => ?_) (fun c21 => ?_)
      · replace h := it_f c21 h
        refine j_aload_n d_Mo_readWorking_42 rfl 1 rfl ?_
        refine j_dup rfl d_Mo_readWorking_43 ?_
        refine j_get ig_Mo rfl 3 rfl 17 (by decide) rfl m_1130 rfl d_Mo_readWorking_44 ?_
        refine j_iconst (v := 1) d_Mo_readWorking_47 (by decide) ?_
        refine j_iadd d_Mo_readWorking_48 ?_
        refine j_put (ws' := [((am 20), .inr (8, [.ref q8, .int r5])), ((am 2), .inl (cI, n_m2, .inl b_m2)), (q8, .inl (cI, r6, .inl r7)), (h0, .inr (9, moF am known_h0 thrown_h0 wrong_h0 lastEnd_h0 (r2 + 1) r3 r4 least_h0 found_h0)), ((am 5), .inr (8, [.ref a_all_m5, .int size_m5])), (a_all_m5, .inl (cI, n_a_all_m5, .inl b_a_all_m5))]) ig_Mo tk_Mo nm_Mo rfl 3 rfl 17 (by decide) rfl m_1130 rfl (tk_Mo 17 (by decide)) rfl rfl (Nat.le_of_ble_eq_true rfl) d_Mo_readWorking_49 rfl ?_
        refine j_aload_n d_Mo_readWorking_52 rfl 1 rfl ?_
        replace h := bw_s h
        obtain ⟨⟨r22, r23, r24, r25, r26, r27, r28⟩, C31, S32, C33, S34, k35, h, e1, e2⟩ := h
        replace hC : 0 + C10 + C31 + C33 ≤ mc := by omega
        replace hS : 0 + S11 + S32 + S34 ≤ ms := by omega
        clear e1 e2
        refine j_callV (n := 0) (As := []) (rest := []) (wr := []) (c_Mo_readExpression l D cI cB cJ cS h0 am q8 a_all_m5 known_h0 thrown_h0 wrong_h0 lastEnd_h0 (r2 + 1) r3 r4 least_h0 found_h0 r5 size_m5 n_a_all_m5 b_a_all_m5 r6 r7 n_m2 b_m2  r22 r23 r24 r25 r26 r27 r28 C31 S32 k35) k_Mo_326 (by decide) ⟨Nat.le_of_ble_eq_true rfl, Nat.le_of_ble_eq_true rfl⟩ rfl 0 rfl [3, 0, 4, 5, 2, 1] [] rfl (by decide) rfl (by decide) (by decide) rfl rfl (Nat.le_of_ble_eq_true rfl) d_Mo_readWorking_53 ⟨show 0 + C10 + C31 ≤ mc by omega, show 0 + S11 + S32 ≤ ms by omega⟩ (fun v w hq => ?_)
        obtain ⟨q29, rfl, z30, rfl⟩ := hq
        refine j_norm (pc' := 56) (st' := [.int r22]) (ws' := [(h0, .inr (9, moF am known_h0 thrown_h0 wrong_h0 lastEnd_h0 r23 r24 r25 least_h0 found_h0)), ((am 20), .inr (8, [.ref q29, .int r26])), ((am 5), .inr (8, [.ref a_all_m5, .int size_m5])), (a_all_m5, .inl (cI, n_a_all_m5, .inl b_a_all_m5)), ((am 2), .inl (cI, n_m2, .inl b_m2)), (q29, .inl (cI, r27, .inl r28))]) (cl' := 0 + C10 + C31) (sl' := 0 + S11 + S32) rfl rfl rfl rfl rfl rfl ?_
        replace h := lf_s h
        obtain ⟨h, e1, e2⟩ := h
        replace h := Prod.mk.inj h
        obtain ⟨h9, h⟩ := h
        subst h9
        replace h := Prod.mk.inj h
        obtain ⟨h9, h⟩ := h
        subst h9
        replace h := Prod.mk.inj h
        obtain ⟨h9, h⟩ := h
        subst h9
        replace h := Prod.mk.inj h
        obtain ⟨h9, h⟩ := h
        subst h9
        replace h := Prod.mk.inj h
        obtain ⟨h9, h⟩ := h
        subst h9
        replace h := Prod.mk.inj h
        obtain ⟨h9, h⟩ := h
        subst h9
        subst h
        refine j_widen (cl' := mc) (sl' := ms) (by omega) (by omega) ?_
        exact j_zret (w := [(h0, .inr (9, moF am known_h0 thrown_h0 wrong_h0 lastEnd_h0 r23 r24 r25 least_h0 found_h0)), ((am 20), .inr (8, [.ref q29, .int r26])), ((am 5), .inr (8, [.ref a_all_m5, .int size_m5])), (a_all_m5, .inl (cI, n_a_all_m5, .inl b_a_all_m5)), ((am 2), .inl (cI, n_m2, .inl b_m2)), (q29, .inl (cI, r27, .inl r28))]) hr (zb_n z30) d_Mo_readWorking_56 [0, 1, 2, 3, 4, 5] rfl (by decide) ⟨q29, rfl, z30, rfl⟩
      · replace h := it_t c21 h
        refine j_aload_n d_Mo_readWorking_37 rfl 1 rfl ?_
        refine j_callV (n := 0) (As := []) (rest := []) (wr := [((am 20), .inr (8, [.ref q8, .int r5])), ((am 2), .inl (cI, n_m2, .inl b_m2)), (q8, .inl (cI, r6, .inl r7)), ((am 5), .inr (8, [.ref a_all_m5, .int size_m5])), (a_all_m5, .inl (cI, n_a_all_m5, .inl b_a_all_m5))]) (c_Mo_fail l D cI cB cJ cS h0 am known_h0 thrown_h0 wrong_h0 lastEnd_h0 r2 r3 r4 least_h0 found_h0  ) k_Mo_278 (by decide) ⟨Nat.le_of_ble_eq_true rfl, Nat.le_of_ble_eq_true rfl⟩ rfl 0 rfl [3] [0, 1, 2, 4, 5] rfl (by decide) rfl (by decide) (by decide) rfl rfl (Nat.le_of_ble_eq_true rfl) d_Mo_readWorking_38 ⟨show 0 + C10 + 0 ≤ mc by omega, show 0 + S11 + 0 ≤ ms by omega⟩ (fun v w hq => ?_)
        obtain ⟨rfl, _, rfl⟩ := hq
        refine j_norm (pc' := 41) (st' := [.int 0]) (ws' := [((am 20), .inr (8, [.ref q8, .int r5])), ((am 2), .inl (cI, n_m2, .inl b_m2)), (q8, .inl (cI, r6, .inl r7)), ((am 5), .inr (8, [.ref a_all_m5, .int size_m5])), (a_all_m5, .inl (cI, n_a_all_m5, .inl b_a_all_m5)), (h0, .inr (9, moF am known_h0 thrown_h0 wrong_h0 lastEnd_h0 r2 r2 r4 least_h0 found_h0))]) (cl' := 0 + C10) (sl' := 0 + S11) rfl rfl rfl rfl rfl rfl ?_
        replace h := lf_s h
        obtain ⟨h, e1, e2⟩ := h
        replace h := Prod.mk.inj h
        obtain ⟨h9, h⟩ := h
        subst h9
        replace h := Prod.mk.inj h
        obtain ⟨h9, h⟩ := h
        subst h9
        replace h := Prod.mk.inj h
        obtain ⟨h9, h⟩ := h
        subst h9
        replace h := Prod.mk.inj h
        obtain ⟨h9, h⟩ := h
        subst h9
        replace h := Prod.mk.inj h
        obtain ⟨h9, h⟩ := h
        subst h9
        replace h := Prod.mk.inj h
        obtain ⟨h9, h⟩ := h
        subst h9
        subst h
        refine j_widen (cl' := mc) (sl' := ms) (by omega) (by omega) ?_
        exact j_zret (w := [(h0, .inr (9, moF am known_h0 thrown_h0 wrong_h0 lastEnd_h0 r2 r2 r4 least_h0 found_h0)), ((am 20), .inr (8, [.ref q8, .int r5])), ((am 5), .inr (8, [.ref a_all_m5, .int size_m5])), (a_all_m5, .inl (cI, n_a_all_m5, .inl b_a_all_m5)), ((am 2), .inl (cI, n_m2, .inl b_m2)), (q8, .inl (cI, r6, .inl r7))]) hr (zb_n zb0) d_Mo_readWorking_41 [5, 0, 3, 4, 1, 2] rfl (by decide) ⟨q8, rfl, zb0, rfl⟩
    · replace h := it_f c17 h
      refine j_iconst (v := 1) d_Mo_readWorking_23 (by decide) ?_
      replace h := lf_s h
      obtain ⟨h, e1, e2⟩ := h
      replace h := Prod.mk.inj h
      obtain ⟨h9, h⟩ := h
      subst h9
      replace h := Prod.mk.inj h
      obtain ⟨h9, h⟩ := h
      subst h9
      replace h := Prod.mk.inj h
      obtain ⟨h9, h⟩ := h
      subst h9
      replace h := Prod.mk.inj h
      obtain ⟨h9, h⟩ := h
      subst h9
      replace h := Prod.mk.inj h
      obtain ⟨h9, h⟩ := h
      subst h9
      replace h := Prod.mk.inj h
      obtain ⟨h9, h⟩ := h
      subst h9
      subst h
      refine j_widen (cl' := mc) (sl' := ms) (by omega) (by omega) ?_
      exact j_zret (w := [(h0, .inr (9, moF am known_h0 thrown_h0 wrong_h0 lastEnd_h0 r2 r3 r4 least_h0 found_h0)), ((am 20), .inr (8, [.ref q8, .int r5])), ((am 5), .inr (8, [.ref a_all_m5, .int size_m5])), (a_all_m5, .inl (cI, n_a_all_m5, .inl b_a_all_m5)), ((am 2), .inl (cI, n_m2, .inl b_m2)), (q8, .inl (cI, r6, .inl r7))]) hr (zb_n zb1) d_Mo_readWorking_24 [3, 0, 4, 5, 1, 2] rfl (by decide) ⟨q8, rfl, zb1, rfl⟩
  · replace h := it_t c15 h
    refine j_iconst (v := 0) d_Mo_readWorking_12 (by decide) ?_
    replace h := lf_s h
    obtain ⟨h, e1, e2⟩ := h
    replace h := Prod.mk.inj h
    obtain ⟨h9, h⟩ := h
    subst h9
    replace h := Prod.mk.inj h
    obtain ⟨h9, h⟩ := h
    subst h9
    replace h := Prod.mk.inj h
    obtain ⟨h9, h⟩ := h
    subst h9
    replace h := Prod.mk.inj h
    obtain ⟨h9, h⟩ := h
    subst h9
    replace h := Prod.mk.inj h
    obtain ⟨h9, h⟩ := h
    subst h9
    replace h := Prod.mk.inj h
    obtain ⟨h9, h⟩ := h
    subst h9
    subst h
    refine j_widen (cl' := mc) (sl' := ms) (by omega) (by omega) ?_
    exact j_zret (w := [(h0, .inr (9, moF am known_h0 thrown_h0 wrong_h0 lastEnd_h0 r2 r3 r4 least_h0 found_h0)), ((am 20), .inr (8, [.ref q8, .int r5])), ((am 5), .inr (8, [.ref a_all_m5, .int size_m5])), (a_all_m5, .inl (cI, n_a_all_m5, .inl b_a_all_m5)), ((am 2), .inl (cI, n_m2, .inl b_m2)), (q8, .inl (cI, r6, .inl r7))]) hr (zb_n zb0) d_Mo_readWorking_13 [0, 1, 2, 3, 4, 5] rfl (by decide) ⟨q8, rfl, zb0, rfl⟩
