def F_Mo_statementEnd_50 (known_h0 : Int32) (thrown_h0 : Int32) (wrong_h0 : Int32) (lastEnd_h0 : Int32) (at_h0 : Int32) (bad_h0 : Int32) (levels_h0 : Int32) (least_h0 : Int32) (found_h0 : Int32) (size_m5 : Int32) (n_a_all_m5 : Nat) (b_a_all_m5 : Nat → Int32) (v3_26 : Int32) (v2_26 : Int32) (K_26 : Int32 → Int32 → Option (Int32)) : Option (Int32) :=
    Option.bind (F_Mo_closing v2_26 known_h0 thrown_h0 wrong_h0 lastEnd_h0 at_h0 bad_h0 levels_h0 least_h0 found_h0 size_m5 n_a_all_m5 b_a_all_m5) fun r1 =>
    if 0 < v3_26 then (K_26 v3_26 (r1 + 1))
    else (some (r1 + 1))
def F_Mo_statementEnd_26 (known_h0 : Int32) (thrown_h0 : Int32) (wrong_h0 : Int32) (lastEnd_h0 : Int32) (at_h0 : Int32) (bad_h0 : Int32) (levels_h0 : Int32) (least_h0 : Int32) (found_h0 : Int32) (size_m5 : Int32) (n_a_all_m5 : Nat) (b_a_all_m5 : Nat → Int32) : Nat → Int32 → Int32 → Option (Int32)
  | 0, _, _ => none
  | k_26 + 1, v3_26, v2_26 =>
    Option.bind (F_Nm_at v2_26 size_m5 n_a_all_m5 b_a_all_m5) fun _ =>
    if (b_a_all_m5 (Int32.toNatClampNeg v2_26)) = 50 then (F_Mo_statementEnd_50 known_h0 thrown_h0 wrong_h0 lastEnd_h0 at_h0 bad_h0 levels_h0 least_h0 found_h0 size_m5 n_a_all_m5 b_a_all_m5 v3_26 v2_26 (F_Mo_statementEnd_26 known_h0 thrown_h0 wrong_h0 lastEnd_h0 at_h0 bad_h0 levels_h0 least_h0 found_h0 size_m5 n_a_all_m5 b_a_all_m5  k_26)  )
    else if (b_a_all_m5 (Int32.toNatClampNeg v2_26)) = 52 then (F_Mo_statementEnd_50 known_h0 thrown_h0 wrong_h0 lastEnd_h0 at_h0 bad_h0 levels_h0 least_h0 found_h0 size_m5 n_a_all_m5 b_a_all_m5 v3_26 v2_26 (F_Mo_statementEnd_26 known_h0 thrown_h0 wrong_h0 lastEnd_h0 at_h0 bad_h0 levels_h0 least_h0 found_h0 size_m5 n_a_all_m5 b_a_all_m5  k_26)  )
    else (nm (F_Mo_opensBlock (b_a_all_m5 (Int32.toNatClampNeg v2_26))) fun r7 =>
      if r7 = 0 then (if (b_a_all_m5 (Int32.toNatClampNeg v2_26)) = 13 then (if 0 < (v3_26 - 1) then (F_Mo_statementEnd_26 known_h0 thrown_h0 wrong_h0 lastEnd_h0 at_h0 bad_h0 levels_h0 least_h0 found_h0 size_m5 n_a_all_m5 b_a_all_m5  k_26 (v3_26 - 1) (v2_26 + 1))
          else (some (v2_26 + 1)))
        else if 0 < v3_26 then (F_Mo_statementEnd_26 known_h0 thrown_h0 wrong_h0 lastEnd_h0 at_h0 bad_h0 levels_h0 least_h0 found_h0 size_m5 n_a_all_m5 b_a_all_m5  k_26 v3_26 (v2_26 + 1))
        else (some (v2_26 + 1)))
      else if 0 < (v3_26 + 1) then (F_Mo_statementEnd_26 known_h0 thrown_h0 wrong_h0 lastEnd_h0 at_h0 bad_h0 levels_h0 least_h0 found_h0 size_m5 n_a_all_m5 b_a_all_m5  k_26 (v3_26 + 1) (v2_26 + 1))
      else (some (v2_26 + 1)))
def F_Mo_statementEnd (p1 : Int32) (known_h0 : Int32) (thrown_h0 : Int32) (wrong_h0 : Int32) (lastEnd_h0 : Int32) (at_h0 : Int32) (bad_h0 : Int32) (levels_h0 : Int32) (least_h0 : Int32) (found_h0 : Int32) (size_m5 : Int32) (n_a_all_m5 : Nat) (b_a_all_m5 : Nat → Int32) : Option (Int32) :=
  Option.bind (F_Nm_at p1 size_m5 n_a_all_m5 b_a_all_m5) fun _ =>
  nm (F_Mo_opensBlock (b_a_all_m5 (Int32.toNatClampNeg p1))) fun r16 =>
  if r16 = 0 then (Option.bind (F_Mo_stopOf p1 known_h0 thrown_h0 wrong_h0 lastEnd_h0 at_h0 bad_h0 levels_h0 least_h0 found_h0 size_m5 n_a_all_m5 b_a_all_m5) fun r20 =>
    (some (r20 + 1)))
  else (F_Mo_statementEnd_26 known_h0 thrown_h0 wrong_h0 lastEnd_h0 at_h0 bad_h0 levels_h0 least_h0 found_h0 size_m5 n_a_all_m5 b_a_all_m5  FU 0 p1)
theorem d_Mo_statementEnd_0 : decode prog_12_method_58_code 0 = .ok (.iload_n 1, 1) := by decide +kernel
theorem d_Mo_statementEnd_1 : decode prog_12_method_58_code 1 = .ok (.istore_n 2, 1) := by decide +kernel
theorem d_Mo_statementEnd_2 : decode prog_12_method_58_code 2 = .ok (.aload_n 0, 1) := by decide +kernel
theorem d_Mo_statementEnd_3 : decode prog_12_method_58_code 3 = .ok (.getfield 114, 3) := by decide +kernel
theorem d_Mo_statementEnd_6 : decode prog_12_method_58_code 6 = .ok (.iload_n 1, 1) := by decide +kernel
theorem d_Mo_statementEnd_7 : decode prog_12_method_58_code 7 = .ok (.invokevirtual 214, 3) := by decide +kernel
theorem d_Mo_statementEnd_10 : decode prog_12_method_58_code 10 = .ok (.invokestatic 420, 3) := by decide +kernel
theorem d_Mo_statementEnd_13 : decode prog_12_method_58_code 13 = .ok (.ifCond .ne 11, 3) := by decide +kernel
theorem d_Mo_statementEnd_16 : decode prog_12_method_58_code 16 = .ok (.aload_n 0, 1) := by decide +kernel
theorem d_Mo_statementEnd_17 : decode prog_12_method_58_code 17 = .ok (.iload_n 1, 1) := by decide +kernel
theorem d_Mo_statementEnd_18 : decode prog_12_method_58_code 18 = .ok (.invokevirtual 423, 3) := by decide +kernel
theorem d_Mo_statementEnd_21 : decode prog_12_method_58_code 21 = .ok (.iconst 1, 1) := by decide +kernel
theorem d_Mo_statementEnd_22 : decode prog_12_method_58_code 22 = .ok (.iadd, 1) := by decide +kernel
theorem d_Mo_statementEnd_23 : decode prog_12_method_58_code 23 = .ok (.ireturn, 1) := by decide +kernel
theorem d_Mo_statementEnd_24 : decode prog_12_method_58_code 24 = .ok (.iconst 0, 1) := by decide +kernel
theorem d_Mo_statementEnd_25 : decode prog_12_method_58_code 25 = .ok (.istore_n 3, 1) := by decide +kernel
theorem d_Mo_statementEnd_26 : decode prog_12_method_58_code 26 = .ok (.aload_n 0, 1) := by decide +kernel
theorem d_Mo_statementEnd_27 : decode prog_12_method_58_code 27 = .ok (.getfield 114, 3) := by decide +kernel
theorem d_Mo_statementEnd_30 : decode prog_12_method_58_code 30 = .ok (.iload_n 2, 1) := by decide +kernel
theorem d_Mo_statementEnd_31 : decode prog_12_method_58_code 31 = .ok (.invokevirtual 214, 3) := by decide +kernel
theorem d_Mo_statementEnd_34 : decode prog_12_method_58_code 34 = .ok (.istore 4, 2) := by decide +kernel
theorem d_Mo_statementEnd_36 : decode prog_12_method_58_code 36 = .ok (.iload 4, 2) := by decide +kernel
theorem d_Mo_statementEnd_38 : decode prog_12_method_58_code 38 = .ok (.bipush 50, 2) := by decide +kernel
theorem d_Mo_statementEnd_40 : decode prog_12_method_58_code 40 = .ok (.if_icmp .eq 10, 3) := by decide +kernel
theorem d_Mo_statementEnd_43 : decode prog_12_method_58_code 43 = .ok (.iload 4, 2) := by decide +kernel
theorem d_Mo_statementEnd_45 : decode prog_12_method_58_code 45 = .ok (.bipush 52, 2) := by decide +kernel
theorem d_Mo_statementEnd_47 : decode prog_12_method_58_code 47 = .ok (.if_icmp .ne 12, 3) := by decide +kernel
theorem d_Mo_statementEnd_50 : decode prog_12_method_58_code 50 = .ok (.aload_n 0, 1) := by decide +kernel
theorem d_Mo_statementEnd_51 : decode prog_12_method_58_code 51 = .ok (.iload_n 2, 1) := by decide +kernel
theorem d_Mo_statementEnd_52 : decode prog_12_method_58_code 52 = .ok (.invokevirtual 350, 3) := by decide +kernel
theorem d_Mo_statementEnd_55 : decode prog_12_method_58_code 55 = .ok (.istore_n 2, 1) := by decide +kernel
theorem d_Mo_statementEnd_56 : decode prog_12_method_58_code 56 = .ok (.goto 32, 3) := by decide +kernel
theorem d_Mo_statementEnd_59 : decode prog_12_method_58_code 59 = .ok (.iload 4, 2) := by decide +kernel
theorem d_Mo_statementEnd_61 : decode prog_12_method_58_code 61 = .ok (.invokestatic 420, 3) := by decide +kernel
theorem d_Mo_statementEnd_64 : decode prog_12_method_58_code 64 = .ok (.ifCond .eq 9, 3) := by decide +kernel
theorem d_Mo_statementEnd_67 : decode prog_12_method_58_code 67 = .ok (.iload_n 3, 1) := by decide +kernel
theorem d_Mo_statementEnd_68 : decode prog_12_method_58_code 68 = .ok (.iconst 1, 1) := by decide +kernel
theorem d_Mo_statementEnd_69 : decode prog_12_method_58_code 69 = .ok (.iadd, 1) := by decide +kernel
theorem d_Mo_statementEnd_70 : decode prog_12_method_58_code 70 = .ok (.goto 17, 3) := by decide +kernel
theorem d_Mo_statementEnd_73 : decode prog_12_method_58_code 73 = .ok (.iload 4, 2) := by decide +kernel
theorem d_Mo_statementEnd_75 : decode prog_12_method_58_code 75 = .ok (.bipush 13, 2) := by decide +kernel
theorem d_Mo_statementEnd_77 : decode prog_12_method_58_code 77 = .ok (.if_icmp .ne 9, 3) := by decide +kernel
theorem d_Mo_statementEnd_80 : decode prog_12_method_58_code 80 = .ok (.iload_n 3, 1) := by decide +kernel
theorem d_Mo_statementEnd_81 : decode prog_12_method_58_code 81 = .ok (.iconst 1, 1) := by decide +kernel
theorem d_Mo_statementEnd_82 : decode prog_12_method_58_code 82 = .ok (.isub, 1) := by decide +kernel
theorem d_Mo_statementEnd_83 : decode prog_12_method_58_code 83 = .ok (.goto 4, 3) := by decide +kernel
theorem d_Mo_statementEnd_86 : decode prog_12_method_58_code 86 = .ok (.iload_n 3, 1) := by decide +kernel
theorem d_Mo_statementEnd_87 : decode prog_12_method_58_code 87 = .ok (.istore_n 3, 1) := by decide +kernel
theorem d_Mo_statementEnd_88 : decode prog_12_method_58_code 88 = .ok (.iinc 2 1, 3) := by decide +kernel
theorem d_Mo_statementEnd_91 : decode prog_12_method_58_code 91 = .ok (.iload_n 3, 1) := by decide +kernel
theorem d_Mo_statementEnd_92 : decode prog_12_method_58_code 92 = .ok (.ifCond .gt (-66), 3) := by decide +kernel
theorem d_Mo_statementEnd_95 : decode prog_12_method_58_code 95 = .ok (.iload_n 2, 1) := by decide +kernel
theorem d_Mo_statementEnd_96 : decode prog_12_method_58_code 96 = .ok (.ireturn, 1) := by decide +kernel
set_option maxHeartbeats 4000000 in
set_option maxRecDepth 100000 in
theorem L_Mo_statementEnd_26 (l : Launch) (D : va_G) (cI cB cJ cS : ClassId) (h0 : Nat) (am : Nat → Nat) (a_all_m5 : Nat) (p1 : Int32) (known_h0 : Int32) (thrown_h0 : Int32) (wrong_h0 : Int32) (lastEnd_h0 : Int32) (at_h0 : Int32) (bad_h0 : Int32) (levels_h0 : Int32) (least_h0 : Int32) (found_h0 : Int32) (size_m5 : Int32) (n_a_all_m5 : Nat) (b_a_all_m5 : Nat → Int32) (ret : Int32) (p : Program) (e : Env) (s : State) (m : MethodId) (below : List Frame) (meth : Method) (c : Code) (hr : meth.sig.returnType = (Option.some Jvm.ClassFile.FieldType.int)) (hnm : meth.name = y_Mo_statementEnd.name) : ∀ (k_26 : Nat) (v3_26 : Int32) (v2_26 : Int32), F_Mo_statementEnd_26 known_h0 thrown_h0 wrong_h0 lastEnd_h0 at_h0 bad_h0 levels_h0 least_h0 found_h0 size_m5 n_a_all_m5 b_a_all_m5  k_26 v3_26 v2_26 = some ret → J (KxOf p l e { frames := 3, cells := 0, slots := 0, locals := 67 } s m [.ref h0, .int p1].toArray below meth c D (gT cI cB cJ cS) [(h0, .inr (9, moF am known_h0 thrown_h0 wrong_h0 lastEnd_h0 at_h0 bad_h0 levels_h0 least_h0 found_h0)), ((am 5), .inr (8, [.ref a_all_m5, .int size_m5])), (a_all_m5, .inl (cI, n_a_all_m5, .inl b_a_all_m5))] (fun v w => v = some (.int ret) ∧ w = [(h0, .inr (9, moF am known_h0 thrown_h0 wrong_h0 lastEnd_h0 at_h0 bad_h0 levels_h0 least_h0 found_h0)), ((am 5), .inr (8, [.ref a_all_m5, .int size_m5])), (a_all_m5, .inl (cI, n_a_all_m5, .inl b_a_all_m5))]) 0 0) prog_12_method_58_code 5 R_Mo 26 [(3, .int v3_26), (2, .int v2_26), (0, .ref h0), (1, .int p1)] [] [(h0, .inr (9, moF am known_h0 thrown_h0 wrong_h0 lastEnd_h0 at_h0 bad_h0 levels_h0 least_h0 found_h0)), ((am 5), .inr (8, [.ref a_all_m5, .int size_m5])), (a_all_m5, .inl (cI, n_a_all_m5, .inl b_a_all_m5))] 0 0 := by
  intro k_26
  induction k_26 with
  | zero => intro v3_26 v2_26 h; rw [F_Mo_statementEnd_26] at h; cases h
  | succ k_26 ih_26 =>
    intro v3_26 v2_26 h
    rw [F_Mo_statementEnd_26] at h
    have L_50 : F_Mo_statementEnd_50 known_h0 thrown_h0 wrong_h0 lastEnd_h0 at_h0 bad_h0 levels_h0 least_h0 found_h0 size_m5 n_a_all_m5 b_a_all_m5 v3_26 v2_26 (F_Mo_statementEnd_26 known_h0 thrown_h0 wrong_h0 lastEnd_h0 at_h0 bad_h0 levels_h0 least_h0 found_h0 size_m5 n_a_all_m5 b_a_all_m5  k_26)   = some ret → J (KxOf p l e { frames := 3, cells := 0, slots := 0, locals := 67 } s m [.ref h0, .int p1].toArray below meth c D (gT cI cB cJ cS) [(h0, .inr (9, moF am known_h0 thrown_h0 wrong_h0 lastEnd_h0 at_h0 bad_h0 levels_h0 least_h0 found_h0)), ((am 5), .inr (8, [.ref a_all_m5, .int size_m5])), (a_all_m5, .inl (cI, n_a_all_m5, .inl b_a_all_m5))] (fun v w => v = some (.int ret) ∧ w = [(h0, .inr (9, moF am known_h0 thrown_h0 wrong_h0 lastEnd_h0 at_h0 bad_h0 levels_h0 least_h0 found_h0)), ((am 5), .inr (8, [.ref a_all_m5, .int size_m5])), (a_all_m5, .inl (cI, n_a_all_m5, .inl b_a_all_m5))]) 0 0) prog_12_method_58_code 5 R_Mo 50 [(4, .int (b_a_all_m5 (Int32.toNatClampNeg v2_26))), (3, .int v3_26), (2, .int v2_26), (0, .ref h0), (1, .int p1)] [] [(h0, .inr (9, moF am known_h0 thrown_h0 wrong_h0 lastEnd_h0 at_h0 bad_h0 levels_h0 least_h0 found_h0)), ((am 5), .inr (8, [.ref a_all_m5, .int size_m5])), (a_all_m5, .inl (cI, n_a_all_m5, .inl b_a_all_m5))] 0 0 := by
      clear h
      intro  h
      unfold F_Mo_statementEnd_50 at h
      refine j_aload_n d_Mo_statementEnd_50 rfl 3 rfl ?_
      refine j_iload_n d_Mo_statementEnd_51 rfl 2 rfl ?_
      replace h := bd_s h
      obtain ⟨r1, k2, h⟩ := h
      refine j_callV (n := 1) (As := [.int v2_26]) (rest := []) (wr := []) (c_Mo_closing l D cI cB cJ cS h0 am a_all_m5 v2_26 known_h0 thrown_h0 wrong_h0 lastEnd_h0 at_h0 bad_h0 levels_h0 least_h0 found_h0 size_m5 n_a_all_m5 b_a_all_m5  r1 k2) k_Mo_350 (by decide) ⟨Nat.le_of_ble_eq_true rfl, Nat.le_of_ble_eq_true rfl⟩ rfl 0 rfl [0, 1, 2] [] rfl (by decide) rfl (by decide) (by decide) rfl rfl (Nat.le_of_ble_eq_true rfl) d_Mo_statementEnd_52 ⟨Nat.le_of_ble_eq_true rfl, Nat.le_of_ble_eq_true rfl⟩ (fun v w hq => ?_)
      obtain ⟨rfl, rfl⟩ := hq
      refine j_norm (pc' := 55) (st' := [.int r1]) (ws' := [(h0, .inr (9, moF am known_h0 thrown_h0 wrong_h0 lastEnd_h0 at_h0 bad_h0 levels_h0 least_h0 found_h0)), ((am 5), .inr (8, [.ref a_all_m5, .int size_m5])), (a_all_m5, .inl (cI, n_a_all_m5, .inl b_a_all_m5))]) (cl' := 0) (sl' := 0) rfl rfl rfl rfl rfl rfl ?_
      refine j_istore_n (lv' := [(2, .int r1), (4, .int (b_a_all_m5 (Int32.toNatClampNeg v2_26))), (3, .int v3_26), (0, .ref h0), (1, .int p1)]) d_Mo_statementEnd_55 rfl (by decide) rfl ?_
      refine j_goto (tgt := 88) d_Mo_statementEnd_56 (by decide) ?_
      refine j_iinc (v := r1 + 1) (lv' := [(2, .int (r1 + 1)), (4, .int (b_a_all_m5 (Int32.toNatClampNeg v2_26))), (3, .int v3_26), (0, .ref h0), (1, .int p1)]) d_Mo_statementEnd_88 0 rfl rfl (by decide) rfl ?_
      refine j_iload_n d_Mo_statementEnd_91 rfl 2 rfl ?_
      refine j_if_gt (tgt := 26) d_Mo_statementEnd_92 (by decide) (fun c3 => ?_) (fun c3 => ?_)
      · replace h := it_t c3 h
        refine j_sub (w := [(h0, .inr (9, moF am known_h0 thrown_h0 wrong_h0 lastEnd_h0 at_h0 bad_h0 levels_h0 least_h0 found_h0)), ((am 5), .inr (8, [.ref a_all_m5, .int size_m5])), (a_all_m5, .inl (cI, n_a_all_m5, .inl b_a_all_m5))]) (lv' := [(3, .int v3_26), (2, .int (r1 + 1)), (0, .ref h0), (1, .int p1)]) [0, 1, 2] rfl (by decide) [2, 0, 3, 4] rfl ?_
        exact ih_26 v3_26 (r1 + 1) h
      · replace h := it_f c3 h
        refine j_iload_n d_Mo_statementEnd_95 rfl 0 rfl ?_
        replace h := Option.some.inj h
        subst h
        exact j_iret (w := [(h0, .inr (9, moF am known_h0 thrown_h0 wrong_h0 lastEnd_h0 at_h0 bad_h0 levels_h0 least_h0 found_h0)), ((am 5), .inr (8, [.ref a_all_m5, .int size_m5])), (a_all_m5, .inl (cI, n_a_all_m5, .inl b_a_all_m5))]) hr d_Mo_statementEnd_96 [0, 1, 2] rfl (by decide) ⟨rfl, rfl⟩
    refine j_aload_n d_Mo_statementEnd_26 rfl 2 rfl ?_
    refine j_get ig_Mo rfl 0 rfl 5 (by decide) rfl m_1118 rfl d_Mo_statementEnd_27 ?_
    refine j_iload_n d_Mo_statementEnd_30 rfl 1 rfl ?_
    replace h := bd_s h
    obtain ⟨_, k4, h⟩ := h
    refine j_callV (n := 1) (As := [.int v2_26]) (rest := []) (wr := [(h0, .inr (9, moF am known_h0 thrown_h0 wrong_h0 lastEnd_h0 at_h0 bad_h0 levels_h0 least_h0 found_h0))]) (c_Nm_at l D cI cB cJ cS (am 5) a_all_m5 v2_26 size_m5 n_a_all_m5 b_a_all_m5  k4) k_Mo_214 (by decide) ⟨Nat.le_of_ble_eq_true rfl, Nat.le_of_ble_eq_true rfl⟩ rfl 0 rfl [1, 2] [0] rfl (by decide) rfl (by decide) (by decide) rfl rfl (Nat.le_of_ble_eq_true rfl) d_Mo_statementEnd_31 ⟨Nat.le_of_ble_eq_true rfl, Nat.le_of_ble_eq_true rfl⟩ (fun v w hq => ?_)
    obtain ⟨rfl, rfl⟩ := hq
    refine j_norm (pc' := 34) (st' := [.int (b_a_all_m5 (Int32.toNatClampNeg v2_26))]) (ws' := [(h0, .inr (9, moF am known_h0 thrown_h0 wrong_h0 lastEnd_h0 at_h0 bad_h0 levels_h0 least_h0 found_h0)), ((am 5), .inr (8, [.ref a_all_m5, .int size_m5])), (a_all_m5, .inl (cI, n_a_all_m5, .inl b_a_all_m5))]) (cl' := 0) (sl' := 0) rfl rfl rfl rfl rfl rfl ?_
    refine j_istore (lv' := [(4, .int (b_a_all_m5 (Int32.toNatClampNeg v2_26))), (3, .int v3_26), (2, .int v2_26), (0, .ref h0), (1, .int p1)]) d_Mo_statementEnd_34 (by decide) rfl ?_
    refine j_iload d_Mo_statementEnd_36 0 rfl ?_
    refine j_bipush (v := 50) d_Mo_statementEnd_38 (by decide) ?_
    refine j_icmp_eq (tgt := 50) d_Mo_statementEnd_40 (by decide) (fun c5 => ?_) (fun c5 => ?_)
    · replace h := it_t c5 h
      refine j_sub (w := [(h0, .inr (9, moF am known_h0 thrown_h0 wrong_h0 lastEnd_h0 at_h0 bad_h0 levels_h0 least_h0 found_h0)), ((am 5), .inr (8, [.ref a_all_m5, .int size_m5])), (a_all_m5, .inl (cI, n_a_all_m5, .inl b_a_all_m5))]) (lv' := [(4, .int (b_a_all_m5 (Int32.toNatClampNeg v2_26))), (3, .int v3_26), (2, .int v2_26), (0, .ref h0), (1, .int p1)]) [0, 1, 2] rfl (by decide) [0, 1, 2, 3, 4] rfl ?_
      exact L_50  h
    · replace h := it_f c5 h
      refine j_iload d_Mo_statementEnd_43 0 rfl ?_
      refine j_bipush (v := 52) d_Mo_statementEnd_45 (by decide) ?_
      refine j_icmp_ne (tgt := 59) d_Mo_statementEnd_47 (by decide) (fun c6 => ?_) (fun c6 => ?_)
      · replace h := it_f c6 h
        refine j_iload d_Mo_statementEnd_59 0 rfl ?_
        obtain ⟨r7, k9⟩ : ∃ z, (F_Mo_opensBlock (b_a_all_m5 (Int32.toNatClampNeg v2_26))) = z := ⟨_, rfl⟩
        replace h := nm_at k9 h
        refine j_callS (n := 1) (As := [.int (b_a_all_m5 (Int32.toNatClampNeg v2_26))]) (rest := []) (wr := [(h0, .inr (9, moF am known_h0 thrown_h0 wrong_h0 lastEnd_h0 at_h0 bad_h0 levels_h0 least_h0 found_h0)), ((am 5), .inr (8, [.ref a_all_m5, .int size_m5])), (a_all_m5, .inl (cI, n_a_all_m5, .inl b_a_all_m5))]) (c_Mo_opensBlock l D cI cB cJ cS (b_a_all_m5 (Int32.toNatClampNeg v2_26))  r7 k9) k_Mo_420 (by decide) ⟨Nat.le_of_ble_eq_true rfl, Nat.le_of_ble_eq_true rfl⟩ [] [0, 1, 2] rfl (by decide) rfl (by decide) (by decide) rfl rfl (Nat.le_of_ble_eq_true rfl) d_Mo_statementEnd_61 ⟨Nat.le_of_ble_eq_true rfl, Nat.le_of_ble_eq_true rfl⟩ (fun v w hq => ?_)
        obtain ⟨rfl, z8, rfl⟩ := hq
        refine j_norm (pc' := 64) (st' := [.int r7]) (ws' := [(h0, .inr (9, moF am known_h0 thrown_h0 wrong_h0 lastEnd_h0 at_h0 bad_h0 levels_h0 least_h0 found_h0)), ((am 5), .inr (8, [.ref a_all_m5, .int size_m5])), (a_all_m5, .inl (cI, n_a_all_m5, .inl b_a_all_m5))]) (cl' := 0) (sl' := 0) rfl rfl rfl rfl rfl rfl ?_
        refine j_if_eq (tgt := 73) d_Mo_statementEnd_64 (by decide) (fun c10 => ?_) (fun c10 => ?_)
        · replace h := it_t c10 h
          refine j_iload d_Mo_statementEnd_73 0 rfl ?_
          refine j_bipush (v := 13) d_Mo_statementEnd_75 (by decide) ?_
          refine j_icmp_ne (tgt := 86) d_Mo_statementEnd_77 (by decide) (fun c11 => ?_) (fun c11 => ?_)
          · replace h := it_f c11 h
            refine j_iload_n d_Mo_statementEnd_86 rfl 1 rfl ?_
            refine j_istore_n (lv' := [(3, .int v3_26), (4, .int (b_a_all_m5 (Int32.toNatClampNeg v2_26))), (2, .int v2_26), (0, .ref h0), (1, .int p1)]) d_Mo_statementEnd_87 rfl (by decide) rfl ?_
            refine j_iinc (v := v2_26 + 1) (lv' := [(2, .int (v2_26 + 1)), (3, .int v3_26), (4, .int (b_a_all_m5 (Int32.toNatClampNeg v2_26))), (0, .ref h0), (1, .int p1)]) d_Mo_statementEnd_88 2 rfl rfl (by decide) rfl ?_
            refine j_iload_n d_Mo_statementEnd_91 rfl 1 rfl ?_
            refine j_if_gt (tgt := 26) d_Mo_statementEnd_92 (by decide) (fun c12 => ?_) (fun c12 => ?_)
            · replace h := it_t c12 h
              refine j_sub (w := [(h0, .inr (9, moF am known_h0 thrown_h0 wrong_h0 lastEnd_h0 at_h0 bad_h0 levels_h0 least_h0 found_h0)), ((am 5), .inr (8, [.ref a_all_m5, .int size_m5])), (a_all_m5, .inl (cI, n_a_all_m5, .inl b_a_all_m5))]) (lv' := [(3, .int v3_26), (2, .int (v2_26 + 1)), (0, .ref h0), (1, .int p1)]) [0, 1, 2] rfl (by decide) [1, 0, 3, 4] rfl ?_
              exact ih_26 v3_26 (v2_26 + 1) h
            · replace h := it_f c12 h
              refine j_iload_n d_Mo_statementEnd_95 rfl 0 rfl ?_
              replace h := Option.some.inj h
              subst h
              exact j_iret (w := [(h0, .inr (9, moF am known_h0 thrown_h0 wrong_h0 lastEnd_h0 at_h0 bad_h0 levels_h0 least_h0 found_h0)), ((am 5), .inr (8, [.ref a_all_m5, .int size_m5])), (a_all_m5, .inl (cI, n_a_all_m5, .inl b_a_all_m5))]) hr d_Mo_statementEnd_96 [0, 1, 2] rfl (by decide) ⟨rfl, rfl⟩
          · replace h := it_t c11 h
            refine j_iload_n d_Mo_statementEnd_80 rfl 1 rfl ?_
            refine j_iconst (v := 1) d_Mo_statementEnd_81 (by decide) ?_
            refine j_isub d_Mo_statementEnd_82 ?_
            refine j_goto (tgt := 87) d_Mo_statementEnd_83 (by decide) ?_
            refine j_istore_n (lv' := [(3, .int (v3_26 - 1)), (4, .int (b_a_all_m5 (Int32.toNatClampNeg v2_26))), (2, .int v2_26), (0, .ref h0), (1, .int p1)]) d_Mo_statementEnd_87 rfl (by decide) rfl ?_
            refine j_iinc (v := v2_26 + 1) (lv' := [(2, .int (v2_26 + 1)), (3, .int (v3_26 - 1)), (4, .int (b_a_all_m5 (Int32.toNatClampNeg v2_26))), (0, .ref h0), (1, .int p1)]) d_Mo_statementEnd_88 2 rfl rfl (by decide) rfl ?_
            refine j_iload_n d_Mo_statementEnd_91 rfl 1 rfl ?_
            refine j_if_gt (tgt := 26) d_Mo_statementEnd_92 (by decide) (fun c13 => ?_) (fun c13 => ?_)
            · replace h := it_t c13 h
              refine j_sub (w := [(h0, .inr (9, moF am known_h0 thrown_h0 wrong_h0 lastEnd_h0 at_h0 bad_h0 levels_h0 least_h0 found_h0)), ((am 5), .inr (8, [.ref a_all_m5, .int size_m5])), (a_all_m5, .inl (cI, n_a_all_m5, .inl b_a_all_m5))]) (lv' := [(3, .int (v3_26 - 1)), (2, .int (v2_26 + 1)), (0, .ref h0), (1, .int p1)]) [0, 1, 2] rfl (by decide) [1, 0, 3, 4] rfl ?_
              exact ih_26 (v3_26 - 1) (v2_26 + 1) h
            · replace h := it_f c13 h
              refine j_iload_n d_Mo_statementEnd_95 rfl 0 rfl ?_
              replace h := Option.some.inj h
              subst h
              exact j_iret (w := [(h0, .inr (9, moF am known_h0 thrown_h0 wrong_h0 lastEnd_h0 at_h0 bad_h0 levels_h0 least_h0 found_h0)), ((am 5), .inr (8, [.ref a_all_m5, .int size_m5])), (a_all_m5, .inl (cI, n_a_all_m5, .inl b_a_all_m5))]) hr d_Mo_statementEnd_96 [0, 1, 2] rfl (by decide) ⟨rfl, rfl⟩
        · replace h := it_f c10 h
          refine j_iload_n d_Mo_statementEnd_67 rfl 1 rfl ?_
          refine j_iconst (v := 1) d_Mo_statementEnd_68 (by decide) ?_
          refine j_iadd d_Mo_statementEnd_69 ?_
          refine j_goto (tgt := 87) d_Mo_statementEnd_70 (by decide) ?_
          refine j_istore_n (lv' := [(3, .int (v3_26 + 1)), (4, .int (b_a_all_m5 (Int32.toNatClampNeg v2_26))), (2, .int v2_26), (0, .ref h0), (1, .int p1)]) d_Mo_statementEnd_87 rfl (by decide) rfl ?_
          refine j_iinc (v := v2_26 + 1) (lv' := [(2, .int (v2_26 + 1)), (3, .int (v3_26 + 1)), (4, .int (b_a_all_m5 (Int32.toNatClampNeg v2_26))), (0, .ref h0), (1, .int p1)]) d_Mo_statementEnd_88 2 rfl rfl (by decide) rfl ?_
          refine j_iload_n d_Mo_statementEnd_91 rfl 1 rfl ?_
          refine j_if_gt (tgt := 26) d_Mo_statementEnd_92 (by decide) (fun c14 => ?_) (fun c14 => ?_)
          · replace h := it_t c14 h
            refine j_sub (w := [(h0, .inr (9, moF am known_h0 thrown_h0 wrong_h0 lastEnd_h0 at_h0 bad_h0 levels_h0 least_h0 found_h0)), ((am 5), .inr (8, [.ref a_all_m5, .int size_m5])), (a_all_m5, .inl (cI, n_a_all_m5, .inl b_a_all_m5))]) (lv' := [(3, .int (v3_26 + 1)), (2, .int (v2_26 + 1)), (0, .ref h0), (1, .int p1)]) [0, 1, 2] rfl (by decide) [1, 0, 3, 4] rfl ?_
            exact ih_26 (v3_26 + 1) (v2_26 + 1) h
          · replace h := it_f c14 h
            refine j_iload_n d_Mo_statementEnd_95 rfl 0 rfl ?_
            replace h := Option.some.inj h
            subst h
            exact j_iret (w := [(h0, .inr (9, moF am known_h0 thrown_h0 wrong_h0 lastEnd_h0 at_h0 bad_h0 levels_h0 least_h0 found_h0)), ((am 5), .inr (8, [.ref a_all_m5, .int size_m5])), (a_all_m5, .inl (cI, n_a_all_m5, .inl b_a_all_m5))]) hr d_Mo_statementEnd_96 [0, 1, 2] rfl (by decide) ⟨rfl, rfl⟩
      · replace h := it_t c6 h
        refine j_sub (w := [(h0, .inr (9, moF am known_h0 thrown_h0 wrong_h0 lastEnd_h0 at_h0 bad_h0 levels_h0 least_h0 found_h0)), ((am 5), .inr (8, [.ref a_all_m5, .int size_m5])), (a_all_m5, .inl (cI, n_a_all_m5, .inl b_a_all_m5))]) (lv' := [(4, .int (b_a_all_m5 (Int32.toNatClampNeg v2_26))), (3, .int v3_26), (2, .int v2_26), (0, .ref h0), (1, .int p1)]) [0, 1, 2] rfl (by decide) [0, 1, 2, 3, 4] rfl ?_
        exact L_50  h
set_option maxHeartbeats 4000000 in
set_option maxRecDepth 100000 in
theorem c_Mo_statementEnd (l : Launch) (D : va_G) (cI cB cJ cS : ClassId) (h0 : Nat) (am : Nat → Nat) (a_all_m5 : Nat) (p1 : Int32) (known_h0 : Int32) (thrown_h0 : Int32) (wrong_h0 : Int32) (lastEnd_h0 : Int32) (at_h0 : Int32) (bad_h0 : Int32) (levels_h0 : Int32) (least_h0 : Int32) (found_h0 : Int32) (size_m5 : Int32) (n_a_all_m5 : Nat) (b_a_all_m5 : Nat → Int32) (ret : Int32) (h : F_Mo_statementEnd p1 known_h0 thrown_h0 wrong_h0 lastEnd_h0 at_h0 bad_h0 levels_h0 least_h0 found_h0 size_m5 n_a_all_m5 b_a_all_m5 = some ret) : Ct l D (gT cI cB cJ cS) y_Mo_statementEnd prog_12_method_58_code 5 (Option.some Jvm.ClassFile.FieldType.int) 3 67 0 0 [.ref h0, .int p1] [(h0, .inr (9, moF am known_h0 thrown_h0 wrong_h0 lastEnd_h0 at_h0 bad_h0 levels_h0 least_h0 found_h0)), ((am 5), .inr (8, [.ref a_all_m5, .int size_m5])), (a_all_m5, .inl (cI, n_a_all_m5, .inl b_a_all_m5))] (fun v w => v = some (.int ret) ∧ w = [(h0, .inr (9, moF am known_h0 thrown_h0 wrong_h0 lastEnd_h0 at_h0 bad_h0 levels_h0 least_h0 found_h0)), ((am 5), .inr (8, [.ref a_all_m5, .int size_m5])), (a_all_m5, .inl (cI, n_a_all_m5, .inl b_a_all_m5))]) := by
  refine Ct.mk (by decide) (Nat.le_of_ble_eq_true rfl) ?_
  intro p e s m below meth c hr hnm
  refine j_norm (pc' := 0) (lv' := [(0, .ref h0), (1, .int p1)]) (st' := []) (ws' := [(h0, .inr (9, moF am known_h0 thrown_h0 wrong_h0 lastEnd_h0 at_h0 bad_h0 levels_h0 least_h0 found_h0)), ((am 5), .inr (8, [.ref a_all_m5, .int size_m5])), (a_all_m5, .inl (cI, n_a_all_m5, .inl b_a_all_m5))]) (cl' := 0) (sl' := 0) rfl rfl rfl rfl rfl rfl ?_
  unfold F_Mo_statementEnd at h
  refine j_iload_n d_Mo_statementEnd_0 rfl 1 rfl ?_
  refine j_istore_n (lv' := [(2, .int p1), (0, .ref h0), (1, .int p1)]) d_Mo_statementEnd_1 rfl (by decide) rfl ?_
  refine j_aload_n d_Mo_statementEnd_2 rfl 1 rfl ?_
  refine j_get ig_Mo rfl 0 rfl 5 (by decide) rfl m_1118 rfl d_Mo_statementEnd_3 ?_
  refine j_iload_n d_Mo_statementEnd_6 rfl 2 rfl ?_
  replace h := bd_s h
  obtain ⟨_, k15, h⟩ := h
  refine j_callV (n := 1) (As := [.int p1]) (rest := []) (wr := [(h0, .inr (9, moF am known_h0 thrown_h0 wrong_h0 lastEnd_h0 at_h0 bad_h0 levels_h0 least_h0 found_h0))]) (c_Nm_at l D cI cB cJ cS (am 5) a_all_m5 p1 size_m5 n_a_all_m5 b_a_all_m5  k15) k_Mo_214 (by decide) ⟨Nat.le_of_ble_eq_true rfl, Nat.le_of_ble_eq_true rfl⟩ rfl 0 rfl [1, 2] [0] rfl (by decide) rfl (by decide) (by decide) rfl rfl (Nat.le_of_ble_eq_true rfl) d_Mo_statementEnd_7 ⟨Nat.le_of_ble_eq_true rfl, Nat.le_of_ble_eq_true rfl⟩ (fun v w hq => ?_)
  obtain ⟨rfl, rfl⟩ := hq
  refine j_norm (pc' := 10) (st' := [.int (b_a_all_m5 (Int32.toNatClampNeg p1))]) (ws' := [(h0, .inr (9, moF am known_h0 thrown_h0 wrong_h0 lastEnd_h0 at_h0 bad_h0 levels_h0 least_h0 found_h0)), ((am 5), .inr (8, [.ref a_all_m5, .int size_m5])), (a_all_m5, .inl (cI, n_a_all_m5, .inl b_a_all_m5))]) (cl' := 0) (sl' := 0) rfl rfl rfl rfl rfl rfl ?_
  obtain ⟨r16, k18⟩ : ∃ z, (F_Mo_opensBlock (b_a_all_m5 (Int32.toNatClampNeg p1))) = z := ⟨_, rfl⟩
  replace h := nm_at k18 h
  refine j_callS (n := 1) (As := [.int (b_a_all_m5 (Int32.toNatClampNeg p1))]) (rest := []) (wr := [(h0, .inr (9, moF am known_h0 thrown_h0 wrong_h0 lastEnd_h0 at_h0 bad_h0 levels_h0 least_h0 found_h0)), ((am 5), .inr (8, [.ref a_all_m5, .int size_m5])), (a_all_m5, .inl (cI, n_a_all_m5, .inl b_a_all_m5))]) (c_Mo_opensBlock l D cI cB cJ cS (b_a_all_m5 (Int32.toNatClampNeg p1))  r16 k18) k_Mo_420 (by decide) ⟨Nat.le_of_ble_eq_true rfl, Nat.le_of_ble_eq_true rfl⟩ [] [0, 1, 2] rfl (by decide) rfl (by decide) (by decide) rfl rfl (Nat.le_of_ble_eq_true rfl) d_Mo_statementEnd_10 ⟨Nat.le_of_ble_eq_true rfl, Nat.le_of_ble_eq_true rfl⟩ (fun v w hq => ?_)
  obtain ⟨rfl, z17, rfl⟩ := hq
  refine j_norm (pc' := 13) (st' := [.int r16]) (ws' := [(h0, .inr (9, moF am known_h0 thrown_h0 wrong_h0 lastEnd_h0 at_h0 bad_h0 levels_h0 least_h0 found_h0)), ((am 5), .inr (8, [.ref a_all_m5, .int size_m5])), (a_all_m5, .inl (cI, n_a_all_m5, .inl b_a_all_m5))]) (cl' := 0) (sl' := 0) rfl rfl rfl rfl rfl rfl ?_
  refine j_if_ne (tgt := 24) d_Mo_statementEnd_13 (by decide) (fun c19 => ?_) (fun c19 => ?_)
  · replace h := it_f c19 h
    refine j_iconst (v := 0) d_Mo_statementEnd_24 (by decide) ?_
    refine j_istore_n (lv' := [(3, .int 0), (2, .int p1), (0, .ref h0), (1, .int p1)]) d_Mo_statementEnd_25 rfl (by decide) rfl ?_
    refine j_sub (w := [(h0, .inr (9, moF am known_h0 thrown_h0 wrong_h0 lastEnd_h0 at_h0 bad_h0 levels_h0 least_h0 found_h0)), ((am 5), .inr (8, [.ref a_all_m5, .int size_m5])), (a_all_m5, .inl (cI, n_a_all_m5, .inl b_a_all_m5))]) (lv' := [(3, .int 0), (2, .int p1), (0, .ref h0), (1, .int p1)]) [0, 1, 2] rfl (by decide) [0, 1, 2, 3] rfl ?_
    exact L_Mo_statementEnd_26 l D cI cB cJ cS h0 am a_all_m5 p1 known_h0 thrown_h0 wrong_h0 lastEnd_h0 at_h0 bad_h0 levels_h0 least_h0 found_h0 size_m5 n_a_all_m5 b_a_all_m5 ret p e s m below meth c hr hnm FU 0 p1 h
  · replace h := it_t c19 h
    refine j_aload_n d_Mo_statementEnd_16 rfl 1 rfl ?_
    refine j_iload_n d_Mo_statementEnd_17 rfl 2 rfl ?_
    replace h := bd_s h
    obtain ⟨r20, k21, h⟩ := h
    refine j_callV (n := 1) (As := [.int p1]) (rest := []) (wr := []) (c_Mo_stopOf l D cI cB cJ cS h0 am a_all_m5 p1 known_h0 thrown_h0 wrong_h0 lastEnd_h0 at_h0 bad_h0 levels_h0 least_h0 found_h0 size_m5 n_a_all_m5 b_a_all_m5  r20 k21) k_Mo_423 (by decide) ⟨Nat.le_of_ble_eq_true rfl, Nat.le_of_ble_eq_true rfl⟩ rfl 0 rfl [0, 1, 2] [] rfl (by decide) rfl (by decide) (by decide) rfl rfl (Nat.le_of_ble_eq_true rfl) d_Mo_statementEnd_18 ⟨Nat.le_of_ble_eq_true rfl, Nat.le_of_ble_eq_true rfl⟩ (fun v w hq => ?_)
    obtain ⟨rfl, rfl⟩ := hq
    refine j_norm (pc' := 21) (st' := [.int r20]) (ws' := [(h0, .inr (9, moF am known_h0 thrown_h0 wrong_h0 lastEnd_h0 at_h0 bad_h0 levels_h0 least_h0 found_h0)), ((am 5), .inr (8, [.ref a_all_m5, .int size_m5])), (a_all_m5, .inl (cI, n_a_all_m5, .inl b_a_all_m5))]) (cl' := 0) (sl' := 0) rfl rfl rfl rfl rfl rfl ?_
    refine j_iconst (v := 1) d_Mo_statementEnd_21 (by decide) ?_
    refine j_iadd d_Mo_statementEnd_22 ?_
    replace h := Option.some.inj h
    subst h
    exact j_iret (w := [(h0, .inr (9, moF am known_h0 thrown_h0 wrong_h0 lastEnd_h0 at_h0 bad_h0 levels_h0 least_h0 found_h0)), ((am 5), .inr (8, [.ref a_all_m5, .int size_m5])), (a_all_m5, .inl (cI, n_a_all_m5, .inl b_a_all_m5))]) hr d_Mo_statementEnd_23 [0, 1, 2] rfl (by decide) ⟨rfl, rfl⟩
noncomputable def F_Mo_buildStatement (p1 : Int32) (p2 : Int32) (p3 : Int32) (known_h0 : Int32) (thrown_h0 : Int32) (wrong_h0 : Int32) (lastEnd_h0 : Int32) (at_h0 : Int32) (bad_h0 : Int32) (levels_h0 : Int32) (least_h0 : Int32) (found_h0 : Int32) (size_m5 : Int32) (n_a_all_m5 : Nat) (b_a_all_m5 : Nat → Int32) (size_m6 : Int32) (n_a_all_m6 : Nat) (b_a_all_m6 : Nat → Int32) (size_m24 : Int32) (n_a_all_m24 : Nat) (b_a_all_m24 : Nat → Int32) (size_m25 : Int32) (n_a_all_m25 : Nat) (b_a_all_m25 : Nat → Int32) (size_m26 : Int32) (n_a_all_m26 : Nat) (b_a_all_m26 : Nat → Int32) (size_m27 : Int32) (n_a_all_m27 : Nat) (b_a_all_m27 : Nat → Int32) (size_m28 : Int32) (n_a_all_m28 : Nat) (b_a_all_m28 : Nat → Int32) (size_m29 : Int32) (n_a_all_m29 : Nat) (b_a_all_m29 : Nat → Int32) (size_m30 : Int32) (n_a_all_m30 : Nat) (b_a_all_m30 : Nat → Int32) (size_m31 : Int32) (n_a_all_m31 : Nat) (b_a_all_m31 : Nat → Int32) (size_m33 : Int32) (n_a_all_m33 : Nat) (b_a_all_m33 : Nat → Int32) (size_m34 : Int32) (n_a_all_m34 : Nat) (b_a_all_m34 : Nat → Int32) : Option ((Int32 × Int32 × Int32 × Int32 × Int32 × Int32 × Int32 × Int32 × Int32 × (Nat → Int32) × Nat × (Nat → Int32) × Nat × (Nat → Int32) × Nat × (Nat → Int32) × Nat × (Nat → Int32) × Nat × (Nat → Int32) × Nat × (Nat → Int32) × Nat × (Nat → Int32) × Nat × (Nat → Int32) × Nat × (Nat → Int32)) × Nat × Nat) :=
  Option.bind (F_Nm_at p2 size_m5 n_a_all_m5 b_a_all_m5) fun _ =>
  if (b_a_all_m5 (Int32.toNatClampNeg p2)) = 10 then (bw (F_Mo_leafNode p1 11 p2 known_h0 thrown_h0 wrong_h0 lastEnd_h0 at_h0 bad_h0 levels_h0 least_h0 found_h0 size_m6 n_a_all_m6 b_a_all_m6 size_m24 n_a_all_m24 b_a_all_m24 size_m25 n_a_all_m25 b_a_all_m25 size_m26 n_a_all_m26 b_a_all_m26 size_m27 n_a_all_m27 b_a_all_m27 size_m28 n_a_all_m28 b_a_all_m28 size_m29 n_a_all_m29 b_a_all_m29 size_m30 n_a_all_m30 b_a_all_m30 size_m31 n_a_all_m31 b_a_all_m31) fun ⟨r3, r4, r5, r6, r7, r8, r9, r10, r11, r12, r13, r14, r15, r16, r17, r18, r19, r20, r21⟩ =>
    bw (F_Mo_buildIf size_m24 p2 known_h0 thrown_h0 wrong_h0 lastEnd_h0 at_h0 bad_h0 levels_h0 least_h0 found_h0 size_m5 n_a_all_m5 b_a_all_m5 size_m33 n_a_all_m33 b_a_all_m33) fun ⟨r35, r36, r37⟩ =>
    (some ((size_m24 + 1, size_m25 + 1, size_m26 + 1, size_m27 + 1, r3, r4, r5, size_m31 + 1, r35, b_a_all_m34, r6, r7, r8, r9, r10, r11, r12, r13, r14, r15, r16, r17, r18, r19, r20, r21, r36, r37), 0, 0)))
  else if (b_a_all_m5 (Int32.toNatClampNeg p2)) = 11 then (bw (F_Mo_buildSimple p1 p2 (p3 - 1) known_h0 thrown_h0 wrong_h0 lastEnd_h0 at_h0 bad_h0 levels_h0 least_h0 found_h0 size_m5 n_a_all_m5 b_a_all_m5 size_m6 n_a_all_m6 b_a_all_m6 size_m24 n_a_all_m24 b_a_all_m24 size_m25 n_a_all_m25 b_a_all_m25 size_m26 n_a_all_m26 b_a_all_m26 size_m27 n_a_all_m27 b_a_all_m27 size_m28 n_a_all_m28 b_a_all_m28 size_m29 n_a_all_m29 b_a_all_m29 size_m30 n_a_all_m30 b_a_all_m30 size_m31 n_a_all_m31 b_a_all_m31 size_m33 n_a_all_m33 b_a_all_m33) fun ⟨r45, r46, r47, r48, r49, r50, r51, r52, r53, r54, r55, r56, r57, r58, r59, r60, r61, r62, r63, r64, r65, r66, r67, r68, r69, r70, r71⟩ =>
    (some ((r45, r46, r47, r48, r49, r50, r51, r52, r53, b_a_all_m34, r54, r55, r56, r57, r58, r59, r60, r61, r62, r63, r64, r65, r66, r67, r68, r69, r70, r71), 0, 0)))
  else if (b_a_all_m5 (Int32.toNatClampNeg p2)) = 12 then (bw (F_Mo_buildSimple p1 p2 (p3 - 1) known_h0 thrown_h0 wrong_h0 lastEnd_h0 at_h0 bad_h0 levels_h0 least_h0 found_h0 size_m5 n_a_all_m5 b_a_all_m5 size_m6 n_a_all_m6 b_a_all_m6 size_m24 n_a_all_m24 b_a_all_m24 size_m25 n_a_all_m25 b_a_all_m25 size_m26 n_a_all_m26 b_a_all_m26 size_m27 n_a_all_m27 b_a_all_m27 size_m28 n_a_all_m28 b_a_all_m28 size_m29 n_a_all_m29 b_a_all_m29 size_m30 n_a_all_m30 b_a_all_m30 size_m31 n_a_all_m31 b_a_all_m31 size_m33 n_a_all_m33 b_a_all_m33) fun ⟨r87, r88, r89, r90, r91, r92, r93, r94, r95, r96, r97, r98, r99, r100, r101, r102, r103, r104, r105, r106, r107, r108, r109, r110, r111, r112, r113⟩ =>
    (some ((r87, r88, r89, r90, r91, r92, r93, r94, r95, b_a_all_m34, r96, r97, r98, r99, r100, r101, r102, r103, r104, r105, r106, r107, r108, r109, r110, r111, r112, r113), 0, 0)))
  else if (b_a_all_m5 (Int32.toNatClampNeg p2)) = 13 then (bw (F_Mo_buildSimple p1 p2 (p3 - 1) known_h0 thrown_h0 wrong_h0 lastEnd_h0 at_h0 bad_h0 levels_h0 least_h0 found_h0 size_m5 n_a_all_m5 b_a_all_m5 size_m6 n_a_all_m6 b_a_all_m6 size_m24 n_a_all_m24 b_a_all_m24 size_m25 n_a_all_m25 b_a_all_m25 size_m26 n_a_all_m26 b_a_all_m26 size_m27 n_a_all_m27 b_a_all_m27 size_m28 n_a_all_m28 b_a_all_m28 size_m29 n_a_all_m29 b_a_all_m29 size_m30 n_a_all_m30 b_a_all_m30 size_m31 n_a_all_m31 b_a_all_m31 size_m33 n_a_all_m33 b_a_all_m33) fun ⟨r129, r130, r131, r132, r133, r134, r135, r136, r137, r138, r139, r140, r141, r142, r143, r144, r145, r146, r147, r148, r149, r150, r151, r152, r153, r154, r155⟩ =>
    (some ((r129, r130, r131, r132, r133, r134, r135, r136, r137, b_a_all_m34, r138, r139, r140, r141, r142, r143, r144, r145, r146, r147, r148, r149, r150, r151, r152, r153, r154, r155), 0, 0)))
  else if (b_a_all_m5 (Int32.toNatClampNeg p2)) = 14 then (bw (F_Mo_leafNode p1 12 p2 known_h0 thrown_h0 wrong_h0 lastEnd_h0 at_h0 bad_h0 levels_h0 least_h0 found_h0 size_m6 n_a_all_m6 b_a_all_m6 size_m24 n_a_all_m24 b_a_all_m24 size_m25 n_a_all_m25 b_a_all_m25 size_m26 n_a_all_m26 b_a_all_m26 size_m27 n_a_all_m27 b_a_all_m27 size_m28 n_a_all_m28 b_a_all_m28 size_m29 n_a_all_m29 b_a_all_m29 size_m30 n_a_all_m30 b_a_all_m30 size_m31 n_a_all_m31 b_a_all_m31) fun ⟨r171, r172, r173, r174, r175, r176, r177, r178, r179, r180, r181, r182, r183, r184, r185, r186, r187, r188, r189⟩ =>
    Option.bind (F_Mo_closing (p2 + 1) known_h0 thrown_h0 wrong_h0 lastEnd_h0 at_h0 bad_h0 levels_h0 least_h0 found_h0 size_m5 n_a_all_m5 b_a_all_m5) fun r203 =>
    bw (F_Mo_task 1 size_m24 (p2 + 2) r203 1 known_h0 thrown_h0 wrong_h0 lastEnd_h0 at_h0 bad_h0 levels_h0 least_h0 found_h0 size_m33 n_a_all_m33 b_a_all_m33) fun ⟨r205, r206⟩ =>
    bw (F_Mo_task 2 size_m24 (r203 + 1) (p3 - 1) r203 known_h0 thrown_h0 wrong_h0 lastEnd_h0 at_h0 bad_h0 levels_h0 least_h0 found_h0 (((((size_m33 + 1) + 1) + 1) + 1) + 1) r205 r206) fun ⟨r213, r214⟩ =>
    (some ((size_m24 + 1, size_m25 + 1, size_m26 + 1, size_m27 + 1, r171, r172, r173, size_m31 + 1, (((((((((size_m33 + 1) + 1) + 1) + 1) + 1) + 1) + 1) + 1) + 1) + 1, b_a_all_m34, r174, r175, r176, r177, r178, r179, r180, r181, r182, r183, r184, r185, r186, r187, r188, r189, r213, r214), 0, 0)))
  else if (b_a_all_m5 (Int32.toNatClampNeg p2)) = 15 then (bw (F_Mo_leafNode p1 13 p2 known_h0 thrown_h0 wrong_h0 lastEnd_h0 at_h0 bad_h0 levels_h0 least_h0 found_h0 size_m6 n_a_all_m6 b_a_all_m6 size_m24 n_a_all_m24 b_a_all_m24 size_m25 n_a_all_m25 b_a_all_m25 size_m26 n_a_all_m26 b_a_all_m26 size_m27 n_a_all_m27 b_a_all_m27 size_m28 n_a_all_m28 b_a_all_m28 size_m29 n_a_all_m29 b_a_all_m29 size_m30 n_a_all_m30 b_a_all_m30 size_m31 n_a_all_m31 b_a_all_m31) fun ⟨r222, r223, r224, r225, r226, r227, r228, r229, r230, r231, r232, r233, r234, r235, r236, r237, r238, r239, r240⟩ =>
    Option.bind (F_Mo_closing (p2 + 1) known_h0 thrown_h0 wrong_h0 lastEnd_h0 at_h0 bad_h0 levels_h0 least_h0 found_h0 size_m5 n_a_all_m5 b_a_all_m5) fun r254 =>
    bw (F_Mo_leafNode size_m24 32 (p2 + 2) known_h0 thrown_h0 wrong_h0 lastEnd_h0 at_h0 bad_h0 levels_h0 least_h0 found_h0 size_m6 n_a_all_m6 b_a_all_m6 (size_m24 + 1) r225 r226 (size_m25 + 1) r227 r228 (size_m26 + 1) r229 r230 (size_m27 + 1) r231 r232 r222 r233 r234 r223 r235 r236 r224 r237 r238 (size_m31 + 1) r239 r240) fun ⟨r256, r257, r258, r259, r260, r261, r262, r263, r264, r265, r266, r267, r268, r269, r270, r271, r272, r273, r274⟩ =>
    bw (F_Mo_task 1 size_m24 (p2 + 4) r254 1 known_h0 thrown_h0 wrong_h0 lastEnd_h0 at_h0 bad_h0 levels_h0 least_h0 found_h0 size_m33 n_a_all_m33 b_a_all_m33) fun ⟨r288, r289⟩ =>
    bw (F_Mo_task 2 size_m24 (r254 + 1) (p3 - 1) r254 known_h0 thrown_h0 wrong_h0 lastEnd_h0 at_h0 bad_h0 levels_h0 least_h0 found_h0 (((((size_m33 + 1) + 1) + 1) + 1) + 1) r288 r289) fun ⟨r296, r297⟩ =>
    (some (((size_m24 + 1) + 1, (size_m25 + 1) + 1, (size_m26 + 1) + 1, (size_m27 + 1) + 1, r256, r257, r258, (size_m31 + 1) + 1, (((((((((size_m33 + 1) + 1) + 1) + 1) + 1) + 1) + 1) + 1) + 1) + 1, b_a_all_m34, r259, r260, r261, r262, r263, r264, r265, r266, r267, r268, r269, r270, r271, r272, r273, r274, r296, r297), 0, 0)))
  else if (b_a_all_m5 (Int32.toNatClampNeg p2)) = 16 then (bw (F_Mo_leafNode p1 (((b_a_all_m5 (Int32.toNatClampNeg p2)) - 16) + 15) p2 known_h0 thrown_h0 wrong_h0 lastEnd_h0 at_h0 bad_h0 levels_h0 least_h0 found_h0 size_m6 n_a_all_m6 b_a_all_m6 size_m24 n_a_all_m24 b_a_all_m24 size_m25 n_a_all_m25 b_a_all_m25 size_m26 n_a_all_m26 b_a_all_m26 size_m27 n_a_all_m27 b_a_all_m27 size_m28 n_a_all_m28 b_a_all_m28 size_m29 n_a_all_m29 b_a_all_m29 size_m30 n_a_all_m30 b_a_all_m30 size_m31 n_a_all_m31 b_a_all_m31) fun ⟨r305, r306, r307, r308, r309, r310, r311, r312, r313, r314, r315, r316, r317, r318, r319, r320, r321, r322, r323⟩ =>
    (some ((size_m24 + 1, size_m25 + 1, size_m26 + 1, size_m27 + 1, r305, r306, r307, size_m31 + 1, size_m33, b_a_all_m34, r308, r309, r310, r311, r312, r313, r314, r315, r316, r317, r318, r319, r320, r321, r322, r323, n_a_all_m33, b_a_all_m33), 0, 0)))
  else if (b_a_all_m5 (Int32.toNatClampNeg p2)) = 17 then (bw (F_Mo_leafNode p1 (((b_a_all_m5 (Int32.toNatClampNeg p2)) - 16) + 15) p2 known_h0 thrown_h0 wrong_h0 lastEnd_h0 at_h0 bad_h0 levels_h0 least_h0 found_h0 size_m6 n_a_all_m6 b_a_all_m6 size_m24 n_a_all_m24 b_a_all_m24 size_m25 n_a_all_m25 b_a_all_m25 size_m26 n_a_all_m26 b_a_all_m26 size_m27 n_a_all_m27 b_a_all_m27 size_m28 n_a_all_m28 b_a_all_m28 size_m29 n_a_all_m29 b_a_all_m29 size_m30 n_a_all_m30 b_a_all_m30 size_m31 n_a_all_m31 b_a_all_m31) fun ⟨r338, r339, r340, r341, r342, r343, r344, r345, r346, r347, r348, r349, r350, r351, r352, r353, r354, r355, r356⟩ =>
    (some ((size_m24 + 1, size_m25 + 1, size_m26 + 1, size_m27 + 1, r338, r339, r340, size_m31 + 1, size_m33, b_a_all_m34, r341, r342, r343, r344, r345, r346, r347, r348, r349, r350, r351, r352, r353, r354, r355, r356, n_a_all_m33, b_a_all_m33), 0, 0)))
  else if (b_a_all_m5 (Int32.toNatClampNeg p2)) = 18 then (bw (F_Mo_leafNode p1 (((b_a_all_m5 (Int32.toNatClampNeg p2)) - 16) + 15) p2 known_h0 thrown_h0 wrong_h0 lastEnd_h0 at_h0 bad_h0 levels_h0 least_h0 found_h0 size_m6 n_a_all_m6 b_a_all_m6 size_m24 n_a_all_m24 b_a_all_m24 size_m25 n_a_all_m25 b_a_all_m25 size_m26 n_a_all_m26 b_a_all_m26 size_m27 n_a_all_m27 b_a_all_m27 size_m28 n_a_all_m28 b_a_all_m28 size_m29 n_a_all_m29 b_a_all_m29 size_m30 n_a_all_m30 b_a_all_m30 size_m31 n_a_all_m31 b_a_all_m31) fun ⟨r371, r372, r373, r374, r375, r376, r377, r378, r379, r380, r381, r382, r383, r384, r385, r386, r387, r388, r389⟩ =>
    (some ((size_m24 + 1, size_m25 + 1, size_m26 + 1, size_m27 + 1, r371, r372, r373, size_m31 + 1, size_m33, b_a_all_m34, r374, r375, r376, r377, r378, r379, r380, r381, r382, r383, r384, r385, r386, r387, r388, r389, n_a_all_m33, b_a_all_m33), 0, 0)))
  else if (b_a_all_m5 (Int32.toNatClampNeg p2)) = 19 then (bw (F_Mo_buildFunction p1 p2 p3 known_h0 thrown_h0 wrong_h0 lastEnd_h0 at_h0 bad_h0 levels_h0 least_h0 found_h0 size_m5 n_a_all_m5 b_a_all_m5 size_m6 n_a_all_m6 b_a_all_m6 size_m24 n_a_all_m24 b_a_all_m24 size_m25 n_a_all_m25 b_a_all_m25 size_m26 n_a_all_m26 b_a_all_m26 size_m27 n_a_all_m27 b_a_all_m27 size_m28 n_a_all_m28 b_a_all_m28 size_m29 n_a_all_m29 b_a_all_m29 size_m30 n_a_all_m30 b_a_all_m30 size_m31 n_a_all_m31 b_a_all_m31 size_m34 n_a_all_m34 b_a_all_m34 size_m33 n_a_all_m33 b_a_all_m33) fun ⟨r404, r405, r406, r407, r408, r409, r410, r411, r412, r413, r414, r415, r416, r417, r418, r419, r420, r421, r422, r423, r424, r425, r426, r427, r428, r429, r430⟩ =>
    (some ((r404, r405, r406, r407, r408, r409, r410, r411, ((((size_m33 + 1) + 1) + 1) + 1) + 1, r412, r413, r414, r415, r416, r417, r418, r419, r420, r421, r422, r423, r424, r425, r426, r427, r428, r429, r430), 0, 0)))
  else if (b_a_all_m5 (Int32.toNatClampNeg p2)) = 20 then (bw (F_Mo_leafNode p1 (((b_a_all_m5 (Int32.toNatClampNeg p2)) - 20) + 18) p2 known_h0 thrown_h0 wrong_h0 lastEnd_h0 at_h0 bad_h0 levels_h0 least_h0 found_h0 size_m6 n_a_all_m6 b_a_all_m6 size_m24 n_a_all_m24 b_a_all_m24 size_m25 n_a_all_m25 b_a_all_m25 size_m26 n_a_all_m26 b_a_all_m26 size_m27 n_a_all_m27 b_a_all_m27 size_m28 n_a_all_m28 b_a_all_m28 size_m29 n_a_all_m29 b_a_all_m29 size_m30 n_a_all_m30 b_a_all_m30 size_m31 n_a_all_m31 b_a_all_m31) fun ⟨r446, r447, r448, r449, r450, r451, r452, r453, r454, r455, r456, r457, r458, r459, r460, r461, r462, r463, r464⟩ =>
    bw (F_Mo_expressions size_m24 (p2 + 1) (p3 - 1) known_h0 thrown_h0 wrong_h0 lastEnd_h0 at_h0 bad_h0 levels_h0 least_h0 found_h0 size_m33 n_a_all_m33 b_a_all_m33 size_m5 n_a_all_m5 b_a_all_m5) fun ⟨r478, r479, r480⟩ =>
    (some ((size_m24 + 1, size_m25 + 1, size_m26 + 1, size_m27 + 1, r446, r447, r448, size_m31 + 1, r478, b_a_all_m34, r449, r450, r451, r452, r453, r454, r455, r456, r457, r458, r459, r460, r461, r462, r463, r464, r479, r480), 0, 0)))
  else if (b_a_all_m5 (Int32.toNatClampNeg p2)) = 21 then (bw (F_Mo_leafNode p1 (((b_a_all_m5 (Int32.toNatClampNeg p2)) - 20) + 18) p2 known_h0 thrown_h0 wrong_h0 lastEnd_h0 at_h0 bad_h0 levels_h0 least_h0 found_h0 size_m6 n_a_all_m6 b_a_all_m6 size_m24 n_a_all_m24 b_a_all_m24 size_m25 n_a_all_m25 b_a_all_m25 size_m26 n_a_all_m26 b_a_all_m26 size_m27 n_a_all_m27 b_a_all_m27 size_m28 n_a_all_m28 b_a_all_m28 size_m29 n_a_all_m29 b_a_all_m29 size_m30 n_a_all_m30 b_a_all_m30 size_m31 n_a_all_m31 b_a_all_m31) fun ⟨r488, r489, r490, r491, r492, r493, r494, r495, r496, r497, r498, r499, r500, r501, r502, r503, r504, r505, r506⟩ =>
    bw (F_Mo_expressions size_m24 (p2 + 1) (p3 - 1) known_h0 thrown_h0 wrong_h0 lastEnd_h0 at_h0 bad_h0 levels_h0 least_h0 found_h0 size_m33 n_a_all_m33 b_a_all_m33 size_m5 n_a_all_m5 b_a_all_m5) fun ⟨r520, r521, r522⟩ =>
    (some ((size_m24 + 1, size_m25 + 1, size_m26 + 1, size_m27 + 1, r488, r489, r490, size_m31 + 1, r520, b_a_all_m34, r491, r492, r493, r494, r495, r496, r497, r498, r499, r500, r501, r502, r503, r504, r505, r506, r521, r522), 0, 0)))
  else if (b_a_all_m5 (Int32.toNatClampNeg p2)) = 22 then (bw (F_Mo_leafNode p1 14 p2 known_h0 thrown_h0 wrong_h0 lastEnd_h0 at_h0 bad_h0 levels_h0 least_h0 found_h0 size_m6 n_a_all_m6 b_a_all_m6 size_m24 n_a_all_m24 b_a_all_m24 size_m25 n_a_all_m25 b_a_all_m25 size_m26 n_a_all_m26 b_a_all_m26 size_m27 n_a_all_m27 b_a_all_m27 size_m28 n_a_all_m28 b_a_all_m28 size_m29 n_a_all_m29 b_a_all_m29 size_m30 n_a_all_m30 b_a_all_m30 size_m31 n_a_all_m31 b_a_all_m31) fun ⟨r530, r531, r532, r533, r534, r535, r536, r537, r538, r539, r540, r541, r542, r543, r544, r545, r546, r547, r548⟩ =>
    Option.bind (F_Mo_branchEnd (p2 + 1) known_h0 thrown_h0 wrong_h0 lastEnd_h0 at_h0 bad_h0 levels_h0 least_h0 found_h0 size_m5 n_a_all_m5 b_a_all_m5) fun r562 =>
    bw (F_Mo_task 2 size_m24 (p2 + 1) r562 p2 known_h0 thrown_h0 wrong_h0 lastEnd_h0 at_h0 bad_h0 levels_h0 least_h0 found_h0 size_m33 n_a_all_m33 b_a_all_m33) fun ⟨r564, r565⟩ =>
    bw (F_Mo_task 2 size_m24 (r562 + 1) (p3 - 1) r562 known_h0 thrown_h0 wrong_h0 lastEnd_h0 at_h0 bad_h0 levels_h0 least_h0 found_h0 (((((size_m33 + 1) + 1) + 1) + 1) + 1) r564 r565) fun ⟨r572, r573⟩ =>
    (some ((size_m24 + 1, size_m25 + 1, size_m26 + 1, size_m27 + 1, r530, r531, r532, size_m31 + 1, (((((((((size_m33 + 1) + 1) + 1) + 1) + 1) + 1) + 1) + 1) + 1) + 1, b_a_all_m34, r533, r534, r535, r536, r537, r538, r539, r540, r541, r542, r543, r544, r545, r546, r547, r548, r572, r573), 0, 0)))
  else (bw (F_Mo_buildSimple p1 p2 (p3 - 1) known_h0 thrown_h0 wrong_h0 lastEnd_h0 at_h0 bad_h0 levels_h0 least_h0 found_h0 size_m5 n_a_all_m5 b_a_all_m5 size_m6 n_a_all_m6 b_a_all_m6 size_m24 n_a_all_m24 b_a_all_m24 size_m25 n_a_all_m25 b_a_all_m25 size_m26 n_a_all_m26 b_a_all_m26 size_m27 n_a_all_m27 b_a_all_m27 size_m28 n_a_all_m28 b_a_all_m28 size_m29 n_a_all_m29 b_a_all_m29 size_m30 n_a_all_m30 b_a_all_m30 size_m31 n_a_all_m31 b_a_all_m31 size_m33 n_a_all_m33 b_a_all_m33) fun ⟨r580, r581, r582, r583, r584, r585, r586, r587, r588, r589, r590, r591, r592, r593, r594, r595, r596, r597, r598, r599, r600, r601, r602, r603, r604, r605, r606⟩ =>
    (some ((r580, r581, r582, r583, r584, r585, r586, r587, r588, b_a_all_m34, r589, r590, r591, r592, r593, r594, r595, r596, r597, r598, r599, r600, r601, r602, r603, r604, r605, r606), 0, 0)))
theorem d_Mo_buildStatement_0 : decode prog_12_method_64_code 0 = .ok (.aload_n 0, 1) := by decide +kernel
theorem d_Mo_buildStatement_1 : decode prog_12_method_64_code 1 = .ok (.getfield 114, 3) := by decide +kernel
theorem d_Mo_buildStatement_4 : decode prog_12_method_64_code 4 = .ok (.iload_n 2, 1) := by decide +kernel
theorem d_Mo_buildStatement_5 : decode prog_12_method_64_code 5 = .ok (.invokevirtual 214, 3) := by decide +kernel
theorem d_Mo_buildStatement_8 : decode prog_12_method_64_code 8 = .ok (.istore 4, 2) := by decide +kernel
theorem d_Mo_buildStatement_10 : decode prog_12_method_64_code 10 = .ok (.iload 4, 2) := by decide +kernel
theorem d_Mo_buildStatement_12 : decode prog_12_method_64_code 12 = .ok (.tableswitch 292 10 22 #[76, 292, 292, 292, 90, 139, 250, 250, 250, 68, 267, 267, 201], 68) := by decide +kernel
theorem d_Mo_buildStatement_80 : decode prog_12_method_64_code 80 = .ok (.aload_n 0, 1) := by decide +kernel
theorem d_Mo_buildStatement_81 : decode prog_12_method_64_code 81 = .ok (.iload_n 1, 1) := by decide +kernel
theorem d_Mo_buildStatement_82 : decode prog_12_method_64_code 82 = .ok (.iload_n 2, 1) := by decide +kernel
theorem d_Mo_buildStatement_83 : decode prog_12_method_64_code 83 = .ok (.iload_n 3, 1) := by decide +kernel
theorem d_Mo_buildStatement_84 : decode prog_12_method_64_code 84 = .ok (.invokevirtual 430, 3) := by decide +kernel
theorem d_Mo_buildStatement_87 : decode prog_12_method_64_code 87 = .ok (.return_, 1) := by decide +kernel
theorem d_Mo_buildStatement_88 : decode prog_12_method_64_code 88 = .ok (.aload_n 0, 1) := by decide +kernel
theorem d_Mo_buildStatement_89 : decode prog_12_method_64_code 89 = .ok (.aload_n 0, 1) := by decide +kernel
theorem d_Mo_buildStatement_90 : decode prog_12_method_64_code 90 = .ok (.iload_n 1, 1) := by decide +kernel
theorem d_Mo_buildStatement_91 : decode prog_12_method_64_code 91 = .ok (.bipush 11, 2) := by decide +kernel
theorem d_Mo_buildStatement_93 : decode prog_12_method_64_code 93 = .ok (.iload_n 2, 1) := by decide +kernel
theorem d_Mo_buildStatement_94 : decode prog_12_method_64_code 94 = .ok (.invokevirtual 426, 3) := by decide +kernel
theorem d_Mo_buildStatement_97 : decode prog_12_method_64_code 97 = .ok (.iload_n 2, 1) := by decide +kernel
theorem d_Mo_buildStatement_98 : decode prog_12_method_64_code 98 = .ok (.invokevirtual 433, 3) := by decide +kernel
theorem d_Mo_buildStatement_101 : decode prog_12_method_64_code 101 = .ok (.return_, 1) := by decide +kernel
theorem d_Mo_buildStatement_102 : decode prog_12_method_64_code 102 = .ok (.aload_n 0, 1) := by decide +kernel
theorem d_Mo_buildStatement_103 : decode prog_12_method_64_code 103 = .ok (.iload_n 1, 1) := by decide +kernel
theorem d_Mo_buildStatement_104 : decode prog_12_method_64_code 104 = .ok (.bipush 12, 2) := by decide +kernel
theorem d_Mo_buildStatement_106 : decode prog_12_method_64_code 106 = .ok (.iload_n 2, 1) := by decide +kernel
theorem d_Mo_buildStatement_107 : decode prog_12_method_64_code 107 = .ok (.invokevirtual 426, 3) := by decide +kernel
theorem d_Mo_buildStatement_110 : decode prog_12_method_64_code 110 = .ok (.istore 5, 2) := by decide +kernel
theorem d_Mo_buildStatement_112 : decode prog_12_method_64_code 112 = .ok (.aload_n 0, 1) := by decide +kernel
theorem d_Mo_buildStatement_113 : decode prog_12_method_64_code 113 = .ok (.iload_n 2, 1) := by decide +kernel
theorem d_Mo_buildStatement_114 : decode prog_12_method_64_code 114 = .ok (.iconst 1, 1) := by decide +kernel
theorem d_Mo_buildStatement_115 : decode prog_12_method_64_code 115 = .ok (.iadd, 1) := by decide +kernel
theorem d_Mo_buildStatement_116 : decode prog_12_method_64_code 116 = .ok (.invokevirtual 350, 3) := by decide +kernel
theorem d_Mo_buildStatement_119 : decode prog_12_method_64_code 119 = .ok (.istore 6, 2) := by decide +kernel
theorem d_Mo_buildStatement_121 : decode prog_12_method_64_code 121 = .ok (.aload_n 0, 1) := by decide +kernel
theorem d_Mo_buildStatement_122 : decode prog_12_method_64_code 122 = .ok (.iconst 1, 1) := by decide +kernel
theorem d_Mo_buildStatement_123 : decode prog_12_method_64_code 123 = .ok (.iload 5, 2) := by decide +kernel
theorem d_Mo_buildStatement_125 : decode prog_12_method_64_code 125 = .ok (.iload_n 2, 1) := by decide +kernel
theorem d_Mo_buildStatement_126 : decode prog_12_method_64_code 126 = .ok (.iconst 2, 1) := by decide +kernel
theorem d_Mo_buildStatement_127 : decode prog_12_method_64_code 127 = .ok (.iadd, 1) := by decide +kernel
theorem d_Mo_buildStatement_128 : decode prog_12_method_64_code 128 = .ok (.iload 6, 2) := by decide +kernel
theorem d_Mo_buildStatement_130 : decode prog_12_method_64_code 130 = .ok (.iconst 1, 1) := by decide +kernel
theorem d_Mo_buildStatement_131 : decode prog_12_method_64_code 131 = .ok (.invokevirtual 390, 3) := by decide +kernel
theorem d_Mo_buildStatement_134 : decode prog_12_method_64_code 134 = .ok (.aload_n 0, 1) := by decide +kernel
theorem d_Mo_buildStatement_135 : decode prog_12_method_64_code 135 = .ok (.iconst 2, 1) := by decide +kernel
theorem d_Mo_buildStatement_136 : decode prog_12_method_64_code 136 = .ok (.iload 5, 2) := by decide +kernel
theorem d_Mo_buildStatement_138 : decode prog_12_method_64_code 138 = .ok (.iload 6, 2) := by decide +kernel
theorem d_Mo_buildStatement_140 : decode prog_12_method_64_code 140 = .ok (.iconst 1, 1) := by decide +kernel
theorem d_Mo_buildStatement_141 : decode prog_12_method_64_code 141 = .ok (.iadd, 1) := by decide +kernel
theorem d_Mo_buildStatement_142 : decode prog_12_method_64_code 142 = .ok (.iload_n 3, 1) := by decide +kernel
theorem d_Mo_buildStatement_143 : decode prog_12_method_64_code 143 = .ok (.iconst 1, 1) := by decide +kernel
theorem d_Mo_buildStatement_144 : decode prog_12_method_64_code 144 = .ok (.isub, 1) := by decide +kernel
theorem d_Mo_buildStatement_145 : decode prog_12_method_64_code 145 = .ok (.iload 6, 2) := by decide +kernel
theorem d_Mo_buildStatement_147 : decode prog_12_method_64_code 147 = .ok (.invokevirtual 390, 3) := by decide +kernel
theorem d_Mo_buildStatement_150 : decode prog_12_method_64_code 150 = .ok (.return_, 1) := by decide +kernel
theorem d_Mo_buildStatement_151 : decode prog_12_method_64_code 151 = .ok (.aload_n 0, 1) := by decide +kernel
theorem d_Mo_buildStatement_152 : decode prog_12_method_64_code 152 = .ok (.iload_n 1, 1) := by decide +kernel
theorem d_Mo_buildStatement_153 : decode prog_12_method_64_code 153 = .ok (.bipush 13, 2) := by decide +kernel
theorem d_Mo_buildStatement_155 : decode prog_12_method_64_code 155 = .ok (.iload_n 2, 1) := by decide +kernel
theorem d_Mo_buildStatement_156 : decode prog_12_method_64_code 156 = .ok (.invokevirtual 426, 3) := by decide +kernel
theorem d_Mo_buildStatement_159 : decode prog_12_method_64_code 159 = .ok (.istore 7, 2) := by decide +kernel
theorem d_Mo_buildStatement_161 : decode prog_12_method_64_code 161 = .ok (.aload_n 0, 1) := by decide +kernel
theorem d_Mo_buildStatement_162 : decode prog_12_method_64_code 162 = .ok (.iload_n 2, 1) := by decide +kernel
theorem d_Mo_buildStatement_163 : decode prog_12_method_64_code 163 = .ok (.iconst 1, 1) := by decide +kernel
theorem d_Mo_buildStatement_164 : decode prog_12_method_64_code 164 = .ok (.iadd, 1) := by decide +kernel
theorem d_Mo_buildStatement_165 : decode prog_12_method_64_code 165 = .ok (.invokevirtual 350, 3) := by decide +kernel
theorem d_Mo_buildStatement_168 : decode prog_12_method_64_code 168 = .ok (.istore 8, 2) := by decide +kernel
theorem d_Mo_buildStatement_170 : decode prog_12_method_64_code 170 = .ok (.aload_n 0, 1) := by decide +kernel
theorem d_Mo_buildStatement_171 : decode prog_12_method_64_code 171 = .ok (.iload 7, 2) := by decide +kernel
theorem d_Mo_buildStatement_173 : decode prog_12_method_64_code 173 = .ok (.bipush 32, 2) := by decide +kernel
theorem d_Mo_buildStatement_175 : decode prog_12_method_64_code 175 = .ok (.iload_n 2, 1) := by decide +kernel
theorem d_Mo_buildStatement_176 : decode prog_12_method_64_code 176 = .ok (.iconst 2, 1) := by decide +kernel
theorem d_Mo_buildStatement_177 : decode prog_12_method_64_code 177 = .ok (.iadd, 1) := by decide +kernel
theorem d_Mo_buildStatement_178 : decode prog_12_method_64_code 178 = .ok (.invokevirtual 426, 3) := by decide +kernel
theorem d_Mo_buildStatement_181 : decode prog_12_method_64_code 181 = .ok (.istore 9, 2) := by decide +kernel
theorem d_Mo_buildStatement_183 : decode prog_12_method_64_code 183 = .ok (.aload_n 0, 1) := by decide +kernel
theorem d_Mo_buildStatement_184 : decode prog_12_method_64_code 184 = .ok (.iconst 1, 1) := by decide +kernel
theorem d_Mo_buildStatement_185 : decode prog_12_method_64_code 185 = .ok (.iload 7, 2) := by decide +kernel
theorem d_Mo_buildStatement_187 : decode prog_12_method_64_code 187 = .ok (.iload_n 2, 1) := by decide +kernel
theorem d_Mo_buildStatement_188 : decode prog_12_method_64_code 188 = .ok (.iconst 4, 1) := by decide +kernel
theorem d_Mo_buildStatement_189 : decode prog_12_method_64_code 189 = .ok (.iadd, 1) := by decide +kernel
theorem d_Mo_buildStatement_190 : decode prog_12_method_64_code 190 = .ok (.iload 8, 2) := by decide +kernel
theorem d_Mo_buildStatement_192 : decode prog_12_method_64_code 192 = .ok (.iconst 1, 1) := by decide +kernel
theorem d_Mo_buildStatement_193 : decode prog_12_method_64_code 193 = .ok (.invokevirtual 390, 3) := by decide +kernel
theorem d_Mo_buildStatement_196 : decode prog_12_method_64_code 196 = .ok (.aload_n 0, 1) := by decide +kernel
theorem d_Mo_buildStatement_197 : decode prog_12_method_64_code 197 = .ok (.iconst 2, 1) := by decide +kernel
theorem d_Mo_buildStatement_198 : decode prog_12_method_64_code 198 = .ok (.iload 7, 2) := by decide +kernel
theorem d_Mo_buildStatement_200 : decode prog_12_method_64_code 200 = .ok (.iload 8, 2) := by decide +kernel
theorem d_Mo_buildStatement_202 : decode prog_12_method_64_code 202 = .ok (.iconst 1, 1) := by decide +kernel
theorem d_Mo_buildStatement_203 : decode prog_12_method_64_code 203 = .ok (.iadd, 1) := by decide +kernel
theorem d_Mo_buildStatement_204 : decode prog_12_method_64_code 204 = .ok (.iload_n 3, 1) := by decide +kernel
theorem d_Mo_buildStatement_205 : decode prog_12_method_64_code 205 = .ok (.iconst 1, 1) := by decide +kernel
theorem d_Mo_buildStatement_206 : decode prog_12_method_64_code 206 = .ok (.isub, 1) := by decide +kernel
theorem d_Mo_buildStatement_207 : decode prog_12_method_64_code 207 = .ok (.iload 8, 2) := by decide +kernel
theorem d_Mo_buildStatement_209 : decode prog_12_method_64_code 209 = .ok (.invokevirtual 390, 3) := by decide +kernel
theorem d_Mo_buildStatement_212 : decode prog_12_method_64_code 212 = .ok (.return_, 1) := by decide +kernel
theorem d_Mo_buildStatement_213 : decode prog_12_method_64_code 213 = .ok (.aload_n 0, 1) := by decide +kernel
theorem d_Mo_buildStatement_214 : decode prog_12_method_64_code 214 = .ok (.iload_n 1, 1) := by decide +kernel
theorem d_Mo_buildStatement_215 : decode prog_12_method_64_code 215 = .ok (.bipush 14, 2) := by decide +kernel
theorem d_Mo_buildStatement_217 : decode prog_12_method_64_code 217 = .ok (.iload_n 2, 1) := by decide +kernel
theorem d_Mo_buildStatement_218 : decode prog_12_method_64_code 218 = .ok (.invokevirtual 426, 3) := by decide +kernel
theorem d_Mo_buildStatement_221 : decode prog_12_method_64_code 221 = .ok (.istore 10, 2) := by decide +kernel
theorem d_Mo_buildStatement_223 : decode prog_12_method_64_code 223 = .ok (.aload_n 0, 1) := by decide +kernel
theorem d_Mo_buildStatement_224 : decode prog_12_method_64_code 224 = .ok (.iload_n 2, 1) := by decide +kernel
theorem d_Mo_buildStatement_225 : decode prog_12_method_64_code 225 = .ok (.iconst 1, 1) := by decide +kernel
theorem d_Mo_buildStatement_226 : decode prog_12_method_64_code 226 = .ok (.iadd, 1) := by decide +kernel
theorem d_Mo_buildStatement_227 : decode prog_12_method_64_code 227 = .ok (.invokevirtual 436, 3) := by decide +kernel
theorem d_Mo_buildStatement_230 : decode prog_12_method_64_code 230 = .ok (.istore 11, 2) := by decide +kernel
theorem d_Mo_buildStatement_232 : decode prog_12_method_64_code 232 = .ok (.aload_n 0, 1) := by decide +kernel
theorem d_Mo_buildStatement_233 : decode prog_12_method_64_code 233 = .ok (.iconst 2, 1) := by decide +kernel
theorem d_Mo_buildStatement_234 : decode prog_12_method_64_code 234 = .ok (.iload 10, 2) := by decide +kernel
theorem d_Mo_buildStatement_236 : decode prog_12_method_64_code 236 = .ok (.iload_n 2, 1) := by decide +kernel
theorem d_Mo_buildStatement_237 : decode prog_12_method_64_code 237 = .ok (.iconst 1, 1) := by decide +kernel
theorem d_Mo_buildStatement_238 : decode prog_12_method_64_code 238 = .ok (.iadd, 1) := by decide +kernel
theorem d_Mo_buildStatement_239 : decode prog_12_method_64_code 239 = .ok (.iload 11, 2) := by decide +kernel
theorem d_Mo_buildStatement_241 : decode prog_12_method_64_code 241 = .ok (.iload_n 2, 1) := by decide +kernel
theorem d_Mo_buildStatement_242 : decode prog_12_method_64_code 242 = .ok (.invokevirtual 390, 3) := by decide +kernel
theorem d_Mo_buildStatement_245 : decode prog_12_method_64_code 245 = .ok (.aload_n 0, 1) := by decide +kernel
theorem d_Mo_buildStatement_246 : decode prog_12_method_64_code 246 = .ok (.iconst 2, 1) := by decide +kernel
theorem d_Mo_buildStatement_247 : decode prog_12_method_64_code 247 = .ok (.iload 10, 2) := by decide +kernel
theorem d_Mo_buildStatement_249 : decode prog_12_method_64_code 249 = .ok (.iload 11, 2) := by decide +kernel
theorem d_Mo_buildStatement_251 : decode prog_12_method_64_code 251 = .ok (.iconst 1, 1) := by decide +kernel
theorem d_Mo_buildStatement_252 : decode prog_12_method_64_code 252 = .ok (.iadd, 1) := by decide +kernel
theorem d_Mo_buildStatement_253 : decode prog_12_method_64_code 253 = .ok (.iload_n 3, 1) := by decide +kernel
theorem d_Mo_buildStatement_254 : decode prog_12_method_64_code 254 = .ok (.iconst 1, 1) := by decide +kernel
theorem d_Mo_buildStatement_255 : decode prog_12_method_64_code 255 = .ok (.isub, 1) := by decide +kernel
theorem d_Mo_buildStatement_256 : decode prog_12_method_64_code 256 = .ok (.iload 11, 2) := by decide +kernel
theorem d_Mo_buildStatement_258 : decode prog_12_method_64_code 258 = .ok (.invokevirtual 390, 3) := by decide +kernel
theorem d_Mo_buildStatement_261 : decode prog_12_method_64_code 261 = .ok (.return_, 1) := by decide +kernel
theorem d_Mo_buildStatement_262 : decode prog_12_method_64_code 262 = .ok (.aload_n 0, 1) := by decide +kernel
theorem d_Mo_buildStatement_263 : decode prog_12_method_64_code 263 = .ok (.iload_n 1, 1) := by decide +kernel
theorem d_Mo_buildStatement_264 : decode prog_12_method_64_code 264 = .ok (.iload 4, 2) := by decide +kernel
theorem d_Mo_buildStatement_266 : decode prog_12_method_64_code 266 = .ok (.bipush 16, 2) := by decide +kernel
theorem d_Mo_buildStatement_268 : decode prog_12_method_64_code 268 = .ok (.isub, 1) := by decide +kernel
theorem d_Mo_buildStatement_269 : decode prog_12_method_64_code 269 = .ok (.bipush 15, 2) := by decide +kernel
theorem d_Mo_buildStatement_271 : decode prog_12_method_64_code 271 = .ok (.iadd, 1) := by decide +kernel
theorem d_Mo_buildStatement_272 : decode prog_12_method_64_code 272 = .ok (.iload_n 2, 1) := by decide +kernel
theorem d_Mo_buildStatement_273 : decode prog_12_method_64_code 273 = .ok (.invokevirtual 426, 3) := by decide +kernel
theorem d_Mo_buildStatement_276 : decode prog_12_method_64_code 276 = .ok (.istore 12, 2) := by decide +kernel
theorem d_Mo_buildStatement_278 : decode prog_12_method_64_code 278 = .ok (.return_, 1) := by decide +kernel
theorem d_Mo_buildStatement_279 : decode prog_12_method_64_code 279 = .ok (.aload_n 0, 1) := by decide +kernel
theorem d_Mo_buildStatement_280 : decode prog_12_method_64_code 280 = .ok (.aload_n 0, 1) := by decide +kernel
theorem d_Mo_buildStatement_281 : decode prog_12_method_64_code 281 = .ok (.iload_n 1, 1) := by decide +kernel
theorem d_Mo_buildStatement_282 : decode prog_12_method_64_code 282 = .ok (.iload 4, 2) := by decide +kernel
theorem d_Mo_buildStatement_284 : decode prog_12_method_64_code 284 = .ok (.bipush 20, 2) := by decide +kernel
theorem d_Mo_buildStatement_286 : decode prog_12_method_64_code 286 = .ok (.isub, 1) := by decide +kernel
theorem d_Mo_buildStatement_287 : decode prog_12_method_64_code 287 = .ok (.bipush 18, 2) := by decide +kernel
theorem d_Mo_buildStatement_289 : decode prog_12_method_64_code 289 = .ok (.iadd, 1) := by decide +kernel
theorem d_Mo_buildStatement_290 : decode prog_12_method_64_code 290 = .ok (.iload_n 2, 1) := by decide +kernel
theorem d_Mo_buildStatement_291 : decode prog_12_method_64_code 291 = .ok (.invokevirtual 426, 3) := by decide +kernel
theorem d_Mo_buildStatement_294 : decode prog_12_method_64_code 294 = .ok (.iload_n 2, 1) := by decide +kernel
theorem d_Mo_buildStatement_295 : decode prog_12_method_64_code 295 = .ok (.iconst 1, 1) := by decide +kernel
theorem d_Mo_buildStatement_296 : decode prog_12_method_64_code 296 = .ok (.iadd, 1) := by decide +kernel
theorem d_Mo_buildStatement_297 : decode prog_12_method_64_code 297 = .ok (.iload_n 3, 1) := by decide +kernel
theorem d_Mo_buildStatement_298 : decode prog_12_method_64_code 298 = .ok (.iconst 1, 1) := by decide +kernel
theorem d_Mo_buildStatement_299 : decode prog_12_method_64_code 299 = .ok (.isub, 1) := by decide +kernel
theorem d_Mo_buildStatement_300 : decode prog_12_method_64_code 300 = .ok (.invokevirtual 439, 3) := by decide +kernel
theorem d_Mo_buildStatement_303 : decode prog_12_method_64_code 303 = .ok (.return_, 1) := by decide +kernel
theorem d_Mo_buildStatement_304 : decode prog_12_method_64_code 304 = .ok (.aload_n 0, 1) := by decide +kernel
theorem d_Mo_buildStatement_305 : decode prog_12_method_64_code 305 = .ok (.iload_n 1, 1) := by decide +kernel
theorem d_Mo_buildStatement_306 : decode prog_12_method_64_code 306 = .ok (.iload_n 2, 1) := by decide +kernel
theorem d_Mo_buildStatement_307 : decode prog_12_method_64_code 307 = .ok (.iload_n 3, 1) := by decide +kernel
theorem d_Mo_buildStatement_308 : decode prog_12_method_64_code 308 = .ok (.iconst 1, 1) := by decide +kernel
theorem d_Mo_buildStatement_309 : decode prog_12_method_64_code 309 = .ok (.isub, 1) := by decide +kernel
theorem d_Mo_buildStatement_310 : decode prog_12_method_64_code 310 = .ok (.invokevirtual 442, 3) := by decide +kernel
theorem d_Mo_buildStatement_313 : decode prog_12_method_64_code 313 = .ok (.return_, 1) := by decide +kernel
set_option maxHeartbeats 4000000 in
set_option maxRecDepth 100000 in
theorem c_Mo_buildStatement (l : Launch) (D : va_G) (cI cB cJ cS : ClassId) (h0 : Nat) (am : Nat → Nat) (a_all_m5 : Nat) (a_all_m6 : Nat) (a_all_m24 : Nat) (a_all_m25 : Nat) (a_all_m26 : Nat) (a_all_m27 : Nat) (a_all_m28 : Nat) (a_all_m29 : Nat) (a_all_m30 : Nat) (a_all_m31 : Nat) (a_all_m33 : Nat) (a_all_m34 : Nat) (p1 : Int32) (p2 : Int32) (p3 : Int32) (known_h0 : Int32) (thrown_h0 : Int32) (wrong_h0 : Int32) (lastEnd_h0 : Int32) (at_h0 : Int32) (bad_h0 : Int32) (levels_h0 : Int32) (least_h0 : Int32) (found_h0 : Int32) (size_m5 : Int32) (n_a_all_m5 : Nat) (b_a_all_m5 : Nat → Int32) (size_m6 : Int32) (n_a_all_m6 : Nat) (b_a_all_m6 : Nat → Int32) (size_m24 : Int32) (n_a_all_m24 : Nat) (b_a_all_m24 : Nat → Int32) (size_m25 : Int32) (n_a_all_m25 : Nat) (b_a_all_m25 : Nat → Int32) (size_m26 : Int32) (n_a_all_m26 : Nat) (b_a_all_m26 : Nat → Int32) (size_m27 : Int32) (n_a_all_m27 : Nat) (b_a_all_m27 : Nat → Int32) (size_m28 : Int32) (n_a_all_m28 : Nat) (b_a_all_m28 : Nat → Int32) (size_m29 : Int32) (n_a_all_m29 : Nat) (b_a_all_m29 : Nat → Int32) (size_m30 : Int32) (n_a_all_m30 : Nat) (b_a_all_m30 : Nat → Int32) (size_m31 : Int32) (n_a_all_m31 : Nat) (b_a_all_m31 : Nat → Int32) (size_m33 : Int32) (n_a_all_m33 : Nat) (b_a_all_m33 : Nat → Int32) (size_m34 : Int32) (n_a_all_m34 : Nat) (b_a_all_m34 : Nat → Int32) (o_5_1 : Int32) (o_7_1 : Int32) (o_9_1 : Int32) (o_11_1 : Int32) (o_13_1 : Int32) (o_15_1 : Int32) (o_17_1 : Int32) (o_19_1 : Int32) (o_21_1 : Int32) (ob_24 : Nat → Int32) (on_nq_5_0 : Nat) (ob_nq_5_0 : Nat → Int32) (on_nq_7_0 : Nat) (ob_nq_7_0 : Nat → Int32) (on_nq_9_0 : Nat) (ob_nq_9_0 : Nat → Int32) (on_nq_11_0 : Nat) (ob_nq_11_0 : Nat → Int32) (on_nq_13_0 : Nat) (ob_nq_13_0 : Nat → Int32) (on_nq_15_0 : Nat) (ob_nq_15_0 : Nat → Int32) (on_nq_17_0 : Nat) (ob_nq_17_0 : Nat → Int32) (on_nq_19_0 : Nat) (ob_nq_19_0 : Nat → Int32) (on_nq_21_0 : Nat) (ob_nq_21_0 : Nat → Int32) (mc ms : Nat) (h : F_Mo_buildStatement p1 p2 p3 known_h0 thrown_h0 wrong_h0 lastEnd_h0 at_h0 bad_h0 levels_h0 least_h0 found_h0 size_m5 n_a_all_m5 b_a_all_m5 size_m6 n_a_all_m6 b_a_all_m6 size_m24 n_a_all_m24 b_a_all_m24 size_m25 n_a_all_m25 b_a_all_m25 size_m26 n_a_all_m26 b_a_all_m26 size_m27 n_a_all_m27 b_a_all_m27 size_m28 n_a_all_m28 b_a_all_m28 size_m29 n_a_all_m29 b_a_all_m29 size_m30 n_a_all_m30 b_a_all_m30 size_m31 n_a_all_m31 b_a_all_m31 size_m33 n_a_all_m33 b_a_all_m33 size_m34 n_a_all_m34 b_a_all_m34 = some ((o_5_1, o_7_1, o_9_1, o_11_1, o_13_1, o_15_1, o_17_1, o_19_1, o_21_1, ob_24, on_nq_5_0, ob_nq_5_0, on_nq_7_0, ob_nq_7_0, on_nq_9_0, ob_nq_9_0, on_nq_11_0, ob_nq_11_0, on_nq_13_0, ob_nq_13_0, on_nq_15_0, ob_nq_15_0, on_nq_17_0, ob_nq_17_0, on_nq_19_0, ob_nq_19_0, on_nq_21_0, ob_nq_21_0), mc, ms)) : Ct l D (gT cI cB cJ cS) y_Mo_buildStatement prog_12_method_64_code 13 (Option.none : Option Jvm.ClassFile.FieldType) 5 125 mc ms [.ref h0, .int p1, .int p2, .int p3] [(h0, .inr (9, moF am known_h0 thrown_h0 wrong_h0 lastEnd_h0 at_h0 bad_h0 levels_h0 least_h0 found_h0)), ((am 5), .inr (8, [.ref a_all_m5, .int size_m5])), (a_all_m5, .inl (cI, n_a_all_m5, .inl b_a_all_m5)), ((am 6), .inr (8, [.ref a_all_m6, .int size_m6])), (a_all_m6, .inl (cI, n_a_all_m6, .inl b_a_all_m6)), ((am 24), .inr (8, [.ref a_all_m24, .int size_m24])), (a_all_m24, .inl (cI, n_a_all_m24, .inl b_a_all_m24)), ((am 25), .inr (8, [.ref a_all_m25, .int size_m25])), (a_all_m25, .inl (cI, n_a_all_m25, .inl b_a_all_m25)), ((am 26), .inr (8, [.ref a_all_m26, .int size_m26])), (a_all_m26, .inl (cI, n_a_all_m26, .inl b_a_all_m26)), ((am 27), .inr (8, [.ref a_all_m27, .int size_m27])), (a_all_m27, .inl (cI, n_a_all_m27, .inl b_a_all_m27)), ((am 28), .inr (8, [.ref a_all_m28, .int size_m28])), (a_all_m28, .inl (cI, n_a_all_m28, .inl b_a_all_m28)), ((am 29), .inr (8, [.ref a_all_m29, .int size_m29])), (a_all_m29, .inl (cI, n_a_all_m29, .inl b_a_all_m29)), ((am 30), .inr (8, [.ref a_all_m30, .int size_m30])), (a_all_m30, .inl (cI, n_a_all_m30, .inl b_a_all_m30)), ((am 31), .inr (8, [.ref a_all_m31, .int size_m31])), (a_all_m31, .inl (cI, n_a_all_m31, .inl b_a_all_m31)), ((am 33), .inr (8, [.ref a_all_m33, .int size_m33])), (a_all_m33, .inl (cI, n_a_all_m33, .inl b_a_all_m33)), ((am 34), .inr (8, [.ref a_all_m34, .int size_m34])), (a_all_m34, .inl (cI, n_a_all_m34, .inl b_a_all_m34))] (fun v w => ∃ nq_5_0 : Nat, ∃ nq_7_0 : Nat, ∃ nq_9_0 : Nat, ∃ nq_11_0 : Nat, ∃ nq_13_0 : Nat, ∃ nq_15_0 : Nat, ∃ nq_17_0 : Nat, ∃ nq_19_0 : Nat, ∃ nq_21_0 : Nat, v = none ∧ w = [(h0, .inr (9, moF am known_h0 thrown_h0 wrong_h0 lastEnd_h0 at_h0 bad_h0 levels_h0 least_h0 found_h0)), ((am 5), .inr (8, [.ref a_all_m5, .int size_m5])), (a_all_m5, .inl (cI, n_a_all_m5, .inl b_a_all_m5)), ((am 6), .inr (8, [.ref a_all_m6, .int size_m6])), (a_all_m6, .inl (cI, n_a_all_m6, .inl b_a_all_m6)), ((am 24), .inr (8, [.ref nq_5_0, .int o_5_1])), ((am 25), .inr (8, [.ref nq_7_0, .int o_7_1])), ((am 26), .inr (8, [.ref nq_9_0, .int o_9_1])), ((am 27), .inr (8, [.ref nq_11_0, .int o_11_1])), ((am 28), .inr (8, [.ref nq_13_0, .int o_13_1])), ((am 29), .inr (8, [.ref nq_15_0, .int o_15_1])), ((am 30), .inr (8, [.ref nq_17_0, .int o_17_1])), ((am 31), .inr (8, [.ref nq_19_0, .int o_19_1])), ((am 33), .inr (8, [.ref nq_21_0, .int o_21_1])), ((am 34), .inr (8, [.ref a_all_m34, .int size_m34])), (a_all_m34, .inl (cI, n_a_all_m34, .inl ob_24)), (nq_5_0, .inl (cI, on_nq_5_0, .inl ob_nq_5_0)), (nq_7_0, .inl (cI, on_nq_7_0, .inl ob_nq_7_0)), (nq_9_0, .inl (cI, on_nq_9_0, .inl ob_nq_9_0)), (nq_11_0, .inl (cI, on_nq_11_0, .inl ob_nq_11_0)), (nq_13_0, .inl (cI, on_nq_13_0, .inl ob_nq_13_0)), (nq_15_0, .inl (cI, on_nq_15_0, .inl ob_nq_15_0)), (nq_17_0, .inl (cI, on_nq_17_0, .inl ob_nq_17_0)), (nq_19_0, .inl (cI, on_nq_19_0, .inl ob_nq_19_0)), (nq_21_0, .inl (cI, on_nq_21_0, .inl ob_nq_21_0))]) := by
  refine Ct.mk (by decide) (Nat.le_of_ble_eq_true rfl) ?_
  intro p e s m below meth c hr hnm
  refine j_norm (pc' := 0) (lv' := [(0, .ref h0), (1, .int p1), (2, .int p2), (3, .int p3)]) (st' := []) (ws' := [(h0, .inr (9, moF am known_h0 thrown_h0 wrong_h0 lastEnd_h0 at_h0 bad_h0 levels_h0 least_h0 found_h0)), ((am 5), .inr (8, [.ref a_all_m5, .int size_m5])), (a_all_m5, .inl (cI, n_a_all_m5, .inl b_a_all_m5)), ((am 6), .inr (8, [.ref a_all_m6, .int size_m6])), (a_all_m6, .inl (cI, n_a_all_m6, .inl b_a_all_m6)), ((am 24), .inr (8, [.ref a_all_m24, .int size_m24])), (a_all_m24, .inl (cI, n_a_all_m24, .inl b_a_all_m24)), ((am 25), .inr (8, [.ref a_all_m25, .int size_m25])), (a_all_m25, .inl (cI, n_a_all_m25, .inl b_a_all_m25)), ((am 26), .inr (8, [.ref a_all_m26, .int size_m26])), (a_all_m26, .inl (cI, n_a_all_m26, .inl b_a_all_m26)), ((am 27), .inr (8, [.ref a_all_m27, .int size_m27])), (a_all_m27, .inl (cI, n_a_all_m27, .inl b_a_all_m27)), ((am 28), .inr (8, [.ref a_all_m28, .int size_m28])), (a_all_m28, .inl (cI, n_a_all_m28, .inl b_a_all_m28)), ((am 29), .inr (8, [.ref a_all_m29, .int size_m29])), (a_all_m29, .inl (cI, n_a_all_m29, .inl b_a_all_m29)), ((am 30), .inr (8, [.ref a_all_m30, .int size_m30])), (a_all_m30, .inl (cI, n_a_all_m30, .inl b_a_all_m30)), ((am 31), .inr (8, [.ref a_all_m31, .int size_m31])), (a_all_m31, .inl (cI, n_a_all_m31, .inl b_a_all_m31)), ((am 33), .inr (8, [.ref a_all_m33, .int size_m33])), (a_all_m33, .inl (cI, n_a_all_m33, .inl b_a_all_m33)), ((am 34), .inr (8, [.ref a_all_m34, .int size_m34])), (a_all_m34, .inl (cI, n_a_all_m34, .inl b_a_all_m34))]) (cl' := 0) (sl' := 0) rfl rfl rfl rfl rfl rfl ?_
  unfold F_Mo_buildStatement at h
  have hC : 0 + mc ≤ mc := by omega
  have hS : 0 + ms ≤ ms := by omega
  refine j_aload_n d_Mo_buildStatement_0 rfl 0 rfl ?_
  refine j_get ig_Mo rfl 0 rfl 5 (by decide) rfl m_1118 rfl d_Mo_buildStatement_1 ?_
  refine j_iload_n d_Mo_buildStatement_4 rfl 2 rfl ?_
  replace h := bd_s h
  obtain ⟨_, k1, h⟩ := h
  refine j_callV (n := 1) (As := [.int p2]) (rest := []) (wr := [(h0, .inr (9, moF am known_h0 thrown_h0 wrong_h0 lastEnd_h0 at_h0 bad_h0 levels_h0 least_h0 found_h0)), ((am 6), .inr (8, [.ref a_all_m6, .int size_m6])), (a_all_m6, .inl (cI, n_a_all_m6, .inl b_a_all_m6)), ((am 24), .inr (8, [.ref a_all_m24, .int size_m24])), (a_all_m24, .inl (cI, n_a_all_m24, .inl b_a_all_m24)), ((am 25), .inr (8, [.ref a_all_m25, .int size_m25])), (a_all_m25, .inl (cI, n_a_all_m25, .inl b_a_all_m25)), ((am 26), .inr (8, [.ref a_all_m26, .int size_m26])), (a_all_m26, .inl (cI, n_a_all_m26, .inl b_a_all_m26)), ((am 27), .inr (8, [.ref a_all_m27, .int size_m27])), (a_all_m27, .inl (cI, n_a_all_m27, .inl b_a_all_m27)), ((am 28), .inr (8, [.ref a_all_m28, .int size_m28])), (a_all_m28, .inl (cI, n_a_all_m28, .inl b_a_all_m28)), ((am 29), .inr (8, [.ref a_all_m29, .int size_m29])), (a_all_m29, .inl (cI, n_a_all_m29, .inl b_a_all_m29)), ((am 30), .inr (8, [.ref a_all_m30, .int size_m30])), (a_all_m30, .inl (cI, n_a_all_m30, .inl b_a_all_m30)), ((am 31), .inr (8, [.ref a_all_m31, .int size_m31])), (a_all_m31, .inl (cI, n_a_all_m31, .inl b_a_all_m31)), ((am 33), .inr (8, [.ref a_all_m33, .int size_m33])), (a_all_m33, .inl (cI, n_a_all_m33, .inl b_a_all_m33)), ((am 34), .inr (8, [.ref a_all_m34, .int size_m34])), (a_all_m34, .inl (cI, n_a_all_m34, .inl b_a_all_m34))]) (c_Nm_at l D cI cB cJ cS (am 5) a_all_m5 p2 size_m5 n_a_all_m5 b_a_all_m5  k1) k_Mo_214 (by decide) ⟨Nat.le_of_ble_eq_true rfl, Nat.le_of_ble_eq_true rfl⟩ rfl 0 rfl [1, 2] [0, 3, 4, 5, 6, 7, 8, 9, 10, 11, 12, 13, 14, 15, 16, 17, 18, 19, 20, 21, 22, 23, 24] rfl (by decide +kernel) rfl (by decide +kernel) (by decide +kernel) rfl rfl (Nat.le_of_ble_eq_true rfl) d_Mo_buildStatement_5 ⟨show 0 + 0 ≤ mc by omega, show 0 + 0 ≤ ms by omega⟩ (fun v w hq => ?_)
  obtain ⟨rfl, rfl⟩ := hq
  refine j_norm (pc' := 8) (st' := [.int (b_a_all_m5 (Int32.toNatClampNeg p2))]) (ws' := [(h0, .inr (9, moF am known_h0 thrown_h0 wrong_h0 lastEnd_h0 at_h0 bad_h0 levels_h0 least_h0 found_h0)), ((am 6), .inr (8, [.ref a_all_m6, .int size_m6])), (a_all_m6, .inl (cI, n_a_all_m6, .inl b_a_all_m6)), ((am 24), .inr (8, [.ref a_all_m24, .int size_m24])), (a_all_m24, .inl (cI, n_a_all_m24, .inl b_a_all_m24)), ((am 25), .inr (8, [.ref a_all_m25, .int size_m25])), (a_all_m25, .inl (cI, n_a_all_m25, .inl b_a_all_m25)), ((am 26), .inr (8, [.ref a_all_m26, .int size_m26])), (a_all_m26, .inl (cI, n_a_all_m26, .inl b_a_all_m26)), ((am 27), .inr (8, [.ref a_all_m27, .int size_m27])), (a_all_m27, .inl (cI, n_a_all_m27, .inl b_a_all_m27)), ((am 28), .inr (8, [.ref a_all_m28, .int size_m28])), (a_all_m28, .inl (cI, n_a_all_m28, .inl b_a_all_m28)), ((am 29), .inr (8, [.ref a_all_m29, .int size_m29])), (a_all_m29, .inl (cI, n_a_all_m29, .inl b_a_all_m29)), ((am 30), .inr (8, [.ref a_all_m30, .int size_m30])), (a_all_m30, .inl (cI, n_a_all_m30, .inl b_a_all_m30)), ((am 31), .inr (8, [.ref a_all_m31, .int size_m31])), (a_all_m31, .inl (cI, n_a_all_m31, .inl b_a_all_m31)), ((am 33), .inr (8, [.ref a_all_m33, .int size_m33])), (a_all_m33, .inl (cI, n_a_all_m33, .inl b_a_all_m33)), ((am 34), .inr (8, [.ref a_all_m34, .int size_m34])), (a_all_m34, .inl (cI, n_a_all_m34, .inl b_a_all_m34)), ((am 5), .inr (8, [.ref a_all_m5, .int size_m5])), (a_all_m5, .inl (cI, n_a_all_m5, .inl b_a_all_m5))]) (cl' := 0) (sl' := 0) rfl rfl rfl rfl rfl rfl ?_
  refine j_istore (lv' := [(4, .int (b_a_all_m5 (Int32.toNatClampNeg p2))), (0, .ref h0), (1, .int p1), (2, .int p2), (3, .int p3)]) d_Mo_buildStatement_8 (by decide) rfl ?_
  refine j_iload d_Mo_buildStatement_10 0 rfl ?_
  by_cases c2 : (b_a_all_m5 (Int32.toNatClampNeg p2)) = 10
  · replace h := it_t c2 h
    refine j_tabIn (tgt := 88) (off := 76) d_Mo_buildStatement_12 10 c2 (by decide) (by decide) (by decide) (by decide) ?_
    refine j_aload_n d_Mo_buildStatement_88 rfl 1 rfl ?_
    refine j_aload_n d_Mo_buildStatement_89 rfl 1 rfl ?_
    refine j_iload_n d_Mo_buildStatement_90 rfl 2 rfl ?_
    refine j_bipush (v := 11) d_Mo_buildStatement_91 (by decide) ?_
    refine j_iload_n d_Mo_buildStatement_93 rfl 3 rfl ?_
    replace h := bw_s h
    obtain ⟨⟨r3, r4, r5, r6, r7, r8, r9, r10, r11, r12, r13, r14, r15, r16, r17, r18, r19, r20, r21⟩, C30, S31, C32, S33, k34, h, e1, e2⟩ := h
    replace hC : 0 + C30 + C32 ≤ mc := by omega
    replace hS : 0 + S31 + S33 ≤ ms := by omega
    clear e1 e2
    refine j_callV (n := 3) (As := [.int p1, .int 11, .int p2]) (rest := [.ref h0]) (wr := [((am 33), .inr (8, [.ref a_all_m33, .int size_m33])), (a_all_m33, .inl (cI, n_a_all_m33, .inl b_a_all_m33)), ((am 34), .inr (8, [.ref a_all_m34, .int size_m34])), (a_all_m34, .inl (cI, n_a_all_m34, .inl b_a_all_m34)), ((am 5), .inr (8, [.ref a_all_m5, .int size_m5])), (a_all_m5, .inl (cI, n_a_all_m5, .inl b_a_all_m5))]) (c_Mo_leafNode l D cI cB cJ cS h0 am a_all_m6 a_all_m24 a_all_m25 a_all_m26 a_all_m27 a_all_m28 a_all_m29 a_all_m30 a_all_m31 p1 11 p2 known_h0 thrown_h0 wrong_h0 lastEnd_h0 at_h0 bad_h0 levels_h0 least_h0 found_h0 size_m6 n_a_all_m6 b_a_all_m6 size_m24 n_a_all_m24 b_a_all_m24 size_m25 n_a_all_m25 b_a_all_m25 size_m26 n_a_all_m26 b_a_all_m26 size_m27 n_a_all_m27 b_a_all_m27 size_m28 n_a_all_m28 b_a_all_m28 size_m29 n_a_all_m29 b_a_all_m29 size_m30 n_a_all_m30 b_a_all_m30 size_m31 n_a_all_m31 b_a_all_m31  r3 r4 r5 r6 r7 r8 r9 r10 r11 r12 r13 r14 r15 r16 r17 r18 r19 r20 r21 C30 S31 k34) k_Mo_426 (by decide) ⟨Nat.le_of_ble_eq_true rfl, Nat.le_of_ble_eq_true rfl⟩ rfl 0 rfl [0, 1, 2, 3, 4, 5, 6, 7, 8, 9, 10, 11, 12, 13, 14, 15, 16, 17, 18] [19, 20, 21, 22, 23, 24] rfl (by decide +kernel) rfl (by decide +kernel) (by decide +kernel) rfl rfl (Nat.le_of_ble_eq_true rfl) d_Mo_buildStatement_94 ⟨show 0 + C30 ≤ mc by omega, show 0 + S31 ≤ ms by omega⟩ (fun v w hq => ?_)
    obtain ⟨q22, q23, q24, q25, q26, q27, q28, q29, rfl, rfl⟩ := hq
    refine j_norm (pc' := 97) (st' := [.int size_m24, .ref h0]) (ws' := [((am 33), .inr (8, [.ref a_all_m33, .int size_m33])), (a_all_m33, .inl (cI, n_a_all_m33, .inl b_a_all_m33)), ((am 34), .inr (8, [.ref a_all_m34, .int size_m34])), (a_all_m34, .inl (cI, n_a_all_m34, .inl b_a_all_m34)), ((am 5), .inr (8, [.ref a_all_m5, .int size_m5])), (a_all_m5, .inl (cI, n_a_all_m5, .inl b_a_all_m5)), (h0, .inr (9, moF am known_h0 thrown_h0 wrong_h0 lastEnd_h0 at_h0 bad_h0 levels_h0 least_h0 found_h0)), ((am 6), .inr (8, [.ref a_all_m6, .int size_m6])), (a_all_m6, .inl (cI, n_a_all_m6, .inl b_a_all_m6)), ((am 24), .inr (8, [.ref q22, .int (size_m24 + 1)])), ((am 25), .inr (8, [.ref q23, .int (size_m25 + 1)])), ((am 26), .inr (8, [.ref q24, .int (size_m26 + 1)])), ((am 27), .inr (8, [.ref q25, .int (size_m27 + 1)])), ((am 28), .inr (8, [.ref q26, .int r3])), ((am 29), .inr (8, [.ref q27, .int r4])), ((am 30), .inr (8, [.ref q28, .int r5])), ((am 31), .inr (8, [.ref q29, .int (size_m31 + 1)])), (q22, .inl (cI, r6, .inl r7)), (q23, .inl (cI, r8, .inl r9)), (q24, .inl (cI, r10, .inl r11)), (q25, .inl (cI, r12, .inl r13)), (q26, .inl (cI, r14, .inl r15)), (q27, .inl (cI, r16, .inl r17)), (q28, .inl (cI, r18, .inl r19)), (q29, .inl (cI, r20, .inl r21))]) (cl' := 0 + C30) (sl' := 0 + S31) rfl rfl rfl rfl rfl rfl ?_
    refine j_iload_n d_Mo_buildStatement_97 rfl 3 rfl ?_
    replace h := bw_s h
    obtain ⟨⟨r35, r36, r37⟩, C39, S40, C41, S42, k43, h, e1, e2⟩ := h
    replace hC : 0 + C30 + C39 + C41 ≤ mc := by omega
    replace hS : 0 + S31 + S40 + S42 ≤ ms := by omega
    clear e1 e2
    refine j_callV (n := 2) (As := [.int size_m24, .int p2]) (rest := []) (wr := [((am 34), .inr (8, [.ref a_all_m34, .int size_m34])), (a_all_m34, .inl (cI, n_a_all_m34, .inl b_a_all_m34)), ((am 6), .inr (8, [.ref a_all_m6, .int size_m6])), (a_all_m6, .inl (cI, n_a_all_m6, .inl b_a_all_m6)), ((am 24), .inr (8, [.ref q22, .int (size_m24 + 1)])), ((am 25), .inr (8, [.ref q23, .int (size_m25 + 1)])), ((am 26), .inr (8, [.ref q24, .int (size_m26 + 1)])), ((am 27), .inr (8, [.ref q25, .int (size_m27 + 1)])), ((am 28), .inr (8, [.ref q26, .int r3])), ((am 29), .inr (8, [.ref q27, .int r4])), ((am 30), .inr (8, [.ref q28, .int r5])), ((am 31), .inr (8, [.ref q29, .int (size_m31 + 1)])), (q22, .inl (cI, r6, .inl r7)), (q23, .inl (cI, r8, .inl r9)), (q24, .inl (cI, r10, .inl r11)), (q25, .inl (cI, r12, .inl r13)), (q26, .inl (cI, r14, .inl r15)), (q27, .inl (cI, r16, .inl r17)), (q28, .inl (cI, r18, .inl r19)), (q29, .inl (cI, r20, .inl r21))]) (c_Mo_buildIf l D cI cB cJ cS h0 am a_all_m5 a_all_m33 size_m24 p2 known_h0 thrown_h0 wrong_h0 lastEnd_h0 at_h0 bad_h0 levels_h0 least_h0 found_h0 size_m5 n_a_all_m5 b_a_all_m5 size_m33 n_a_all_m33 b_a_all_m33  r35 r36 r37 C39 S40 k43) k_Mo_433 (by decide) ⟨Nat.le_of_ble_eq_true rfl, Nat.le_of_ble_eq_true rfl⟩ rfl 0 rfl [6, 4, 5, 0, 1] [2, 3, 7, 8, 9, 10, 11, 12, 13, 14, 15, 16, 17, 18, 19, 20, 21, 22, 23, 24] rfl (by decide +kernel) rfl (by decide +kernel) (by decide +kernel) rfl rfl (Nat.le_of_ble_eq_true rfl) d_Mo_buildStatement_98 ⟨show 0 + C30 + C39 ≤ mc by omega, show 0 + S31 + S40 ≤ ms by omega⟩ (fun v w hq => ?_)
    obtain ⟨q38, rfl, rfl⟩ := hq
    refine j_norm (pc' := 101) (st' := []) (ws' := [((am 34), .inr (8, [.ref a_all_m34, .int size_m34])), (a_all_m34, .inl (cI, n_a_all_m34, .inl b_a_all_m34)), ((am 6), .inr (8, [.ref a_all_m6, .int size_m6])), (a_all_m6, .inl (cI, n_a_all_m6, .inl b_a_all_m6)), ((am 24), .inr (8, [.ref q22, .int (size_m24 + 1)])), ((am 25), .inr (8, [.ref q23, .int (size_m25 + 1)])), ((am 26), .inr (8, [.ref q24, .int (size_m26 + 1)])), ((am 27), .inr (8, [.ref q25, .int (size_m27 + 1)])), ((am 28), .inr (8, [.ref q26, .int r3])), ((am 29), .inr (8, [.ref q27, .int r4])), ((am 30), .inr (8, [.ref q28, .int r5])), ((am 31), .inr (8, [.ref q29, .int (size_m31 + 1)])), (q22, .inl (cI, r6, .inl r7)), (q23, .inl (cI, r8, .inl r9)), (q24, .inl (cI, r10, .inl r11)), (q25, .inl (cI, r12, .inl r13)), (q26, .inl (cI, r14, .inl r15)), (q27, .inl (cI, r16, .inl r17)), (q28, .inl (cI, r18, .inl r19)), (q29, .inl (cI, r20, .inl r21)), (h0, .inr (9, moF am known_h0 thrown_h0 wrong_h0 lastEnd_h0 at_h0 bad_h0 levels_h0 least_h0 found_h0)), ((am 5), .inr (8, [.ref a_all_m5, .int size_m5])), (a_all_m5, .inl (cI, n_a_all_m5, .inl b_a_all_m5)), ((am 33), .inr (8, [.ref q38, .int r35])), (q38, .inl (cI, r36, .inl r37))]) (cl' := 0 + C30 + C39) (sl' := 0 + S31 + S40) rfl rfl rfl rfl rfl rfl ?_
    replace h := lf_s h
    obtain ⟨h, e1, e2⟩ := h
    replace h := Prod.mk.inj h
    obtain ⟨h9, h⟩ := h
    subst h9
    replace h := Prod.mk.inj h
    obtain ⟨h9, h⟩ := h
    subst h9
    replace h := Prod.mk.inj h
    obtain ⟨h9, h⟩ := h
    subst h9
    replace h := Prod.mk.inj h
    obtain ⟨h9, h⟩ := h
    subst h9
    replace h := Prod.mk.inj h
    obtain ⟨h9, h⟩ := h
    subst h9
    replace h := Prod.mk.inj h
    obtain ⟨h9, h⟩ := h
    subst h9
    replace h := Prod.mk.inj h
    obtain ⟨h9, h⟩ := h
    subst h9
    replace h := Prod.mk.inj h
    obtain ⟨h9, h⟩ := h
    subst h9
    replace h := Prod.mk.inj h
    obtain ⟨h9, h⟩ := h
    subst h9
    replace h := Prod.mk.inj h
    obtain ⟨h9, h⟩ := h
    subst h9
    replace h := Prod.mk.inj h
    obtain ⟨h9, h⟩ := h
    subst h9
    replace h := Prod.mk.inj h
    obtain ⟨h9, h⟩ := h
    subst h9
    replace h := Prod.mk.inj h
    obtain ⟨h9, h⟩ := h
    subst h9
    replace h := Prod.mk.inj h
    obtain ⟨h9, h⟩ := h
    subst h9
    replace h := Prod.mk.inj h
    obtain ⟨h9, h⟩ := h
    subst h9
    replace h := Prod.mk.inj h
    obtain ⟨h9, h⟩ := h
    subst h9
    replace h := Prod.mk.inj h
    obtain ⟨h9, h⟩ := h
    subst h9
    replace h := Prod.mk.inj h
    obtain ⟨h9, h⟩ := h
    subst h9
    replace h := Prod.mk.inj h
    obtain ⟨h9, h⟩ := h
    subst h9
    replace h := Prod.mk.inj h
    obtain ⟨h9, h⟩ := h
    subst h9
    replace h := Prod.mk.inj h
    obtain ⟨h9, h⟩ := h
    subst h9
    replace h := Prod.mk.inj h
    obtain ⟨h9, h⟩ := h
    subst h9
    replace h := Prod.mk.inj h
    obtain ⟨h9, h⟩ := h
    subst h9
    replace h := Prod.mk.inj h
    obtain ⟨h9, h⟩ := h
    subst h9
    replace h := Prod.mk.inj h
    obtain ⟨h9, h⟩ := h
    subst h9
    replace h := Prod.mk.inj h
    obtain ⟨h9, h⟩ := h
    subst h9
    replace h := Prod.mk.inj h
    obtain ⟨h9, h⟩ := h
    subst h9
    subst h
    refine j_widen (cl' := mc) (sl' := ms) (by omega) (by omega) ?_
    exact j_vret (w := [(h0, .inr (9, moF am known_h0 thrown_h0 wrong_h0 lastEnd_h0 at_h0 bad_h0 levels_h0 least_h0 found_h0)), ((am 5), .inr (8, [.ref a_all_m5, .int size_m5])), (a_all_m5, .inl (cI, n_a_all_m5, .inl b_a_all_m5)), ((am 6), .inr (8, [.ref a_all_m6, .int size_m6])), (a_all_m6, .inl (cI, n_a_all_m6, .inl b_a_all_m6)), ((am 24), .inr (8, [.ref q22, .int (size_m24 + 1)])), ((am 25), .inr (8, [.ref q23, .int (size_m25 + 1)])), ((am 26), .inr (8, [.ref q24, .int (size_m26 + 1)])), ((am 27), .inr (8, [.ref q25, .int (size_m27 + 1)])), ((am 28), .inr (8, [.ref q26, .int r3])), ((am 29), .inr (8, [.ref q27, .int r4])), ((am 30), .inr (8, [.ref q28, .int r5])), ((am 31), .inr (8, [.ref q29, .int (size_m31 + 1)])), ((am 33), .inr (8, [.ref q38, .int r35])), ((am 34), .inr (8, [.ref a_all_m34, .int size_m34])), (a_all_m34, .inl (cI, n_a_all_m34, .inl b_a_all_m34)), (q22, .inl (cI, r6, .inl r7)), (q23, .inl (cI, r8, .inl r9)), (q24, .inl (cI, r10, .inl r11)), (q25, .inl (cI, r12, .inl r13)), (q26, .inl (cI, r14, .inl r15)), (q27, .inl (cI, r16, .inl r17)), (q28, .inl (cI, r18, .inl r19)), (q29, .inl (cI, r20, .inl r21)), (q38, .inl (cI, r36, .inl r37))]) hr d_Mo_buildStatement_101 [20, 21, 22, 2, 3, 4, 5, 6, 7, 8, 9, 10, 11, 23, 0, 1, 12, 13, 14, 15, 16, 17, 18, 19, 24] rfl (by decide) ⟨q22, q23, q24, q25, q26, q27, q28, q29, q38, rfl, rfl⟩
  · replace h := it_f c2 h
    by_cases c44 : (b_a_all_m5 (Int32.toNatClampNeg p2)) = 11
    · replace h := it_t c44 h
      refine j_tabIn (tgt := 304) (off := 292) d_Mo_buildStatement_12 11 c44 (by decide) (by decide) (by decide) (by decide) ?_
      refine j_aload_n d_Mo_buildStatement_304 rfl 1 rfl ?_
      refine j_iload_n d_Mo_buildStatement_305 rfl 2 rfl ?_
      refine j_iload_n d_Mo_buildStatement_306 rfl 3 rfl ?_
      refine j_iload_n d_Mo_buildStatement_307 rfl 4 rfl ?_
      refine j_iconst (v := 1) d_Mo_buildStatement_308 (by decide) ?_
      refine j_isub d_Mo_buildStatement_309 ?_
      replace h := bw_s h
      obtain ⟨⟨r45, r46, r47, r48, r49, r50, r51, r52, r53, r54, r55, r56, r57, r58, r59, r60, r61, r62, r63, r64, r65, r66, r67, r68, r69, r70, r71⟩, C81, S82, C83, S84, k85, h, e1, e2⟩ := h
      replace hC : 0 + C81 + C83 ≤ mc := by omega
      replace hS : 0 + S82 + S84 ≤ ms := by omega
      clear e1 e2
      refine j_callV (n := 3) (As := [.int p1, .int p2, .int (p3 - 1)]) (rest := []) (wr := [((am 34), .inr (8, [.ref a_all_m34, .int size_m34])), (a_all_m34, .inl (cI, n_a_all_m34, .inl b_a_all_m34))]) (c_Mo_buildSimple l D cI cB cJ cS h0 am a_all_m5 a_all_m6 a_all_m24 a_all_m25 a_all_m26 a_all_m27 a_all_m28 a_all_m29 a_all_m30 a_all_m31 a_all_m33 p1 p2 (p3 - 1) known_h0 thrown_h0 wrong_h0 lastEnd_h0 at_h0 bad_h0 levels_h0 least_h0 found_h0 size_m5 n_a_all_m5 b_a_all_m5 size_m6 n_a_all_m6 b_a_all_m6 size_m24 n_a_all_m24 b_a_all_m24 size_m25 n_a_all_m25 b_a_all_m25 size_m26 n_a_all_m26 b_a_all_m26 size_m27 n_a_all_m27 b_a_all_m27 size_m28 n_a_all_m28 b_a_all_m28 size_m29 n_a_all_m29 b_a_all_m29 size_m30 n_a_all_m30 b_a_all_m30 size_m31 n_a_all_m31 b_a_all_m31 size_m33 n_a_all_m33 b_a_all_m33  r45 r46 r47 r48 r49 r50 r51 r52 r53 r54 r55 r56 r57 r58 r59 r60 r61 r62 r63 r64 r65 r66 r67 r68 r69 r70 r71 C81 S82 k85) k_Mo_442 (by decide) ⟨Nat.le_of_ble_eq_true rfl, Nat.le_of_ble_eq_true rfl⟩ rfl 0 rfl [0, 23, 24, 1, 2, 3, 4, 5, 6, 7, 8, 9, 10, 11, 12, 13, 14, 15, 16, 17, 18, 19, 20] [21, 22] rfl (by decide +kernel) rfl (by decide +kernel) (by decide +kernel) rfl rfl (Nat.le_of_ble_eq_true rfl) d_Mo_buildStatement_310 ⟨show 0 + C81 ≤ mc by omega, show 0 + S82 ≤ ms by omega⟩ (fun v w hq => ?_)
      obtain ⟨q72, q73, q74, q75, q76, q77, q78, q79, q80, rfl, rfl⟩ := hq
      refine j_norm (pc' := 313) (st' := []) (ws' := [((am 34), .inr (8, [.ref a_all_m34, .int size_m34])), (a_all_m34, .inl (cI, n_a_all_m34, .inl b_a_all_m34)), (h0, .inr (9, moF am known_h0 thrown_h0 wrong_h0 lastEnd_h0 at_h0 bad_h0 levels_h0 least_h0 found_h0)), ((am 5), .inr (8, [.ref a_all_m5, .int size_m5])), (a_all_m5, .inl (cI, n_a_all_m5, .inl b_a_all_m5)), ((am 6), .inr (8, [.ref a_all_m6, .int size_m6])), (a_all_m6, .inl (cI, n_a_all_m6, .inl b_a_all_m6)), ((am 24), .inr (8, [.ref q72, .int r45])), ((am 25), .inr (8, [.ref q73, .int r46])), ((am 26), .inr (8, [.ref q74, .int r47])), ((am 27), .inr (8, [.ref q75, .int r48])), ((am 28), .inr (8, [.ref q76, .int r49])), ((am 29), .inr (8, [.ref q77, .int r50])), ((am 30), .inr (8, [.ref q78, .int r51])), ((am 31), .inr (8, [.ref q79, .int r52])), ((am 33), .inr (8, [.ref q80, .int r53])), (q72, .inl (cI, r54, .inl r55)), (q73, .inl (cI, r56, .inl r57)), (q74, .inl (cI, r58, .inl r59)), (q75, .inl (cI, r60, .inl r61)), (q76, .inl (cI, r62, .inl r63)), (q77, .inl (cI, r64, .inl r65)), (q78, .inl (cI, r66, .inl r67)), (q79, .inl (cI, r68, .inl r69)), (q80, .inl (cI, r70, .inl r71))]) (cl' := 0 + C81) (sl' := 0 + S82) rfl rfl rfl rfl rfl rfl ?_
      replace h := lf_s h
      obtain ⟨h, e1, e2⟩ := h
      replace h := Prod.mk.inj h
      obtain ⟨h9, h⟩ := h
      subst h9
      replace h := Prod.mk.inj h
      obtain ⟨h9, h⟩ := h
      subst h9
      replace h := Prod.mk.inj h
      obtain ⟨h9, h⟩ := h
      subst h9
      replace h := Prod.mk.inj h
      obtain ⟨h9, h⟩ := h
      subst h9
      replace h := Prod.mk.inj h
      obtain ⟨h9, h⟩ := h
      subst h9
      replace h := Prod.mk.inj h
      obtain ⟨h9, h⟩ := h
      subst h9
      replace h := Prod.mk.inj h
      obtain ⟨h9, h⟩ := h
      subst h9
      replace h := Prod.mk.inj h
      obtain ⟨h9, h⟩ := h
      subst h9
      replace h := Prod.mk.inj h
      obtain ⟨h9, h⟩ := h
      subst h9
      replace h := Prod.mk.inj h
      obtain ⟨h9, h⟩ := h
      subst h9
      replace h := Prod.mk.inj h
      obtain ⟨h9, h⟩ := h
      subst h9
      replace h := Prod.mk.inj h
      obtain ⟨h9, h⟩ := h
      subst h9
      replace h := Prod.mk.inj h
      obtain ⟨h9, h⟩ := h
      subst h9
      replace h := Prod.mk.inj h
      obtain ⟨h9, h⟩ := h
      subst h9
      replace h := Prod.mk.inj h
      obtain ⟨h9, h⟩ := h
      subst h9
      replace h := Prod.mk.inj h
      obtain ⟨h9, h⟩ := h
      subst h9
      replace h := Prod.mk.inj h
      obtain ⟨h9, h⟩ := h
      subst h9
      replace h := Prod.mk.inj h
      obtain ⟨h9, h⟩ := h
      subst h9
      replace h := Prod.mk.inj h
      obtain ⟨h9, h⟩ := h
      subst h9
      replace h := Prod.mk.inj h
      obtain ⟨h9, h⟩ := h
      subst h9
      replace h := Prod.mk.inj h
      obtain ⟨h9, h⟩ := h
      subst h9
      replace h := Prod.mk.inj h
      obtain ⟨h9, h⟩ := h
      subst h9
      replace h := Prod.mk.inj h
      obtain ⟨h9, h⟩ := h
      subst h9
      replace h := Prod.mk.inj h
      obtain ⟨h9, h⟩ := h
      subst h9
      replace h := Prod.mk.inj h
      obtain ⟨h9, h⟩ := h
      subst h9
      replace h := Prod.mk.inj h
      obtain ⟨h9, h⟩ := h
      subst h9
      replace h := Prod.mk.inj h
      obtain ⟨h9, h⟩ := h
      subst h9
      subst h
      refine j_widen (cl' := mc) (sl' := ms) (by omega) (by omega) ?_
      exact j_vret (w := [(h0, .inr (9, moF am known_h0 thrown_h0 wrong_h0 lastEnd_h0 at_h0 bad_h0 levels_h0 least_h0 found_h0)), ((am 5), .inr (8, [.ref a_all_m5, .int size_m5])), (a_all_m5, .inl (cI, n_a_all_m5, .inl b_a_all_m5)), ((am 6), .inr (8, [.ref a_all_m6, .int size_m6])), (a_all_m6, .inl (cI, n_a_all_m6, .inl b_a_all_m6)), ((am 24), .inr (8, [.ref q72, .int r45])), ((am 25), .inr (8, [.ref q73, .int r46])), ((am 26), .inr (8, [.ref q74, .int r47])), ((am 27), .inr (8, [.ref q75, .int r48])), ((am 28), .inr (8, [.ref q76, .int r49])), ((am 29), .inr (8, [.ref q77, .int r50])), ((am 30), .inr (8, [.ref q78, .int r51])), ((am 31), .inr (8, [.ref q79, .int r52])), ((am 33), .inr (8, [.ref q80, .int r53])), ((am 34), .inr (8, [.ref a_all_m34, .int size_m34])), (a_all_m34, .inl (cI, n_a_all_m34, .inl b_a_all_m34)), (q72, .inl (cI, r54, .inl r55)), (q73, .inl (cI, r56, .inl r57)), (q74, .inl (cI, r58, .inl r59)), (q75, .inl (cI, r60, .inl r61)), (q76, .inl (cI, r62, .inl r63)), (q77, .inl (cI, r64, .inl r65)), (q78, .inl (cI, r66, .inl r67)), (q79, .inl (cI, r68, .inl r69)), (q80, .inl (cI, r70, .inl r71))]) hr d_Mo_buildStatement_313 [2, 3, 4, 5, 6, 7, 8, 9, 10, 11, 12, 13, 14, 15, 0, 1, 16, 17, 18, 19, 20, 21, 22, 23, 24] rfl (by decide) ⟨q72, q73, q74, q75, q76, q77, q78, q79, q80, rfl, rfl⟩
    · replace h := it_f c44 h
      by_cases c86 : (b_a_all_m5 (Int32.toNatClampNeg p2)) = 12
      · replace h := it_t c86 h
        refine j_tabIn (tgt := 304) (off := 292) d_Mo_buildStatement_12 12 c86 (by decide) (by decide) (by decide) (by decide) ?_
        refine j_aload_n d_Mo_buildStatement_304 rfl 1 rfl ?_
        refine j_iload_n d_Mo_buildStatement_305 rfl 2 rfl ?_
        refine j_iload_n d_Mo_buildStatement_306 rfl 3 rfl ?_
        refine j_iload_n d_Mo_buildStatement_307 rfl 4 rfl ?_
        refine j_iconst (v := 1) d_Mo_buildStatement_308 (by decide) ?_
        refine j_isub d_Mo_buildStatement_309 ?_
        replace h := bw_s h
        obtain ⟨⟨r87, r88, r89, r90, r91, r92, r93, r94, r95, r96, r97, r98, r99, r100, r101, r102, r103, r104, r105, r106, r107, r108, r109, r110, r111, r112, r113⟩, C123, S124, C125, S126, k127, h, e1, e2⟩ := h
        replace hC : 0 + C123 + C125 ≤ mc := by omega
        replace hS : 0 + S124 + S126 ≤ ms := by omega
        clear e1 e2
        refine j_callV (n := 3) (As := [.int p1, .int p2, .int (p3 - 1)]) (rest := []) (wr := [((am 34), .inr (8, [.ref a_all_m34, .int size_m34])), (a_all_m34, .inl (cI, n_a_all_m34, .inl b_a_all_m34))]) (c_Mo_buildSimple l D cI cB cJ cS h0 am a_all_m5 a_all_m6 a_all_m24 a_all_m25 a_all_m26 a_all_m27 a_all_m28 a_all_m29 a_all_m30 a_all_m31 a_all_m33 p1 p2 (p3 - 1) known_h0 thrown_h0 wrong_h0 lastEnd_h0 at_h0 bad_h0 levels_h0 least_h0 found_h0 size_m5 n_a_all_m5 b_a_all_m5 size_m6 n_a_all_m6 b_a_all_m6 size_m24 n_a_all_m24 b_a_all_m24 size_m25 n_a_all_m25 b_a_all_m25 size_m26 n_a_all_m26 b_a_all_m26 size_m27 n_a_all_m27 b_a_all_m27 size_m28 n_a_all_m28 b_a_all_m28 size_m29 n_a_all_m29 b_a_all_m29 size_m30 n_a_all_m30 b_a_all_m30 size_m31 n_a_all_m31 b_a_all_m31 size_m33 n_a_all_m33 b_a_all_m33  r87 r88 r89 r90 r91 r92 r93 r94 r95 r96 r97 r98 r99 r100 r101 r102 r103 r104 r105 r106 r107 r108 r109 r110 r111 r112 r113 C123 S124 k127) k_Mo_442 (by decide) ⟨Nat.le_of_ble_eq_true rfl, Nat.le_of_ble_eq_true rfl⟩ rfl 0 rfl [0, 23, 24, 1, 2, 3, 4, 5, 6, 7, 8, 9, 10, 11, 12, 13, 14, 15, 16, 17, 18, 19, 20] [21, 22] rfl (by decide +kernel) rfl (by decide +kernel) (by decide +kernel) rfl rfl (Nat.le_of_ble_eq_true rfl) d_Mo_buildStatement_310 ⟨show 0 + C123 ≤ mc by omega, show 0 + S124 ≤ ms by omega⟩ (fun v w hq => ?_)
        obtain ⟨q114, q115, q116, q117, q118, q119, q120, q121, q122, rfl, rfl⟩ := hq
        refine j_norm (pc' := 313) (st' := []) (ws' := [((am 34), .inr (8, [.ref a_all_m34, .int size_m34])), (a_all_m34, .inl (cI, n_a_all_m34, .inl b_a_all_m34)), (h0, .inr (9, moF am known_h0 thrown_h0 wrong_h0 lastEnd_h0 at_h0 bad_h0 levels_h0 least_h0 found_h0)), ((am 5), .inr (8, [.ref a_all_m5, .int size_m5])), (a_all_m5, .inl (cI, n_a_all_m5, .inl b_a_all_m5)), ((am 6), .inr (8, [.ref a_all_m6, .int size_m6])), (a_all_m6, .inl (cI, n_a_all_m6, .inl b_a_all_m6)), ((am 24), .inr (8, [.ref q114, .int r87])), ((am 25), .inr (8, [.ref q115, .int r88])), ((am 26), .inr (8, [.ref q116, .int r89])), ((am 27), .inr (8, [.ref q117, .int r90])), ((am 28), .inr (8, [.ref q118, .int r91])), ((am 29), .inr (8, [.ref q119, .int r92])), ((am 30), .inr (8, [.ref q120, .int r93])), ((am 31), .inr (8, [.ref q121, .int r94])), ((am 33), .inr (8, [.ref q122, .int r95])), (q114, .inl (cI, r96, .inl r97)), (q115, .inl (cI, r98, .inl r99)), (q116, .inl (cI, r100, .inl r101)), (q117, .inl (cI, r102, .inl r103)), (q118, .inl (cI, r104, .inl r105)), (q119, .inl (cI, r106, .inl r107)), (q120, .inl (cI, r108, .inl r109)), (q121, .inl (cI, r110, .inl r111)), (q122, .inl (cI, r112, .inl r113))]) (cl' := 0 + C123) (sl' := 0 + S124) rfl rfl rfl rfl rfl rfl ?_
        replace h := lf_s h
        obtain ⟨h, e1, e2⟩ := h
        replace h := Prod.mk.inj h
        obtain ⟨h9, h⟩ := h
        subst h9
        replace h := Prod.mk.inj h
        obtain ⟨h9, h⟩ := h
        subst h9
        replace h := Prod.mk.inj h
        obtain ⟨h9, h⟩ := h
        subst h9
        replace h := Prod.mk.inj h
        obtain ⟨h9, h⟩ := h
        subst h9
        replace h := Prod.mk.inj h
        obtain ⟨h9, h⟩ := h
        subst h9
        replace h := Prod.mk.inj h
        obtain ⟨h9, h⟩ := h
        subst h9
        replace h := Prod.mk.inj h
        obtain ⟨h9, h⟩ := h
        subst h9
        replace h := Prod.mk.inj h
        obtain ⟨h9, h⟩ := h
        subst h9
        replace h := Prod.mk.inj h
        obtain ⟨h9, h⟩ := h
        subst h9
        replace h := Prod.mk.inj h
        obtain ⟨h9, h⟩ := h
        subst h9
        replace h := Prod.mk.inj h
        obtain ⟨h9, h⟩ := h
        subst h9
        replace h := Prod.mk.inj h
        obtain ⟨h9, h⟩ := h
        subst h9
        replace h := Prod.mk.inj h
        obtain ⟨h9, h⟩ := h
        subst h9
        replace h := Prod.mk.inj h
        obtain ⟨h9, h⟩ := h
        subst h9
        replace h := Prod.mk.inj h
        obtain ⟨h9, h⟩ := h
        subst h9
        replace h := Prod.mk.inj h
        obtain ⟨h9, h⟩ := h
        subst h9
        replace h := Prod.mk.inj h
        obtain ⟨h9, h⟩ := h
        subst h9
        replace h := Prod.mk.inj h
        obtain ⟨h9, h⟩ := h
        subst h9
        replace h := Prod.mk.inj h
        obtain ⟨h9, h⟩ := h
        subst h9
        replace h := Prod.mk.inj h
        obtain ⟨h9, h⟩ := h
        subst h9
        replace h := Prod.mk.inj h
        obtain ⟨h9, h⟩ := h
        subst h9
        replace h := Prod.mk.inj h
        obtain ⟨h9, h⟩ := h
        subst h9
        replace h := Prod.mk.inj h
        obtain ⟨h9, h⟩ := h
        subst h9
        replace h := Prod.mk.inj h
        obtain ⟨h9, h⟩ := h
        subst h9
        replace h := Prod.mk.inj h
        obtain ⟨h9, h⟩ := h
        subst h9
        replace h := Prod.mk.inj h
        obtain ⟨h9, h⟩ := h
        subst h9
        replace h := Prod.mk.inj h
        obtain ⟨h9, h⟩ := h
        subst h9
        subst h
        refine j_widen (cl' := mc) (sl' := ms) (by omega) (by omega) ?_
        exact j_vret (w := [(h0, .inr (9, moF am known_h0 thrown_h0 wrong_h0 lastEnd_h0 at_h0 bad_h0 levels_h0 least_h0 found_h0)), ((am 5), .inr (8, [.ref a_all_m5, .int size_m5])), (a_all_m5, .inl (cI, n_a_all_m5, .inl b_a_all_m5)), ((am 6), .inr (8, [.ref a_all_m6, .int size_m6])), (a_all_m6, .inl (cI, n_a_all_m6, .inl b_a_all_m6)), ((am 24), .inr (8, [.ref q114, .int r87])), ((am 25), .inr (8, [.ref q115, .int r88])), ((am 26), .inr (8, [.ref q116, .int r89])), ((am 27), .inr (8, [.ref q117, .int r90])), ((am 28), .inr (8, [.ref q118, .int r91])), ((am 29), .inr (8, [.ref q119, .int r92])), ((am 30), .inr (8, [.ref q120, .int r93])), ((am 31), .inr (8, [.ref q121, .int r94])), ((am 33), .inr (8, [.ref q122, .int r95])), ((am 34), .inr (8, [.ref a_all_m34, .int size_m34])), (a_all_m34, .inl (cI, n_a_all_m34, .inl b_a_all_m34)), (q114, .inl (cI, r96, .inl r97)), (q115, .inl (cI, r98, .inl r99)), (q116, .inl (cI, r100, .inl r101)), (q117, .inl (cI, r102, .inl r103)), (q118, .inl (cI, r104, .inl r105)), (q119, .inl (cI, r106, .inl r107)), (q120, .inl (cI, r108, .inl r109)), (q121, .inl (cI, r110, .inl r111)), (q122, .inl (cI, r112, .inl r113))]) hr d_Mo_buildStatement_313 [2, 3, 4, 5, 6, 7, 8, 9, 10, 11, 12, 13, 14, 15, 0, 1, 16, 17, 18, 19, 20, 21, 22, 23, 24] rfl (by decide) ⟨q114, q115, q116, q117, q118, q119, q120, q121, q122, rfl, rfl⟩
      · replace h := it_f c86 h
        by_cases c128 : (b_a_all_m5 (Int32.toNatClampNeg p2)) = 13
        · replace h := it_t c128 h
          refine j_tabIn (tgt := 304) (off := 292) d_Mo_buildStatement_12 13 c128 (by decide) (by decide) (by decide) (by decide) ?_
          refine j_aload_n d_Mo_buildStatement_304 rfl 1 rfl ?_
          refine j_iload_n d_Mo_buildStatement_305 rfl 2 rfl ?_
          refine j_iload_n d_Mo_buildStatement_306 rfl 3 rfl ?_
          refine j_iload_n d_Mo_buildStatement_307 rfl 4 rfl ?_
          refine j_iconst (v := 1) d_Mo_buildStatement_308 (by decide) ?_
          refine j_isub d_Mo_buildStatement_309 ?_
          replace h := bw_s h
          obtain ⟨⟨r129, r130, r131, r132, r133, r134, r135, r136, r137, r138, r139, r140, r141, r142, r143, r144, r145, r146, r147, r148, r149, r150, r151, r152, r153, r154, r155⟩, C165, S166, C167, S168, k169, h, e1, e2⟩ := h
          replace hC : 0 + C165 + C167 ≤ mc := by omega
          replace hS : 0 + S166 + S168 ≤ ms := by omega
          clear e1 e2
          refine j_callV (n := 3) (As := [.int p1, .int p2, .int (p3 - 1)]) (rest := []) (wr := [((am 34), .inr (8, [.ref a_all_m34, .int size_m34])), (a_all_m34, .inl (cI, n_a_all_m34, .inl b_a_all_m34))]) (c_Mo_buildSimple l D cI cB cJ cS h0 am a_all_m5 a_all_m6 a_all_m24 a_all_m25 a_all_m26 a_all_m27 a_all_m28 a_all_m29 a_all_m30 a_all_m31 a_all_m33 p1 p2 (p3 - 1) known_h0 thrown_h0 wrong_h0 lastEnd_h0 at_h0 bad_h0 levels_h0 least_h0 found_h0 size_m5 n_a_all_m5 b_a_all_m5 size_m6 n_a_all_m6 b_a_all_m6 size_m24 n_a_all_m24 b_a_all_m24 size_m25 n_a_all_m25 b_a_all_m25 size_m26 n_a_all_m26 b_a_all_m26 size_m27 n_a_all_m27 b_a_all_m27 size_m28 n_a_all_m28 b_a_all_m28 size_m29 n_a_all_m29 b_a_all_m29 size_m30 n_a_all_m30 b_a_all_m30 size_m31 n_a_all_m31 b_a_all_m31 size_m33 n_a_all_m33 b_a_all_m33  r129 r130 r131 r132 r133 r134 r135 r136 r137 r138 r139 r140 r141 r142 r143 r144 r145 r146 r147 r148 r149 r150 r151 r152 r153 r154 r155 C165 S166 k169) k_Mo_442 (by decide) ⟨Nat.le_of_ble_eq_true rfl, Nat.le_of_ble_eq_true rfl⟩ rfl 0 rfl [0, 23, 24, 1, 2, 3, 4, 5, 6, 7, 8, 9, 10, 11, 12, 13, 14, 15, 16, 17, 18, 19, 20] [21, 22] rfl (by decide +kernel) rfl (by decide +kernel) (by decide +kernel) rfl rfl (Nat.le_of_ble_eq_true rfl) d_Mo_buildStatement_310 ⟨show 0 + C165 ≤ mc by omega, show 0 + S166 ≤ ms by omega⟩ (fun v w hq => ?_)
          obtain ⟨q156, q157, q158, q159, q160, q161, q162, q163, q164, rfl, rfl⟩ := hq
          refine j_norm (pc' := 313) (st' := []) (ws' := [((am 34), .inr (8, [.ref a_all_m34, .int size_m34])), (a_all_m34, .inl (cI, n_a_all_m34, .inl b_a_all_m34)), (h0, .inr (9, moF am known_h0 thrown_h0 wrong_h0 lastEnd_h0 at_h0 bad_h0 levels_h0 least_h0 found_h0)), ((am 5), .inr (8, [.ref a_all_m5, .int size_m5])), (a_all_m5, .inl (cI, n_a_all_m5, .inl b_a_all_m5)), ((am 6), .inr (8, [.ref a_all_m6, .int size_m6])), (a_all_m6, .inl (cI, n_a_all_m6, .inl b_a_all_m6)), ((am 24), .inr (8, [.ref q156, .int r129])), ((am 25), .inr (8, [.ref q157, .int r130])), ((am 26), .inr (8, [.ref q158, .int r131])), ((am 27), .inr (8, [.ref q159, .int r132])), ((am 28), .inr (8, [.ref q160, .int r133])), ((am 29), .inr (8, [.ref q161, .int r134])), ((am 30), .inr (8, [.ref q162, .int r135])), ((am 31), .inr (8, [.ref q163, .int r136])), ((am 33), .inr (8, [.ref q164, .int r137])), (q156, .inl (cI, r138, .inl r139)), (q157, .inl (cI, r140, .inl r141)), (q158, .inl (cI, r142, .inl r143)), (q159, .inl (cI, r144, .inl r145)), (q160, .inl (cI, r146, .inl r147)), (q161, .inl (cI, r148, .inl r149)), (q162, .inl (cI, r150, .inl r151)), (q163, .inl (cI, r152, .inl r153)), (q164, .inl (cI, r154, .inl r155))]) (cl' := 0 + C165) (sl' := 0 + S166) rfl rfl rfl rfl rfl rfl ?_
          replace h := lf_s h
          obtain ⟨h, e1, e2⟩ := h
          replace h := Prod.mk.inj h
          obtain ⟨h9, h⟩ := h
          subst h9
          replace h := Prod.mk.inj h
          obtain ⟨h9, h⟩ := h
          subst h9
          replace h := Prod.mk.inj h
          obtain ⟨h9, h⟩ := h
          subst h9
          replace h := Prod.mk.inj h
          obtain ⟨h9, h⟩ := h
          subst h9
          replace h := Prod.mk.inj h
          obtain ⟨h9, h⟩ := h
          subst h9
          replace h := Prod.mk.inj h
          obtain ⟨h9, h⟩ := h
          subst h9
          replace h := Prod.mk.inj h
          obtain ⟨h9, h⟩ := h
          subst h9
          replace h := Prod.mk.inj h
          obtain ⟨h9, h⟩ := h
          subst h9
          replace h := Prod.mk.inj h
          obtain ⟨h9, h⟩ := h
          subst h9
          replace h := Prod.mk.inj h
          obtain ⟨h9, h⟩ := h
          subst h9
          replace h := Prod.mk.inj h
          obtain ⟨h9, h⟩ := h
          subst h9
          replace h := Prod.mk.inj h
          obtain ⟨h9, h⟩ := h
          subst h9
          replace h := Prod.mk.inj h
          obtain ⟨h9, h⟩ := h
          subst h9
          replace h := Prod.mk.inj h
          obtain ⟨h9, h⟩ := h
          subst h9
          replace h := Prod.mk.inj h
          obtain ⟨h9, h⟩ := h
          subst h9
          replace h := Prod.mk.inj h
          obtain ⟨h9, h⟩ := h
          subst h9
          replace h := Prod.mk.inj h
          obtain ⟨h9, h⟩ := h
          subst h9
          replace h := Prod.mk.inj h
          obtain ⟨h9, h⟩ := h
          subst h9
          replace h := Prod.mk.inj h
          obtain ⟨h9, h⟩ := h
          subst h9
          replace h := Prod.mk.inj h
          obtain ⟨h9, h⟩ := h
          subst h9
          replace h := Prod.mk.inj h
          obtain ⟨h9, h⟩ := h
          subst h9
          replace h := Prod.mk.inj h
          obtain ⟨h9, h⟩ := h
          subst h9
          replace h := Prod.mk.inj h
          obtain ⟨h9, h⟩ := h
          subst h9
          replace h := Prod.mk.inj h
          obtain ⟨h9, h⟩ := h
          subst h9
          replace h := Prod.mk.inj h
          obtain ⟨h9, h⟩ := h
          subst h9
          replace h := Prod.mk.inj h
          obtain ⟨h9, h⟩ := h
          subst h9
          replace h := Prod.mk.inj h
          obtain ⟨h9, h⟩ := h
          subst h9
          subst h
          refine j_widen (cl' := mc) (sl' := ms) (by omega) (by omega) ?_
          exact j_vret (w := [(h0, .inr (9, moF am known_h0 thrown_h0 wrong_h0 lastEnd_h0 at_h0 bad_h0 levels_h0 least_h0 found_h0)), ((am 5), .inr (8, [.ref a_all_m5, .int size_m5])), (a_all_m5, .inl (cI, n_a_all_m5, .inl b_a_all_m5)), ((am 6), .inr (8, [.ref a_all_m6, .int size_m6])), (a_all_m6, .inl (cI, n_a_all_m6, .inl b_a_all_m6)), ((am 24), .inr (8, [.ref q156, .int r129])), ((am 25), .inr (8, [.ref q157, .int r130])), ((am 26), .inr (8, [.ref q158, .int r131])), ((am 27), .inr (8, [.ref q159, .int r132])), ((am 28), .inr (8, [.ref q160, .int r133])), ((am 29), .inr (8, [.ref q161, .int r134])), ((am 30), .inr (8, [.ref q162, .int r135])), ((am 31), .inr (8, [.ref q163, .int r136])), ((am 33), .inr (8, [.ref q164, .int r137])), ((am 34), .inr (8, [.ref a_all_m34, .int size_m34])), (a_all_m34, .inl (cI, n_a_all_m34, .inl b_a_all_m34)), (q156, .inl (cI, r138, .inl r139)), (q157, .inl (cI, r140, .inl r141)), (q158, .inl (cI, r142, .inl r143)), (q159, .inl (cI, r144, .inl r145)), (q160, .inl (cI, r146, .inl r147)), (q161, .inl (cI, r148, .inl r149)), (q162, .inl (cI, r150, .inl r151)), (q163, .inl (cI, r152, .inl r153)), (q164, .inl (cI, r154, .inl r155))]) hr d_Mo_buildStatement_313 [2, 3, 4, 5, 6, 7, 8, 9, 10, 11, 12, 13, 14, 15, 0, 1, 16, 17, 18, 19, 20, 21, 22, 23, 24] rfl (by decide) ⟨q156, q157, q158, q159, q160, q161, q162, q163, q164, rfl, rfl⟩
        · replace h := it_f c128 h
          by_cases c170 : (b_a_all_m5 (Int32.toNatClampNeg p2)) = 14
          · replace h := it_t c170 h
            refine j_tabIn (tgt := 102) (off := 90) d_Mo_buildStatement_12 14 c170 (by decide) (by decide) (by decide) (by decide) ?_
            refine j_aload_n d_Mo_buildStatement_102 rfl 1 rfl ?_
            refine j_iload_n d_Mo_buildStatement_103 rfl 2 rfl ?_
            refine j_bipush (v := 12) d_Mo_buildStatement_104 (by decide) ?_
            refine j_iload_n d_Mo_buildStatement_106 rfl 3 rfl ?_
            replace h := bw_s h
            obtain ⟨⟨r171, r172, r173, r174, r175, r176, r177, r178, r179, r180, r181, r182, r183, r184, r185, r186, r187, r188, r189⟩, C198, S199, C200, S201, k202, h, e1, e2⟩ := h
            replace hC : 0 + C198 + C200 ≤ mc := by omega
            replace hS : 0 + S199 + S201 ≤ ms := by omega
            clear e1 e2
            refine j_callV (n := 3) (As := [.int p1, .int 12, .int p2]) (rest := []) (wr := [((am 33), .inr (8, [.ref a_all_m33, .int size_m33])), (a_all_m33, .inl (cI, n_a_all_m33, .inl b_a_all_m33)), ((am 34), .inr (8, [.ref a_all_m34, .int size_m34])), (a_all_m34, .inl (cI, n_a_all_m34, .inl b_a_all_m34)), ((am 5), .inr (8, [.ref a_all_m5, .int size_m5])), (a_all_m5, .inl (cI, n_a_all_m5, .inl b_a_all_m5))]) (c_Mo_leafNode l D cI cB cJ cS h0 am a_all_m6 a_all_m24 a_all_m25 a_all_m26 a_all_m27 a_all_m28 a_all_m29 a_all_m30 a_all_m31 p1 12 p2 known_h0 thrown_h0 wrong_h0 lastEnd_h0 at_h0 bad_h0 levels_h0 least_h0 found_h0 size_m6 n_a_all_m6 b_a_all_m6 size_m24 n_a_all_m24 b_a_all_m24 size_m25 n_a_all_m25 b_a_all_m25 size_m26 n_a_all_m26 b_a_all_m26 size_m27 n_a_all_m27 b_a_all_m27 size_m28 n_a_all_m28 b_a_all_m28 size_m29 n_a_all_m29 b_a_all_m29 size_m30 n_a_all_m30 b_a_all_m30 size_m31 n_a_all_m31 b_a_all_m31  r171 r172 r173 r174 r175 r176 r177 r178 r179 r180 r181 r182 r183 r184 r185 r186 r187 r188 r189 C198 S199 k202) k_Mo_426 (by decide) ⟨Nat.le_of_ble_eq_true rfl, Nat.le_of_ble_eq_true rfl⟩ rfl 0 rfl [0, 1, 2, 3, 4, 5, 6, 7, 8, 9, 10, 11, 12, 13, 14, 15, 16, 17, 18] [19, 20, 21, 22, 23, 24] rfl (by decide +kernel) rfl (by decide +kernel) (by decide +kernel) rfl rfl (Nat.le_of_ble_eq_true rfl) d_Mo_buildStatement_107 ⟨show 0 + C198 ≤ mc by omega, show 0 + S199 ≤ ms by omega⟩ (fun v w hq => ?_)
            obtain ⟨q190, q191, q192, q193, q194, q195, q196, q197, rfl, rfl⟩ := hq
            refine j_norm (pc' := 110) (st' := [.int size_m24]) (ws' := [((am 33), .inr (8, [.ref a_all_m33, .int size_m33])), (a_all_m33, .inl (cI, n_a_all_m33, .inl b_a_all_m33)), ((am 34), .inr (8, [.ref a_all_m34, .int size_m34])), (a_all_m34, .inl (cI, n_a_all_m34, .inl b_a_all_m34)), ((am 5), .inr (8, [.ref a_all_m5, .int size_m5])), (a_all_m5, .inl (cI, n_a_all_m5, .inl b_a_all_m5)), (h0, .inr (9, moF am known_h0 thrown_h0 wrong_h0 lastEnd_h0 at_h0 bad_h0 levels_h0 least_h0 found_h0)), ((am 6), .inr (8, [.ref a_all_m6, .int size_m6])), (a_all_m6, .inl (cI, n_a_all_m6, .inl b_a_all_m6)), ((am 24), .inr (8, [.ref q190, .int (size_m24 + 1)])), ((am 25), .inr (8, [.ref q191, .int (size_m25 + 1)])), ((am 26), .inr (8, [.ref q192, .int (size_m26 + 1)])), ((am 27), .inr (8, [.ref q193, .int (size_m27 + 1)])), ((am 28), .inr (8, [.ref q194, .int r171])), ((am 29), .inr (8, [.ref q195, .int r172])), ((am 30), .inr (8, [.ref q196, .int r173])), ((am 31), .inr (8, [.ref q197, .int (size_m31 + 1)])), (q190, .inl (cI, r174, .inl r175)), (q191, .inl (cI, r176, .inl r177)), (q192, .inl (cI, r178, .inl r179)), (q193, .inl (cI, r180, .inl r181)), (q194, .inl (cI, r182, .inl r183)), (q195, .inl (cI, r184, .inl r185)), (q196, .inl (cI, r186, .inl r187)), (q197, .inl (cI, r188, .inl r189))]) (cl' := 0 + C198) (sl' := 0 + S199) rfl rfl rfl rfl rfl rfl ?_
            refine j_istore (lv' := [(5, .int size_m24), (4, .int (b_a_all_m5 (Int32.toNatClampNeg p2))), (0, .ref h0), (1, .int p1), (2, .int p2), (3, .int p3)]) d_Mo_buildStatement_110 (by decide) rfl ?_
            refine j_aload_n d_Mo_buildStatement_112 rfl 2 rfl ?_
            refine j_iload_n d_Mo_buildStatement_113 rfl 4 rfl ?_
            refine j_iconst (v := 1) d_Mo_buildStatement_114 (by decide) ?_
            refine j_iadd d_Mo_buildStatement_115 ?_
            replace h := bd_s h
            obtain ⟨r203, k204, h⟩ := h
            refine j_callV (n := 1) (As := [.int (p2 + 1)]) (rest := []) (wr := [((am 33), .inr (8, [.ref a_all_m33, .int size_m33])), (a_all_m33, .inl (cI, n_a_all_m33, .inl b_a_all_m33)), ((am 34), .inr (8, [.ref a_all_m34, .int size_m34])), (a_all_m34, .inl (cI, n_a_all_m34, .inl b_a_all_m34)), ((am 6), .inr (8, [.ref a_all_m6, .int size_m6])), (a_all_m6, .inl (cI, n_a_all_m6, .inl b_a_all_m6)), ((am 24), .inr (8, [.ref q190, .int (size_m24 + 1)])), ((am 25), .inr (8, [.ref q191, .int (size_m25 + 1)])), ((am 26), .inr (8, [.ref q192, .int (size_m26 + 1)])), ((am 27), .inr (8, [.ref q193, .int (size_m27 + 1)])), ((am 28), .inr (8, [.ref q194, .int r171])), ((am 29), .inr (8, [.ref q195, .int r172])), ((am 30), .inr (8, [.ref q196, .int r173])), ((am 31), .inr (8, [.ref q197, .int (size_m31 + 1)])), (q190, .inl (cI, r174, .inl r175)), (q191, .inl (cI, r176, .inl r177)), (q192, .inl (cI, r178, .inl r179)), (q193, .inl (cI, r180, .inl r181)), (q194, .inl (cI, r182, .inl r183)), (q195, .inl (cI, r184, .inl r185)), (q196, .inl (cI, r186, .inl r187)), (q197, .inl (cI, r188, .inl r189))]) (c_Mo_closing l D cI cB cJ cS h0 am a_all_m5 (p2 + 1) known_h0 thrown_h0 wrong_h0 lastEnd_h0 at_h0 bad_h0 levels_h0 least_h0 found_h0 size_m5 n_a_all_m5 b_a_all_m5  r203 k204) k_Mo_350 (by decide) ⟨Nat.le_of_ble_eq_true rfl, Nat.le_of_ble_eq_true rfl⟩ rfl 0 rfl [6, 4, 5] [0, 1, 2, 3, 7, 8, 9, 10, 11, 12, 13, 14, 15, 16, 17, 18, 19, 20, 21, 22, 23, 24] rfl (by decide +kernel) rfl (by decide +kernel) (by decide +kernel) rfl rfl (Nat.le_of_ble_eq_true rfl) d_Mo_buildStatement_116 ⟨show 0 + C198 + 0 ≤ mc by omega, show 0 + S199 + 0 ≤ ms by omega⟩ (fun v w hq => ?_)
            obtain ⟨rfl, rfl⟩ := hq
            refine j_norm (pc' := 119) (st' := [.int r203]) (ws' := [((am 33), .inr (8, [.ref a_all_m33, .int size_m33])), (a_all_m33, .inl (cI, n_a_all_m33, .inl b_a_all_m33)), ((am 34), .inr (8, [.ref a_all_m34, .int size_m34])), (a_all_m34, .inl (cI, n_a_all_m34, .inl b_a_all_m34)), ((am 6), .inr (8, [.ref a_all_m6, .int size_m6])), (a_all_m6, .inl (cI, n_a_all_m6, .inl b_a_all_m6)), ((am 24), .inr (8, [.ref q190, .int (size_m24 + 1)])), ((am 25), .inr (8, [.ref q191, .int (size_m25 + 1)])), ((am 26), .inr (8, [.ref q192, .int (size_m26 + 1)])), ((am 27), .inr (8, [.ref q193, .int (size_m27 + 1)])), ((am 28), .inr (8, [.ref q194, .int r171])), ((am 29), .inr (8, [.ref q195, .int r172])), ((am 30), .inr (8, [.ref q196, .int r173])), ((am 31), .inr (8, [.ref q197, .int (size_m31 + 1)])), (q190, .inl (cI, r174, .inl r175)), (q191, .inl (cI, r176, .inl r177)), (q192, .inl (cI, r178, .inl r179)), (q193, .inl (cI, r180, .inl r181)), (q194, .inl (cI, r182, .inl r183)), (q195, .inl (cI, r184, .inl r185)), (q196, .inl (cI, r186, .inl r187)), (q197, .inl (cI, r188, .inl r189)), (h0, .inr (9, moF am known_h0 thrown_h0 wrong_h0 lastEnd_h0 at_h0 bad_h0 levels_h0 least_h0 found_h0)), ((am 5), .inr (8, [.ref a_all_m5, .int size_m5])), (a_all_m5, .inl (cI, n_a_all_m5, .inl b_a_all_m5))]) (cl' := 0 + C198) (sl' := 0 + S199) rfl rfl rfl rfl rfl rfl ?_
            refine j_istore (lv' := [(6, .int r203), (5, .int size_m24), (4, .int (b_a_all_m5 (Int32.toNatClampNeg p2))), (0, .ref h0), (1, .int p1), (2, .int p2), (3, .int p3)]) d_Mo_buildStatement_119 (by decide) rfl ?_
            refine j_aload_n d_Mo_buildStatement_121 rfl 3 rfl ?_
            refine j_iconst (v := 1) d_Mo_buildStatement_122 (by decide) ?_
            refine j_iload d_Mo_buildStatement_123 1 rfl ?_
            refine j_iload_n d_Mo_buildStatement_125 rfl 5 rfl ?_
            refine j_iconst (v := 2) d_Mo_buildStatement_126 (by decide) ?_
            refine j_iadd d_Mo_buildStatement_127 ?_
            refine j_iload d_Mo_buildStatement_128 0 rfl ?_
            refine j_iconst (v := 1) d_Mo_buildStatement_130 (by decide) ?_
            replace h := bw_s h
            obtain ⟨⟨r205, r206⟩, C208, S209, C210, S211, k212, h, e1, e2⟩ := h
            replace hC : 0 + C198 + C208 + C210 ≤ mc := by omega
            replace hS : 0 + S199 + S209 + S211 ≤ ms := by omega
            clear e1 e2
            refine j_callV (n := 5) (As := [.int 1, .int size_m24, .int (p2 + 2), .int r203, .int 1]) (rest := []) (wr := [((am 34), .inr (8, [.ref a_all_m34, .int size_m34])), (a_all_m34, .inl (cI, n_a_all_m34, .inl b_a_all_m34)), ((am 6), .inr (8, [.ref a_all_m6, .int size_m6])), (a_all_m6, .inl (cI, n_a_all_m6, .inl b_a_all_m6)), ((am 24), .inr (8, [.ref q190, .int (size_m24 + 1)])), ((am 25), .inr (8, [.ref q191, .int (size_m25 + 1)])), ((am 26), .inr (8, [.ref q192, .int (size_m26 + 1)])), ((am 27), .inr (8, [.ref q193, .int (size_m27 + 1)])), ((am 28), .inr (8, [.ref q194, .int r171])), ((am 29), .inr (8, [.ref q195, .int r172])), ((am 30), .inr (8, [.ref q196, .int r173])), ((am 31), .inr (8, [.ref q197, .int (size_m31 + 1)])), (q190, .inl (cI, r174, .inl r175)), (q191, .inl (cI, r176, .inl r177)), (q192, .inl (cI, r178, .inl r179)), (q193, .inl (cI, r180, .inl r181)), (q194, .inl (cI, r182, .inl r183)), (q195, .inl (cI, r184, .inl r185)), (q196, .inl (cI, r186, .inl r187)), (q197, .inl (cI, r188, .inl r189)), ((am 5), .inr (8, [.ref a_all_m5, .int size_m5])), (a_all_m5, .inl (cI, n_a_all_m5, .inl b_a_all_m5))]) (c_Mo_task l D cI cB cJ cS h0 am a_all_m33 1 size_m24 (p2 + 2) r203 1 known_h0 thrown_h0 wrong_h0 lastEnd_h0 at_h0 bad_h0 levels_h0 least_h0 found_h0 size_m33 n_a_all_m33 b_a_all_m33  r205 r206 C208 S209 k212) k_Mo_390 (by decide) ⟨Nat.le_of_ble_eq_true rfl, Nat.le_of_ble_eq_true rfl⟩ rfl 0 rfl [22, 0, 1] [2, 3, 4, 5, 6, 7, 8, 9, 10, 11, 12, 13, 14, 15, 16, 17, 18, 19, 20, 21, 23, 24] rfl (by decide +kernel) rfl (by decide +kernel) (by decide +kernel) rfl rfl (Nat.le_of_ble_eq_true rfl) d_Mo_buildStatement_131 ⟨show 0 + C198 + C208 ≤ mc by omega, show 0 + S199 + S209 ≤ ms by omega⟩ (fun v w hq => ?_)
            obtain ⟨q207, rfl, rfl⟩ := hq
            refine j_norm (pc' := 134) (st' := []) (ws' := [((am 34), .inr (8, [.ref a_all_m34, .int size_m34])), (a_all_m34, .inl (cI, n_a_all_m34, .inl b_a_all_m34)), ((am 6), .inr (8, [.ref a_all_m6, .int size_m6])), (a_all_m6, .inl (cI, n_a_all_m6, .inl b_a_all_m6)), ((am 24), .inr (8, [.ref q190, .int (size_m24 + 1)])), ((am 25), .inr (8, [.ref q191, .int (size_m25 + 1)])), ((am 26), .inr (8, [.ref q192, .int (size_m26 + 1)])), ((am 27), .inr (8, [.ref q193, .int (size_m27 + 1)])), ((am 28), .inr (8, [.ref q194, .int r171])), ((am 29), .inr (8, [.ref q195, .int r172])), ((am 30), .inr (8, [.ref q196, .int r173])), ((am 31), .inr (8, [.ref q197, .int (size_m31 + 1)])), (q190, .inl (cI, r174, .inl r175)), (q191, .inl (cI, r176, .inl r177)), (q192, .inl (cI, r178, .inl r179)), (q193, .inl (cI, r180, .inl r181)), (q194, .inl (cI, r182, .inl r183)), (q195, .inl (cI, r184, .inl r185)), (q196, .inl (cI, r186, .inl r187)), (q197, .inl (cI, r188, .inl r189)), ((am 5), .inr (8, [.ref a_all_m5, .int size_m5])), (a_all_m5, .inl (cI, n_a_all_m5, .inl b_a_all_m5)), (h0, .inr (9, moF am known_h0 thrown_h0 wrong_h0 lastEnd_h0 at_h0 bad_h0 levels_h0 least_h0 found_h0)), ((am 33), .inr (8, [.ref q207, .int (((((size_m33 + 1) + 1) + 1) + 1) + 1)])), (q207, .inl (cI, r205, .inl r206))]) (cl' := 0 + C198 + C208) (sl' := 0 + S199 + S209) rfl rfl rfl rfl rfl rfl ?_
            refine j_aload_n d_Mo_buildStatement_134 rfl 3 rfl ?_
            refine j_iconst (v := 2) d_Mo_buildStatement_135 (by decide) ?_
            refine j_iload d_Mo_buildStatement_136 1 rfl ?_
            refine j_iload d_Mo_buildStatement_138 0 rfl ?_
            refine j_iconst (v := 1) d_Mo_buildStatement_140 (by decide) ?_
            refine j_iadd d_Mo_buildStatement_141 ?_
            refine j_iload_n d_Mo_buildStatement_142 rfl 6 rfl ?_
            refine j_iconst (v := 1) d_Mo_buildStatement_143 (by decide) ?_
            refine j_isub d_Mo_buildStatement_144 ?_
            refine j_iload d_Mo_buildStatement_145 0 rfl ?_
            replace h := bw_s h
            obtain ⟨⟨r213, r214⟩, C216, S217, C218, S219, k220, h, e1, e2⟩ := h
            replace hC : 0 + C198 + C208 + C216 + C218 ≤ mc := by omega
            replace hS : 0 + S199 + S209 + S217 + S219 ≤ ms := by omega
            clear e1 e2
            refine j_callV (n := 5) (As := [.int 2, .int size_m24, .int (r203 + 1), .int (p3 - 1), .int r203]) (rest := []) (wr := [((am 34), .inr (8, [.ref a_all_m34, .int size_m34])), (a_all_m34, .inl (cI, n_a_all_m34, .inl b_a_all_m34)), ((am 6), .inr (8, [.ref a_all_m6, .int size_m6])), (a_all_m6, .inl (cI, n_a_all_m6, .inl b_a_all_m6)), ((am 24), .inr (8, [.ref q190, .int (size_m24 + 1)])), ((am 25), .inr (8, [.ref q191, .int (size_m25 + 1)])), ((am 26), .inr (8, [.ref q192, .int (size_m26 + 1)])), ((am 27), .inr (8, [.ref q193, .int (size_m27 + 1)])), ((am 28), .inr (8, [.ref q194, .int r171])), ((am 29), .inr (8, [.ref q195, .int r172])), ((am 30), .inr (8, [.ref q196, .int r173])), ((am 31), .inr (8, [.ref q197, .int (size_m31 + 1)])), (q190, .inl (cI, r174, .inl r175)), (q191, .inl (cI, r176, .inl r177)), (q192, .inl (cI, r178, .inl r179)), (q193, .inl (cI, r180, .inl r181)), (q194, .inl (cI, r182, .inl r183)), (q195, .inl (cI, r184, .inl r185)), (q196, .inl (cI, r186, .inl r187)), (q197, .inl (cI, r188, .inl r189)), ((am 5), .inr (8, [.ref a_all_m5, .int size_m5])), (a_all_m5, .inl (cI, n_a_all_m5, .inl b_a_all_m5))]) (c_Mo_task l D cI cB cJ cS h0 am q207 2 size_m24 (r203 + 1) (p3 - 1) r203 known_h0 thrown_h0 wrong_h0 lastEnd_h0 at_h0 bad_h0 levels_h0 least_h0 found_h0 (((((size_m33 + 1) + 1) + 1) + 1) + 1) r205 r206  r213 r214 C216 S217 k220) k_Mo_390 (by decide) ⟨Nat.le_of_ble_eq_true rfl, Nat.le_of_ble_eq_true rfl⟩ rfl 0 rfl [22, 23, 24] [0, 1, 2, 3, 4, 5, 6, 7, 8, 9, 10, 11, 12, 13, 14, 15, 16, 17, 18, 19, 20, 21] rfl (by decide +kernel) rfl (by decide +kernel) (by decide +kernel) rfl rfl (Nat.le_of_ble_eq_true rfl) d_Mo_buildStatement_147 ⟨show 0 + C198 + C208 + C216 ≤ mc by omega, show 0 + S199 + S209 + S217 ≤ ms by omega⟩ (fun v w hq => ?_)
            obtain ⟨q215, rfl, rfl⟩ := hq
            refine j_norm (pc' := 150) (st' := []) (ws' := [((am 34), .inr (8, [.ref a_all_m34, .int size_m34])), (a_all_m34, .inl (cI, n_a_all_m34, .inl b_a_all_m34)), ((am 6), .inr (8, [.ref a_all_m6, .int size_m6])), (a_all_m6, .inl (cI, n_a_all_m6, .inl b_a_all_m6)), ((am 24), .inr (8, [.ref q190, .int (size_m24 + 1)])), ((am 25), .inr (8, [.ref q191, .int (size_m25 + 1)])), ((am 26), .inr (8, [.ref q192, .int (size_m26 + 1)])), ((am 27), .inr (8, [.ref q193, .int (size_m27 + 1)])), ((am 28), .inr (8, [.ref q194, .int r171])), ((am 29), .inr (8, [.ref q195, .int r172])), ((am 30), .inr (8, [.ref q196, .int r173])), ((am 31), .inr (8, [.ref q197, .int (size_m31 + 1)])), (q190, .inl (cI, r174, .inl r175)), (q191, .inl (cI, r176, .inl r177)), (q192, .inl (cI, r178, .inl r179)), (q193, .inl (cI, r180, .inl r181)), (q194, .inl (cI, r182, .inl r183)), (q195, .inl (cI, r184, .inl r185)), (q196, .inl (cI, r186, .inl r187)), (q197, .inl (cI, r188, .inl r189)), ((am 5), .inr (8, [.ref a_all_m5, .int size_m5])), (a_all_m5, .inl (cI, n_a_all_m5, .inl b_a_all_m5)), (h0, .inr (9, moF am known_h0 thrown_h0 wrong_h0 lastEnd_h0 at_h0 bad_h0 levels_h0 least_h0 found_h0)), ((am 33), .inr (8, [.ref q215, .int ((((((((((size_m33 + 1) + 1) + 1) + 1) + 1) + 1) + 1) + 1) + 1) + 1)])), (q215, .inl (cI, r213, .inl r214))]) (cl' := 0 + C198 + C208 + C216) (sl' := 0 + S199 + S209 + S217) rfl rfl rfl rfl rfl rfl ?_
            replace h := lf_s h
            obtain ⟨h, e1, e2⟩ := h
            replace h := Prod.mk.inj h
            obtain ⟨h9, h⟩ := h
            subst h9
            replace h := Prod.mk.inj h
            obtain ⟨h9, h⟩ := h
            subst h9
            replace h := Prod.mk.inj h
            obtain ⟨h9, h⟩ := h
            subst h9
            replace h := Prod.mk.inj h
            obtain ⟨h9, h⟩ := h
            subst h9
            replace h := Prod.mk.inj h
            obtain ⟨h9, h⟩ := h
            subst h9
            replace h := Prod.mk.inj h
            obtain ⟨h9, h⟩ := h
            subst h9
            replace h := Prod.mk.inj h
            obtain ⟨h9, h⟩ := h
            subst h9
            replace h := Prod.mk.inj h
            obtain ⟨h9, h⟩ := h
            subst h9
            replace h := Prod.mk.inj h
            obtain ⟨h9, h⟩ := h
            subst h9
            replace h := Prod.mk.inj h
            obtain ⟨h9, h⟩ := h
            subst h9
            replace h := Prod.mk.inj h
            obtain ⟨h9, h⟩ := h
            subst h9
            replace h := Prod.mk.inj h
            obtain ⟨h9, h⟩ := h
            subst h9
            replace h := Prod.mk.inj h
            obtain ⟨h9, h⟩ := h
            subst h9
            replace h := Prod.mk.inj h
            obtain ⟨h9, h⟩ := h
            subst h9
            replace h := Prod.mk.inj h
            obtain ⟨h9, h⟩ := h
            subst h9
            replace h := Prod.mk.inj h
            obtain ⟨h9, h⟩ := h
            subst h9
            replace h := Prod.mk.inj h
            obtain ⟨h9, h⟩ := h
            subst h9
            replace h := Prod.mk.inj h
            obtain ⟨h9, h⟩ := h
            subst h9
            replace h := Prod.mk.inj h
            obtain ⟨h9, h⟩ := h
            subst h9
            replace h := Prod.mk.inj h
            obtain ⟨h9, h⟩ := h
            subst h9
            replace h := Prod.mk.inj h
            obtain ⟨h9, h⟩ := h
            subst h9
            replace h := Prod.mk.inj h
            obtain ⟨h9, h⟩ := h
            subst h9
            replace h := Prod.mk.inj h
            obtain ⟨h9, h⟩ := h
            subst h9
            replace h := Prod.mk.inj h
            obtain ⟨h9, h⟩ := h
            subst h9
            replace h := Prod.mk.inj h
            obtain ⟨h9, h⟩ := h
            subst h9
            replace h := Prod.mk.inj h
            obtain ⟨h9, h⟩ := h
            subst h9
            replace h := Prod.mk.inj h
            obtain ⟨h9, h⟩ := h
            subst h9
            subst h
            refine j_widen (cl' := mc) (sl' := ms) (by omega) (by omega) ?_
            exact j_vret (w := [(h0, .inr (9, moF am known_h0 thrown_h0 wrong_h0 lastEnd_h0 at_h0 bad_h0 levels_h0 least_h0 found_h0)), ((am 5), .inr (8, [.ref a_all_m5, .int size_m5])), (a_all_m5, .inl (cI, n_a_all_m5, .inl b_a_all_m5)), ((am 6), .inr (8, [.ref a_all_m6, .int size_m6])), (a_all_m6, .inl (cI, n_a_all_m6, .inl b_a_all_m6)), ((am 24), .inr (8, [.ref q190, .int (size_m24 + 1)])), ((am 25), .inr (8, [.ref q191, .int (size_m25 + 1)])), ((am 26), .inr (8, [.ref q192, .int (size_m26 + 1)])), ((am 27), .inr (8, [.ref q193, .int (size_m27 + 1)])), ((am 28), .inr (8, [.ref q194, .int r171])), ((am 29), .inr (8, [.ref q195, .int r172])), ((am 30), .inr (8, [.ref q196, .int r173])), ((am 31), .inr (8, [.ref q197, .int (size_m31 + 1)])), ((am 33), .inr (8, [.ref q215, .int ((((((((((size_m33 + 1) + 1) + 1) + 1) + 1) + 1) + 1) + 1) + 1) + 1)])), ((am 34), .inr (8, [.ref a_all_m34, .int size_m34])), (a_all_m34, .inl (cI, n_a_all_m34, .inl b_a_all_m34)), (q190, .inl (cI, r174, .inl r175)), (q191, .inl (cI, r176, .inl r177)), (q192, .inl (cI, r178, .inl r179)), (q193, .inl (cI, r180, .inl r181)), (q194, .inl (cI, r182, .inl r183)), (q195, .inl (cI, r184, .inl r185)), (q196, .inl (cI, r186, .inl r187)), (q197, .inl (cI, r188, .inl r189)), (q215, .inl (cI, r213, .inl r214))]) hr d_Mo_buildStatement_150 [22, 20, 21, 2, 3, 4, 5, 6, 7, 8, 9, 10, 11, 23, 0, 1, 12, 13, 14, 15, 16, 17, 18, 19, 24] rfl (by decide) ⟨q190, q191, q192, q193, q194, q195, q196, q197, q215, rfl, rfl⟩
          · replace h := it_f c170 h
            by_cases c221 : (b_a_all_m5 (Int32.toNatClampNeg p2)) = 15
            · replace h := it_t c221 h
              refine j_tabIn (tgt := 151) (off := 139) d_Mo_buildStatement_12 15 c221 (by decide) (by decide) (by decide) (by decide) ?_
              refine j_aload_n d_Mo_buildStatement_151 rfl 1 rfl ?_
              refine j_iload_n d_Mo_buildStatement_152 rfl 2 rfl ?_
              refine j_bipush (v := 13) d_Mo_buildStatement_153 (by decide) ?_
              refine j_iload_n d_Mo_buildStatement_155 rfl 3 rfl ?_
              replace h := bw_s h
              obtain ⟨⟨r222, r223, r224, r225, r226, r227, r228, r229, r230, r231, r232, r233, r234, r235, r236, r237, r238, r239, r240⟩, C249, S250, C251, S252, k253, h, e1, e2⟩ := h
              replace hC : 0 + C249 + C251 ≤ mc := by omega
              replace hS : 0 + S250 + S252 ≤ ms := by omega
              clear e1 e2
              refine j_callV (n := 3) (As := [.int p1, .int 13, .int p2]) (rest := []) (wr := [((am 33), .inr (8, [.ref a_all_m33, .int size_m33])), (a_all_m33, .inl (cI, n_a_all_m33, .inl b_a_all_m33)), ((am 34), .inr (8, [.ref a_all_m34, .int size_m34])), (a_all_m34, .inl (cI, n_a_all_m34, .inl b_a_all_m34)), ((am 5), .inr (8, [.ref a_all_m5, .int size_m5])), (a_all_m5, .inl (cI, n_a_all_m5, .inl b_a_all_m5))]) (c_Mo_leafNode l D cI cB cJ cS h0 am a_all_m6 a_all_m24 a_all_m25 a_all_m26 a_all_m27 a_all_m28 a_all_m29 a_all_m30 a_all_m31 p1 13 p2 known_h0 thrown_h0 wrong_h0 lastEnd_h0 at_h0 bad_h0 levels_h0 least_h0 found_h0 size_m6 n_a_all_m6 b_a_all_m6 size_m24 n_a_all_m24 b_a_all_m24 size_m25 n_a_all_m25 b_a_all_m25 size_m26 n_a_all_m26 b_a_all_m26 size_m27 n_a_all_m27 b_a_all_m27 size_m28 n_a_all_m28 b_a_all_m28 size_m29 n_a_all_m29 b_a_all_m29 size_m30 n_a_all_m30 b_a_all_m30 size_m31 n_a_all_m31 b_a_all_m31  r222 r223 r224 r225 r226 r227 r228 r229 r230 r231 r232 r233 r234 r235 r236 r237 r238 r239 r240 C249 S250 k253) k_Mo_426 (by decide) ⟨Nat.le_of_ble_eq_true rfl, Nat.le_of_ble_eq_true rfl⟩ rfl 0 rfl [0, 1, 2, 3, 4, 5, 6, 7, 8, 9, 10, 11, 12, 13, 14, 15, 16, 17, 18] [19, 20, 21, 22, 23, 24] rfl (by decide +kernel) rfl (by decide +kernel) (by decide +kernel) rfl rfl (Nat.le_of_ble_eq_true rfl) d_Mo_buildStatement_156 ⟨show 0 + C249 ≤ mc by omega, show 0 + S250 ≤ ms by omega⟩ (fun v w hq => ?_)
              obtain ⟨q241, q242, q243, q244, q245, q246, q247, q248, rfl, rfl⟩ := hq
              refine j_norm (pc' := 159) (st' := [.int size_m24]) (ws' := [((am 33), .inr (8, [.ref a_all_m33, .int size_m33])), (a_all_m33, .inl (cI, n_a_all_m33, .inl b_a_all_m33)), ((am 34), .inr (8, [.ref a_all_m34, .int size_m34])), (a_all_m34, .inl (cI, n_a_all_m34, .inl b_a_all_m34)), ((am 5), .inr (8, [.ref a_all_m5, .int size_m5])), (a_all_m5, .inl (cI, n_a_all_m5, .inl b_a_all_m5)), (h0, .inr (9, moF am known_h0 thrown_h0 wrong_h0 lastEnd_h0 at_h0 bad_h0 levels_h0 least_h0 found_h0)), ((am 6), .inr (8, [.ref a_all_m6, .int size_m6])), (a_all_m6, .inl (cI, n_a_all_m6, .inl b_a_all_m6)), ((am 24), .inr (8, [.ref q241, .int (size_m24 + 1)])), ((am 25), .inr (8, [.ref q242, .int (size_m25 + 1)])), ((am 26), .inr (8, [.ref q243, .int (size_m26 + 1)])), ((am 27), .inr (8, [.ref q244, .int (size_m27 + 1)])), ((am 28), .inr (8, [.ref q245, .int r222])), ((am 29), .inr (8, [.ref q246, .int r223])), ((am 30), .inr (8, [.ref q247, .int r224])), ((am 31), .inr (8, [.ref q248, .int (size_m31 + 1)])), (q241, .inl (cI, r225, .inl r226)), (q242, .inl (cI, r227, .inl r228)), (q243, .inl (cI, r229, .inl r230)), (q244, .inl (cI, r231, .inl r232)), (q245, .inl (cI, r233, .inl r234)), (q246, .inl (cI, r235, .inl r236)), (q247, .inl (cI, r237, .inl r238)), (q248, .inl (cI, r239, .inl r240))]) (cl' := 0 + C249) (sl' := 0 + S250) rfl rfl rfl rfl rfl rfl ?_
              refine j_istore (lv' := [(7, .int size_m24), (4, .int (b_a_all_m5 (Int32.toNatClampNeg p2))), (0, .ref h0), (1, .int p1), (2, .int p2), (3, .int p3)]) d_Mo_buildStatement_159 (by decide) rfl ?_
              refine j_aload_n d_Mo_buildStatement_161 rfl 2 rfl ?_
              refine j_iload_n d_Mo_buildStatement_162 rfl 4 rfl ?_
              refine j_iconst (v := 1) d_Mo_buildStatement_163 (by decide) ?_
              refine j_iadd d_Mo_buildStatement_164 ?_
              replace h := bd_s h
              obtain ⟨r254, k255, h⟩ := h
              refine j_callV (n := 1) (As := [.int (p2 + 1)]) (rest := []) (wr := [((am 33), .inr (8, [.ref a_all_m33, .int size_m33])), (a_all_m33, .inl (cI, n_a_all_m33, .inl b_a_all_m33)), ((am 34), .inr (8, [.ref a_all_m34, .int size_m34])), (a_all_m34, .inl (cI, n_a_all_m34, .inl b_a_all_m34)), ((am 6), .inr (8, [.ref a_all_m6, .int size_m6])), (a_all_m6, .inl (cI, n_a_all_m6, .inl b_a_all_m6)), ((am 24), .inr (8, [.ref q241, .int (size_m24 + 1)])), ((am 25), .inr (8, [.ref q242, .int (size_m25 + 1)])), ((am 26), .inr (8, [.ref q243, .int (size_m26 + 1)])), ((am 27), .inr (8, [.ref q244, .int (size_m27 + 1)])), ((am 28), .inr (8, [.ref q245, .int r222])), ((am 29), .inr (8, [.ref q246, .int r223])), ((am 30), .inr (8, [.ref q247, .int r224])), ((am 31), .inr (8, [.ref q248, .int (size_m31 + 1)])), (q241, .inl (cI, r225, .inl r226)), (q242, .inl (cI, r227, .inl r228)), (q243, .inl (cI, r229, .inl r230)), (q244, .inl (cI, r231, .inl r232)), (q245, .inl (cI, r233, .inl r234)), (q246, .inl (cI, r235, .inl r236)), (q247, .inl (cI, r237, .inl r238)), (q248, .inl (cI, r239, .inl r240))]) (c_Mo_closing l D cI cB cJ cS h0 am a_all_m5 (p2 + 1) known_h0 thrown_h0 wrong_h0 lastEnd_h0 at_h0 bad_h0 levels_h0 least_h0 found_h0 size_m5 n_a_all_m5 b_a_all_m5  r254 k255) k_Mo_350 (by decide) ⟨Nat.le_of_ble_eq_true rfl, Nat.le_of_ble_eq_true rfl⟩ rfl 0 rfl [6, 4, 5] [0, 1, 2, 3, 7, 8, 9, 10, 11, 12, 13, 14, 15, 16, 17, 18, 19, 20, 21, 22, 23, 24] rfl (by decide +kernel) rfl (by decide +kernel) (by decide +kernel) rfl rfl (Nat.le_of_ble_eq_true rfl) d_Mo_buildStatement_165 ⟨show 0 + C249 + 0 ≤ mc by omega, show 0 + S250 + 0 ≤ ms by omega⟩ (fun v w hq => ?_)
              obtain ⟨rfl, rfl⟩ := hq
              refine j_norm (pc' := 168) (st' := [.int r254]) (ws' := [((am 33), .inr (8, [.ref a_all_m33, .int size_m33])), (a_all_m33, .inl (cI, n_a_all_m33, .inl b_a_all_m33)), ((am 34), .inr (8, [.ref a_all_m34, .int size_m34])), (a_all_m34, .inl (cI, n_a_all_m34, .inl b_a_all_m34)), ((am 6), .inr (8, [.ref a_all_m6, .int size_m6])), (a_all_m6, .inl (cI, n_a_all_m6, .inl b_a_all_m6)), ((am 24), .inr (8, [.ref q241, .int (size_m24 + 1)])), ((am 25), .inr (8, [.ref q242, .int (size_m25 + 1)])), ((am 26), .inr (8, [.ref q243, .int (size_m26 + 1)])), ((am 27), .inr (8, [.ref q244, .int (size_m27 + 1)])), ((am 28), .inr (8, [.ref q245, .int r222])), ((am 29), .inr (8, [.ref q246, .int r223])), ((am 30), .inr (8, [.ref q247, .int r224])), ((am 31), .inr (8, [.ref q248, .int (size_m31 + 1)])), (q241, .inl (cI, r225, .inl r226)), (q242, .inl (cI, r227, .inl r228)), (q243, .inl (cI, r229, .inl r230)), (q244, .inl (cI, r231, .inl r232)), (q245, .inl (cI, r233, .inl r234)), (q246, .inl (cI, r235, .inl r236)), (q247, .inl (cI, r237, .inl r238)), (q248, .inl (cI, r239, .inl r240)), (h0, .inr (9, moF am known_h0 thrown_h0 wrong_h0 lastEnd_h0 at_h0 bad_h0 levels_h0 least_h0 found_h0)), ((am 5), .inr (8, [.ref a_all_m5, .int size_m5])), (a_all_m5, .inl (cI, n_a_all_m5, .inl b_a_all_m5))]) (cl' := 0 + C249) (sl' := 0 + S250) rfl rfl rfl rfl rfl rfl ?_
              refine j_istore (lv' := [(8, .int r254), (7, .int size_m24), (4, .int (b_a_all_m5 (Int32.toNatClampNeg p2))), (0, .ref h0), (1, .int p1), (2, .int p2), (3, .int p3)]) d_Mo_buildStatement_168 (by decide) rfl ?_
              refine j_aload_n d_Mo_buildStatement_170 rfl 3 rfl ?_
              refine j_iload d_Mo_buildStatement_171 1 rfl ?_
              refine j_bipush (v := 32) d_Mo_buildStatement_173 (by decide) ?_
              refine j_iload_n d_Mo_buildStatement_175 rfl 5 rfl ?_
              refine j_iconst (v := 2) d_Mo_buildStatement_176 (by decide) ?_
              refine j_iadd d_Mo_buildStatement_177 ?_
              replace h := bw_s h
              obtain ⟨⟨r256, r257, r258, r259, r260, r261, r262, r263, r264, r265, r266, r267, r268, r269, r270, r271, r272, r273, r274⟩, C283, S284, C285, S286, k287, h, e1, e2⟩ := h
              replace hC : 0 + C249 + C283 + C285 ≤ mc := by omega
              replace hS : 0 + S250 + S284 + S286 ≤ ms := by omega
              clear e1 e2
              refine j_callV (n := 3) (As := [.int size_m24, .int 32, .int (p2 + 2)]) (rest := []) (wr := [((am 33), .inr (8, [.ref a_all_m33, .int size_m33])), (a_all_m33, .inl (cI, n_a_all_m33, .inl b_a_all_m33)), ((am 34), .inr (8, [.ref a_all_m34, .int size_m34])), (a_all_m34, .inl (cI, n_a_all_m34, .inl b_a_all_m34)), ((am 5), .inr (8, [.ref a_all_m5, .int size_m5])), (a_all_m5, .inl (cI, n_a_all_m5, .inl b_a_all_m5))]) (c_Mo_leafNode l D cI cB cJ cS h0 am a_all_m6 q241 q242 q243 q244 q245 q246 q247 q248 size_m24 32 (p2 + 2) known_h0 thrown_h0 wrong_h0 lastEnd_h0 at_h0 bad_h0 levels_h0 least_h0 found_h0 size_m6 n_a_all_m6 b_a_all_m6 (size_m24 + 1) r225 r226 (size_m25 + 1) r227 r228 (size_m26 + 1) r229 r230 (size_m27 + 1) r231 r232 r222 r233 r234 r223 r235 r236 r224 r237 r238 (size_m31 + 1) r239 r240  r256 r257 r258 r259 r260 r261 r262 r263 r264 r265 r266 r267 r268 r269 r270 r271 r272 r273 r274 C283 S284 k287) k_Mo_426 (by decide) ⟨Nat.le_of_ble_eq_true rfl, Nat.le_of_ble_eq_true rfl⟩ rfl 0 rfl [22, 4, 5, 6, 14, 7, 15, 8, 16, 9, 17, 10, 18, 11, 19, 12, 20, 13, 21] [0, 1, 2, 3, 23, 24] rfl (by decide +kernel) rfl (by decide +kernel) (by decide +kernel) rfl rfl (Nat.le_of_ble_eq_true rfl) d_Mo_buildStatement_178 ⟨show 0 + C249 + C283 ≤ mc by omega, show 0 + S250 + S284 ≤ ms by omega⟩ (fun v w hq => ?_)
              obtain ⟨q275, q276, q277, q278, q279, q280, q281, q282, rfl, rfl⟩ := hq
              refine j_norm (pc' := 181) (st' := [.int (size_m24 + 1)]) (ws' := [((am 33), .inr (8, [.ref a_all_m33, .int size_m33])), (a_all_m33, .inl (cI, n_a_all_m33, .inl b_a_all_m33)), ((am 34), .inr (8, [.ref a_all_m34, .int size_m34])), (a_all_m34, .inl (cI, n_a_all_m34, .inl b_a_all_m34)), ((am 5), .inr (8, [.ref a_all_m5, .int size_m5])), (a_all_m5, .inl (cI, n_a_all_m5, .inl b_a_all_m5)), (h0, .inr (9, moF am known_h0 thrown_h0 wrong_h0 lastEnd_h0 at_h0 bad_h0 levels_h0 least_h0 found_h0)), ((am 6), .inr (8, [.ref a_all_m6, .int size_m6])), (a_all_m6, .inl (cI, n_a_all_m6, .inl b_a_all_m6)), ((am 24), .inr (8, [.ref q275, .int ((size_m24 + 1) + 1)])), ((am 25), .inr (8, [.ref q276, .int ((size_m25 + 1) + 1)])), ((am 26), .inr (8, [.ref q277, .int ((size_m26 + 1) + 1)])), ((am 27), .inr (8, [.ref q278, .int ((size_m27 + 1) + 1)])), ((am 28), .inr (8, [.ref q279, .int r256])), ((am 29), .inr (8, [.ref q280, .int r257])), ((am 30), .inr (8, [.ref q281, .int r258])), ((am 31), .inr (8, [.ref q282, .int ((size_m31 + 1) + 1)])), (q275, .inl (cI, r259, .inl r260)), (q276, .inl (cI, r261, .inl r262)), (q277, .inl (cI, r263, .inl r264)), (q278, .inl (cI, r265, .inl r266)), (q279, .inl (cI, r267, .inl r268)), (q280, .inl (cI, r269, .inl r270)), (q281, .inl (cI, r271, .inl r272)), (q282, .inl (cI, r273, .inl r274))]) (cl' := 0 + C249 + C283) (sl' := 0 + S250 + S284) rfl rfl rfl rfl rfl rfl ?_
              refine j_istore (lv' := [(9, .int (size_m24 + 1)), (8, .int r254), (7, .int size_m24), (4, .int (b_a_all_m5 (Int32.toNatClampNeg p2))), (0, .ref h0), (1, .int p1), (2, .int p2), (3, .int p3)]) d_Mo_buildStatement_181 (by decide) rfl ?_
              refine j_aload_n d_Mo_buildStatement_183 rfl 4 rfl ?_
              refine j_iconst (v := 1) d_Mo_buildStatement_184 (by decide) ?_
              refine j_iload d_Mo_buildStatement_185 2 rfl ?_
              refine j_iload_n d_Mo_buildStatement_187 rfl 6 rfl ?_
              refine j_iconst (v := 4) d_Mo_buildStatement_188 (by decide) ?_
              refine j_iadd d_Mo_buildStatement_189 ?_
              refine j_iload d_Mo_buildStatement_190 1 rfl ?_
              refine j_iconst (v := 1) d_Mo_buildStatement_192 (by decide) ?_
              replace h := bw_s h
              obtain ⟨⟨r288, r289⟩, C291, S292, C293, S294, k295, h, e1, e2⟩ := h
              replace hC : 0 + C249 + C283 + C291 + C293 ≤ mc := by omega
              replace hS : 0 + S250 + S284 + S292 + S294 ≤ ms := by omega
              clear e1 e2
              refine j_callV (n := 5) (As := [.int 1, .int size_m24, .int (p2 + 4), .int r254, .int 1]) (rest := []) (wr := [((am 34), .inr (8, [.ref a_all_m34, .int size_m34])), (a_all_m34, .inl (cI, n_a_all_m34, .inl b_a_all_m34)), ((am 5), .inr (8, [.ref a_all_m5, .int size_m5])), (a_all_m5, .inl (cI, n_a_all_m5, .inl b_a_all_m5)), ((am 6), .inr (8, [.ref a_all_m6, .int size_m6])), (a_all_m6, .inl (cI, n_a_all_m6, .inl b_a_all_m6)), ((am 24), .inr (8, [.ref q275, .int ((size_m24 + 1) + 1)])), ((am 25), .inr (8, [.ref q276, .int ((size_m25 + 1) + 1)])), ((am 26), .inr (8, [.ref q277, .int ((size_m26 + 1) + 1)])), ((am 27), .inr (8, [.ref q278, .int ((size_m27 + 1) + 1)])), ((am 28), .inr (8, [.ref q279, .int r256])), ((am 29), .inr (8, [.ref q280, .int r257])), ((am 30), .inr (8, [.ref q281, .int r258])), ((am 31), .inr (8, [.ref q282, .int ((size_m31 + 1) + 1)])), (q275, .inl (cI, r259, .inl r260)), (q276, .inl (cI, r261, .inl r262)), (q277, .inl (cI, r263, .inl r264)), (q278, .inl (cI, r265, .inl r266)), (q279, .inl (cI, r267, .inl r268)), (q280, .inl (cI, r269, .inl r270)), (q281, .inl (cI, r271, .inl r272)), (q282, .inl (cI, r273, .inl r274))]) (c_Mo_task l D cI cB cJ cS h0 am a_all_m33 1 size_m24 (p2 + 4) r254 1 known_h0 thrown_h0 wrong_h0 lastEnd_h0 at_h0 bad_h0 levels_h0 least_h0 found_h0 size_m33 n_a_all_m33 b_a_all_m33  r288 r289 C291 S292 k295) k_Mo_390 (by decide) ⟨Nat.le_of_ble_eq_true rfl, Nat.le_of_ble_eq_true rfl⟩ rfl 0 rfl [6, 0, 1] [2, 3, 4, 5, 7, 8, 9, 10, 11, 12, 13, 14, 15, 16, 17, 18, 19, 20, 21, 22, 23, 24] rfl (by decide +kernel) rfl (by decide +kernel) (by decide +kernel) rfl rfl (Nat.le_of_ble_eq_true rfl) d_Mo_buildStatement_193 ⟨show 0 + C249 + C283 + C291 ≤ mc by omega, show 0 + S250 + S284 + S292 ≤ ms by omega⟩ (fun v w hq => ?_)
              obtain ⟨q290, rfl, rfl⟩ := hq
              refine j_norm (pc' := 196) (st' := []) (ws' := [((am 34), .inr (8, [.ref a_all_m34, .int size_m34])), (a_all_m34, .inl (cI, n_a_all_m34, .inl b_a_all_m34)), ((am 5), .inr (8, [.ref a_all_m5, .int size_m5])), (a_all_m5, .inl (cI, n_a_all_m5, .inl b_a_all_m5)), ((am 6), .inr (8, [.ref a_all_m6, .int size_m6])), (a_all_m6, .inl (cI, n_a_all_m6, .inl b_a_all_m6)), ((am 24), .inr (8, [.ref q275, .int ((size_m24 + 1) + 1)])), ((am 25), .inr (8, [.ref q276, .int ((size_m25 + 1) + 1)])), ((am 26), .inr (8, [.ref q277, .int ((size_m26 + 1) + 1)])), ((am 27), .inr (8, [.ref q278, .int ((size_m27 + 1) + 1)])), ((am 28), .inr (8, [.ref q279, .int r256])), ((am 29), .inr (8, [.ref q280, .int r257])), ((am 30), .inr (8, [.ref q281, .int r258])), ((am 31), .inr (8, [.ref q282, .int ((size_m31 + 1) + 1)])), (q275, .inl (cI, r259, .inl r260)), (q276, .inl (cI, r261, .inl r262)), (q277, .inl (cI, r263, .inl r264)), (q278, .inl (cI, r265, .inl r266)), (q279, .inl (cI, r267, .inl r268)), (q280, .inl (cI, r269, .inl r270)), (q281, .inl (cI, r271, .inl r272)), (q282, .inl (cI, r273, .inl r274)), (h0, .inr (9, moF am known_h0 thrown_h0 wrong_h0 lastEnd_h0 at_h0 bad_h0 levels_h0 least_h0 found_h0)), ((am 33), .inr (8, [.ref q290, .int (((((size_m33 + 1) + 1) + 1) + 1) + 1)])), (q290, .inl (cI, r288, .inl r289))]) (cl' := 0 + C249 + C283 + C291) (sl' := 0 + S250 + S284 + S292) rfl rfl rfl rfl rfl rfl ?_
              refine j_aload_n d_Mo_buildStatement_196 rfl 4 rfl ?_
              refine j_iconst (v := 2) d_Mo_buildStatement_197 (by decide) ?_
              refine j_iload d_Mo_buildStatement_198 2 rfl ?_
              refine j_iload d_Mo_buildStatement_200 1 rfl ?_
              refine j_iconst (v := 1) d_Mo_buildStatement_202 (by decide) ?_
              refine j_iadd d_Mo_buildStatement_203 ?_
              refine j_iload_n d_Mo_buildStatement_204 rfl 7 rfl ?_
              refine j_iconst (v := 1) d_Mo_buildStatement_205 (by decide) ?_
              refine j_isub d_Mo_buildStatement_206 ?_
              refine j_iload d_Mo_buildStatement_207 1 rfl ?_
              replace h := bw_s h
              obtain ⟨⟨r296, r297⟩, C299, S300, C301, S302, k303, h, e1, e2⟩ := h
              replace hC : 0 + C249 + C283 + C291 + C299 + C301 ≤ mc := by omega
              replace hS : 0 + S250 + S284 + S292 + S300 + S302 ≤ ms := by omega
              clear e1 e2
              refine j_callV (n := 5) (As := [.int 2, .int size_m24, .int (r254 + 1), .int (p3 - 1), .int r254]) (rest := []) (wr := [((am 34), .inr (8, [.ref a_all_m34, .int size_m34])), (a_all_m34, .inl (cI, n_a_all_m34, .inl b_a_all_m34)), ((am 5), .inr (8, [.ref a_all_m5, .int size_m5])), (a_all_m5, .inl (cI, n_a_all_m5, .inl b_a_all_m5)), ((am 6), .inr (8, [.ref a_all_m6, .int size_m6])), (a_all_m6, .inl (cI, n_a_all_m6, .inl b_a_all_m6)), ((am 24), .inr (8, [.ref q275, .int ((size_m24 + 1) + 1)])), ((am 25), .inr (8, [.ref q276, .int ((size_m25 + 1) + 1)])), ((am 26), .inr (8, [.ref q277, .int ((size_m26 + 1) + 1)])), ((am 27), .inr (8, [.ref q278, .int ((size_m27 + 1) + 1)])), ((am 28), .inr (8, [.ref q279, .int r256])), ((am 29), .inr (8, [.ref q280, .int r257])), ((am 30), .inr (8, [.ref q281, .int r258])), ((am 31), .inr (8, [.ref q282, .int ((size_m31 + 1) + 1)])), (q275, .inl (cI, r259, .inl r260)), (q276, .inl (cI, r261, .inl r262)), (q277, .inl (cI, r263, .inl r264)), (q278, .inl (cI, r265, .inl r266)), (q279, .inl (cI, r267, .inl r268)), (q280, .inl (cI, r269, .inl r270)), (q281, .inl (cI, r271, .inl r272)), (q282, .inl (cI, r273, .inl r274))]) (c_Mo_task l D cI cB cJ cS h0 am q290 2 size_m24 (r254 + 1) (p3 - 1) r254 known_h0 thrown_h0 wrong_h0 lastEnd_h0 at_h0 bad_h0 levels_h0 least_h0 found_h0 (((((size_m33 + 1) + 1) + 1) + 1) + 1) r288 r289  r296 r297 C299 S300 k303) k_Mo_390 (by decide) ⟨Nat.le_of_ble_eq_true rfl, Nat.le_of_ble_eq_true rfl⟩ rfl 0 rfl [22, 23, 24] [0, 1, 2, 3, 4, 5, 6, 7, 8, 9, 10, 11, 12, 13, 14, 15, 16, 17, 18, 19, 20, 21] rfl (by decide +kernel) rfl (by decide +kernel) (by decide +kernel) rfl rfl (Nat.le_of_ble_eq_true rfl) d_Mo_buildStatement_209 ⟨show 0 + C249 + C283 + C291 + C299 ≤ mc by omega, show 0 + S250 + S284 + S292 + S300 ≤ ms by omega⟩ (fun v w hq => ?_)
              obtain ⟨q298, rfl, rfl⟩ := hq
              refine j_norm (pc' := 212) (st' := []) (ws' := [((am 34), .inr (8, [.ref a_all_m34, .int size_m34])), (a_all_m34, .inl (cI, n_a_all_m34, .inl b_a_all_m34)), ((am 5), .inr (8, [.ref a_all_m5, .int size_m5])), (a_all_m5, .inl (cI, n_a_all_m5, .inl b_a_all_m5)), ((am 6), .inr (8, [.ref a_all_m6, .int size_m6])), (a_all_m6, .inl (cI, n_a_all_m6, .inl b_a_all_m6)), ((am 24), .inr (8, [.ref q275, .int ((size_m24 + 1) + 1)])), ((am 25), .inr (8, [.ref q276, .int ((size_m25 + 1) + 1)])), ((am 26), .inr (8, [.ref q277, .int ((size_m26 + 1) + 1)])), ((am 27), .inr (8, [.ref q278, .int ((size_m27 + 1) + 1)])), ((am 28), .inr (8, [.ref q279, .int r256])), ((am 29), .inr (8, [.ref q280, .int r257])), ((am 30), .inr (8, [.ref q281, .int r258])), ((am 31), .inr (8, [.ref q282, .int ((size_m31 + 1) + 1)])), (q275, .inl (cI, r259, .inl r260)), (q276, .inl (cI, r261, .inl r262)), (q277, .inl (cI, r263, .inl r264)), (q278, .inl (cI, r265, .inl r266)), (q279, .inl (cI, r267, .inl r268)), (q280, .inl (cI, r269, .inl r270)), (q281, .inl (cI, r271, .inl r272)), (q282, .inl (cI, r273, .inl r274)), (h0, .inr (9, moF am known_h0 thrown_h0 wrong_h0 lastEnd_h0 at_h0 bad_h0 levels_h0 least_h0 found_h0)), ((am 33), .inr (8, [.ref q298, .int ((((((((((size_m33 + 1) + 1) + 1) + 1) + 1) + 1) + 1) + 1) + 1) + 1)])), (q298, .inl (cI, r296, .inl r297))]) (cl' := 0 + C249 + C283 + C291 + C299) (sl' := 0 + S250 + S284 + S292 + S300) rfl rfl rfl rfl rfl rfl ?_
              replace h := lf_s h
              obtain ⟨h, e1, e2⟩ := h
              replace h := Prod.mk.inj h
              obtain ⟨h9, h⟩ := h
              subst h9
              replace h := Prod.mk.inj h
              obtain ⟨h9, h⟩ := h
              subst h9
              replace h := Prod.mk.inj h
              obtain ⟨h9, h⟩ := h
              subst h9
              replace h := Prod.mk.inj h
              obtain ⟨h9, h⟩ := h
              subst h9
              replace h := Prod.mk.inj h
              obtain ⟨h9, h⟩ := h
              subst h9
              replace h := Prod.mk.inj h
              obtain ⟨h9, h⟩ := h
              subst h9
              replace h := Prod.mk.inj h
              obtain ⟨h9, h⟩ := h
              subst h9
              replace h := Prod.mk.inj h
              obtain ⟨h9, h⟩ := h
              subst h9
              replace h := Prod.mk.inj h
              obtain ⟨h9, h⟩ := h
              subst h9
              replace h := Prod.mk.inj h
              obtain ⟨h9, h⟩ := h
              subst h9
              replace h := Prod.mk.inj h
              obtain ⟨h9, h⟩ := h
              subst h9
              replace h := Prod.mk.inj h
              obtain ⟨h9, h⟩ := h
              subst h9
              replace h := Prod.mk.inj h
              obtain ⟨h9, h⟩ := h
              subst h9
              replace h := Prod.mk.inj h
              obtain ⟨h9, h⟩ := h
              subst h9
              replace h := Prod.mk.inj h
              obtain ⟨h9, h⟩ := h
              subst h9
              replace h := Prod.mk.inj h
              obtain ⟨h9, h⟩ := h
              subst h9
              replace h := Prod.mk.inj h
              obtain ⟨h9, h⟩ := h
              subst h9
              replace h := Prod.mk.inj h
              obtain ⟨h9, h⟩ := h
              subst h9
              replace h := Prod.mk.inj h
              obtain ⟨h9, h⟩ := h
              subst h9
              replace h := Prod.mk.inj h
              obtain ⟨h9, h⟩ := h
              subst h9
              replace h := Prod.mk.inj h
              obtain ⟨h9, h⟩ := h
              subst h9
              replace h := Prod.mk.inj h
              obtain ⟨h9, h⟩ := h
              subst h9
              replace h := Prod.mk.inj h
              obtain ⟨h9, h⟩ := h
              subst h9
              replace h := Prod.mk.inj h
              obtain ⟨h9, h⟩ := h
              subst h9
              replace h := Prod.mk.inj h
              obtain ⟨h9, h⟩ := h
              subst h9
              replace h := Prod.mk.inj h
              obtain ⟨h9, h⟩ := h
              subst h9
              replace h := Prod.mk.inj h
              obtain ⟨h9, h⟩ := h
              subst h9
              subst h
              refine j_widen (cl' := mc) (sl' := ms) (by omega) (by omega) ?_
              exact j_vret (w := [(h0, .inr (9, moF am known_h0 thrown_h0 wrong_h0 lastEnd_h0 at_h0 bad_h0 levels_h0 least_h0 found_h0)), ((am 5), .inr (8, [.ref a_all_m5, .int size_m5])), (a_all_m5, .inl (cI, n_a_all_m5, .inl b_a_all_m5)), ((am 6), .inr (8, [.ref a_all_m6, .int size_m6])), (a_all_m6, .inl (cI, n_a_all_m6, .inl b_a_all_m6)), ((am 24), .inr (8, [.ref q275, .int ((size_m24 + 1) + 1)])), ((am 25), .inr (8, [.ref q276, .int ((size_m25 + 1) + 1)])), ((am 26), .inr (8, [.ref q277, .int ((size_m26 + 1) + 1)])), ((am 27), .inr (8, [.ref q278, .int ((size_m27 + 1) + 1)])), ((am 28), .inr (8, [.ref q279, .int r256])), ((am 29), .inr (8, [.ref q280, .int r257])), ((am 30), .inr (8, [.ref q281, .int r258])), ((am 31), .inr (8, [.ref q282, .int ((size_m31 + 1) + 1)])), ((am 33), .inr (8, [.ref q298, .int ((((((((((size_m33 + 1) + 1) + 1) + 1) + 1) + 1) + 1) + 1) + 1) + 1)])), ((am 34), .inr (8, [.ref a_all_m34, .int size_m34])), (a_all_m34, .inl (cI, n_a_all_m34, .inl b_a_all_m34)), (q275, .inl (cI, r259, .inl r260)), (q276, .inl (cI, r261, .inl r262)), (q277, .inl (cI, r263, .inl r264)), (q278, .inl (cI, r265, .inl r266)), (q279, .inl (cI, r267, .inl r268)), (q280, .inl (cI, r269, .inl r270)), (q281, .inl (cI, r271, .inl r272)), (q282, .inl (cI, r273, .inl r274)), (q298, .inl (cI, r296, .inl r297))]) hr d_Mo_buildStatement_212 [22, 2, 3, 4, 5, 6, 7, 8, 9, 10, 11, 12, 13, 23, 0, 1, 14, 15, 16, 17, 18, 19, 20, 21, 24] rfl (by decide) ⟨q275, q276, q277, q278, q279, q280, q281, q282, q298, rfl, rfl⟩
            · replace h := it_f c221 h
              by_cases c304 : (b_a_all_m5 (Int32.toNatClampNeg p2)) = 16
              · replace h := it_t c304 h
                refine j_tabIn (tgt := 262) (off := 250) d_Mo_buildStatement_12 16 c304 (by decide) (by decide) (by decide) (by decide) ?_
                refine j_aload_n d_Mo_buildStatement_262 rfl 1 rfl ?_
                refine j_iload_n d_Mo_buildStatement_263 rfl 2 rfl ?_
                refine j_iload d_Mo_buildStatement_264 0 rfl ?_
                refine j_bipush (v := 16) d_Mo_buildStatement_266 (by decide) ?_
                refine j_isub d_Mo_buildStatement_268 ?_
                refine j_bipush (v := 15) d_Mo_buildStatement_269 (by decide) ?_
                refine j_iadd d_Mo_buildStatement_271 ?_
                refine j_iload_n d_Mo_buildStatement_272 rfl 3 rfl ?_
                replace h := bw_s h
                obtain ⟨⟨r305, r306, r307, r308, r309, r310, r311, r312, r313, r314, r315, r316, r317, r318, r319, r320, r321, r322, r323⟩, C332, S333, C334, S335, k336, h, e1, e2⟩ := h
                replace hC : 0 + C332 + C334 ≤ mc := by omega
                replace hS : 0 + S333 + S335 ≤ ms := by omega
                clear e1 e2
                refine j_callV (n := 3) (As := [.int p1, .int (((b_a_all_m5 (Int32.toNatClampNeg p2)) - 16) + 15), .int p2]) (rest := []) (wr := [((am 33), .inr (8, [.ref a_all_m33, .int size_m33])), (a_all_m33, .inl (cI, n_a_all_m33, .inl b_a_all_m33)), ((am 34), .inr (8, [.ref a_all_m34, .int size_m34])), (a_all_m34, .inl (cI, n_a_all_m34, .inl b_a_all_m34)), ((am 5), .inr (8, [.ref a_all_m5, .int size_m5])), (a_all_m5, .inl (cI, n_a_all_m5, .inl b_a_all_m5))]) (c_Mo_leafNode l D cI cB cJ cS h0 am a_all_m6 a_all_m24 a_all_m25 a_all_m26 a_all_m27 a_all_m28 a_all_m29 a_all_m30 a_all_m31 p1 (((b_a_all_m5 (Int32.toNatClampNeg p2)) - 16) + 15) p2 known_h0 thrown_h0 wrong_h0 lastEnd_h0 at_h0 bad_h0 levels_h0 least_h0 found_h0 size_m6 n_a_all_m6 b_a_all_m6 size_m24 n_a_all_m24 b_a_all_m24 size_m25 n_a_all_m25 b_a_all_m25 size_m26 n_a_all_m26 b_a_all_m26 size_m27 n_a_all_m27 b_a_all_m27 size_m28 n_a_all_m28 b_a_all_m28 size_m29 n_a_all_m29 b_a_all_m29 size_m30 n_a_all_m30 b_a_all_m30 size_m31 n_a_all_m31 b_a_all_m31  r305 r306 r307 r308 r309 r310 r311 r312 r313 r314 r315 r316 r317 r318 r319 r320 r321 r322 r323 C332 S333 k336) k_Mo_426 (by decide) ⟨Nat.le_of_ble_eq_true rfl, Nat.le_of_ble_eq_true rfl⟩ rfl 0 rfl [0, 1, 2, 3, 4, 5, 6, 7, 8, 9, 10, 11, 12, 13, 14, 15, 16, 17, 18] [19, 20, 21, 22, 23, 24] rfl (by decide +kernel) rfl (by decide +kernel) (by decide +kernel) rfl rfl (Nat.le_of_ble_eq_true rfl) d_Mo_buildStatement_273 ⟨show 0 + C332 ≤ mc by omega, show 0 + S333 ≤ ms by omega⟩ (fun v w hq => ?_)
                obtain ⟨q324, q325, q326, q327, q328, q329, q330, q331, rfl, rfl⟩ := hq
                refine j_norm (pc' := 276) (st' := [.int size_m24]) (ws' := [((am 33), .inr (8, [.ref a_all_m33, .int size_m33])), (a_all_m33, .inl (cI, n_a_all_m33, .inl b_a_all_m33)), ((am 34), .inr (8, [.ref a_all_m34, .int size_m34])), (a_all_m34, .inl (cI, n_a_all_m34, .inl b_a_all_m34)), ((am 5), .inr (8, [.ref a_all_m5, .int size_m5])), (a_all_m5, .inl (cI, n_a_all_m5, .inl b_a_all_m5)), (h0, .inr (9, moF am known_h0 thrown_h0 wrong_h0 lastEnd_h0 at_h0 bad_h0 levels_h0 least_h0 found_h0)), ((am 6), .inr (8, [.ref a_all_m6, .int size_m6])), (a_all_m6, .inl (cI, n_a_all_m6, .inl b_a_all_m6)), ((am 24), .inr (8, [.ref q324, .int (size_m24 + 1)])), ((am 25), .inr (8, [.ref q325, .int (size_m25 + 1)])), ((am 26), .inr (8, [.ref q326, .int (size_m26 + 1)])), ((am 27), .inr (8, [.ref q327, .int (size_m27 + 1)])), ((am 28), .inr (8, [.ref q328, .int r305])), ((am 29), .inr (8, [.ref q329, .int r306])), ((am 30), .inr (8, [.ref q330, .int r307])), ((am 31), .inr (8, [.ref q331, .int (size_m31 + 1)])), (q324, .inl (cI, r308, .inl r309)), (q325, .inl (cI, r310, .inl r311)), (q326, .inl (cI, r312, .inl r313)), (q327, .inl (cI, r314, .inl r315)), (q328, .inl (cI, r316, .inl r317)), (q329, .inl (cI, r318, .inl r319)), (q330, .inl (cI, r320, .inl r321)), (q331, .inl (cI, r322, .inl r323))]) (cl' := 0 + C332) (sl' := 0 + S333) rfl rfl rfl rfl rfl rfl ?_
                refine j_istore (lv' := [(12, .int size_m24), (4, .int (b_a_all_m5 (Int32.toNatClampNeg p2))), (0, .ref h0), (1, .int p1), (2, .int p2), (3, .int p3)]) d_Mo_buildStatement_276 (by decide) rfl ?_
                replace h := lf_s h
                obtain ⟨h, e1, e2⟩ := h
                replace h := Prod.mk.inj h
                obtain ⟨h9, h⟩ := h
                subst h9
                replace h := Prod.mk.inj h
                obtain ⟨h9, h⟩ := h
                subst h9
                replace h := Prod.mk.inj h
                obtain ⟨h9, h⟩ := h
                subst h9
                replace h := Prod.mk.inj h
                obtain ⟨h9, h⟩ := h
                subst h9
                replace h := Prod.mk.inj h
                obtain ⟨h9, h⟩ := h
                subst h9
                replace h := Prod.mk.inj h
                obtain ⟨h9, h⟩ := h
                subst h9
                replace h := Prod.mk.inj h
                obtain ⟨h9, h⟩ := h
                subst h9
                replace h := Prod.mk.inj h
                obtain ⟨h9, h⟩ := h
                subst h9
                replace h := Prod.mk.inj h
                obtain ⟨h9, h⟩ := h
                subst h9
                replace h := Prod.mk.inj h
                obtain ⟨h9, h⟩ := h
                subst h9
                replace h := Prod.mk.inj h
                obtain ⟨h9, h⟩ := h
                subst h9
                replace h := Prod.mk.inj h
                obtain ⟨h9, h⟩ := h
                subst h9
                replace h := Prod.mk.inj h
                obtain ⟨h9, h⟩ := h
                subst h9
                replace h := Prod.mk.inj h
                obtain ⟨h9, h⟩ := h
                subst h9
                replace h := Prod.mk.inj h
                obtain ⟨h9, h⟩ := h
                subst h9
                replace h := Prod.mk.inj h
                obtain ⟨h9, h⟩ := h
                subst h9
                replace h := Prod.mk.inj h
                obtain ⟨h9, h⟩ := h
                subst h9
                replace h := Prod.mk.inj h
                obtain ⟨h9, h⟩ := h
                subst h9
                replace h := Prod.mk.inj h
                obtain ⟨h9, h⟩ := h
                subst h9
                replace h := Prod.mk.inj h
                obtain ⟨h9, h⟩ := h
                subst h9
                replace h := Prod.mk.inj h
                obtain ⟨h9, h⟩ := h
                subst h9
                replace h := Prod.mk.inj h
                obtain ⟨h9, h⟩ := h
                subst h9
                replace h := Prod.mk.inj h
                obtain ⟨h9, h⟩ := h
                subst h9
                replace h := Prod.mk.inj h
                obtain ⟨h9, h⟩ := h
                subst h9
                replace h := Prod.mk.inj h
                obtain ⟨h9, h⟩ := h
                subst h9
                replace h := Prod.mk.inj h
                obtain ⟨h9, h⟩ := h
                subst h9
                replace h := Prod.mk.inj h
                obtain ⟨h9, h⟩ := h
                subst h9
                subst h
                refine j_widen (cl' := mc) (sl' := ms) (by omega) (by omega) ?_
                exact j_vret (w := [(h0, .inr (9, moF am known_h0 thrown_h0 wrong_h0 lastEnd_h0 at_h0 bad_h0 levels_h0 least_h0 found_h0)), ((am 5), .inr (8, [.ref a_all_m5, .int size_m5])), (a_all_m5, .inl (cI, n_a_all_m5, .inl b_a_all_m5)), ((am 6), .inr (8, [.ref a_all_m6, .int size_m6])), (a_all_m6, .inl (cI, n_a_all_m6, .inl b_a_all_m6)), ((am 24), .inr (8, [.ref q324, .int (size_m24 + 1)])), ((am 25), .inr (8, [.ref q325, .int (size_m25 + 1)])), ((am 26), .inr (8, [.ref q326, .int (size_m26 + 1)])), ((am 27), .inr (8, [.ref q327, .int (size_m27 + 1)])), ((am 28), .inr (8, [.ref q328, .int r305])), ((am 29), .inr (8, [.ref q329, .int r306])), ((am 30), .inr (8, [.ref q330, .int r307])), ((am 31), .inr (8, [.ref q331, .int (size_m31 + 1)])), ((am 33), .inr (8, [.ref a_all_m33, .int size_m33])), ((am 34), .inr (8, [.ref a_all_m34, .int size_m34])), (a_all_m34, .inl (cI, n_a_all_m34, .inl b_a_all_m34)), (q324, .inl (cI, r308, .inl r309)), (q325, .inl (cI, r310, .inl r311)), (q326, .inl (cI, r312, .inl r313)), (q327, .inl (cI, r314, .inl r315)), (q328, .inl (cI, r316, .inl r317)), (q329, .inl (cI, r318, .inl r319)), (q330, .inl (cI, r320, .inl r321)), (q331, .inl (cI, r322, .inl r323)), (a_all_m33, .inl (cI, n_a_all_m33, .inl b_a_all_m33))]) hr d_Mo_buildStatement_278 [6, 4, 5, 7, 8, 9, 10, 11, 12, 13, 14, 15, 16, 0, 2, 3, 17, 18, 19, 20, 21, 22, 23, 24, 1] rfl (by decide) ⟨q324, q325, q326, q327, q328, q329, q330, q331, a_all_m33, rfl, rfl⟩
              · replace h := it_f c304 h
                by_cases c337 : (b_a_all_m5 (Int32.toNatClampNeg p2)) = 17
                · replace h := it_t c337 h
                  refine j_tabIn (tgt := 262) (off := 250) d_Mo_buildStatement_12 17 c337 (by decide) (by decide) (by decide) (by decide) ?_
                  refine j_aload_n d_Mo_buildStatement_262 rfl 1 rfl ?_
                  refine j_iload_n d_Mo_buildStatement_263 rfl 2 rfl ?_
                  refine j_iload d_Mo_buildStatement_264 0 rfl ?_
                  refine j_bipush (v := 16) d_Mo_buildStatement_266 (by decide) ?_
                  refine j_isub d_Mo_buildStatement_268 ?_
                  refine j_bipush (v := 15) d_Mo_buildStatement_269 (by decide) ?_
                  refine j_iadd d_Mo_buildStatement_271 ?_
                  refine j_iload_n d_Mo_buildStatement_272 rfl 3 rfl ?_
                  replace h := bw_s h
                  obtain ⟨⟨r338, r339, r340, r341, r342, r343, r344, r345, r346, r347, r348, r349, r350, r351, r352, r353, r354, r355, r356⟩, C365, S366, C367, S368, k369, h, e1, e2⟩ := h
                  replace hC : 0 + C365 + C367 ≤ mc := by omega
                  replace hS : 0 + S366 + S368 ≤ ms := by omega
                  clear e1 e2
                  refine j_callV (n := 3) (As := [.int p1, .int (((b_a_all_m5 (Int32.toNatClampNeg p2)) - 16) + 15), .int p2]) (rest := []) (wr := [((am 33), .inr (8, [.ref a_all_m33, .int size_m33])), (a_all_m33, .inl (cI, n_a_all_m33, .inl b_a_all_m33)), ((am 34), .inr (8, [.ref a_all_m34, .int size_m34])), (a_all_m34, .inl (cI, n_a_all_m34, .inl b_a_all_m34)), ((am 5), .inr (8, [.ref a_all_m5, .int size_m5])), (a_all_m5, .inl (cI, n_a_all_m5, .inl b_a_all_m5))]) (c_Mo_leafNode l D cI cB cJ cS h0 am a_all_m6 a_all_m24 a_all_m25 a_all_m26 a_all_m27 a_all_m28 a_all_m29 a_all_m30 a_all_m31 p1 (((b_a_all_m5 (Int32.toNatClampNeg p2)) - 16) + 15) p2 known_h0 thrown_h0 wrong_h0 lastEnd_h0 at_h0 bad_h0 levels_h0 least_h0 found_h0 size_m6 n_a_all_m6 b_a_all_m6 size_m24 n_a_all_m24 b_a_all_m24 size_m25 n_a_all_m25 b_a_all_m25 size_m26 n_a_all_m26 b_a_all_m26 size_m27 n_a_all_m27 b_a_all_m27 size_m28 n_a_all_m28 b_a_all_m28 size_m29 n_a_all_m29 b_a_all_m29 size_m30 n_a_all_m30 b_a_all_m30 size_m31 n_a_all_m31 b_a_all_m31  r338 r339 r340 r341 r342 r343 r344 r345 r346 r347 r348 r349 r350 r351 r352 r353 r354 r355 r356 C365 S366 k369) k_Mo_426 (by decide) ⟨Nat.le_of_ble_eq_true rfl, Nat.le_of_ble_eq_true rfl⟩ rfl 0 rfl [0, 1, 2, 3, 4, 5, 6, 7, 8, 9, 10, 11, 12, 13, 14, 15, 16, 17, 18] [19, 20, 21, 22, 23, 24] rfl (by decide +kernel) rfl (by decide +kernel) (by decide +kernel) rfl rfl (Nat.le_of_ble_eq_true rfl) d_Mo_buildStatement_273 ⟨show 0 + C365 ≤ mc by omega, show 0 + S366 ≤ ms by omega⟩ (fun v w hq => ?_)
                  obtain ⟨q357, q358, q359, q360, q361, q362, q363, q364, rfl, rfl⟩ := hq
                  refine j_norm (pc' := 276) (st' := [.int size_m24]) (ws' := [((am 33), .inr (8, [.ref a_all_m33, .int size_m33])), (a_all_m33, .inl (cI, n_a_all_m33, .inl b_a_all_m33)), ((am 34), .inr (8, [.ref a_all_m34, .int size_m34])), (a_all_m34, .inl (cI, n_a_all_m34, .inl b_a_all_m34)), ((am 5), .inr (8, [.ref a_all_m5, .int size_m5])), (a_all_m5, .inl (cI, n_a_all_m5, .inl b_a_all_m5)), (h0, .inr (9, moF am known_h0 thrown_h0 wrong_h0 lastEnd_h0 at_h0 bad_h0 levels_h0 least_h0 found_h0)), ((am 6), .inr (8, [.ref a_all_m6, .int size_m6])), (a_all_m6, .inl (cI, n_a_all_m6, .inl b_a_all_m6)), ((am 24), .inr (8, [.ref q357, .int (size_m24 + 1)])), ((am 25), .inr (8, [.ref q358, .int (size_m25 + 1)])), ((am 26), .inr (8, [.ref q359, .int (size_m26 + 1)])), ((am 27), .inr (8, [.ref q360, .int (size_m27 + 1)])), ((am 28), .inr (8, [.ref q361, .int r338])), ((am 29), .inr (8, [.ref q362, .int r339])), ((am 30), .inr (8, [.ref q363, .int r340])), ((am 31), .inr (8, [.ref q364, .int (size_m31 + 1)])), (q357, .inl (cI, r341, .inl r342)), (q358, .inl (cI, r343, .inl r344)), (q359, .inl (cI, r345, .inl r346)), (q360, .inl (cI, r347, .inl r348)), (q361, .inl (cI, r349, .inl r350)), (q362, .inl (cI, r351, .inl r352)), (q363, .inl (cI, r353, .inl r354)), (q364, .inl (cI, r355, .inl r356))]) (cl' := 0 + C365) (sl' := 0 + S366) rfl rfl rfl rfl rfl rfl ?_
                  refine j_istore (lv' := [(12, .int size_m24), (4, .int (b_a_all_m5 (Int32.toNatClampNeg p2))), (0, .ref h0), (1, .int p1), (2, .int p2), (3, .int p3)]) d_Mo_buildStatement_276 (by decide) rfl ?_
                  replace h := lf_s h
                  obtain ⟨h, e1, e2⟩ := h
                  replace h := Prod.mk.inj h
                  obtain ⟨h9, h⟩ := h
                  subst h9
                  replace h := Prod.mk.inj h
                  obtain ⟨h9, h⟩ := h
                  subst h9
                  replace h := Prod.mk.inj h
                  obtain ⟨h9, h⟩ := h
                  subst h9
                  replace h := Prod.mk.inj h
                  obtain ⟨h9, h⟩ := h
                  subst h9
                  replace h := Prod.mk.inj h
                  obtain ⟨h9, h⟩ := h
                  subst h9
                  replace h := Prod.mk.inj h
                  obtain ⟨h9, h⟩ := h
                  subst h9
                  replace h := Prod.mk.inj h
                  obtain ⟨h9, h⟩ := h
                  subst h9
                  replace h := Prod.mk.inj h
                  obtain ⟨h9, h⟩ := h
                  subst h9
                  replace h := Prod.mk.inj h
                  obtain ⟨h9, h⟩ := h
                  subst h9
                  replace h := Prod.mk.inj h
                  obtain ⟨h9, h⟩ := h
                  subst h9
                  replace h := Prod.mk.inj h
                  obtain ⟨h9, h⟩ := h
                  subst h9
                  replace h := Prod.mk.inj h
                  obtain ⟨h9, h⟩ := h
                  subst h9
                  replace h := Prod.mk.inj h
                  obtain ⟨h9, h⟩ := h
                  subst h9
                  replace h := Prod.mk.inj h
                  obtain ⟨h9, h⟩ := h
                  subst h9
                  replace h := Prod.mk.inj h
                  obtain ⟨h9, h⟩ := h
                  subst h9
                  replace h := Prod.mk.inj h
                  obtain ⟨h9, h⟩ := h
                  subst h9
                  replace h := Prod.mk.inj h
                  obtain ⟨h9, h⟩ := h
                  subst h9
                  replace h := Prod.mk.inj h
                  obtain ⟨h9, h⟩ := h
                  subst h9
                  replace h := Prod.mk.inj h
                  obtain ⟨h9, h⟩ := h
                  subst h9
                  replace h := Prod.mk.inj h
                  obtain ⟨h9, h⟩ := h
                  subst h9
                  replace h := Prod.mk.inj h
                  obtain ⟨h9, h⟩ := h
                  subst h9
                  replace h := Prod.mk.inj h
                  obtain ⟨h9, h⟩ := h
                  subst h9
                  replace h := Prod.mk.inj h
                  obtain ⟨h9, h⟩ := h
                  subst h9
                  replace h := Prod.mk.inj h
                  obtain ⟨h9, h⟩ := h
                  subst h9
                  replace h := Prod.mk.inj h
                  obtain ⟨h9, h⟩ := h
                  subst h9
                  replace h := Prod.mk.inj h
                  obtain ⟨h9, h⟩ := h
                  subst h9
                  replace h := Prod.mk.inj h
                  obtain ⟨h9, h⟩ := h
                  subst h9
                  subst h
                  refine j_widen (cl' := mc) (sl' := ms) (by omega) (by omega) ?_
                  exact j_vret (w := [(h0, .inr (9, moF am known_h0 thrown_h0 wrong_h0 lastEnd_h0 at_h0 bad_h0 levels_h0 least_h0 found_h0)), ((am 5), .inr (8, [.ref a_all_m5, .int size_m5])), (a_all_m5, .inl (cI, n_a_all_m5, .inl b_a_all_m5)), ((am 6), .inr (8, [.ref a_all_m6, .int size_m6])), (a_all_m6, .inl (cI, n_a_all_m6, .inl b_a_all_m6)), ((am 24), .inr (8, [.ref q357, .int (size_m24 + 1)])), ((am 25), .inr (8, [.ref q358, .int (size_m25 + 1)])), ((am 26), .inr (8, [.ref q359, .int (size_m26 + 1)])), ((am 27), .inr (8, [.ref q360, .int (size_m27 + 1)])), ((am 28), .inr (8, [.ref q361, .int r338])), ((am 29), .inr (8, [.ref q362, .int r339])), ((am 30), .inr (8, [.ref q363, .int r340])), ((am 31), .inr (8, [.ref q364, .int (size_m31 + 1)])), ((am 33), .inr (8, [.ref a_all_m33, .int size_m33])), ((am 34), .inr (8, [.ref a_all_m34, .int size_m34])), (a_all_m34, .inl (cI, n_a_all_m34, .inl b_a_all_m34)), (q357, .inl (cI, r341, .inl r342)), (q358, .inl (cI, r343, .inl r344)), (q359, .inl (cI, r345, .inl r346)), (q360, .inl (cI, r347, .inl r348)), (q361, .inl (cI, r349, .inl r350)), (q362, .inl (cI, r351, .inl r352)), (q363, .inl (cI, r353, .inl r354)), (q364, .inl (cI, r355, .inl r356)), (a_all_m33, .inl (cI, n_a_all_m33, .inl b_a_all_m33))]) hr d_Mo_buildStatement_278 [6, 4, 5, 7, 8, 9, 10, 11, 12, 13, 14, 15, 16, 0, 2, 3, 17, 18, 19, 20, 21, 22, 23, 24, 1] rfl (by decide) ⟨q357, q358, q359, q360, q361, q362, q363, q364, a_all_m33, rfl, rfl⟩
                · replace h := it_f c337 h
                  by_cases c370 : (b_a_all_m5 (Int32.toNatClampNeg p2)) = 18
                  · replace h := it_t c370 h
                    refine j_tabIn (tgt := 262) (off := 250) d_Mo_buildStatement_12 18 c370 (by decide) (by decide) (by decide) (by decide) ?_
                    refine j_aload_n d_Mo_buildStatement_262 rfl 1 rfl ?_
                    refine j_iload_n d_Mo_buildStatement_263 rfl 2 rfl ?_
                    refine j_iload d_Mo_buildStatement_264 0 rfl ?_
                    refine j_bipush (v := 16) d_Mo_buildStatement_266 (by decide) ?_
                    refine j_isub d_Mo_buildStatement_268 ?_
                    refine j_bipush (v := 15) d_Mo_buildStatement_269 (by decide) ?_
                    refine j_iadd d_Mo_buildStatement_271 ?_
                    refine j_iload_n d_Mo_buildStatement_272 rfl 3 rfl ?_
                    replace h := bw_s h
                    obtain ⟨⟨r371, r372, r373, r374, r375, r376, r377, r378, r379, r380, r381, r382, r383, r384, r385, r386, r387, r388, r389⟩, C398, S399, C400, S401, k402, h, e1, e2⟩ := h
                    replace hC : 0 + C398 + C400 ≤ mc := by omega
                    replace hS : 0 + S399 + S401 ≤ ms := by omega
                    clear e1 e2
                    refine j_callV (n := 3) (As := [.int p1, .int (((b_a_all_m5 (Int32.toNatClampNeg p2)) - 16) + 15), .int p2]) (rest := []) (wr := [((am 33), .inr (8, [.ref a_all_m33, .int size_m33])), (a_all_m33, .inl (cI, n_a_all_m33, .inl b_a_all_m33)), ((am 34), .inr (8, [.ref a_all_m34, .int size_m34])), (a_all_m34, .inl (cI, n_a_all_m34, .inl b_a_all_m34)), ((am 5), .inr (8, [.ref a_all_m5, .int size_m5])), (a_all_m5, .inl (cI, n_a_all_m5, .inl b_a_all_m5))]) (c_Mo_leafNode l D cI cB cJ cS h0 am a_all_m6 a_all_m24 a_all_m25 a_all_m26 a_all_m27 a_all_m28 a_all_m29 a_all_m30 a_all_m31 p1 (((b_a_all_m5 (Int32.toNatClampNeg p2)) - 16) + 15) p2 known_h0 thrown_h0 wrong_h0 lastEnd_h0 at_h0 bad_h0 levels_h0 least_h0 found_h0 size_m6 n_a_all_m6 b_a_all_m6 size_m24 n_a_all_m24 b_a_all_m24 size_m25 n_a_all_m25 b_a_all_m25 size_m26 n_a_all_m26 b_a_all_m26 size_m27 n_a_all_m27 b_a_all_m27 size_m28 n_a_all_m28 b_a_all_m28 size_m29 n_a_all_m29 b_a_all_m29 size_m30 n_a_all_m30 b_a_all_m30 size_m31 n_a_all_m31 b_a_all_m31  r371 r372 r373 r374 r375 r376 r377 r378 r379 r380 r381 r382 r383 r384 r385 r386 r387 r388 r389 C398 S399 k402) k_Mo_426 (by decide) ⟨Nat.le_of_ble_eq_true rfl, Nat.le_of_ble_eq_true rfl⟩ rfl 0 rfl [0, 1, 2, 3, 4, 5, 6, 7, 8, 9, 10, 11, 12, 13, 14, 15, 16, 17, 18] [19, 20, 21, 22, 23, 24] rfl (by decide +kernel) rfl (by decide +kernel) (by decide +kernel) rfl rfl (Nat.le_of_ble_eq_true rfl) d_Mo_buildStatement_273 ⟨show 0 + C398 ≤ mc by omega, show 0 + S399 ≤ ms by omega⟩ (fun v w hq => ?_)
                    obtain ⟨q390, q391, q392, q393, q394, q395, q396, q397, rfl, rfl⟩ := hq
                    refine j_norm (pc' := 276) (st' := [.int size_m24]) (ws' := [((am 33), .inr (8, [.ref a_all_m33, .int size_m33])), (a_all_m33, .inl (cI, n_a_all_m33, .inl b_a_all_m33)), ((am 34), .inr (8, [.ref a_all_m34, .int size_m34])), (a_all_m34, .inl (cI, n_a_all_m34, .inl b_a_all_m34)), ((am 5), .inr (8, [.ref a_all_m5, .int size_m5])), (a_all_m5, .inl (cI, n_a_all_m5, .inl b_a_all_m5)), (h0, .inr (9, moF am known_h0 thrown_h0 wrong_h0 lastEnd_h0 at_h0 bad_h0 levels_h0 least_h0 found_h0)), ((am 6), .inr (8, [.ref a_all_m6, .int size_m6])), (a_all_m6, .inl (cI, n_a_all_m6, .inl b_a_all_m6)), ((am 24), .inr (8, [.ref q390, .int (size_m24 + 1)])), ((am 25), .inr (8, [.ref q391, .int (size_m25 + 1)])), ((am 26), .inr (8, [.ref q392, .int (size_m26 + 1)])), ((am 27), .inr (8, [.ref q393, .int (size_m27 + 1)])), ((am 28), .inr (8, [.ref q394, .int r371])), ((am 29), .inr (8, [.ref q395, .int r372])), ((am 30), .inr (8, [.ref q396, .int r373])), ((am 31), .inr (8, [.ref q397, .int (size_m31 + 1)])), (q390, .inl (cI, r374, .inl r375)), (q391, .inl (cI, r376, .inl r377)), (q392, .inl (cI, r378, .inl r379)), (q393, .inl (cI, r380, .inl r381)), (q394, .inl (cI, r382, .inl r383)), (q395, .inl (cI, r384, .inl r385)), (q396, .inl (cI, r386, .inl r387)), (q397, .inl (cI, r388, .inl r389))]) (cl' := 0 + C398) (sl' := 0 + S399) rfl rfl rfl rfl rfl rfl ?_
                    refine j_istore (lv' := [(12, .int size_m24), (4, .int (b_a_all_m5 (Int32.toNatClampNeg p2))), (0, .ref h0), (1, .int p1), (2, .int p2), (3, .int p3)]) d_Mo_buildStatement_276 (by decide) rfl ?_
                    replace h := lf_s h
                    obtain ⟨h, e1, e2⟩ := h
                    replace h := Prod.mk.inj h
                    obtain ⟨h9, h⟩ := h
                    subst h9
                    replace h := Prod.mk.inj h
                    obtain ⟨h9, h⟩ := h
                    subst h9
                    replace h := Prod.mk.inj h
                    obtain ⟨h9, h⟩ := h
                    subst h9
                    replace h := Prod.mk.inj h
                    obtain ⟨h9, h⟩ := h
                    subst h9
                    replace h := Prod.mk.inj h
                    obtain ⟨h9, h⟩ := h
                    subst h9
                    replace h := Prod.mk.inj h
                    obtain ⟨h9, h⟩ := h
                    subst h9
                    replace h := Prod.mk.inj h
                    obtain ⟨h9, h⟩ := h
                    subst h9
                    replace h := Prod.mk.inj h
                    obtain ⟨h9, h⟩ := h
                    subst h9
                    replace h := Prod.mk.inj h
                    obtain ⟨h9, h⟩ := h
                    subst h9
                    replace h := Prod.mk.inj h
                    obtain ⟨h9, h⟩ := h
                    subst h9
                    replace h := Prod.mk.inj h
                    obtain ⟨h9, h⟩ := h
                    subst h9
                    replace h := Prod.mk.inj h
                    obtain ⟨h9, h⟩ := h
                    subst h9
                    replace h := Prod.mk.inj h
                    obtain ⟨h9, h⟩ := h
                    subst h9
                    replace h := Prod.mk.inj h
                    obtain ⟨h9, h⟩ := h
                    subst h9
                    replace h := Prod.mk.inj h
                    obtain ⟨h9, h⟩ := h
                    subst h9
                    replace h := Prod.mk.inj h
                    obtain ⟨h9, h⟩ := h
                    subst h9
                    replace h := Prod.mk.inj h
                    obtain ⟨h9, h⟩ := h
                    subst h9
                    replace h := Prod.mk.inj h
                    obtain ⟨h9, h⟩ := h
                    subst h9
                    replace h := Prod.mk.inj h
                    obtain ⟨h9, h⟩ := h
                    subst h9
                    replace h := Prod.mk.inj h
                    obtain ⟨h9, h⟩ := h
                    subst h9
                    replace h := Prod.mk.inj h
                    obtain ⟨h9, h⟩ := h
                    subst h9
                    replace h := Prod.mk.inj h
                    obtain ⟨h9, h⟩ := h
                    subst h9
                    replace h := Prod.mk.inj h
                    obtain ⟨h9, h⟩ := h
                    subst h9
                    replace h := Prod.mk.inj h
                    obtain ⟨h9, h⟩ := h
                    subst h9
                    replace h := Prod.mk.inj h
                    obtain ⟨h9, h⟩ := h
                    subst h9
                    replace h := Prod.mk.inj h
                    obtain ⟨h9, h⟩ := h
                    subst h9
                    replace h := Prod.mk.inj h
                    obtain ⟨h9, h⟩ := h
                    subst h9
                    subst h
                    refine j_widen (cl' := mc) (sl' := ms) (by omega) (by omega) ?_
                    exact j_vret (w := [(h0, .inr (9, moF am known_h0 thrown_h0 wrong_h0 lastEnd_h0 at_h0 bad_h0 levels_h0 least_h0 found_h0)), ((am 5), .inr (8, [.ref a_all_m5, .int size_m5])), (a_all_m5, .inl (cI, n_a_all_m5, .inl b_a_all_m5)), ((am 6), .inr (8, [.ref a_all_m6, .int size_m6])), (a_all_m6, .inl (cI, n_a_all_m6, .inl b_a_all_m6)), ((am 24), .inr (8, [.ref q390, .int (size_m24 + 1)])), ((am 25), .inr (8, [.ref q391, .int (size_m25 + 1)])), ((am 26), .inr (8, [.ref q392, .int (size_m26 + 1)])), ((am 27), .inr (8, [.ref q393, .int (size_m27 + 1)])), ((am 28), .inr (8, [.ref q394, .int r371])), ((am 29), .inr (8, [.ref q395, .int r372])), ((am 30), .inr (8, [.ref q396, .int r373])), ((am 31), .inr (8, [.ref q397, .int (size_m31 + 1)])), ((am 33), .inr (8, [.ref a_all_m33, .int size_m33])), ((am 34), .inr (8, [.ref a_all_m34, .int size_m34])), (a_all_m34, .inl (cI, n_a_all_m34, .inl b_a_all_m34)), (q390, .inl (cI, r374, .inl r375)), (q391, .inl (cI, r376, .inl r377)), (q392, .inl (cI, r378, .inl r379)), (q393, .inl (cI, r380, .inl r381)), (q394, .inl (cI, r382, .inl r383)), (q395, .inl (cI, r384, .inl r385)), (q396, .inl (cI, r386, .inl r387)), (q397, .inl (cI, r388, .inl r389)), (a_all_m33, .inl (cI, n_a_all_m33, .inl b_a_all_m33))]) hr d_Mo_buildStatement_278 [6, 4, 5, 7, 8, 9, 10, 11, 12, 13, 14, 15, 16, 0, 2, 3, 17, 18, 19, 20, 21, 22, 23, 24, 1] rfl (by decide) ⟨q390, q391, q392, q393, q394, q395, q396, q397, a_all_m33, rfl, rfl⟩
                  · replace h := it_f c370 h
                    by_cases c403 : (b_a_all_m5 (Int32.toNatClampNeg p2)) = 19
                    · replace h := it_t c403 h
                      refine j_tabIn (tgt := 80) (off := 68) d_Mo_buildStatement_12 19 c403 (by decide) (by decide) (by decide) (by decide) ?_
                      refine j_aload_n d_Mo_buildStatement_80 rfl 1 rfl ?_
                      refine j_iload_n d_Mo_buildStatement_81 rfl 2 rfl ?_
                      refine j_iload_n d_Mo_buildStatement_82 rfl 3 rfl ?_
                      refine j_iload_n d_Mo_buildStatement_83 rfl 4 rfl ?_
                      replace h := bw_s h
                      obtain ⟨⟨r404, r405, r406, r407, r408, r409, r410, r411, r412, r413, r414, r415, r416, r417, r418, r419, r420, r421, r422, r423, r424, r425, r426, r427, r428, r429, r430⟩, C440, S441, C442, S443, k444, h, e1, e2⟩ := h
                      replace hC : 0 + C440 + C442 ≤ mc := by omega
                      replace hS : 0 + S441 + S443 ≤ ms := by omega
                      clear e1 e2
                      refine j_callV (n := 3) (As := [.int p1, .int p2, .int p3]) (rest := []) (wr := []) (c_Mo_buildFunction l D cI cB cJ cS h0 am a_all_m5 a_all_m6 a_all_m24 a_all_m25 a_all_m26 a_all_m27 a_all_m28 a_all_m29 a_all_m30 a_all_m31 a_all_m34 a_all_m33 p1 p2 p3 known_h0 thrown_h0 wrong_h0 lastEnd_h0 at_h0 bad_h0 levels_h0 least_h0 found_h0 size_m5 n_a_all_m5 b_a_all_m5 size_m6 n_a_all_m6 b_a_all_m6 size_m24 n_a_all_m24 b_a_all_m24 size_m25 n_a_all_m25 b_a_all_m25 size_m26 n_a_all_m26 b_a_all_m26 size_m27 n_a_all_m27 b_a_all_m27 size_m28 n_a_all_m28 b_a_all_m28 size_m29 n_a_all_m29 b_a_all_m29 size_m30 n_a_all_m30 b_a_all_m30 size_m31 n_a_all_m31 b_a_all_m31 size_m34 n_a_all_m34 b_a_all_m34 size_m33 n_a_all_m33 b_a_all_m33  r404 r405 r406 r407 r408 r409 r410 r411 r412 r413 r414 r415 r416 r417 r418 r419 r420 r421 r422 r423 r424 r425 r426 r427 r428 r429 r430 C440 S441 k444) k_Mo_430 (by decide) ⟨Nat.le_of_ble_eq_true rfl, Nat.le_of_ble_eq_true rfl⟩ rfl 0 rfl [0, 23, 24, 1, 2, 3, 4, 5, 6, 7, 8, 9, 10, 11, 12, 13, 14, 15, 16, 17, 18, 21, 22, 19, 20] [] rfl (by decide +kernel) rfl (by decide +kernel) (by decide +kernel) rfl rfl (Nat.le_of_ble_eq_true rfl) d_Mo_buildStatement_84 ⟨show 0 + C440 ≤ mc by omega, show 0 + S441 ≤ ms by omega⟩ (fun v w hq => ?_)
                      obtain ⟨q431, q432, q433, q434, q435, q436, q437, q438, q439, rfl, rfl⟩ := hq
                      refine j_norm (pc' := 87) (st' := []) (ws' := [(h0, .inr (9, moF am known_h0 thrown_h0 wrong_h0 lastEnd_h0 at_h0 bad_h0 levels_h0 least_h0 found_h0)), ((am 5), .inr (8, [.ref a_all_m5, .int size_m5])), (a_all_m5, .inl (cI, n_a_all_m5, .inl b_a_all_m5)), ((am 6), .inr (8, [.ref a_all_m6, .int size_m6])), (a_all_m6, .inl (cI, n_a_all_m6, .inl b_a_all_m6)), ((am 24), .inr (8, [.ref q431, .int r404])), ((am 25), .inr (8, [.ref q432, .int r405])), ((am 26), .inr (8, [.ref q433, .int r406])), ((am 27), .inr (8, [.ref q434, .int r407])), ((am 28), .inr (8, [.ref q435, .int r408])), ((am 29), .inr (8, [.ref q436, .int r409])), ((am 30), .inr (8, [.ref q437, .int r410])), ((am 31), .inr (8, [.ref q438, .int r411])), ((am 34), .inr (8, [.ref a_all_m34, .int size_m34])), (a_all_m34, .inl (cI, n_a_all_m34, .inl r412)), ((am 33), .inr (8, [.ref q439, .int (((((size_m33 + 1) + 1) + 1) + 1) + 1)])), (q431, .inl (cI, r413, .inl r414)), (q432, .inl (cI, r415, .inl r416)), (q433, .inl (cI, r417, .inl r418)), (q434, .inl (cI, r419, .inl r420)), (q435, .inl (cI, r421, .inl r422)), (q436, .inl (cI, r423, .inl r424)), (q437, .inl (cI, r425, .inl r426)), (q438, .inl (cI, r427, .inl r428)), (q439, .inl (cI, r429, .inl r430))]) (cl' := 0 + C440) (sl' := 0 + S441) rfl rfl rfl rfl rfl rfl ?_
                      replace h := lf_s h
                      obtain ⟨h, e1, e2⟩ := h
                      replace h := Prod.mk.inj h
                      obtain ⟨h9, h⟩ := h
                      subst h9
                      replace h := Prod.mk.inj h
                      obtain ⟨h9, h⟩ := h
                      subst h9
                      replace h := Prod.mk.inj h
                      obtain ⟨h9, h⟩ := h
                      subst h9
                      replace h := Prod.mk.inj h
                      obtain ⟨h9, h⟩ := h
                      subst h9
                      replace h := Prod.mk.inj h
                      obtain ⟨h9, h⟩ := h
                      subst h9
                      replace h := Prod.mk.inj h
                      obtain ⟨h9, h⟩ := h
                      subst h9
                      replace h := Prod.mk.inj h
                      obtain ⟨h9, h⟩ := h
                      subst h9
                      replace h := Prod.mk.inj h
                      obtain ⟨h9, h⟩ := h
                      subst h9
                      replace h := Prod.mk.inj h
                      obtain ⟨h9, h⟩ := h
                      subst h9
                      replace h := Prod.mk.inj h
                      obtain ⟨h9, h⟩ := h
                      subst h9
                      replace h := Prod.mk.inj h
                      obtain ⟨h9, h⟩ := h
                      subst h9
                      replace h := Prod.mk.inj h
                      obtain ⟨h9, h⟩ := h
                      subst h9
                      replace h := Prod.mk.inj h
                      obtain ⟨h9, h⟩ := h
                      subst h9
                      replace h := Prod.mk.inj h
                      obtain ⟨h9, h⟩ := h
                      subst h9
                      replace h := Prod.mk.inj h
                      obtain ⟨h9, h⟩ := h
                      subst h9
                      replace h := Prod.mk.inj h
                      obtain ⟨h9, h⟩ := h
                      subst h9
                      replace h := Prod.mk.inj h
                      obtain ⟨h9, h⟩ := h
                      subst h9
                      replace h := Prod.mk.inj h
                      obtain ⟨h9, h⟩ := h
                      subst h9
                      replace h := Prod.mk.inj h
                      obtain ⟨h9, h⟩ := h
                      subst h9
                      replace h := Prod.mk.inj h
                      obtain ⟨h9, h⟩ := h
                      subst h9
                      replace h := Prod.mk.inj h
                      obtain ⟨h9, h⟩ := h
                      subst h9
                      replace h := Prod.mk.inj h
                      obtain ⟨h9, h⟩ := h
                      subst h9
                      replace h := Prod.mk.inj h
                      obtain ⟨h9, h⟩ := h
                      subst h9
                      replace h := Prod.mk.inj h
                      obtain ⟨h9, h⟩ := h
                      subst h9
                      replace h := Prod.mk.inj h
                      obtain ⟨h9, h⟩ := h
                      subst h9
                      replace h := Prod.mk.inj h
                      obtain ⟨h9, h⟩ := h
                      subst h9
                      replace h := Prod.mk.inj h
                      obtain ⟨h9, h⟩ := h
                      subst h9
                      subst h
                      refine j_widen (cl' := mc) (sl' := ms) (by omega) (by omega) ?_
                      exact j_vret (w := [(h0, .inr (9, moF am known_h0 thrown_h0 wrong_h0 lastEnd_h0 at_h0 bad_h0 levels_h0 least_h0 found_h0)), ((am 5), .inr (8, [.ref a_all_m5, .int size_m5])), (a_all_m5, .inl (cI, n_a_all_m5, .inl b_a_all_m5)), ((am 6), .inr (8, [.ref a_all_m6, .int size_m6])), (a_all_m6, .inl (cI, n_a_all_m6, .inl b_a_all_m6)), ((am 24), .inr (8, [.ref q431, .int r404])), ((am 25), .inr (8, [.ref q432, .int r405])), ((am 26), .inr (8, [.ref q433, .int r406])), ((am 27), .inr (8, [.ref q434, .int r407])), ((am 28), .inr (8, [.ref q435, .int r408])), ((am 29), .inr (8, [.ref q436, .int r409])), ((am 30), .inr (8, [.ref q437, .int r410])), ((am 31), .inr (8, [.ref q438, .int r411])), ((am 33), .inr (8, [.ref q439, .int (((((size_m33 + 1) + 1) + 1) + 1) + 1)])), ((am 34), .inr (8, [.ref a_all_m34, .int size_m34])), (a_all_m34, .inl (cI, n_a_all_m34, .inl r412)), (q431, .inl (cI, r413, .inl r414)), (q432, .inl (cI, r415, .inl r416)), (q433, .inl (cI, r417, .inl r418)), (q434, .inl (cI, r419, .inl r420)), (q435, .inl (cI, r421, .inl r422)), (q436, .inl (cI, r423, .inl r424)), (q437, .inl (cI, r425, .inl r426)), (q438, .inl (cI, r427, .inl r428)), (q439, .inl (cI, r429, .inl r430))]) hr d_Mo_buildStatement_87 [0, 1, 2, 3, 4, 5, 6, 7, 8, 9, 10, 11, 12, 15, 13, 14, 16, 17, 18, 19, 20, 21, 22, 23, 24] rfl (by decide) ⟨q431, q432, q433, q434, q435, q436, q437, q438, q439, rfl, rfl⟩
                    · replace h := it_f c403 h
                      by_cases c445 : (b_a_all_m5 (Int32.toNatClampNeg p2)) = 20
                      · replace h := it_t c445 h
                        refine j_tabIn (tgt := 279) (off := 267) d_Mo_buildStatement_12 20 c445 (by decide) (by decide) (by decide) (by decide) ?_
                        refine j_aload_n d_Mo_buildStatement_279 rfl 1 rfl ?_
                        refine j_aload_n d_Mo_buildStatement_280 rfl 1 rfl ?_
                        refine j_iload_n d_Mo_buildStatement_281 rfl 2 rfl ?_
                        refine j_iload d_Mo_buildStatement_282 0 rfl ?_
                        refine j_bipush (v := 20) d_Mo_buildStatement_284 (by decide) ?_
                        refine j_isub d_Mo_buildStatement_286 ?_
                        refine j_bipush (v := 18) d_Mo_buildStatement_287 (by decide) ?_
                        refine j_iadd d_Mo_buildStatement_289 ?_
                        refine j_iload_n d_Mo_buildStatement_290 rfl 3 rfl ?_
                        replace h := bw_s h
                        obtain ⟨⟨r446, r447, r448, r449, r450, r451, r452, r453, r454, r455, r456, r457, r458, r459, r460, r461, r462, r463, r464⟩, C473, S474, C475, S476, k477, h, e1, e2⟩ := h
                        replace hC : 0 + C473 + C475 ≤ mc := by omega
                        replace hS : 0 + S474 + S476 ≤ ms := by omega
                        clear e1 e2
                        refine j_callV (n := 3) (As := [.int p1, .int (((b_a_all_m5 (Int32.toNatClampNeg p2)) - 20) + 18), .int p2]) (rest := [.ref h0]) (wr := [((am 33), .inr (8, [.ref a_all_m33, .int size_m33])), (a_all_m33, .inl (cI, n_a_all_m33, .inl b_a_all_m33)), ((am 34), .inr (8, [.ref a_all_m34, .int size_m34])), (a_all_m34, .inl (cI, n_a_all_m34, .inl b_a_all_m34)), ((am 5), .inr (8, [.ref a_all_m5, .int size_m5])), (a_all_m5, .inl (cI, n_a_all_m5, .inl b_a_all_m5))]) (c_Mo_leafNode l D cI cB cJ cS h0 am a_all_m6 a_all_m24 a_all_m25 a_all_m26 a_all_m27 a_all_m28 a_all_m29 a_all_m30 a_all_m31 p1 (((b_a_all_m5 (Int32.toNatClampNeg p2)) - 20) + 18) p2 known_h0 thrown_h0 wrong_h0 lastEnd_h0 at_h0 bad_h0 levels_h0 least_h0 found_h0 size_m6 n_a_all_m6 b_a_all_m6 size_m24 n_a_all_m24 b_a_all_m24 size_m25 n_a_all_m25 b_a_all_m25 size_m26 n_a_all_m26 b_a_all_m26 size_m27 n_a_all_m27 b_a_all_m27 size_m28 n_a_all_m28 b_a_all_m28 size_m29 n_a_all_m29 b_a_all_m29 size_m30 n_a_all_m30 b_a_all_m30 size_m31 n_a_all_m31 b_a_all_m31  r446 r447 r448 r449 r450 r451 r452 r453 r454 r455 r456 r457 r458 r459 r460 r461 r462 r463 r464 C473 S474 k477) k_Mo_426 (by decide) ⟨Nat.le_of_ble_eq_true rfl, Nat.le_of_ble_eq_true rfl⟩ rfl 0 rfl [0, 1, 2, 3, 4, 5, 6, 7, 8, 9, 10, 11, 12, 13, 14, 15, 16, 17, 18] [19, 20, 21, 22, 23, 24] rfl (by decide +kernel) rfl (by decide +kernel) (by decide +kernel) rfl rfl (Nat.le_of_ble_eq_true rfl) d_Mo_buildStatement_291 ⟨show 0 + C473 ≤ mc by omega, show 0 + S474 ≤ ms by omega⟩ (fun v w hq => ?_)
                        obtain ⟨q465, q466, q467, q468, q469, q470, q471, q472, rfl, rfl⟩ := hq
                        refine j_norm (pc' := 294) (st' := [.int size_m24, .ref h0]) (ws' := [((am 33), .inr (8, [.ref a_all_m33, .int size_m33])), (a_all_m33, .inl (cI, n_a_all_m33, .inl b_a_all_m33)), ((am 34), .inr (8, [.ref a_all_m34, .int size_m34])), (a_all_m34, .inl (cI, n_a_all_m34, .inl b_a_all_m34)), ((am 5), .inr (8, [.ref a_all_m5, .int size_m5])), (a_all_m5, .inl (cI, n_a_all_m5, .inl b_a_all_m5)), (h0, .inr (9, moF am known_h0 thrown_h0 wrong_h0 lastEnd_h0 at_h0 bad_h0 levels_h0 least_h0 found_h0)), ((am 6), .inr (8, [.ref a_all_m6, .int size_m6])), (a_all_m6, .inl (cI, n_a_all_m6, .inl b_a_all_m6)), ((am 24), .inr (8, [.ref q465, .int (size_m24 + 1)])), ((am 25), .inr (8, [.ref q466, .int (size_m25 + 1)])), ((am 26), .inr (8, [.ref q467, .int (size_m26 + 1)])), ((am 27), .inr (8, [.ref q468, .int (size_m27 + 1)])), ((am 28), .inr (8, [.ref q469, .int r446])), ((am 29), .inr (8, [.ref q470, .int r447])), ((am 30), .inr (8, [.ref q471, .int r448])), ((am 31), .inr (8, [.ref q472, .int (size_m31 + 1)])), (q465, .inl (cI, r449, .inl r450)), (q466, .inl (cI, r451, .inl r452)), (q467, .inl (cI, r453, .inl r454)), (q468, .inl (cI, r455, .inl r456)), (q469, .inl (cI, r457, .inl r458)), (q470, .inl (cI, r459, .inl r460)), (q471, .inl (cI, r461, .inl r462)), (q472, .inl (cI, r463, .inl r464))]) (cl' := 0 + C473) (sl' := 0 + S474) rfl rfl rfl rfl rfl rfl ?_
                        refine j_iload_n d_Mo_buildStatement_294 rfl 3 rfl ?_
                        refine j_iconst (v := 1) d_Mo_buildStatement_295 (by decide) ?_
                        refine j_iadd d_Mo_buildStatement_296 ?_
                        refine j_iload_n d_Mo_buildStatement_297 rfl 4 rfl ?_
                        refine j_iconst (v := 1) d_Mo_buildStatement_298 (by decide) ?_
                        refine j_isub d_Mo_buildStatement_299 ?_
                        replace h := bw_s h
                        obtain ⟨⟨r478, r479, r480⟩, C482, S483, C484, S485, k486, h, e1, e2⟩ := h
                        replace hC : 0 + C473 + C482 + C484 ≤ mc := by omega
                        replace hS : 0 + S474 + S483 + S485 ≤ ms := by omega
                        clear e1 e2
                        refine j_callV (n := 3) (As := [.int size_m24, .int (p2 + 1), .int (p3 - 1)]) (rest := []) (wr := [((am 34), .inr (8, [.ref a_all_m34, .int size_m34])), (a_all_m34, .inl (cI, n_a_all_m34, .inl b_a_all_m34)), ((am 6), .inr (8, [.ref a_all_m6, .int size_m6])), (a_all_m6, .inl (cI, n_a_all_m6, .inl b_a_all_m6)), ((am 24), .inr (8, [.ref q465, .int (size_m24 + 1)])), ((am 25), .inr (8, [.ref q466, .int (size_m25 + 1)])), ((am 26), .inr (8, [.ref q467, .int (size_m26 + 1)])), ((am 27), .inr (8, [.ref q468, .int (size_m27 + 1)])), ((am 28), .inr (8, [.ref q469, .int r446])), ((am 29), .inr (8, [.ref q470, .int r447])), ((am 30), .inr (8, [.ref q471, .int r448])), ((am 31), .inr (8, [.ref q472, .int (size_m31 + 1)])), (q465, .inl (cI, r449, .inl r450)), (q466, .inl (cI, r451, .inl r452)), (q467, .inl (cI, r453, .inl r454)), (q468, .inl (cI, r455, .inl r456)), (q469, .inl (cI, r457, .inl r458)), (q470, .inl (cI, r459, .inl r460)), (q471, .inl (cI, r461, .inl r462)), (q472, .inl (cI, r463, .inl r464))]) (c_Mo_expressions l D cI cB cJ cS h0 am a_all_m33 a_all_m5 size_m24 (p2 + 1) (p3 - 1) known_h0 thrown_h0 wrong_h0 lastEnd_h0 at_h0 bad_h0 levels_h0 least_h0 found_h0 size_m33 n_a_all_m33 b_a_all_m33 size_m5 n_a_all_m5 b_a_all_m5  r478 r479 r480 C482 S483 k486) k_Mo_439 (by decide) ⟨Nat.le_of_ble_eq_true rfl, Nat.le_of_ble_eq_true rfl⟩ rfl 0 rfl [6, 0, 1, 4, 5] [2, 3, 7, 8, 9, 10, 11, 12, 13, 14, 15, 16, 17, 18, 19, 20, 21, 22, 23, 24] rfl (by decide +kernel) rfl (by decide +kernel) (by decide +kernel) rfl rfl (Nat.le_of_ble_eq_true rfl) d_Mo_buildStatement_300 ⟨show 0 + C473 + C482 ≤ mc by omega, show 0 + S474 + S483 ≤ ms by omega⟩ (fun v w hq => ?_)
                        obtain ⟨q481, rfl, rfl⟩ := hq
                        refine j_norm (pc' := 303) (st' := []) (ws' := [((am 34), .inr (8, [.ref a_all_m34, .int size_m34])), (a_all_m34, .inl (cI, n_a_all_m34, .inl b_a_all_m34)), ((am 6), .inr (8, [.ref a_all_m6, .int size_m6])), (a_all_m6, .inl (cI, n_a_all_m6, .inl b_a_all_m6)), ((am 24), .inr (8, [.ref q465, .int (size_m24 + 1)])), ((am 25), .inr (8, [.ref q466, .int (size_m25 + 1)])), ((am 26), .inr (8, [.ref q467, .int (size_m26 + 1)])), ((am 27), .inr (8, [.ref q468, .int (size_m27 + 1)])), ((am 28), .inr (8, [.ref q469, .int r446])), ((am 29), .inr (8, [.ref q470, .int r447])), ((am 30), .inr (8, [.ref q471, .int r448])), ((am 31), .inr (8, [.ref q472, .int (size_m31 + 1)])), (q465, .inl (cI, r449, .inl r450)), (q466, .inl (cI, r451, .inl r452)), (q467, .inl (cI, r453, .inl r454)), (q468, .inl (cI, r455, .inl r456)), (q469, .inl (cI, r457, .inl r458)), (q470, .inl (cI, r459, .inl r460)), (q471, .inl (cI, r461, .inl r462)), (q472, .inl (cI, r463, .inl r464)), (h0, .inr (9, moF am known_h0 thrown_h0 wrong_h0 lastEnd_h0 at_h0 bad_h0 levels_h0 least_h0 found_h0)), ((am 33), .inr (8, [.ref q481, .int r478])), ((am 5), .inr (8, [.ref a_all_m5, .int size_m5])), (a_all_m5, .inl (cI, n_a_all_m5, .inl b_a_all_m5)), (q481, .inl (cI, r479, .inl r480))]) (cl' := 0 + C473 + C482) (sl' := 0 + S474 + S483) rfl rfl rfl rfl rfl rfl ?_
                        replace h := lf_s h
                        obtain ⟨h, e1, e2⟩ := h
                        replace h := Prod.mk.inj h
                        obtain ⟨h9, h⟩ := h
                        subst h9
                        replace h := Prod.mk.inj h
                        obtain ⟨h9, h⟩ := h
                        subst h9
                        replace h := Prod.mk.inj h
                        obtain ⟨h9, h⟩ := h
                        subst h9
                        replace h := Prod.mk.inj h
                        obtain ⟨h9, h⟩ := h
                        subst h9
                        replace h := Prod.mk.inj h
                        obtain ⟨h9, h⟩ := h
                        subst h9
                        replace h := Prod.mk.inj h
                        obtain ⟨h9, h⟩ := h
                        subst h9
                        replace h := Prod.mk.inj h
                        obtain ⟨h9, h⟩ := h
                        subst h9
                        replace h := Prod.mk.inj h
                        obtain ⟨h9, h⟩ := h
                        subst h9
                        replace h := Prod.mk.inj h
                        obtain ⟨h9, h⟩ := h
                        subst h9
                        replace h := Prod.mk.inj h
                        obtain ⟨h9, h⟩ := h
                        subst h9
                        replace h := Prod.mk.inj h
                        obtain ⟨h9, h⟩ := h
                        subst h9
                        replace h := Prod.mk.inj h
                        obtain ⟨h9, h⟩ := h
                        subst h9
                        replace h := Prod.mk.inj h
                        obtain ⟨h9, h⟩ := h
                        subst h9
                        replace h := Prod.mk.inj h
                        obtain ⟨h9, h⟩ := h
                        subst h9
                        replace h := Prod.mk.inj h
                        obtain ⟨h9, h⟩ := h
                        subst h9
                        replace h := Prod.mk.inj h
                        obtain ⟨h9, h⟩ := h
                        subst h9
                        replace h := Prod.mk.inj h
                        obtain ⟨h9, h⟩ := h
                        subst h9
                        replace h := Prod.mk.inj h
                        obtain ⟨h9, h⟩ := h
                        subst h9
                        replace h := Prod.mk.inj h
                        obtain ⟨h9, h⟩ := h
                        subst h9
                        replace h := Prod.mk.inj h
                        obtain ⟨h9, h⟩ := h
                        subst h9
                        replace h := Prod.mk.inj h
                        obtain ⟨h9, h⟩ := h
                        subst h9
                        replace h := Prod.mk.inj h
                        obtain ⟨h9, h⟩ := h
                        subst h9
                        replace h := Prod.mk.inj h
                        obtain ⟨h9, h⟩ := h
                        subst h9
                        replace h := Prod.mk.inj h
                        obtain ⟨h9, h⟩ := h
                        subst h9
                        replace h := Prod.mk.inj h
                        obtain ⟨h9, h⟩ := h
                        subst h9
                        replace h := Prod.mk.inj h
                        obtain ⟨h9, h⟩ := h
                        subst h9
                        replace h := Prod.mk.inj h
                        obtain ⟨h9, h⟩ := h
                        subst h9
                        subst h
                        refine j_widen (cl' := mc) (sl' := ms) (by omega) (by omega) ?_
                        exact j_vret (w := [(h0, .inr (9, moF am known_h0 thrown_h0 wrong_h0 lastEnd_h0 at_h0 bad_h0 levels_h0 least_h0 found_h0)), ((am 5), .inr (8, [.ref a_all_m5, .int size_m5])), (a_all_m5, .inl (cI, n_a_all_m5, .inl b_a_all_m5)), ((am 6), .inr (8, [.ref a_all_m6, .int size_m6])), (a_all_m6, .inl (cI, n_a_all_m6, .inl b_a_all_m6)), ((am 24), .inr (8, [.ref q465, .int (size_m24 + 1)])), ((am 25), .inr (8, [.ref q466, .int (size_m25 + 1)])), ((am 26), .inr (8, [.ref q467, .int (size_m26 + 1)])), ((am 27), .inr (8, [.ref q468, .int (size_m27 + 1)])), ((am 28), .inr (8, [.ref q469, .int r446])), ((am 29), .inr (8, [.ref q470, .int r447])), ((am 30), .inr (8, [.ref q471, .int r448])), ((am 31), .inr (8, [.ref q472, .int (size_m31 + 1)])), ((am 33), .inr (8, [.ref q481, .int r478])), ((am 34), .inr (8, [.ref a_all_m34, .int size_m34])), (a_all_m34, .inl (cI, n_a_all_m34, .inl b_a_all_m34)), (q465, .inl (cI, r449, .inl r450)), (q466, .inl (cI, r451, .inl r452)), (q467, .inl (cI, r453, .inl r454)), (q468, .inl (cI, r455, .inl r456)), (q469, .inl (cI, r457, .inl r458)), (q470, .inl (cI, r459, .inl r460)), (q471, .inl (cI, r461, .inl r462)), (q472, .inl (cI, r463, .inl r464)), (q481, .inl (cI, r479, .inl r480))]) hr d_Mo_buildStatement_303 [20, 22, 23, 2, 3, 4, 5, 6, 7, 8, 9, 10, 11, 21, 0, 1, 12, 13, 14, 15, 16, 17, 18, 19, 24] rfl (by decide) ⟨q465, q466, q467, q468, q469, q470, q471, q472, q481, rfl, rfl⟩
                      · replace h := it_f c445 h
                        by_cases c487 : (b_a_all_m5 (Int32.toNatClampNeg p2)) = 21
                        · replace h := it_t c487 h
                          refine j_tabIn (tgt := 279) (off := 267) d_Mo_buildStatement_12 21 c487 (by decide) (by decide) (by decide) (by decide) ?_
                          refine j_aload_n d_Mo_buildStatement_279 rfl 1 rfl ?_
                          refine j_aload_n d_Mo_buildStatement_280 rfl 1 rfl ?_
                          refine j_iload_n d_Mo_buildStatement_281 rfl 2 rfl ?_
                          refine j_iload d_Mo_buildStatement_282 0 rfl ?_
                          refine j_bipush (v := 20) d_Mo_buildStatement_284 (by decide) ?_
                          refine j_isub d_Mo_buildStatement_286 ?_
                          refine j_bipush (v := 18) d_Mo_buildStatement_287 (by decide) ?_
                          refine j_iadd d_Mo_buildStatement_289 ?_
                          refine j_iload_n d_Mo_buildStatement_290 rfl 3 rfl ?_
                          replace h := bw_s h
                          obtain ⟨⟨r488, r489, r490, r491, r492, r493, r494, r495, r496, r497, r498, r499, r500, r501, r502, r503, r504, r505, r506⟩, C515, S516, C517, S518, k519, h, e1, e2⟩ := h
                          replace hC : 0 + C515 + C517 ≤ mc := by omega
                          replace hS : 0 + S516 + S518 ≤ ms := by omega
                          clear e1 e2
                          refine j_callV (n := 3) (As := [.int p1, .int (((b_a_all_m5 (Int32.toNatClampNeg p2)) - 20) + 18), .int p2]) (rest := [.ref h0]) (wr := [((am 33), .inr (8, [.ref a_all_m33, .int size_m33])), (a_all_m33, .inl (cI, n_a_all_m33, .inl b_a_all_m33)), ((am 34), .inr (8, [.ref a_all_m34, .int size_m34])), (a_all_m34, .inl (cI, n_a_all_m34, .inl b_a_all_m34)), ((am 5), .inr (8, [.ref a_all_m5, .int size_m5])), (a_all_m5, .inl (cI, n_a_all_m5, .inl b_a_all_m5))]) (c_Mo_leafNode l D cI cB cJ cS h0 am a_all_m6 a_all_m24 a_all_m25 a_all_m26 a_all_m27 a_all_m28 a_all_m29 a_all_m30 a_all_m31 p1 (((b_a_all_m5 (Int32.toNatClampNeg p2)) - 20) + 18) p2 known_h0 thrown_h0 wrong_h0 lastEnd_h0 at_h0 bad_h0 levels_h0 least_h0 found_h0 size_m6 n_a_all_m6 b_a_all_m6 size_m24 n_a_all_m24 b_a_all_m24 size_m25 n_a_all_m25 b_a_all_m25 size_m26 n_a_all_m26 b_a_all_m26 size_m27 n_a_all_m27 b_a_all_m27 size_m28 n_a_all_m28 b_a_all_m28 size_m29 n_a_all_m29 b_a_all_m29 size_m30 n_a_all_m30 b_a_all_m30 size_m31 n_a_all_m31 b_a_all_m31  r488 r489 r490 r491 r492 r493 r494 r495 r496 r497 r498 r499 r500 r501 r502 r503 r504 r505 r506 C515 S516 k519) k_Mo_426 (by decide) ⟨Nat.le_of_ble_eq_true rfl, Nat.le_of_ble_eq_true rfl⟩ rfl 0 rfl [0, 1, 2, 3, 4, 5, 6, 7, 8, 9, 10, 11, 12, 13, 14, 15, 16, 17, 18] [19, 20, 21, 22, 23, 24] rfl (by decide +kernel) rfl (by decide +kernel) (by decide +kernel) rfl rfl (Nat.le_of_ble_eq_true rfl) d_Mo_buildStatement_291 ⟨show 0 + C515 ≤ mc by omega, show 0 + S516 ≤ ms by omega⟩ (fun v w hq => ?_)
                          obtain ⟨q507, q508, q509, q510, q511, q512, q513, q514, rfl, rfl⟩ := hq
                          refine j_norm (pc' := 294) (st' := [.int size_m24, .ref h0]) (ws' := [((am 33), .inr (8, [.ref a_all_m33, .int size_m33])), (a_all_m33, .inl (cI, n_a_all_m33, .inl b_a_all_m33)), ((am 34), .inr (8, [.ref a_all_m34, .int size_m34])), (a_all_m34, .inl (cI, n_a_all_m34, .inl b_a_all_m34)), ((am 5), .inr (8, [.ref a_all_m5, .int size_m5])), (a_all_m5, .inl (cI, n_a_all_m5, .inl b_a_all_m5)), (h0, .inr (9, moF am known_h0 thrown_h0 wrong_h0 lastEnd_h0 at_h0 bad_h0 levels_h0 least_h0 found_h0)), ((am 6), .inr (8, [.ref a_all_m6, .int size_m6])), (a_all_m6, .inl (cI, n_a_all_m6, .inl b_a_all_m6)), ((am 24), .inr (8, [.ref q507, .int (size_m24 + 1)])), ((am 25), .inr (8, [.ref q508, .int (size_m25 + 1)])), ((am 26), .inr (8, [.ref q509, .int (size_m26 + 1)])), ((am 27), .inr (8, [.ref q510, .int (size_m27 + 1)])), ((am 28), .inr (8, [.ref q511, .int r488])), ((am 29), .inr (8, [.ref q512, .int r489])), ((am 30), .inr (8, [.ref q513, .int r490])), ((am 31), .inr (8, [.ref q514, .int (size_m31 + 1)])), (q507, .inl (cI, r491, .inl r492)), (q508, .inl (cI, r493, .inl r494)), (q509, .inl (cI, r495, .inl r496)), (q510, .inl (cI, r497, .inl r498)), (q511, .inl (cI, r499, .inl r500)), (q512, .inl (cI, r501, .inl r502)), (q513, .inl (cI, r503, .inl r504)), (q514, .inl (cI, r505, .inl r506))]) (cl' := 0 + C515) (sl' := 0 + S516) rfl rfl rfl rfl rfl rfl ?_
                          refine j_iload_n d_Mo_buildStatement_294 rfl 3 rfl ?_
                          refine j_iconst (v := 1) d_Mo_buildStatement_295 (by decide) ?_
                          refine j_iadd d_Mo_buildStatement_296 ?_
                          refine j_iload_n d_Mo_buildStatement_297 rfl 4 rfl ?_
                          refine j_iconst (v := 1) d_Mo_buildStatement_298 (by decide) ?_
                          refine j_isub d_Mo_buildStatement_299 ?_
                          replace h := bw_s h
                          obtain ⟨⟨r520, r521, r522⟩, C524, S525, C526, S527, k528, h, e1, e2⟩ := h
                          replace hC : 0 + C515 + C524 + C526 ≤ mc := by omega
                          replace hS : 0 + S516 + S525 + S527 ≤ ms := by omega
                          clear e1 e2
                          refine j_callV (n := 3) (As := [.int size_m24, .int (p2 + 1), .int (p3 - 1)]) (rest := []) (wr := [((am 34), .inr (8, [.ref a_all_m34, .int size_m34])), (a_all_m34, .inl (cI, n_a_all_m34, .inl b_a_all_m34)), ((am 6), .inr (8, [.ref a_all_m6, .int size_m6])), (a_all_m6, .inl (cI, n_a_all_m6, .inl b_a_all_m6)), ((am 24), .inr (8, [.ref q507, .int (size_m24 + 1)])), ((am 25), .inr (8, [.ref q508, .int (size_m25 + 1)])), ((am 26), .inr (8, [.ref q509, .int (size_m26 + 1)])), ((am 27), .inr (8, [.ref q510, .int (size_m27 + 1)])), ((am 28), .inr (8, [.ref q511, .int r488])), ((am 29), .inr (8, [.ref q512, .int r489])), ((am 30), .inr (8, [.ref q513, .int r490])), ((am 31), .inr (8, [.ref q514, .int (size_m31 + 1)])), (q507, .inl (cI, r491, .inl r492)), (q508, .inl (cI, r493, .inl r494)), (q509, .inl (cI, r495, .inl r496)), (q510, .inl (cI, r497, .inl r498)), (q511, .inl (cI, r499, .inl r500)), (q512, .inl (cI, r501, .inl r502)), (q513, .inl (cI, r503, .inl r504)), (q514, .inl (cI, r505, .inl r506))]) (c_Mo_expressions l D cI cB cJ cS h0 am a_all_m33 a_all_m5 size_m24 (p2 + 1) (p3 - 1) known_h0 thrown_h0 wrong_h0 lastEnd_h0 at_h0 bad_h0 levels_h0 least_h0 found_h0 size_m33 n_a_all_m33 b_a_all_m33 size_m5 n_a_all_m5 b_a_all_m5  r520 r521 r522 C524 S525 k528) k_Mo_439 (by decide) ⟨Nat.le_of_ble_eq_true rfl, Nat.le_of_ble_eq_true rfl⟩ rfl 0 rfl [6, 0, 1, 4, 5] [2, 3, 7, 8, 9, 10, 11, 12, 13, 14, 15, 16, 17, 18, 19, 20, 21, 22, 23, 24] rfl (by decide +kernel) rfl (by decide +kernel) (by decide +kernel) rfl rfl (Nat.le_of_ble_eq_true rfl) d_Mo_buildStatement_300 ⟨show 0 + C515 + C524 ≤ mc by omega, show 0 + S516 + S525 ≤ ms by omega⟩ (fun v w hq => ?_)
                          obtain ⟨q523, rfl, rfl⟩ := hq
                          refine j_norm (pc' := 303) (st' := []) (ws' := [((am 34), .inr (8, [.ref a_all_m34, .int size_m34])), (a_all_m34, .inl (cI, n_a_all_m34, .inl b_a_all_m34)), ((am 6), .inr (8, [.ref a_all_m6, .int size_m6])), (a_all_m6, .inl (cI, n_a_all_m6, .inl b_a_all_m6)), ((am 24), .inr (8, [.ref q507, .int (size_m24 + 1)])), ((am 25), .inr (8, [.ref q508, .int (size_m25 + 1)])), ((am 26), .inr (8, [.ref q509, .int (size_m26 + 1)])), ((am 27), .inr (8, [.ref q510, .int (size_m27 + 1)])), ((am 28), .inr (8, [.ref q511, .int r488])), ((am 29), .inr (8, [.ref q512, .int r489])), ((am 30), .inr (8, [.ref q513, .int r490])), ((am 31), .inr (8, [.ref q514, .int (size_m31 + 1)])), (q507, .inl (cI, r491, .inl r492)), (q508, .inl (cI, r493, .inl r494)), (q509, .inl (cI, r495, .inl r496)), (q510, .inl (cI, r497, .inl r498)), (q511, .inl (cI, r499, .inl r500)), (q512, .inl (cI, r501, .inl r502)), (q513, .inl (cI, r503, .inl r504)), (q514, .inl (cI, r505, .inl r506)), (h0, .inr (9, moF am known_h0 thrown_h0 wrong_h0 lastEnd_h0 at_h0 bad_h0 levels_h0 least_h0 found_h0)), ((am 33), .inr (8, [.ref q523, .int r520])), ((am 5), .inr (8, [.ref a_all_m5, .int size_m5])), (a_all_m5, .inl (cI, n_a_all_m5, .inl b_a_all_m5)), (q523, .inl (cI, r521, .inl r522))]) (cl' := 0 + C515 + C524) (sl' := 0 + S516 + S525) rfl rfl rfl rfl rfl rfl ?_
                          replace h := lf_s h
                          obtain ⟨h, e1, e2⟩ := h
                          replace h := Prod.mk.inj h
                          obtain ⟨h9, h⟩ := h
                          subst h9
                          replace h := Prod.mk.inj h
                          obtain ⟨h9, h⟩ := h
                          subst h9
                          replace h := Prod.mk.inj h
                          obtain ⟨h9, h⟩ := h
                          subst h9
                          replace h := Prod.mk.inj h
                          obtain ⟨h9, h⟩ := h
                          subst h9
                          replace h := Prod.mk.inj h
                          obtain ⟨h9, h⟩ := h
                          subst h9
                          replace h := Prod.mk.inj h
                          obtain ⟨h9, h⟩ := h
                          subst h9
                          replace h := Prod.mk.inj h
                          obtain ⟨h9, h⟩ := h
                          subst h9
                          replace h := Prod.mk.inj h
                          obtain ⟨h9, h⟩ := h
                          subst h9
                          replace h := Prod.mk.inj h
                          obtain ⟨h9, h⟩ := h
                          subst h9
                          replace h := Prod.mk.inj h
                          obtain ⟨h9, h⟩ := h
                          subst h9
                          replace h := Prod.mk.inj h
                          obtain ⟨h9, h⟩ := h
                          subst h9
                          replace h := Prod.mk.inj h
                          obtain ⟨h9, h⟩ := h
                          subst h9
                          replace h := Prod.mk.inj h
                          obtain ⟨h9, h⟩ := h
                          subst h9
                          replace h := Prod.mk.inj h
                          obtain ⟨h9, h⟩ := h
                          subst h9
                          replace h := Prod.mk.inj h
                          obtain ⟨h9, h⟩ := h
                          subst h9
                          replace h := Prod.mk.inj h
                          obtain ⟨h9, h⟩ := h
                          subst h9
                          replace h := Prod.mk.inj h
                          obtain ⟨h9, h⟩ := h
                          subst h9
                          replace h := Prod.mk.inj h
                          obtain ⟨h9, h⟩ := h
                          subst h9
                          replace h := Prod.mk.inj h
                          obtain ⟨h9, h⟩ := h
                          subst h9
                          replace h := Prod.mk.inj h
                          obtain ⟨h9, h⟩ := h
                          subst h9
                          replace h := Prod.mk.inj h
                          obtain ⟨h9, h⟩ := h
                          subst h9
                          replace h := Prod.mk.inj h
                          obtain ⟨h9, h⟩ := h
                          subst h9
                          replace h := Prod.mk.inj h
                          obtain ⟨h9, h⟩ := h
                          subst h9
                          replace h := Prod.mk.inj h
                          obtain ⟨h9, h⟩ := h
                          subst h9
                          replace h := Prod.mk.inj h
                          obtain ⟨h9, h⟩ := h
                          subst h9
                          replace h := Prod.mk.inj h
                          obtain ⟨h9, h⟩ := h
                          subst h9
                          replace h := Prod.mk.inj h
                          obtain ⟨h9, h⟩ := h
                          subst h9
                          subst h
                          refine j_widen (cl' := mc) (sl' := ms) (by omega) (by omega) ?_
                          exact j_vret (w := [(h0, .inr (9, moF am known_h0 thrown_h0 wrong_h0 lastEnd_h0 at_h0 bad_h0 levels_h0 least_h0 found_h0)), ((am 5), .inr (8, [.ref a_all_m5, .int size_m5])), (a_all_m5, .inl (cI, n_a_all_m5, .inl b_a_all_m5)), ((am 6), .inr (8, [.ref a_all_m6, .int size_m6])), (a_all_m6, .inl (cI, n_a_all_m6, .inl b_a_all_m6)), ((am 24), .inr (8, [.ref q507, .int (size_m24 + 1)])), ((am 25), .inr (8, [.ref q508, .int (size_m25 + 1)])), ((am 26), .inr (8, [.ref q509, .int (size_m26 + 1)])), ((am 27), .inr (8, [.ref q510, .int (size_m27 + 1)])), ((am 28), .inr (8, [.ref q511, .int r488])), ((am 29), .inr (8, [.ref q512, .int r489])), ((am 30), .inr (8, [.ref q513, .int r490])), ((am 31), .inr (8, [.ref q514, .int (size_m31 + 1)])), ((am 33), .inr (8, [.ref q523, .int r520])), ((am 34), .inr (8, [.ref a_all_m34, .int size_m34])), (a_all_m34, .inl (cI, n_a_all_m34, .inl b_a_all_m34)), (q507, .inl (cI, r491, .inl r492)), (q508, .inl (cI, r493, .inl r494)), (q509, .inl (cI, r495, .inl r496)), (q510, .inl (cI, r497, .inl r498)), (q511, .inl (cI, r499, .inl r500)), (q512, .inl (cI, r501, .inl r502)), (q513, .inl (cI, r503, .inl r504)), (q514, .inl (cI, r505, .inl r506)), (q523, .inl (cI, r521, .inl r522))]) hr d_Mo_buildStatement_303 [20, 22, 23, 2, 3, 4, 5, 6, 7, 8, 9, 10, 11, 21, 0, 1, 12, 13, 14, 15, 16, 17, 18, 19, 24] rfl (by decide) ⟨q507, q508, q509, q510, q511, q512, q513, q514, q523, rfl, rfl⟩
                        · replace h := it_f c487 h
                          by_cases c529 : (b_a_all_m5 (Int32.toNatClampNeg p2)) = 22
                          · replace h := it_t c529 h
                            refine j_tabIn (tgt := 213) (off := 201) d_Mo_buildStatement_12 22 c529 (by decide) (by decide) (by decide) (by decide) ?_
                            refine j_aload_n d_Mo_buildStatement_213 rfl 1 rfl ?_
                            refine j_iload_n d_Mo_buildStatement_214 rfl 2 rfl ?_
                            refine j_bipush (v := 14) d_Mo_buildStatement_215 (by decide) ?_
                            refine j_iload_n d_Mo_buildStatement_217 rfl 3 rfl ?_
                            replace h := bw_s h
                            obtain ⟨⟨r530, r531, r532, r533, r534, r535, r536, r537, r538, r539, r540, r541, r542, r543, r544, r545, r546, r547, r548⟩, C557, S558, C559, S560, k561, h, e1, e2⟩ := h
                            replace hC : 0 + C557 + C559 ≤ mc := by omega
                            replace hS : 0 + S558 + S560 ≤ ms := by omega
                            clear e1 e2
                            refine j_callV (n := 3) (As := [.int p1, .int 14, .int p2]) (rest := []) (wr := [((am 33), .inr (8, [.ref a_all_m33, .int size_m33])), (a_all_m33, .inl (cI, n_a_all_m33, .inl b_a_all_m33)), ((am 34), .inr (8, [.ref a_all_m34, .int size_m34])), (a_all_m34, .inl (cI, n_a_all_m34, .inl b_a_all_m34)), ((am 5), .inr (8, [.ref a_all_m5, .int size_m5])), (a_all_m5, .inl (cI, n_a_all_m5, .inl b_a_all_m5))]) (c_Mo_leafNode l D cI cB cJ cS h0 am a_all_m6 a_all_m24 a_all_m25 a_all_m26 a_all_m27 a_all_m28 a_all_m29 a_all_m30 a_all_m31 p1 14 p2 known_h0 thrown_h0 wrong_h0 lastEnd_h0 at_h0 bad_h0 levels_h0 least_h0 found_h0 size_m6 n_a_all_m6 b_a_all_m6 size_m24 n_a_all_m24 b_a_all_m24 size_m25 n_a_all_m25 b_a_all_m25 size_m26 n_a_all_m26 b_a_all_m26 size_m27 n_a_all_m27 b_a_all_m27 size_m28 n_a_all_m28 b_a_all_m28 size_m29 n_a_all_m29 b_a_all_m29 size_m30 n_a_all_m30 b_a_all_m30 size_m31 n_a_all_m31 b_a_all_m31  r530 r531 r532 r533 r534 r535 r536 r537 r538 r539 r540 r541 r542 r543 r544 r545 r546 r547 r548 C557 S558 k561) k_Mo_426 (by decide) ⟨Nat.le_of_ble_eq_true rfl, Nat.le_of_ble_eq_true rfl⟩ rfl 0 rfl [0, 1, 2, 3, 4, 5, 6, 7, 8, 9, 10, 11, 12, 13, 14, 15, 16, 17, 18] [19, 20, 21, 22, 23, 24] rfl (by decide +kernel) rfl (by decide +kernel) (by decide +kernel) rfl rfl (Nat.le_of_ble_eq_true rfl) d_Mo_buildStatement_218 ⟨show 0 + C557 ≤ mc by omega, show 0 + S558 ≤ ms by omega⟩ (fun v w hq => ?_)
                            obtain ⟨q549, q550, q551, q552, q553, q554, q555, q556, rfl, rfl⟩ := hq
                            refine j_norm (pc' := 221) (st' := [.int size_m24]) (ws' := [((am 33), .inr (8, [.ref a_all_m33, .int size_m33])), (a_all_m33, .inl (cI, n_a_all_m33, .inl b_a_all_m33)), ((am 34), .inr (8, [.ref a_all_m34, .int size_m34])), (a_all_m34, .inl (cI, n_a_all_m34, .inl b_a_all_m34)), ((am 5), .inr (8, [.ref a_all_m5, .int size_m5])), (a_all_m5, .inl (cI, n_a_all_m5, .inl b_a_all_m5)), (h0, .inr (9, moF am known_h0 thrown_h0 wrong_h0 lastEnd_h0 at_h0 bad_h0 levels_h0 least_h0 found_h0)), ((am 6), .inr (8, [.ref a_all_m6, .int size_m6])), (a_all_m6, .inl (cI, n_a_all_m6, .inl b_a_all_m6)), ((am 24), .inr (8, [.ref q549, .int (size_m24 + 1)])), ((am 25), .inr (8, [.ref q550, .int (size_m25 + 1)])), ((am 26), .inr (8, [.ref q551, .int (size_m26 + 1)])), ((am 27), .inr (8, [.ref q552, .int (size_m27 + 1)])), ((am 28), .inr (8, [.ref q553, .int r530])), ((am 29), .inr (8, [.ref q554, .int r531])), ((am 30), .inr (8, [.ref q555, .int r532])), ((am 31), .inr (8, [.ref q556, .int (size_m31 + 1)])), (q549, .inl (cI, r533, .inl r534)), (q550, .inl (cI, r535, .inl r536)), (q551, .inl (cI, r537, .inl r538)), (q552, .inl (cI, r539, .inl r540)), (q553, .inl (cI, r541, .inl r542)), (q554, .inl (cI, r543, .inl r544)), (q555, .inl (cI, r545, .inl r546)), (q556, .inl (cI, r547, .inl r548))]) (cl' := 0 + C557) (sl' := 0 + S558) rfl rfl rfl rfl rfl rfl ?_
                            refine j_istore (lv' := [(10, .int size_m24), (4, .int (b_a_all_m5 (Int32.toNatClampNeg p2))), (0, .ref h0), (1, .int p1), (2, .int p2), (3, .int p3)]) d_Mo_buildStatement_221 (by decide) rfl ?_
                            refine j_aload_n d_Mo_buildStatement_223 rfl 2 rfl ?_
                            refine j_iload_n d_Mo_buildStatement_224 rfl 4 rfl ?_
                            refine j_iconst (v := 1) d_Mo_buildStatement_225 (by decide) ?_
                            refine j_iadd d_Mo_buildStatement_226 ?_
                            replace h := bd_s h
                            obtain ⟨r562, k563, h⟩ := h
                            refine j_callV (n := 1) (As := [.int (p2 + 1)]) (rest := []) (wr := [((am 33), .inr (8, [.ref a_all_m33, .int size_m33])), (a_all_m33, .inl (cI, n_a_all_m33, .inl b_a_all_m33)), ((am 34), .inr (8, [.ref a_all_m34, .int size_m34])), (a_all_m34, .inl (cI, n_a_all_m34, .inl b_a_all_m34)), ((am 6), .inr (8, [.ref a_all_m6, .int size_m6])), (a_all_m6, .inl (cI, n_a_all_m6, .inl b_a_all_m6)), ((am 24), .inr (8, [.ref q549, .int (size_m24 + 1)])), ((am 25), .inr (8, [.ref q550, .int (size_m25 + 1)])), ((am 26), .inr (8, [.ref q551, .int (size_m26 + 1)])), ((am 27), .inr (8, [.ref q552, .int (size_m27 + 1)])), ((am 28), .inr (8, [.ref q553, .int r530])), ((am 29), .inr (8, [.ref q554, .int r531])), ((am 30), .inr (8, [.ref q555, .int r532])), ((am 31), .inr (8, [.ref q556, .int (size_m31 + 1)])), (q549, .inl (cI, r533, .inl r534)), (q550, .inl (cI, r535, .inl r536)), (q551, .inl (cI, r537, .inl r538)), (q552, .inl (cI, r539, .inl r540)), (q553, .inl (cI, r541, .inl r542)), (q554, .inl (cI, r543, .inl r544)), (q555, .inl (cI, r545, .inl r546)), (q556, .inl (cI, r547, .inl r548))]) (c_Mo_branchEnd l D cI cB cJ cS h0 am a_all_m5 (p2 + 1) known_h0 thrown_h0 wrong_h0 lastEnd_h0 at_h0 bad_h0 levels_h0 least_h0 found_h0 size_m5 n_a_all_m5 b_a_all_m5  r562 k563) k_Mo_436 (by decide) ⟨Nat.le_of_ble_eq_true rfl, Nat.le_of_ble_eq_true rfl⟩ rfl 0 rfl [6, 4, 5] [0, 1, 2, 3, 7, 8, 9, 10, 11, 12, 13, 14, 15, 16, 17, 18, 19, 20, 21, 22, 23, 24] rfl (by decide +kernel) rfl (by decide +kernel) (by decide +kernel) rfl rfl (Nat.le_of_ble_eq_true rfl) d_Mo_buildStatement_227 ⟨show 0 + C557 + 0 ≤ mc by omega, show 0 + S558 + 0 ≤ ms by omega⟩ (fun v w hq => ?_)
                            obtain ⟨rfl, rfl⟩ := hq
                            refine j_norm (pc' := 230) (st' := [.int r562]) (ws' := [((am 33), .inr (8, [.ref a_all_m33, .int size_m33])), (a_all_m33, .inl (cI, n_a_all_m33, .inl b_a_all_m33)), ((am 34), .inr (8, [.ref a_all_m34, .int size_m34])), (a_all_m34, .inl (cI, n_a_all_m34, .inl b_a_all_m34)), ((am 6), .inr (8, [.ref a_all_m6, .int size_m6])), (a_all_m6, .inl (cI, n_a_all_m6, .inl b_a_all_m6)), ((am 24), .inr (8, [.ref q549, .int (size_m24 + 1)])), ((am 25), .inr (8, [.ref q550, .int (size_m25 + 1)])), ((am 26), .inr (8, [.ref q551, .int (size_m26 + 1)])), ((am 27), .inr (8, [.ref q552, .int (size_m27 + 1)])), ((am 28), .inr (8, [.ref q553, .int r530])), ((am 29), .inr (8, [.ref q554, .int r531])), ((am 30), .inr (8, [.ref q555, .int r532])), ((am 31), .inr (8, [.ref q556, .int (size_m31 + 1)])), (q549, .inl (cI, r533, .inl r534)), (q550, .inl (cI, r535, .inl r536)), (q551, .inl (cI, r537, .inl r538)), (q552, .inl (cI, r539, .inl r540)), (q553, .inl (cI, r541, .inl r542)), (q554, .inl (cI, r543, .inl r544)), (q555, .inl (cI, r545, .inl r546)), (q556, .inl (cI, r547, .inl r548)), (h0, .inr (9, moF am known_h0 thrown_h0 wrong_h0 lastEnd_h0 at_h0 bad_h0 levels_h0 least_h0 found_h0)), ((am 5), .inr (8, [.ref a_all_m5, .int size_m5])), (a_all_m5, .inl (cI, n_a_all_m5, .inl b_a_all_m5))]) (cl' := 0 + C557) (sl' := 0 + S558) rfl rfl rfl rfl rfl rfl ?_
                            refine j_istore (lv' := [(11, .int r562), (10, .int size_m24), (4, .int (b_a_all_m5 (Int32.toNatClampNeg p2))), (0, .ref h0), (1, .int p1), (2, .int p2), (3, .int p3)]) d_Mo_buildStatement_230 (by decide) rfl ?_
                            refine j_aload_n d_Mo_buildStatement_232 rfl 3 rfl ?_
                            refine j_iconst (v := 2) d_Mo_buildStatement_233 (by decide) ?_
                            refine j_iload d_Mo_buildStatement_234 1 rfl ?_
                            refine j_iload_n d_Mo_buildStatement_236 rfl 5 rfl ?_
                            refine j_iconst (v := 1) d_Mo_buildStatement_237 (by decide) ?_
                            refine j_iadd d_Mo_buildStatement_238 ?_
                            refine j_iload d_Mo_buildStatement_239 0 rfl ?_
                            refine j_iload_n d_Mo_buildStatement_241 rfl 5 rfl ?_
                            replace h := bw_s h
                            obtain ⟨⟨r564, r565⟩, C567, S568, C569, S570, k571, h, e1, e2⟩ := h
                            replace hC : 0 + C557 + C567 + C569 ≤ mc := by omega
                            replace hS : 0 + S558 + S568 + S570 ≤ ms := by omega
                            clear e1 e2
                            refine j_callV (n := 5) (As := [.int 2, .int size_m24, .int (p2 + 1), .int r562, .int p2]) (rest := []) (wr := [((am 34), .inr (8, [.ref a_all_m34, .int size_m34])), (a_all_m34, .inl (cI, n_a_all_m34, .inl b_a_all_m34)), ((am 6), .inr (8, [.ref a_all_m6, .int size_m6])), (a_all_m6, .inl (cI, n_a_all_m6, .inl b_a_all_m6)), ((am 24), .inr (8, [.ref q549, .int (size_m24 + 1)])), ((am 25), .inr (8, [.ref q550, .int (size_m25 + 1)])), ((am 26), .inr (8, [.ref q551, .int (size_m26 + 1)])), ((am 27), .inr (8, [.ref q552, .int (size_m27 + 1)])), ((am 28), .inr (8, [.ref q553, .int r530])), ((am 29), .inr (8, [.ref q554, .int r531])), ((am 30), .inr (8, [.ref q555, .int r532])), ((am 31), .inr (8, [.ref q556, .int (size_m31 + 1)])), (q549, .inl (cI, r533, .inl r534)), (q550, .inl (cI, r535, .inl r536)), (q551, .inl (cI, r537, .inl r538)), (q552, .inl (cI, r539, .inl r540)), (q553, .inl (cI, r541, .inl r542)), (q554, .inl (cI, r543, .inl r544)), (q555, .inl (cI, r545, .inl r546)), (q556, .inl (cI, r547, .inl r548)), ((am 5), .inr (8, [.ref a_all_m5, .int size_m5])), (a_all_m5, .inl (cI, n_a_all_m5, .inl b_a_all_m5))]) (c_Mo_task l D cI cB cJ cS h0 am a_all_m33 2 size_m24 (p2 + 1) r562 p2 known_h0 thrown_h0 wrong_h0 lastEnd_h0 at_h0 bad_h0 levels_h0 least_h0 found_h0 size_m33 n_a_all_m33 b_a_all_m33  r564 r565 C567 S568 k571) k_Mo_390 (by decide) ⟨Nat.le_of_ble_eq_true rfl, Nat.le_of_ble_eq_true rfl⟩ rfl 0 rfl [22, 0, 1] [2, 3, 4, 5, 6, 7, 8, 9, 10, 11, 12, 13, 14, 15, 16, 17, 18, 19, 20, 21, 23, 24] rfl (by decide +kernel) rfl (by decide +kernel) (by decide +kernel) rfl rfl (Nat.le_of_ble_eq_true rfl) d_Mo_buildStatement_242 ⟨show 0 + C557 + C567 ≤ mc by omega, show 0 + S558 + S568 ≤ ms by omega⟩ (fun v w hq => ?_)
                            obtain ⟨q566, rfl, rfl⟩ := hq
                            refine j_norm (pc' := 245) (st' := []) (ws' := [((am 34), .inr (8, [.ref a_all_m34, .int size_m34])), (a_all_m34, .inl (cI, n_a_all_m34, .inl b_a_all_m34)), ((am 6), .inr (8, [.ref a_all_m6, .int size_m6])), (a_all_m6, .inl (cI, n_a_all_m6, .inl b_a_all_m6)), ((am 24), .inr (8, [.ref q549, .int (size_m24 + 1)])), ((am 25), .inr (8, [.ref q550, .int (size_m25 + 1)])), ((am 26), .inr (8, [.ref q551, .int (size_m26 + 1)])), ((am 27), .inr (8, [.ref q552, .int (size_m27 + 1)])), ((am 28), .inr (8, [.ref q553, .int r530])), ((am 29), .inr (8, [.ref q554, .int r531])), ((am 30), .inr (8, [.ref q555, .int r532])), ((am 31), .inr (8, [.ref q556, .int (size_m31 + 1)])), (q549, .inl (cI, r533, .inl r534)), (q550, .inl (cI, r535, .inl r536)), (q551, .inl (cI, r537, .inl r538)), (q552, .inl (cI, r539, .inl r540)), (q553, .inl (cI, r541, .inl r542)), (q554, .inl (cI, r543, .inl r544)), (q555, .inl (cI, r545, .inl r546)), (q556, .inl (cI, r547, .inl r548)), ((am 5), .inr (8, [.ref a_all_m5, .int size_m5])), (a_all_m5, .inl (cI, n_a_all_m5, .inl b_a_all_m5)), (h0, .inr (9, moF am known_h0 thrown_h0 wrong_h0 lastEnd_h0 at_h0 bad_h0 levels_h0 least_h0 found_h0)), ((am 33), .inr (8, [.ref q566, .int (((((size_m33 + 1) + 1) + 1) + 1) + 1)])), (q566, .inl (cI, r564, .inl r565))]) (cl' := 0 + C557 + C567) (sl' := 0 + S558 + S568) rfl rfl rfl rfl rfl rfl ?_
                            refine j_aload_n d_Mo_buildStatement_245 rfl 3 rfl ?_
                            refine j_iconst (v := 2) d_Mo_buildStatement_246 (by decide) ?_
                            refine j_iload d_Mo_buildStatement_247 1 rfl ?_
                            refine j_iload d_Mo_buildStatement_249 0 rfl ?_
                            refine j_iconst (v := 1) d_Mo_buildStatement_251 (by decide) ?_
                            refine j_iadd d_Mo_buildStatement_252 ?_
                            refine j_iload_n d_Mo_buildStatement_253 rfl 6 rfl ?_
                            refine j_iconst (v := 1) d_Mo_buildStatement_254 (by decide) ?_
                            refine j_isub d_Mo_buildStatement_255 ?_
                            refine j_iload d_Mo_buildStatement_256 0 rfl ?_
                            replace h := bw_s h
                            obtain ⟨⟨r572, r573⟩, C575, S576, C577, S578, k579, h, e1, e2⟩ := h
                            replace hC : 0 + C557 + C567 + C575 + C577 ≤ mc := by omega
                            replace hS : 0 + S558 + S568 + S576 + S578 ≤ ms := by omega
                            clear e1 e2
                            refine j_callV (n := 5) (As := [.int 2, .int size_m24, .int (r562 + 1), .int (p3 - 1), .int r562]) (rest := []) (wr := [((am 34), .inr (8, [.ref a_all_m34, .int size_m34])), (a_all_m34, .inl (cI, n_a_all_m34, .inl b_a_all_m34)), ((am 6), .inr (8, [.ref a_all_m6, .int size_m6])), (a_all_m6, .inl (cI, n_a_all_m6, .inl b_a_all_m6)), ((am 24), .inr (8, [.ref q549, .int (size_m24 + 1)])), ((am 25), .inr (8, [.ref q550, .int (size_m25 + 1)])), ((am 26), .inr (8, [.ref q551, .int (size_m26 + 1)])), ((am 27), .inr (8, [.ref q552, .int (size_m27 + 1)])), ((am 28), .inr (8, [.ref q553, .int r530])), ((am 29), .inr (8, [.ref q554, .int r531])), ((am 30), .inr (8, [.ref q555, .int r532])), ((am 31), .inr (8, [.ref q556, .int (size_m31 + 1)])), (q549, .inl (cI, r533, .inl r534)), (q550, .inl (cI, r535, .inl r536)), (q551, .inl (cI, r537, .inl r538)), (q552, .inl (cI, r539, .inl r540)), (q553, .inl (cI, r541, .inl r542)), (q554, .inl (cI, r543, .inl r544)), (q555, .inl (cI, r545, .inl r546)), (q556, .inl (cI, r547, .inl r548)), ((am 5), .inr (8, [.ref a_all_m5, .int size_m5])), (a_all_m5, .inl (cI, n_a_all_m5, .inl b_a_all_m5))]) (c_Mo_task l D cI cB cJ cS h0 am q566 2 size_m24 (r562 + 1) (p3 - 1) r562 known_h0 thrown_h0 wrong_h0 lastEnd_h0 at_h0 bad_h0 levels_h0 least_h0 found_h0 (((((size_m33 + 1) + 1) + 1) + 1) + 1) r564 r565  r572 r573 C575 S576 k579) k_Mo_390 (by decide) ⟨Nat.le_of_ble_eq_true rfl, Nat.le_of_ble_eq_true rfl⟩ rfl 0 rfl [22, 23, 24] [0, 1, 2, 3, 4, 5, 6, 7, 8, 9, 10, 11, 12, 13, 14, 15, 16, 17, 18, 19, 20, 21] rfl (by decide +kernel) rfl (by decide +kernel) (by decide +kernel) rfl rfl (Nat.le_of_ble_eq_true rfl) d_Mo_buildStatement_258 ⟨show 0 + C557 + C567 + C575 ≤ mc by omega, show 0 + S558 + S568 + S576 ≤ ms by omega⟩ (fun v w hq => ?_)
                            obtain ⟨q574, rfl, rfl⟩ := hq
                            refine j_norm (pc' := 261) (st' := []) (ws' := [((am 34), .inr (8, [.ref a_all_m34, .int size_m34])), (a_all_m34, .inl (cI, n_a_all_m34, .inl b_a_all_m34)), ((am 6), .inr (8, [.ref a_all_m6, .int size_m6])), (a_all_m6, .inl (cI, n_a_all_m6, .inl b_a_all_m6)), ((am 24), .inr (8, [.ref q549, .int (size_m24 + 1)])), ((am 25), .inr (8, [.ref q550, .int (size_m25 + 1)])), ((am 26), .inr (8, [.ref q551, .int (size_m26 + 1)])), ((am 27), .inr (8, [.ref q552, .int (size_m27 + 1)])), ((am 28), .inr (8, [.ref q553, .int r530])), ((am 29), .inr (8, [.ref q554, .int r531])), ((am 30), .inr (8, [.ref q555, .int r532])), ((am 31), .inr (8, [.ref q556, .int (size_m31 + 1)])), (q549, .inl (cI, r533, .inl r534)), (q550, .inl (cI, r535, .inl r536)), (q551, .inl (cI, r537, .inl r538)), (q552, .inl (cI, r539, .inl r540)), (q553, .inl (cI, r541, .inl r542)), (q554, .inl (cI, r543, .inl r544)), (q555, .inl (cI, r545, .inl r546)), (q556, .inl (cI, r547, .inl r548)), ((am 5), .inr (8, [.ref a_all_m5, .int size_m5])), (a_all_m5, .inl (cI, n_a_all_m5, .inl b_a_all_m5)), (h0, .inr (9, moF am known_h0 thrown_h0 wrong_h0 lastEnd_h0 at_h0 bad_h0 levels_h0 least_h0 found_h0)), ((am 33), .inr (8, [.ref q574, .int ((((((((((size_m33 + 1) + 1) + 1) + 1) + 1) + 1) + 1) + 1) + 1) + 1)])), (q574, .inl (cI, r572, .inl r573))]) (cl' := 0 + C557 + C567 + C575) (sl' := 0 + S558 + S568 + S576) rfl rfl rfl rfl rfl rfl ?_
                            replace h := lf_s h
                            obtain ⟨h, e1, e2⟩ := h
                            replace h := Prod.mk.inj h
                            obtain ⟨h9, h⟩ := h
                            subst h9
                            replace h := Prod.mk.inj h
                            obtain ⟨h9, h⟩ := h
                            subst h9
                            replace h := Prod.mk.inj h
                            obtain ⟨h9, h⟩ := h
                            subst h9
                            replace h := Prod.mk.inj h
                            obtain ⟨h9, h⟩ := h
                            subst h9
                            replace h := Prod.mk.inj h
                            obtain ⟨h9, h⟩ := h
                            subst h9
                            replace h := Prod.mk.inj h
                            obtain ⟨h9, h⟩ := h
                            subst h9
                            replace h := Prod.mk.inj h
                            obtain ⟨h9, h⟩ := h
                            subst h9
                            replace h := Prod.mk.inj h
                            obtain ⟨h9, h⟩ := h
                            subst h9
                            replace h := Prod.mk.inj h
                            obtain ⟨h9, h⟩ := h
                            subst h9
                            replace h := Prod.mk.inj h
                            obtain ⟨h9, h⟩ := h
                            subst h9
                            replace h := Prod.mk.inj h
                            obtain ⟨h9, h⟩ := h
                            subst h9
                            replace h := Prod.mk.inj h
                            obtain ⟨h9, h⟩ := h
                            subst h9
                            replace h := Prod.mk.inj h
                            obtain ⟨h9, h⟩ := h
                            subst h9
                            replace h := Prod.mk.inj h
                            obtain ⟨h9, h⟩ := h
                            subst h9
                            replace h := Prod.mk.inj h
                            obtain ⟨h9, h⟩ := h
                            subst h9
                            replace h := Prod.mk.inj h
                            obtain ⟨h9, h⟩ := h
                            subst h9
                            replace h := Prod.mk.inj h
                            obtain ⟨h9, h⟩ := h
                            subst h9
                            replace h := Prod.mk.inj h
                            obtain ⟨h9, h⟩ := h
                            subst h9
                            replace h := Prod.mk.inj h
                            obtain ⟨h9, h⟩ := h
                            subst h9
                            replace h := Prod.mk.inj h
                            obtain ⟨h9, h⟩ := h
                            subst h9
                            replace h := Prod.mk.inj h
                            obtain ⟨h9, h⟩ := h
                            subst h9
                            replace h := Prod.mk.inj h
                            obtain ⟨h9, h⟩ := h
                            subst h9
                            replace h := Prod.mk.inj h
                            obtain ⟨h9, h⟩ := h
                            subst h9
                            replace h := Prod.mk.inj h
                            obtain ⟨h9, h⟩ := h
                            subst h9
                            replace h := Prod.mk.inj h
                            obtain ⟨h9, h⟩ := h
                            subst h9
                            replace h := Prod.mk.inj h
                            obtain ⟨h9, h⟩ := h
                            subst h9
                            replace h := Prod.mk.inj h
                            obtain ⟨h9, h⟩ := h
                            subst h9
                            subst h
                            refine j_widen (cl' := mc) (sl' := ms) (by omega) (by omega) ?_
                            exact j_vret (w := [(h0, .inr (9, moF am known_h0 thrown_h0 wrong_h0 lastEnd_h0 at_h0 bad_h0 levels_h0 least_h0 found_h0)), ((am 5), .inr (8, [.ref a_all_m5, .int size_m5])), (a_all_m5, .inl (cI, n_a_all_m5, .inl b_a_all_m5)), ((am 6), .inr (8, [.ref a_all_m6, .int size_m6])), (a_all_m6, .inl (cI, n_a_all_m6, .inl b_a_all_m6)), ((am 24), .inr (8, [.ref q549, .int (size_m24 + 1)])), ((am 25), .inr (8, [.ref q550, .int (size_m25 + 1)])), ((am 26), .inr (8, [.ref q551, .int (size_m26 + 1)])), ((am 27), .inr (8, [.ref q552, .int (size_m27 + 1)])), ((am 28), .inr (8, [.ref q553, .int r530])), ((am 29), .inr (8, [.ref q554, .int r531])), ((am 30), .inr (8, [.ref q555, .int r532])), ((am 31), .inr (8, [.ref q556, .int (size_m31 + 1)])), ((am 33), .inr (8, [.ref q574, .int ((((((((((size_m33 + 1) + 1) + 1) + 1) + 1) + 1) + 1) + 1) + 1) + 1)])), ((am 34), .inr (8, [.ref a_all_m34, .int size_m34])), (a_all_m34, .inl (cI, n_a_all_m34, .inl b_a_all_m34)), (q549, .inl (cI, r533, .inl r534)), (q550, .inl (cI, r535, .inl r536)), (q551, .inl (cI, r537, .inl r538)), (q552, .inl (cI, r539, .inl r540)), (q553, .inl (cI, r541, .inl r542)), (q554, .inl (cI, r543, .inl r544)), (q555, .inl (cI, r545, .inl r546)), (q556, .inl (cI, r547, .inl r548)), (q574, .inl (cI, r572, .inl r573))]) hr d_Mo_buildStatement_261 [22, 20, 21, 2, 3, 4, 5, 6, 7, 8, 9, 10, 11, 23, 0, 1, 12, 13, 14, 15, 16, 17, 18, 19, 24] rfl (by decide) ⟨q549, q550, q551, q552, q553, q554, q555, q556, q574, rfl, rfl⟩
                          · replace h := it_f c529 h
                            refine j_tabOut (tgt := 304) d_Mo_buildStatement_12 (by have := lv_neT c2 (by decide : (10 : Int32).toInt = 10); have := lv_neT c44 (by decide : (11 : Int32).toInt = 11); have := lv_neT c86 (by decide : (12 : Int32).toInt = 12); have := lv_neT c128 (by decide : (13 : Int32).toInt = 13); have := lv_neT c170 (by decide : (14 : Int32).toInt = 14); have := lv_neT c221 (by decide : (15 : Int32).toInt = 15); have := lv_neT c304 (by decide : (16 : Int32).toInt = 16); have := lv_neT c337 (by decide : (17 : Int32).toInt = 17); have := lv_neT c370 (by decide : (18 : Int32).toInt = 18); have := lv_neT c403 (by decide : (19 : Int32).toInt = 19); have := lv_neT c445 (by decide : (20 : Int32).toInt = 20); have := lv_neT c487 (by decide : (21 : Int32).toInt = 21); have := lv_neT c529 (by decide : (22 : Int32).toInt = 22); omega) (by decide) ?_
                            refine j_aload_n d_Mo_buildStatement_304 rfl 1 rfl ?_
                            refine j_iload_n d_Mo_buildStatement_305 rfl 2 rfl ?_
                            refine j_iload_n d_Mo_buildStatement_306 rfl 3 rfl ?_
                            refine j_iload_n d_Mo_buildStatement_307 rfl 4 rfl ?_
                            refine j_iconst (v := 1) d_Mo_buildStatement_308 (by decide) ?_
                            refine j_isub d_Mo_buildStatement_309 ?_
                            replace h := bw_s h
                            obtain ⟨⟨r580, r581, r582, r583, r584, r585, r586, r587, r588, r589, r590, r591, r592, r593, r594, r595, r596, r597, r598, r599, r600, r601, r602, r603, r604, r605, r606⟩, C616, S617, C618, S619, k620, h, e1, e2⟩ := h
                            replace hC : 0 + C616 + C618 ≤ mc := by omega
                            replace hS : 0 + S617 + S619 ≤ ms := by omega
                            clear e1 e2
                            refine j_callV (n := 3) (As := [.int p1, .int p2, .int (p3 - 1)]) (rest := []) (wr := [((am 34), .inr (8, [.ref a_all_m34, .int size_m34])), (a_all_m34, .inl (cI, n_a_all_m34, .inl b_a_all_m34))]) (c_Mo_buildSimple l D cI cB cJ cS h0 am a_all_m5 a_all_m6 a_all_m24 a_all_m25 a_all_m26 a_all_m27 a_all_m28 a_all_m29 a_all_m30 a_all_m31 a_all_m33 p1 p2 (p3 - 1) known_h0 thrown_h0 wrong_h0 lastEnd_h0 at_h0 bad_h0 levels_h0 least_h0 found_h0 size_m5 n_a_all_m5 b_a_all_m5 size_m6 n_a_all_m6 b_a_all_m6 size_m24 n_a_all_m24 b_a_all_m24 size_m25 n_a_all_m25 b_a_all_m25 size_m26 n_a_all_m26 b_a_all_m26 size_m27 n_a_all_m27 b_a_all_m27 size_m28 n_a_all_m28 b_a_all_m28 size_m29 n_a_all_m29 b_a_all_m29 size_m30 n_a_all_m30 b_a_all_m30 size_m31 n_a_all_m31 b_a_all_m31 size_m33 n_a_all_m33 b_a_all_m33  r580 r581 r582 r583 r584 r585 r586 r587 r588 r589 r590 r591 r592 r593 r594 r595 r596 r597 r598 r599 r600 r601 r602 r603 r604 r605 r606 C616 S617 k620) k_Mo_442 (by decide) ⟨Nat.le_of_ble_eq_true rfl, Nat.le_of_ble_eq_true rfl⟩ rfl 0 rfl [0, 23, 24, 1, 2, 3, 4, 5, 6, 7, 8, 9, 10, 11, 12, 13, 14, 15, 16, 17, 18, 19, 20] [21, 22] rfl (by decide +kernel) rfl (by decide +kernel) (by decide +kernel) rfl rfl (Nat.le_of_ble_eq_true rfl) d_Mo_buildStatement_310 ⟨show 0 + C616 ≤ mc by omega, show 0 + S617 ≤ ms by omega⟩ (fun v w hq => ?_)
                            obtain ⟨q607, q608, q609, q610, q611, q612, q613, q614, q615, rfl, rfl⟩ := hq
                            refine j_norm (pc' := 313) (st' := []) (ws' := [((am 34), .inr (8, [.ref a_all_m34, .int size_m34])), (a_all_m34, .inl (cI, n_a_all_m34, .inl b_a_all_m34)), (h0, .inr (9, moF am known_h0 thrown_h0 wrong_h0 lastEnd_h0 at_h0 bad_h0 levels_h0 least_h0 found_h0)), ((am 5), .inr (8, [.ref a_all_m5, .int size_m5])), (a_all_m5, .inl (cI, n_a_all_m5, .inl b_a_all_m5)), ((am 6), .inr (8, [.ref a_all_m6, .int size_m6])), (a_all_m6, .inl (cI, n_a_all_m6, .inl b_a_all_m6)), ((am 24), .inr (8, [.ref q607, .int r580])), ((am 25), .inr (8, [.ref q608, .int r581])), ((am 26), .inr (8, [.ref q609, .int r582])), ((am 27), .inr (8, [.ref q610, .int r583])), ((am 28), .inr (8, [.ref q611, .int r584])), ((am 29), .inr (8, [.ref q612, .int r585])), ((am 30), .inr (8, [.ref q613, .int r586])), ((am 31), .inr (8, [.ref q614, .int r587])), ((am 33), .inr (8, [.ref q615, .int r588])), (q607, .inl (cI, r589, .inl r590)), (q608, .inl (cI, r591, .inl r592)), (q609, .inl (cI, r593, .inl r594)), (q610, .inl (cI, r595, .inl r596)), (q611, .inl (cI, r597, .inl r598)), (q612, .inl (cI, r599, .inl r600)), (q613, .inl (cI, r601, .inl r602)), (q614, .inl (cI, r603, .inl r604)), (q615, .inl (cI, r605, .inl r606))]) (cl' := 0 + C616) (sl' := 0 + S617) rfl rfl rfl rfl rfl rfl ?_
                            replace h := lf_s h
                            obtain ⟨h, e1, e2⟩ := h
                            replace h := Prod.mk.inj h
                            obtain ⟨h9, h⟩ := h
                            subst h9
                            replace h := Prod.mk.inj h
                            obtain ⟨h9, h⟩ := h
                            subst h9
                            replace h := Prod.mk.inj h
                            obtain ⟨h9, h⟩ := h
                            subst h9
                            replace h := Prod.mk.inj h
                            obtain ⟨h9, h⟩ := h
                            subst h9
                            replace h := Prod.mk.inj h
                            obtain ⟨h9, h⟩ := h
                            subst h9
                            replace h := Prod.mk.inj h
                            obtain ⟨h9, h⟩ := h
                            subst h9
                            replace h := Prod.mk.inj h
                            obtain ⟨h9, h⟩ := h
                            subst h9
                            replace h := Prod.mk.inj h
                            obtain ⟨h9, h⟩ := h
                            subst h9
                            replace h := Prod.mk.inj h
                            obtain ⟨h9, h⟩ := h
                            subst h9
                            replace h := Prod.mk.inj h
                            obtain ⟨h9, h⟩ := h
                            subst h9
                            replace h := Prod.mk.inj h
                            obtain ⟨h9, h⟩ := h
                            subst h9
                            replace h := Prod.mk.inj h
                            obtain ⟨h9, h⟩ := h
                            subst h9
                            replace h := Prod.mk.inj h
                            obtain ⟨h9, h⟩ := h
                            subst h9
                            replace h := Prod.mk.inj h
                            obtain ⟨h9, h⟩ := h
                            subst h9
                            replace h := Prod.mk.inj h
                            obtain ⟨h9, h⟩ := h
                            subst h9
                            replace h := Prod.mk.inj h
                            obtain ⟨h9, h⟩ := h
                            subst h9
                            replace h := Prod.mk.inj h
                            obtain ⟨h9, h⟩ := h
                            subst h9
                            replace h := Prod.mk.inj h
                            obtain ⟨h9, h⟩ := h
                            subst h9
                            replace h := Prod.mk.inj h
                            obtain ⟨h9, h⟩ := h
                            subst h9
                            replace h := Prod.mk.inj h
                            obtain ⟨h9, h⟩ := h
                            subst h9
                            replace h := Prod.mk.inj h
                            obtain ⟨h9, h⟩ := h
                            subst h9
                            replace h := Prod.mk.inj h
                            obtain ⟨h9, h⟩ := h
                            subst h9
                            replace h := Prod.mk.inj h
                            obtain ⟨h9, h⟩ := h
                            subst h9
                            replace h := Prod.mk.inj h
                            obtain ⟨h9, h⟩ := h
                            subst h9
                            replace h := Prod.mk.inj h
                            obtain ⟨h9, h⟩ := h
                            subst h9
                            replace h := Prod.mk.inj h
                            obtain ⟨h9, h⟩ := h
                            subst h9
                            replace h := Prod.mk.inj h
                            obtain ⟨h9, h⟩ := h
                            subst h9
                            subst h
                            refine j_widen (cl' := mc) (sl' := ms) (by omega) (by omega) ?_
                            exact j_vret (w := [(h0, .inr (9, moF am known_h0 thrown_h0 wrong_h0 lastEnd_h0 at_h0 bad_h0 levels_h0 least_h0 found_h0)), ((am 5), .inr (8, [.ref a_all_m5, .int size_m5])), (a_all_m5, .inl (cI, n_a_all_m5, .inl b_a_all_m5)), ((am 6), .inr (8, [.ref a_all_m6, .int size_m6])), (a_all_m6, .inl (cI, n_a_all_m6, .inl b_a_all_m6)), ((am 24), .inr (8, [.ref q607, .int r580])), ((am 25), .inr (8, [.ref q608, .int r581])), ((am 26), .inr (8, [.ref q609, .int r582])), ((am 27), .inr (8, [.ref q610, .int r583])), ((am 28), .inr (8, [.ref q611, .int r584])), ((am 29), .inr (8, [.ref q612, .int r585])), ((am 30), .inr (8, [.ref q613, .int r586])), ((am 31), .inr (8, [.ref q614, .int r587])), ((am 33), .inr (8, [.ref q615, .int r588])), ((am 34), .inr (8, [.ref a_all_m34, .int size_m34])), (a_all_m34, .inl (cI, n_a_all_m34, .inl b_a_all_m34)), (q607, .inl (cI, r589, .inl r590)), (q608, .inl (cI, r591, .inl r592)), (q609, .inl (cI, r593, .inl r594)), (q610, .inl (cI, r595, .inl r596)), (q611, .inl (cI, r597, .inl r598)), (q612, .inl (cI, r599, .inl r600)), (q613, .inl (cI, r601, .inl r602)), (q614, .inl (cI, r603, .inl r604)), (q615, .inl (cI, r605, .inl r606))]) hr d_Mo_buildStatement_313 [2, 3, 4, 5, 6, 7, 8, 9, 10, 11, 12, 13, 14, 15, 0, 1, 16, 17, 18, 19, 20, 21, 22, 23, 24] rfl (by decide) ⟨q607, q608, q609, q610, q611, q612, q613, q614, q615, rfl, rfl⟩
