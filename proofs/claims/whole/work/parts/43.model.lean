def F_Mo_block (known_h0 : Int32) (thrown_h0 : Int32) (wrong_h0 : Int32) (lastEnd_h0 : Int32) (at_h0 : Int32) (bad_h0 : Int32) (levels_h0 : Int32) (least_h0 : Int32) (found_h0 : Int32) (size_m21 : Int32) (n_a_all_m21 : Nat) (b_a_all_m21 : Nat → Int32) : Option (Int32) :=
  if size_m21 = 0 then (some (-1))
  else (Option.bind (F_Nm_last size_m21 n_a_all_m21 b_a_all_m21) fun _ =>
    (some (b_a_all_m21 (Int32.toNatClampNeg (size_m21 - 1)))))
theorem d_Mo_block_0 : decode prog_12_method_35_code 0 = .ok (.aload_n 0, 1) := by decide +kernel
theorem d_Mo_block_1 : decode prog_12_method_35_code 1 = .ok (.getfield 145, 3) := by decide +kernel
theorem d_Mo_block_4 : decode prog_12_method_35_code 4 = .ok (.getfield 204, 3) := by decide +kernel
theorem d_Mo_block_7 : decode prog_12_method_35_code 7 = .ok (.ifCond .ne 7, 3) := by decide +kernel
theorem d_Mo_block_10 : decode prog_12_method_35_code 10 = .ok (.iconst (-1), 1) := by decide +kernel
theorem d_Mo_block_11 : decode prog_12_method_35_code 11 = .ok (.goto 10, 3) := by decide +kernel
theorem d_Mo_block_14 : decode prog_12_method_35_code 14 = .ok (.aload_n 0, 1) := by decide +kernel
theorem d_Mo_block_15 : decode prog_12_method_35_code 15 = .ok (.getfield 145, 3) := by decide +kernel
theorem d_Mo_block_18 : decode prog_12_method_35_code 18 = .ok (.invokevirtual 329, 3) := by decide +kernel
theorem d_Mo_block_21 : decode prog_12_method_35_code 21 = .ok (.ireturn, 1) := by decide +kernel
set_option maxHeartbeats 4000000 in
set_option maxRecDepth 100000 in
theorem c_Mo_block (l : Launch) (D : va_G) (cI cB cJ cS : ClassId) (h0 : Nat) (am : Nat → Nat) (a_all_m21 : Nat) (known_h0 : Int32) (thrown_h0 : Int32) (wrong_h0 : Int32) (lastEnd_h0 : Int32) (at_h0 : Int32) (bad_h0 : Int32) (levels_h0 : Int32) (least_h0 : Int32) (found_h0 : Int32) (size_m21 : Int32) (n_a_all_m21 : Nat) (b_a_all_m21 : Nat → Int32) (ret : Int32) (h : F_Mo_block known_h0 thrown_h0 wrong_h0 lastEnd_h0 at_h0 bad_h0 levels_h0 least_h0 found_h0 size_m21 n_a_all_m21 b_a_all_m21 = some ret) : Ct l D (gT cI cB cJ cS) y_Mo_block prog_12_method_35_code 1 (Option.some Jvm.ClassFile.FieldType.int) 1 20 0 0 [.ref h0] [(h0, .inr (9, moF am known_h0 thrown_h0 wrong_h0 lastEnd_h0 at_h0 bad_h0 levels_h0 least_h0 found_h0)), ((am 21), .inr (8, [.ref a_all_m21, .int size_m21])), (a_all_m21, .inl (cI, n_a_all_m21, .inl b_a_all_m21))] (fun v w => v = some (.int ret) ∧ w = [(h0, .inr (9, moF am known_h0 thrown_h0 wrong_h0 lastEnd_h0 at_h0 bad_h0 levels_h0 least_h0 found_h0)), ((am 21), .inr (8, [.ref a_all_m21, .int size_m21])), (a_all_m21, .inl (cI, n_a_all_m21, .inl b_a_all_m21))]) := by
  refine Ct.mk (by decide) (Nat.le_of_ble_eq_true rfl) ?_
  intro p e s m below meth c hr hnm
  refine j_norm (pc' := 0) (lv' := [(0, .ref h0)]) (st' := []) (ws' := [(h0, .inr (9, moF am known_h0 thrown_h0 wrong_h0 lastEnd_h0 at_h0 bad_h0 levels_h0 least_h0 found_h0)), ((am 21), .inr (8, [.ref a_all_m21, .int size_m21])), (a_all_m21, .inl (cI, n_a_all_m21, .inl b_a_all_m21))]) (cl' := 0) (sl' := 0) rfl rfl rfl rfl rfl rfl ?_
  unfold F_Mo_block at h
  refine j_aload_n d_Mo_block_0 rfl 0 rfl ?_
  refine j_get ig_Mo rfl 0 rfl 21 (by decide) rfl m_1134 rfl d_Mo_block_1 ?_
  refine j_getN ig_Nm rfl 1 rfl 1 (by decide) rfl mn_13 rfl d_Mo_block_4 ?_
  refine j_if_ne (tgt := 14) d_Mo_block_7 (by decide) (fun c1 => ?_) (fun c1 => ?_)
  · replace h := it_f c1 h
    refine j_aload_n d_Mo_block_14 rfl 0 rfl ?_
    refine j_get ig_Mo rfl 0 rfl 21 (by decide) rfl m_1134 rfl d_Mo_block_15 ?_
    replace h := bd_s h
    obtain ⟨_, k2, h⟩ := h
    refine j_callV (n := 0) (As := []) (rest := []) (wr := [(h0, .inr (9, moF am known_h0 thrown_h0 wrong_h0 lastEnd_h0 at_h0 bad_h0 levels_h0 least_h0 found_h0))]) (c_Nm_last l D cI cB cJ cS (am 21) a_all_m21 size_m21 n_a_all_m21 b_a_all_m21  k2) k_Mo_329 (by decide) ⟨Nat.le_of_ble_eq_true rfl, Nat.le_of_ble_eq_true rfl⟩ rfl 0 rfl [1, 2] [0] rfl (by decide) rfl (by decide) (by decide) rfl rfl (Nat.le_of_ble_eq_true rfl) d_Mo_block_18 ⟨Nat.le_of_ble_eq_true rfl, Nat.le_of_ble_eq_true rfl⟩ (fun v w hq => ?_)
    obtain ⟨rfl, rfl⟩ := hq
    refine j_norm (pc' := 21) (st' := [.int (b_a_all_m21 (Int32.toNatClampNeg (size_m21 - 1)))]) (ws' := [(h0, .inr (9, moF am known_h0 thrown_h0 wrong_h0 lastEnd_h0 at_h0 bad_h0 levels_h0 least_h0 found_h0)), ((am 21), .inr (8, [.ref a_all_m21, .int size_m21])), (a_all_m21, .inl (cI, n_a_all_m21, .inl b_a_all_m21))]) (cl' := 0) (sl' := 0) rfl rfl rfl rfl rfl rfl ?_
    replace h := Option.some.inj h
    subst h
    exact j_iret (w := [(h0, .inr (9, moF am known_h0 thrown_h0 wrong_h0 lastEnd_h0 at_h0 bad_h0 levels_h0 least_h0 found_h0)), ((am 21), .inr (8, [.ref a_all_m21, .int size_m21])), (a_all_m21, .inl (cI, n_a_all_m21, .inl b_a_all_m21))]) hr d_Mo_block_21 [0, 1, 2] rfl (by decide) ⟨rfl, rfl⟩
  · replace h := it_t c1 h
    refine j_iconst (v := (-1)) d_Mo_block_10 (by decide) ?_
    refine j_goto (tgt := 21) d_Mo_block_11 (by decide) ?_
    replace h := Option.some.inj h
    subst h
    exact j_iret (w := [(h0, .inr (9, moF am known_h0 thrown_h0 wrong_h0 lastEnd_h0 at_h0 bad_h0 levels_h0 least_h0 found_h0)), ((am 21), .inr (8, [.ref a_all_m21, .int size_m21])), (a_all_m21, .inl (cI, n_a_all_m21, .inl b_a_all_m21))]) hr d_Mo_block_21 [0, 1, 2] rfl (by decide) ⟨rfl, rfl⟩
def F_Mo_isInLoop_59 (size_m21 : Int32) (n_a_all_m21 : Nat) (b_a_all_m21 : Nat → Int32) (v1_59 : Int32) : Option (Int32) :=
    if v1_59 < 0 then (some 0)
    else (Option.bind (F_Nm_at v1_59 size_m21 n_a_all_m21 b_a_all_m21) fun _ =>
      if (b_a_all_m21 (Int32.toNatClampNeg v1_59)) = 19 then (some 0)
      else (some 1))
def F_Mo_isInLoop_10 (size_m21 : Int32) (n_a_all_m21 : Nat) (b_a_all_m21 : Nat → Int32) : Nat → Int32 → Option (Int32)
  | 0, _ => none
  | k_10 + 1, v1_10 =>
    if v1_10 < 0 then (F_Mo_isInLoop_59 size_m21 n_a_all_m21 b_a_all_m21   v1_10)
    else (Option.bind (F_Nm_at v1_10 size_m21 n_a_all_m21 b_a_all_m21) fun _ =>
      if (b_a_all_m21 (Int32.toNatClampNeg v1_10)) = 19 then (F_Mo_isInLoop_59 size_m21 n_a_all_m21 b_a_all_m21   v1_10)
      else (Option.bind (F_Nm_at v1_10 size_m21 n_a_all_m21 b_a_all_m21) fun _ =>
        if (b_a_all_m21 (Int32.toNatClampNeg v1_10)) = 14 then (F_Mo_isInLoop_59 size_m21 n_a_all_m21 b_a_all_m21   v1_10)
        else (Option.bind (F_Nm_at v1_10 size_m21 n_a_all_m21 b_a_all_m21) fun _ =>
          if (b_a_all_m21 (Int32.toNatClampNeg v1_10)) = 15 then (F_Mo_isInLoop_59 size_m21 n_a_all_m21 b_a_all_m21   v1_10)
          else (F_Mo_isInLoop_10 size_m21 n_a_all_m21 b_a_all_m21  k_10 (v1_10 + (-1))))))
def F_Mo_isInLoop (known_h0 : Int32) (thrown_h0 : Int32) (wrong_h0 : Int32) (lastEnd_h0 : Int32) (at_h0 : Int32) (bad_h0 : Int32) (levels_h0 : Int32) (least_h0 : Int32) (found_h0 : Int32) (size_m21 : Int32) (n_a_all_m21 : Nat) (b_a_all_m21 : Nat → Int32) : Option (Int32) :=
  F_Mo_isInLoop_10 size_m21 n_a_all_m21 b_a_all_m21  FU (size_m21 - 1)
theorem d_Mo_isInLoop_0 : decode prog_12_method_36_code 0 = .ok (.aload_n 0, 1) := by decide +kernel
theorem d_Mo_isInLoop_1 : decode prog_12_method_36_code 1 = .ok (.getfield 145, 3) := by decide +kernel
theorem d_Mo_isInLoop_4 : decode prog_12_method_36_code 4 = .ok (.getfield 204, 3) := by decide +kernel
theorem d_Mo_isInLoop_7 : decode prog_12_method_36_code 7 = .ok (.iconst 1, 1) := by decide +kernel
theorem d_Mo_isInLoop_8 : decode prog_12_method_36_code 8 = .ok (.isub, 1) := by decide +kernel
theorem d_Mo_isInLoop_9 : decode prog_12_method_36_code 9 = .ok (.istore_n 1, 1) := by decide +kernel
theorem d_Mo_isInLoop_10 : decode prog_12_method_36_code 10 = .ok (.iload_n 1, 1) := by decide +kernel
theorem d_Mo_isInLoop_11 : decode prog_12_method_36_code 11 = .ok (.ifCond .lt 48, 3) := by decide +kernel
theorem d_Mo_isInLoop_14 : decode prog_12_method_36_code 14 = .ok (.aload_n 0, 1) := by decide +kernel
theorem d_Mo_isInLoop_15 : decode prog_12_method_36_code 15 = .ok (.getfield 145, 3) := by decide +kernel
theorem d_Mo_isInLoop_18 : decode prog_12_method_36_code 18 = .ok (.iload_n 1, 1) := by decide +kernel
theorem d_Mo_isInLoop_19 : decode prog_12_method_36_code 19 = .ok (.invokevirtual 214, 3) := by decide +kernel
theorem d_Mo_isInLoop_22 : decode prog_12_method_36_code 22 = .ok (.bipush 19, 2) := by decide +kernel
theorem d_Mo_isInLoop_24 : decode prog_12_method_36_code 24 = .ok (.if_icmp .eq 35, 3) := by decide +kernel
theorem d_Mo_isInLoop_27 : decode prog_12_method_36_code 27 = .ok (.aload_n 0, 1) := by decide +kernel
theorem d_Mo_isInLoop_28 : decode prog_12_method_36_code 28 = .ok (.getfield 145, 3) := by decide +kernel
theorem d_Mo_isInLoop_31 : decode prog_12_method_36_code 31 = .ok (.iload_n 1, 1) := by decide +kernel
theorem d_Mo_isInLoop_32 : decode prog_12_method_36_code 32 = .ok (.invokevirtual 214, 3) := by decide +kernel
theorem d_Mo_isInLoop_35 : decode prog_12_method_36_code 35 = .ok (.bipush 14, 2) := by decide +kernel
theorem d_Mo_isInLoop_37 : decode prog_12_method_36_code 37 = .ok (.if_icmp .eq 22, 3) := by decide +kernel
theorem d_Mo_isInLoop_40 : decode prog_12_method_36_code 40 = .ok (.aload_n 0, 1) := by decide +kernel
theorem d_Mo_isInLoop_41 : decode prog_12_method_36_code 41 = .ok (.getfield 145, 3) := by decide +kernel
theorem d_Mo_isInLoop_44 : decode prog_12_method_36_code 44 = .ok (.iload_n 1, 1) := by decide +kernel
theorem d_Mo_isInLoop_45 : decode prog_12_method_36_code 45 = .ok (.invokevirtual 214, 3) := by decide +kernel
theorem d_Mo_isInLoop_48 : decode prog_12_method_36_code 48 = .ok (.bipush 15, 2) := by decide +kernel
theorem d_Mo_isInLoop_50 : decode prog_12_method_36_code 50 = .ok (.if_icmp .eq 9, 3) := by decide +kernel
theorem d_Mo_isInLoop_53 : decode prog_12_method_36_code 53 = .ok (.iinc 1 (-1), 3) := by decide +kernel
theorem d_Mo_isInLoop_56 : decode prog_12_method_36_code 56 = .ok (.goto (-46), 3) := by decide +kernel
theorem d_Mo_isInLoop_59 : decode prog_12_method_36_code 59 = .ok (.iload_n 1, 1) := by decide +kernel
theorem d_Mo_isInLoop_60 : decode prog_12_method_36_code 60 = .ok (.ifCond .lt 20, 3) := by decide +kernel
theorem d_Mo_isInLoop_63 : decode prog_12_method_36_code 63 = .ok (.aload_n 0, 1) := by decide +kernel
theorem d_Mo_isInLoop_64 : decode prog_12_method_36_code 64 = .ok (.getfield 145, 3) := by decide +kernel
theorem d_Mo_isInLoop_67 : decode prog_12_method_36_code 67 = .ok (.iload_n 1, 1) := by decide +kernel
theorem d_Mo_isInLoop_68 : decode prog_12_method_36_code 68 = .ok (.invokevirtual 214, 3) := by decide +kernel
theorem d_Mo_isInLoop_71 : decode prog_12_method_36_code 71 = .ok (.bipush 19, 2) := by decide +kernel
theorem d_Mo_isInLoop_73 : decode prog_12_method_36_code 73 = .ok (.if_icmp .eq 7, 3) := by decide +kernel
theorem d_Mo_isInLoop_76 : decode prog_12_method_36_code 76 = .ok (.iconst 1, 1) := by decide +kernel
theorem d_Mo_isInLoop_77 : decode prog_12_method_36_code 77 = .ok (.goto 4, 3) := by decide +kernel
theorem d_Mo_isInLoop_80 : decode prog_12_method_36_code 80 = .ok (.iconst 0, 1) := by decide +kernel
theorem d_Mo_isInLoop_81 : decode prog_12_method_36_code 81 = .ok (.ireturn, 1) := by decide +kernel
set_option maxHeartbeats 4000000 in
set_option maxRecDepth 100000 in
theorem L_Mo_isInLoop_59 (l : Launch) (D : va_G) (cI cB cJ cS : ClassId) (h0 : Nat) (am : Nat → Nat) (a_all_m21 : Nat) (known_h0 : Int32) (thrown_h0 : Int32) (wrong_h0 : Int32) (lastEnd_h0 : Int32) (at_h0 : Int32) (bad_h0 : Int32) (levels_h0 : Int32) (least_h0 : Int32) (found_h0 : Int32) (size_m21 : Int32) (n_a_all_m21 : Nat) (b_a_all_m21 : Nat → Int32) (ret : Int32) (p : Program) (e : Env) (s : State) (m : MethodId) (below : List Frame) (meth : Method) (c : Code) (hr : meth.sig.returnType = (Option.some Jvm.ClassFile.FieldType.boolean)) (hnm : meth.name = y_Mo_isInLoop.name) : ∀ (v1_59 : Int32), F_Mo_isInLoop_59 size_m21 n_a_all_m21 b_a_all_m21   v1_59 = some ret → J (KxOf p l e { frames := 1, cells := 0, slots := 0, locals := 21 } s m [.ref h0].toArray below meth c D (gT cI cB cJ cS) [(h0, .inr (9, moF am known_h0 thrown_h0 wrong_h0 lastEnd_h0 at_h0 bad_h0 levels_h0 least_h0 found_h0)), ((am 21), .inr (8, [.ref a_all_m21, .int size_m21])), (a_all_m21, .inl (cI, n_a_all_m21, .inl b_a_all_m21))] (fun v w => v = some (.int ret) ∧ zb ret ∧ w = [(h0, .inr (9, moF am known_h0 thrown_h0 wrong_h0 lastEnd_h0 at_h0 bad_h0 levels_h0 least_h0 found_h0)), ((am 21), .inr (8, [.ref a_all_m21, .int size_m21])), (a_all_m21, .inl (cI, n_a_all_m21, .inl b_a_all_m21))]) 0 0) prog_12_method_36_code 2 R_Mo 59 [(1, .int v1_59), (0, .ref h0)] [] [(h0, .inr (9, moF am known_h0 thrown_h0 wrong_h0 lastEnd_h0 at_h0 bad_h0 levels_h0 least_h0 found_h0)), ((am 21), .inr (8, [.ref a_all_m21, .int size_m21])), (a_all_m21, .inl (cI, n_a_all_m21, .inl b_a_all_m21))] 0 0 := by
  intro v1_59 h
  unfold F_Mo_isInLoop_59 at h
  refine j_iload_n d_Mo_isInLoop_59 rfl 0 rfl ?_
  refine j_if_lt (tgt := 80) d_Mo_isInLoop_60 (by decide) (fun c1 => ?_) (fun c1 => ?_)
  · replace h := it_t c1 h
    refine j_iconst (v := 0) d_Mo_isInLoop_80 (by decide) ?_
    replace h := Option.some.inj h
    subst h
    exact j_zret (w := [(h0, .inr (9, moF am known_h0 thrown_h0 wrong_h0 lastEnd_h0 at_h0 bad_h0 levels_h0 least_h0 found_h0)), ((am 21), .inr (8, [.ref a_all_m21, .int size_m21])), (a_all_m21, .inl (cI, n_a_all_m21, .inl b_a_all_m21))]) hr (zb_n zb0) d_Mo_isInLoop_81 [0, 1, 2] rfl (by decide) ⟨rfl, zb0, rfl⟩
  · replace h := it_f c1 h
    refine j_aload_n d_Mo_isInLoop_63 rfl 1 rfl ?_
    refine j_get ig_Mo rfl 0 rfl 21 (by decide) rfl m_1134 rfl d_Mo_isInLoop_64 ?_
    refine j_iload_n d_Mo_isInLoop_67 rfl 0 rfl ?_
    replace h := bd_s h
    obtain ⟨_, k2, h⟩ := h
    refine j_callV (n := 1) (As := [.int v1_59]) (rest := []) (wr := [(h0, .inr (9, moF am known_h0 thrown_h0 wrong_h0 lastEnd_h0 at_h0 bad_h0 levels_h0 least_h0 found_h0))]) (c_Nm_at l D cI cB cJ cS (am 21) a_all_m21 v1_59 size_m21 n_a_all_m21 b_a_all_m21  k2) k_Mo_214 (by decide) ⟨Nat.le_of_ble_eq_true rfl, Nat.le_of_ble_eq_true rfl⟩ rfl 0 rfl [1, 2] [0] rfl (by decide) rfl (by decide) (by decide) rfl rfl (Nat.le_of_ble_eq_true rfl) d_Mo_isInLoop_68 ⟨Nat.le_of_ble_eq_true rfl, Nat.le_of_ble_eq_true rfl⟩ (fun v w hq => ?_)
    obtain ⟨rfl, rfl⟩ := hq
    refine j_norm (pc' := 71) (st' := [.int (b_a_all_m21 (Int32.toNatClampNeg v1_59))]) (ws' := [(h0, .inr (9, moF am known_h0 thrown_h0 wrong_h0 lastEnd_h0 at_h0 bad_h0 levels_h0 least_h0 found_h0)), ((am 21), .inr (8, [.ref a_all_m21, .int size_m21])), (a_all_m21, .inl (cI, n_a_all_m21, .inl b_a_all_m21))]) (cl' := 0) (sl' := 0) rfl rfl rfl rfl rfl rfl ?_
    refine j_bipush (v := 19) d_Mo_isInLoop_71 (by decide) ?_
    refine j_icmp_eq (tgt := 80) d_Mo_isInLoop_73 (by decide) (fun c3 => ?_) (fun c3 => ?_)
    · replace h := it_t c3 h
      refine j_iconst (v := 0) d_Mo_isInLoop_80 (by decide) ?_
      replace h := Option.some.inj h
      subst h
      exact j_zret (w := [(h0, .inr (9, moF am known_h0 thrown_h0 wrong_h0 lastEnd_h0 at_h0 bad_h0 levels_h0 least_h0 found_h0)), ((am 21), .inr (8, [.ref a_all_m21, .int size_m21])), (a_all_m21, .inl (cI, n_a_all_m21, .inl b_a_all_m21))]) hr (zb_n zb0) d_Mo_isInLoop_81 [0, 1, 2] rfl (by decide) ⟨rfl, zb0, rfl⟩
    · replace h := it_f c3 h
      refine j_iconst (v := 1) d_Mo_isInLoop_76 (by decide) ?_
      refine j_goto (tgt := 81) d_Mo_isInLoop_77 (by decide) ?_
      replace h := Option.some.inj h
      subst h
      exact j_zret (w := [(h0, .inr (9, moF am known_h0 thrown_h0 wrong_h0 lastEnd_h0 at_h0 bad_h0 levels_h0 least_h0 found_h0)), ((am 21), .inr (8, [.ref a_all_m21, .int size_m21])), (a_all_m21, .inl (cI, n_a_all_m21, .inl b_a_all_m21))]) hr (zb_n zb1) d_Mo_isInLoop_81 [0, 1, 2] rfl (by decide) ⟨rfl, zb1, rfl⟩
set_option maxHeartbeats 4000000 in
set_option maxRecDepth 100000 in
theorem L_Mo_isInLoop_10 (l : Launch) (D : va_G) (cI cB cJ cS : ClassId) (h0 : Nat) (am : Nat → Nat) (a_all_m21 : Nat) (known_h0 : Int32) (thrown_h0 : Int32) (wrong_h0 : Int32) (lastEnd_h0 : Int32) (at_h0 : Int32) (bad_h0 : Int32) (levels_h0 : Int32) (least_h0 : Int32) (found_h0 : Int32) (size_m21 : Int32) (n_a_all_m21 : Nat) (b_a_all_m21 : Nat → Int32) (ret : Int32) (p : Program) (e : Env) (s : State) (m : MethodId) (below : List Frame) (meth : Method) (c : Code) (hr : meth.sig.returnType = (Option.some Jvm.ClassFile.FieldType.boolean)) (hnm : meth.name = y_Mo_isInLoop.name) : ∀ (k_10 : Nat) (v1_10 : Int32), F_Mo_isInLoop_10 size_m21 n_a_all_m21 b_a_all_m21  k_10 v1_10 = some ret → J (KxOf p l e { frames := 1, cells := 0, slots := 0, locals := 21 } s m [.ref h0].toArray below meth c D (gT cI cB cJ cS) [(h0, .inr (9, moF am known_h0 thrown_h0 wrong_h0 lastEnd_h0 at_h0 bad_h0 levels_h0 least_h0 found_h0)), ((am 21), .inr (8, [.ref a_all_m21, .int size_m21])), (a_all_m21, .inl (cI, n_a_all_m21, .inl b_a_all_m21))] (fun v w => v = some (.int ret) ∧ zb ret ∧ w = [(h0, .inr (9, moF am known_h0 thrown_h0 wrong_h0 lastEnd_h0 at_h0 bad_h0 levels_h0 least_h0 found_h0)), ((am 21), .inr (8, [.ref a_all_m21, .int size_m21])), (a_all_m21, .inl (cI, n_a_all_m21, .inl b_a_all_m21))]) 0 0) prog_12_method_36_code 2 R_Mo 10 [(1, .int v1_10), (0, .ref h0)] [] [(h0, .inr (9, moF am known_h0 thrown_h0 wrong_h0 lastEnd_h0 at_h0 bad_h0 levels_h0 least_h0 found_h0)), ((am 21), .inr (8, [.ref a_all_m21, .int size_m21])), (a_all_m21, .inl (cI, n_a_all_m21, .inl b_a_all_m21))] 0 0 := by
  intro k_10
  induction k_10 with
  | zero => intro v1_10 h; rw [F_Mo_isInLoop_10] at h; cases h
  | succ k_10 ih_10 =>
    intro v1_10 h
    rw [F_Mo_isInLoop_10] at h
    refine j_iload_n d_Mo_isInLoop_10 rfl 0 rfl ?_
    refine j_if_lt (tgt := 59) d_Mo_isInLoop_11 (by decide) (fun c4 => ?_) (fun c4 => ?_)
    · replace h := it_t c4 h
      refine j_sub (w := [(h0, .inr (9, moF am known_h0 thrown_h0 wrong_h0 lastEnd_h0 at_h0 bad_h0 levels_h0 least_h0 found_h0)), ((am 21), .inr (8, [.ref a_all_m21, .int size_m21])), (a_all_m21, .inl (cI, n_a_all_m21, .inl b_a_all_m21))]) (lv' := [(1, .int v1_10), (0, .ref h0)]) [0, 1, 2] rfl (by decide) [0, 1] rfl ?_
      exact L_Mo_isInLoop_59 l D cI cB cJ cS h0 am a_all_m21 known_h0 thrown_h0 wrong_h0 lastEnd_h0 at_h0 bad_h0 levels_h0 least_h0 found_h0 size_m21 n_a_all_m21 b_a_all_m21 ret p e s m below meth c hr hnm v1_10 h
    · replace h := it_f c4 h
      refine j_aload_n d_Mo_isInLoop_14 rfl 1 rfl ?_
      refine j_get ig_Mo rfl 0 rfl 21 (by decide) rfl m_1134 rfl d_Mo_isInLoop_15 ?_
      refine j_iload_n d_Mo_isInLoop_18 rfl 0 rfl ?_
      replace h := bd_s h
      obtain ⟨_, k5, h⟩ := h
      refine j_callV (n := 1) (As := [.int v1_10]) (rest := []) (wr := [(h0, .inr (9, moF am known_h0 thrown_h0 wrong_h0 lastEnd_h0 at_h0 bad_h0 levels_h0 least_h0 found_h0))]) (c_Nm_at l D cI cB cJ cS (am 21) a_all_m21 v1_10 size_m21 n_a_all_m21 b_a_all_m21  k5) k_Mo_214 (by decide) ⟨Nat.le_of_ble_eq_true rfl, Nat.le_of_ble_eq_true rfl⟩ rfl 0 rfl [1, 2] [0] rfl (by decide) rfl (by decide) (by decide) rfl rfl (Nat.le_of_ble_eq_true rfl) d_Mo_isInLoop_19 ⟨Nat.le_of_ble_eq_true rfl, Nat.le_of_ble_eq_true rfl⟩ (fun v w hq => ?_)
      obtain ⟨rfl, rfl⟩ := hq
      refine j_norm (pc' := 22) (st' := [.int (b_a_all_m21 (Int32.toNatClampNeg v1_10))]) (ws' := [(h0, .inr (9, moF am known_h0 thrown_h0 wrong_h0 lastEnd_h0 at_h0 bad_h0 levels_h0 least_h0 found_h0)), ((am 21), .inr (8, [.ref a_all_m21, .int size_m21])), (a_all_m21, .inl (cI, n_a_all_m21, .inl b_a_all_m21))]) (cl' := 0) (sl' := 0) rfl rfl rfl rfl rfl rfl ?_
      refine j_bipush (v := 19) d_Mo_isInLoop_22 (by decide) ?_
      refine j_icmp_eq (tgt := 59) d_Mo_isInLoop_24 (by decide) (fun c6 => ?_) (fun c6 => ?_)
      · replace h := it_t c6 h
        refine j_sub (w := [(h0, .inr (9, moF am known_h0 thrown_h0 wrong_h0 lastEnd_h0 at_h0 bad_h0 levels_h0 least_h0 found_h0)), ((am 21), .inr (8, [.ref a_all_m21, .int size_m21])), (a_all_m21, .inl (cI, n_a_all_m21, .inl b_a_all_m21))]) (lv' := [(1, .int v1_10), (0, .ref h0)]) [0, 1, 2] rfl (by decide) [0, 1] rfl ?_
        exact L_Mo_isInLoop_59 l D cI cB cJ cS h0 am a_all_m21 known_h0 thrown_h0 wrong_h0 lastEnd_h0 at_h0 bad_h0 levels_h0 least_h0 found_h0 size_m21 n_a_all_m21 b_a_all_m21 ret p e s m below meth c hr hnm v1_10 h
      · replace h := it_f c6 h
        refine j_aload_n d_Mo_isInLoop_27 rfl 1 rfl ?_
        refine j_get ig_Mo rfl 0 rfl 21 (by decide) rfl m_1134 rfl d_Mo_isInLoop_28 ?_
        refine j_iload_n d_Mo_isInLoop_31 rfl 0 rfl ?_
        replace h := bd_s h
        obtain ⟨_, k7, h⟩ := h
        refine j_callV (n := 1) (As := [.int v1_10]) (rest := []) (wr := [(h0, .inr (9, moF am known_h0 thrown_h0 wrong_h0 lastEnd_h0 at_h0 bad_h0 levels_h0 least_h0 found_h0))]) (c_Nm_at l D cI cB cJ cS (am 21) a_all_m21 v1_10 size_m21 n_a_all_m21 b_a_all_m21  k7) k_Mo_214 (by decide) ⟨Nat.le_of_ble_eq_true rfl, Nat.le_of_ble_eq_true rfl⟩ rfl 0 rfl [1, 2] [0] rfl (by decide) rfl (by decide) (by decide) rfl rfl (Nat.le_of_ble_eq_true rfl) d_Mo_isInLoop_32 ⟨Nat.le_of_ble_eq_true rfl, Nat.le_of_ble_eq_true rfl⟩ (fun v w hq => ?_)
        obtain ⟨rfl, rfl⟩ := hq
        refine j_norm (pc' := 35) (st' := [.int (b_a_all_m21 (Int32.toNatClampNeg v1_10))]) (ws' := [(h0, .inr (9, moF am known_h0 thrown_h0 wrong_h0 lastEnd_h0 at_h0 bad_h0 levels_h0 least_h0 found_h0)), ((am 21), .inr (8, [.ref a_all_m21, .int size_m21])), (a_all_m21, .inl (cI, n_a_all_m21, .inl b_a_all_m21))]) (cl' := 0) (sl' := 0) rfl rfl rfl rfl rfl rfl ?_
        refine j_bipush (v := 14) d_Mo_isInLoop_35 (by decide) ?_
        refine j_icmp_eq (tgt := 59) d_Mo_isInLoop_37 (by decide) (fun c8 => ?_) (fun c8 => ?_)
        · replace h := it_t c8 h
          refine j_sub (w := [(h0, .inr (9, moF am known_h0 thrown_h0 wrong_h0 lastEnd_h0 at_h0 bad_h0 levels_h0 least_h0 found_h0)), ((am 21), .inr (8, [.ref a_all_m21, .int size_m21])), (a_all_m21, .inl (cI, n_a_all_m21, .inl b_a_all_m21))]) (lv' := [(1, .int v1_10), (0, .ref h0)]) [0, 1, 2] rfl (by decide) [0, 1] rfl ?_
          exact L_Mo_isInLoop_59 l D cI cB cJ cS h0 am a_all_m21 known_h0 thrown_h0 wrong_h0 lastEnd_h0 at_h0 bad_h0 levels_h0 least_h0 found_h0 size_m21 n_a_all_m21 b_a_all_m21 ret p e s m below meth c hr hnm v1_10 h
        · replace h := it_f c8 h
          refine j_aload_n d_Mo_isInLoop_40 rfl 1 rfl ?_
          refine j_get ig_Mo rfl 0 rfl 21 (by decide) rfl m_1134 rfl d_Mo_isInLoop_41 ?_
          refine j_iload_n d_Mo_isInLoop_44 rfl 0 rfl ?_
          replace h := bd_s h
          obtain ⟨_, k9, h⟩ := h
          refine j_callV (n := 1) (As := [.int v1_10]) (rest := []) (wr := [(h0, .inr (9, moF am known_h0 thrown_h0 wrong_h0 lastEnd_h0 at_h0 bad_h0 levels_h0 least_h0 found_h0))]) (c_Nm_at l D cI cB cJ cS (am 21) a_all_m21 v1_10 size_m21 n_a_all_m21 b_a_all_m21  k9) k_Mo_214 (by decide) ⟨Nat.le_of_ble_eq_true rfl, Nat.le_of_ble_eq_true rfl⟩ rfl 0 rfl [1, 2] [0] rfl (by decide) rfl (by decide) (by decide) rfl rfl (Nat.le_of_ble_eq_true rfl) d_Mo_isInLoop_45 ⟨Nat.le_of_ble_eq_true rfl, Nat.le_of_ble_eq_true rfl⟩ (fun v w hq => ?_)
          obtain ⟨rfl, rfl⟩ := hq
          refine j_norm (pc' := 48) (st' := [.int (b_a_all_m21 (Int32.toNatClampNeg v1_10))]) (ws' := [(h0, .inr (9, moF am known_h0 thrown_h0 wrong_h0 lastEnd_h0 at_h0 bad_h0 levels_h0 least_h0 found_h0)), ((am 21), .inr (8, [.ref a_all_m21, .int size_m21])), (a_all_m21, .inl (cI, n_a_all_m21, .inl b_a_all_m21))]) (cl' := 0) (sl' := 0) rfl rfl rfl rfl rfl rfl ?_
          refine j_bipush (v := 15) d_Mo_isInLoop_48 (by decide) ?_
          refine j_icmp_eq (tgt := 59) d_Mo_isInLoop_50 (by decide) (fun c10 => ?_) (fun c10 => ?_)
          · replace h := it_t c10 h
            refine j_sub (w := [(h0, .inr (9, moF am known_h0 thrown_h0 wrong_h0 lastEnd_h0 at_h0 bad_h0 levels_h0 least_h0 found_h0)), ((am 21), .inr (8, [.ref a_all_m21, .int size_m21])), (a_all_m21, .inl (cI, n_a_all_m21, .inl b_a_all_m21))]) (lv' := [(1, .int v1_10), (0, .ref h0)]) [0, 1, 2] rfl (by decide) [0, 1] rfl ?_
            exact L_Mo_isInLoop_59 l D cI cB cJ cS h0 am a_all_m21 known_h0 thrown_h0 wrong_h0 lastEnd_h0 at_h0 bad_h0 levels_h0 least_h0 found_h0 size_m21 n_a_all_m21 b_a_all_m21 ret p e s m below meth c hr hnm v1_10 h
          · replace h := it_f c10 h
            refine j_iinc (v := v1_10 + (-1)) (lv' := [(1, .int (v1_10 + (-1))), (0, .ref h0)]) d_Mo_isInLoop_53 0 rfl rfl (by decide) rfl ?_
            refine j_goto (tgt := 10) d_Mo_isInLoop_56 (by decide) ?_
            refine j_sub (w := [(h0, .inr (9, moF am known_h0 thrown_h0 wrong_h0 lastEnd_h0 at_h0 bad_h0 levels_h0 least_h0 found_h0)), ((am 21), .inr (8, [.ref a_all_m21, .int size_m21])), (a_all_m21, .inl (cI, n_a_all_m21, .inl b_a_all_m21))]) (lv' := [(1, .int (v1_10 + (-1))), (0, .ref h0)]) [0, 1, 2] rfl (by decide) [0, 1] rfl ?_
            exact ih_10 (v1_10 + (-1)) h
set_option maxHeartbeats 4000000 in
set_option maxRecDepth 100000 in
theorem c_Mo_isInLoop (l : Launch) (D : va_G) (cI cB cJ cS : ClassId) (h0 : Nat) (am : Nat → Nat) (a_all_m21 : Nat) (known_h0 : Int32) (thrown_h0 : Int32) (wrong_h0 : Int32) (lastEnd_h0 : Int32) (at_h0 : Int32) (bad_h0 : Int32) (levels_h0 : Int32) (least_h0 : Int32) (found_h0 : Int32) (size_m21 : Int32) (n_a_all_m21 : Nat) (b_a_all_m21 : Nat → Int32) (ret : Int32) (h : F_Mo_isInLoop known_h0 thrown_h0 wrong_h0 lastEnd_h0 at_h0 bad_h0 levels_h0 least_h0 found_h0 size_m21 n_a_all_m21 b_a_all_m21 = some ret) : Ct l D (gT cI cB cJ cS) y_Mo_isInLoop prog_12_method_36_code 2 (Option.some Jvm.ClassFile.FieldType.boolean) 1 21 0 0 [.ref h0] [(h0, .inr (9, moF am known_h0 thrown_h0 wrong_h0 lastEnd_h0 at_h0 bad_h0 levels_h0 least_h0 found_h0)), ((am 21), .inr (8, [.ref a_all_m21, .int size_m21])), (a_all_m21, .inl (cI, n_a_all_m21, .inl b_a_all_m21))] (fun v w => v = some (.int ret) ∧ zb ret ∧ w = [(h0, .inr (9, moF am known_h0 thrown_h0 wrong_h0 lastEnd_h0 at_h0 bad_h0 levels_h0 least_h0 found_h0)), ((am 21), .inr (8, [.ref a_all_m21, .int size_m21])), (a_all_m21, .inl (cI, n_a_all_m21, .inl b_a_all_m21))]) := by
  refine Ct.mk (by decide) (Nat.le_of_ble_eq_true rfl) ?_
  intro p e s m below meth c hr hnm
  refine j_norm (pc' := 0) (lv' := [(0, .ref h0)]) (st' := []) (ws' := [(h0, .inr (9, moF am known_h0 thrown_h0 wrong_h0 lastEnd_h0 at_h0 bad_h0 levels_h0 least_h0 found_h0)), ((am 21), .inr (8, [.ref a_all_m21, .int size_m21])), (a_all_m21, .inl (cI, n_a_all_m21, .inl b_a_all_m21))]) (cl' := 0) (sl' := 0) rfl rfl rfl rfl rfl rfl ?_
  unfold F_Mo_isInLoop at h
  refine j_aload_n d_Mo_isInLoop_0 rfl 0 rfl ?_
  refine j_get ig_Mo rfl 0 rfl 21 (by decide) rfl m_1134 rfl d_Mo_isInLoop_1 ?_
  refine j_getN ig_Nm rfl 1 rfl 1 (by decide) rfl mn_13 rfl d_Mo_isInLoop_4 ?_
  refine j_iconst (v := 1) d_Mo_isInLoop_7 (by decide) ?_
  refine j_isub d_Mo_isInLoop_8 ?_
  refine j_istore_n (lv' := [(1, .int (size_m21 - 1)), (0, .ref h0)]) d_Mo_isInLoop_9 rfl (by decide) rfl ?_
  refine j_sub (w := [(h0, .inr (9, moF am known_h0 thrown_h0 wrong_h0 lastEnd_h0 at_h0 bad_h0 levels_h0 least_h0 found_h0)), ((am 21), .inr (8, [.ref a_all_m21, .int size_m21])), (a_all_m21, .inl (cI, n_a_all_m21, .inl b_a_all_m21))]) (lv' := [(1, .int (size_m21 - 1)), (0, .ref h0)]) [0, 1, 2] rfl (by decide) [0, 1] rfl ?_
  exact L_Mo_isInLoop_10 l D cI cB cJ cS h0 am a_all_m21 known_h0 thrown_h0 wrong_h0 lastEnd_h0 at_h0 bad_h0 levels_h0 least_h0 found_h0 size_m21 n_a_all_m21 b_a_all_m21 ret p e s m below meth c hr hnm FU (size_m21 - 1) h
def F_Mo_sameName_49 (p1 : Int32) (p2 : Int32) (b_a_all_m7 : Nat → Int32) (size_m6 : Int32) (n_a_all_m6 : Nat) (b_a_all_m6 : Nat → Int32) (size_m4 : Int32) (n_a_all_m4 : Nat) (b_a_all_m4 : Nat → Int32) : Nat → Int32 → Int32 → Option (Int32)
  | 0, _, _ => none
  | k_49 + 1, v5_49, v4_49 =>
    if ((b_a_all_m7 (Int32.toNatClampNeg p1)) - (b_a_all_m6 (Int32.toNatClampNeg p1))) ≤ v5_49 then (some v4_49)
    else if v4_49 = 0 then (some v4_49)
    else (Option.bind (F_Nm_at p1 size_m6 n_a_all_m6 b_a_all_m6) fun _ =>
      Option.bind (F_Nm_at ((b_a_all_m6 (Int32.toNatClampNeg p1)) + v5_49) size_m4 n_a_all_m4 b_a_all_m4) fun _ =>
      Option.bind (F_Nm_at p2 size_m6 n_a_all_m6 b_a_all_m6) fun _ =>
      Option.bind (F_Nm_at ((b_a_all_m6 (Int32.toNatClampNeg p2)) + v5_49) size_m4 n_a_all_m4 b_a_all_m4) fun _ =>
      if (b_a_all_m4 (Int32.toNatClampNeg ((b_a_all_m6 (Int32.toNatClampNeg p1)) + v5_49))) = (b_a_all_m4 (Int32.toNatClampNeg ((b_a_all_m6 (Int32.toNatClampNeg p2)) + v5_49))) then (F_Mo_sameName_49 p1 p2 b_a_all_m7 size_m6 n_a_all_m6 b_a_all_m6 size_m4 n_a_all_m4 b_a_all_m4  k_49 (v5_49 + 1) 1)
      else (F_Mo_sameName_49 p1 p2 b_a_all_m7 size_m6 n_a_all_m6 b_a_all_m6 size_m4 n_a_all_m4 b_a_all_m4  k_49 (v5_49 + 1) 0))
def F_Mo_sameName (p1 : Int32) (p2 : Int32) (known_h0 : Int32) (thrown_h0 : Int32) (wrong_h0 : Int32) (lastEnd_h0 : Int32) (at_h0 : Int32) (bad_h0 : Int32) (levels_h0 : Int32) (least_h0 : Int32) (found_h0 : Int32) (size_m7 : Int32) (n_a_all_m7 : Nat) (b_a_all_m7 : Nat → Int32) (size_m6 : Int32) (n_a_all_m6 : Nat) (b_a_all_m6 : Nat → Int32) (size_m4 : Int32) (n_a_all_m4 : Nat) (b_a_all_m4 : Nat → Int32) : Option (Int32) :=
  Option.bind (F_Nm_at p1 size_m7 n_a_all_m7 b_a_all_m7) fun _ =>
  Option.bind (F_Nm_at p1 size_m6 n_a_all_m6 b_a_all_m6) fun _ =>
  Option.bind (F_Nm_at p2 size_m7 n_a_all_m7 b_a_all_m7) fun _ =>
  Option.bind (F_Nm_at p2 size_m6 n_a_all_m6 b_a_all_m6) fun _ =>
  if ((b_a_all_m7 (Int32.toNatClampNeg p1)) - (b_a_all_m6 (Int32.toNatClampNeg p1))) = ((b_a_all_m7 (Int32.toNatClampNeg p2)) - (b_a_all_m6 (Int32.toNatClampNeg p2))) then (F_Mo_sameName_49 p1 p2 b_a_all_m7 size_m6 n_a_all_m6 b_a_all_m6 size_m4 n_a_all_m4 b_a_all_m4  FU 0 1)
  else (F_Mo_sameName_49 p1 p2 b_a_all_m7 size_m6 n_a_all_m6 b_a_all_m6 size_m4 n_a_all_m4 b_a_all_m4  FU 0 0)
theorem d_Mo_sameName_0 : decode prog_12_method_37_code 0 = .ok (.aload_n 0, 1) := by decide +kernel
theorem d_Mo_sameName_1 : decode prog_12_method_37_code 1 = .ok (.getfield 120, 3) := by decide +kernel
theorem d_Mo_sameName_4 : decode prog_12_method_37_code 4 = .ok (.iload_n 1, 1) := by decide +kernel
theorem d_Mo_sameName_5 : decode prog_12_method_37_code 5 = .ok (.invokevirtual 214, 3) := by decide +kernel
theorem d_Mo_sameName_8 : decode prog_12_method_37_code 8 = .ok (.aload_n 0, 1) := by decide +kernel
theorem d_Mo_sameName_9 : decode prog_12_method_37_code 9 = .ok (.getfield 117, 3) := by decide +kernel
theorem d_Mo_sameName_12 : decode prog_12_method_37_code 12 = .ok (.iload_n 1, 1) := by decide +kernel
theorem d_Mo_sameName_13 : decode prog_12_method_37_code 13 = .ok (.invokevirtual 214, 3) := by decide +kernel
theorem d_Mo_sameName_16 : decode prog_12_method_37_code 16 = .ok (.isub, 1) := by decide +kernel
theorem d_Mo_sameName_17 : decode prog_12_method_37_code 17 = .ok (.istore_n 3, 1) := by decide +kernel
theorem d_Mo_sameName_18 : decode prog_12_method_37_code 18 = .ok (.iload_n 3, 1) := by decide +kernel
theorem d_Mo_sameName_19 : decode prog_12_method_37_code 19 = .ok (.aload_n 0, 1) := by decide +kernel
theorem d_Mo_sameName_20 : decode prog_12_method_37_code 20 = .ok (.getfield 120, 3) := by decide +kernel
theorem d_Mo_sameName_23 : decode prog_12_method_37_code 23 = .ok (.iload_n 2, 1) := by decide +kernel
theorem d_Mo_sameName_24 : decode prog_12_method_37_code 24 = .ok (.invokevirtual 214, 3) := by decide +kernel
theorem d_Mo_sameName_27 : decode prog_12_method_37_code 27 = .ok (.aload_n 0, 1) := by decide +kernel
theorem d_Mo_sameName_28 : decode prog_12_method_37_code 28 = .ok (.getfield 117, 3) := by decide +kernel
theorem d_Mo_sameName_31 : decode prog_12_method_37_code 31 = .ok (.iload_n 2, 1) := by decide +kernel
theorem d_Mo_sameName_32 : decode prog_12_method_37_code 32 = .ok (.invokevirtual 214, 3) := by decide +kernel
theorem d_Mo_sameName_35 : decode prog_12_method_37_code 35 = .ok (.isub, 1) := by decide +kernel
theorem d_Mo_sameName_36 : decode prog_12_method_37_code 36 = .ok (.if_icmp .ne 7, 3) := by decide +kernel
theorem d_Mo_sameName_39 : decode prog_12_method_37_code 39 = .ok (.iconst 1, 1) := by decide +kernel
theorem d_Mo_sameName_40 : decode prog_12_method_37_code 40 = .ok (.goto 4, 3) := by decide +kernel
theorem d_Mo_sameName_43 : decode prog_12_method_37_code 43 = .ok (.iconst 0, 1) := by decide +kernel
theorem d_Mo_sameName_44 : decode prog_12_method_37_code 44 = .ok (.istore 4, 2) := by decide +kernel
theorem d_Mo_sameName_46 : decode prog_12_method_37_code 46 = .ok (.iconst 0, 1) := by decide +kernel
theorem d_Mo_sameName_47 : decode prog_12_method_37_code 47 = .ok (.istore 5, 2) := by decide +kernel
theorem d_Mo_sameName_49 : decode prog_12_method_37_code 49 = .ok (.iload 5, 2) := by decide +kernel
theorem d_Mo_sameName_51 : decode prog_12_method_37_code 51 = .ok (.iload_n 3, 1) := by decide +kernel
theorem d_Mo_sameName_52 : decode prog_12_method_37_code 52 = .ok (.if_icmp .ge 60, 3) := by decide +kernel
theorem d_Mo_sameName_55 : decode prog_12_method_37_code 55 = .ok (.iload 4, 2) := by decide +kernel
theorem d_Mo_sameName_57 : decode prog_12_method_37_code 57 = .ok (.ifCond .eq 55, 3) := by decide +kernel
theorem d_Mo_sameName_60 : decode prog_12_method_37_code 60 = .ok (.aload_n 0, 1) := by decide +kernel
theorem d_Mo_sameName_61 : decode prog_12_method_37_code 61 = .ok (.getfield 111, 3) := by decide +kernel
theorem d_Mo_sameName_64 : decode prog_12_method_37_code 64 = .ok (.aload_n 0, 1) := by decide +kernel
theorem d_Mo_sameName_65 : decode prog_12_method_37_code 65 = .ok (.getfield 117, 3) := by decide +kernel
theorem d_Mo_sameName_68 : decode prog_12_method_37_code 68 = .ok (.iload_n 1, 1) := by decide +kernel
theorem d_Mo_sameName_69 : decode prog_12_method_37_code 69 = .ok (.invokevirtual 214, 3) := by decide +kernel
theorem d_Mo_sameName_72 : decode prog_12_method_37_code 72 = .ok (.iload 5, 2) := by decide +kernel
theorem d_Mo_sameName_74 : decode prog_12_method_37_code 74 = .ok (.iadd, 1) := by decide +kernel
theorem d_Mo_sameName_75 : decode prog_12_method_37_code 75 = .ok (.invokevirtual 214, 3) := by decide +kernel
theorem d_Mo_sameName_78 : decode prog_12_method_37_code 78 = .ok (.aload_n 0, 1) := by decide +kernel
theorem d_Mo_sameName_79 : decode prog_12_method_37_code 79 = .ok (.getfield 111, 3) := by decide +kernel
theorem d_Mo_sameName_82 : decode prog_12_method_37_code 82 = .ok (.aload_n 0, 1) := by decide +kernel
theorem d_Mo_sameName_83 : decode prog_12_method_37_code 83 = .ok (.getfield 117, 3) := by decide +kernel
theorem d_Mo_sameName_86 : decode prog_12_method_37_code 86 = .ok (.iload_n 2, 1) := by decide +kernel
theorem d_Mo_sameName_87 : decode prog_12_method_37_code 87 = .ok (.invokevirtual 214, 3) := by decide +kernel
theorem d_Mo_sameName_90 : decode prog_12_method_37_code 90 = .ok (.iload 5, 2) := by decide +kernel
theorem d_Mo_sameName_92 : decode prog_12_method_37_code 92 = .ok (.iadd, 1) := by decide +kernel
theorem d_Mo_sameName_93 : decode prog_12_method_37_code 93 = .ok (.invokevirtual 214, 3) := by decide +kernel
theorem d_Mo_sameName_96 : decode prog_12_method_37_code 96 = .ok (.if_icmp .ne 7, 3) := by decide +kernel
theorem d_Mo_sameName_99 : decode prog_12_method_37_code 99 = .ok (.iconst 1, 1) := by decide +kernel
theorem d_Mo_sameName_100 : decode prog_12_method_37_code 100 = .ok (.goto 4, 3) := by decide +kernel
theorem d_Mo_sameName_103 : decode prog_12_method_37_code 103 = .ok (.iconst 0, 1) := by decide +kernel
theorem d_Mo_sameName_104 : decode prog_12_method_37_code 104 = .ok (.istore 4, 2) := by decide +kernel
theorem d_Mo_sameName_106 : decode prog_12_method_37_code 106 = .ok (.iinc 5 1, 3) := by decide +kernel
theorem d_Mo_sameName_109 : decode prog_12_method_37_code 109 = .ok (.goto (-60), 3) := by decide +kernel
theorem d_Mo_sameName_112 : decode prog_12_method_37_code 112 = .ok (.iload 4, 2) := by decide +kernel
theorem d_Mo_sameName_114 : decode prog_12_method_37_code 114 = .ok (.ireturn, 1) := by decide +kernel
set_option maxHeartbeats 4000000 in
set_option maxRecDepth 100000 in
theorem L_Mo_sameName_49 (l : Launch) (D : va_G) (cI cB cJ cS : ClassId) (h0 : Nat) (am : Nat → Nat) (a_all_m7 : Nat) (a_all_m6 : Nat) (a_all_m4 : Nat) (p1 : Int32) (p2 : Int32) (known_h0 : Int32) (thrown_h0 : Int32) (wrong_h0 : Int32) (lastEnd_h0 : Int32) (at_h0 : Int32) (bad_h0 : Int32) (levels_h0 : Int32) (least_h0 : Int32) (found_h0 : Int32) (size_m7 : Int32) (n_a_all_m7 : Nat) (b_a_all_m7 : Nat → Int32) (size_m6 : Int32) (n_a_all_m6 : Nat) (b_a_all_m6 : Nat → Int32) (size_m4 : Int32) (n_a_all_m4 : Nat) (b_a_all_m4 : Nat → Int32) (ret : Int32) (p : Program) (e : Env) (s : State) (m : MethodId) (below : List Frame) (meth : Method) (c : Code) (hr : meth.sig.returnType = (Option.some Jvm.ClassFile.FieldType.boolean)) (hnm : meth.name = y_Mo_sameName.name) : ∀ (k_49 : Nat) (v5_49 : Int32) (v4_49 : Int32) (hz_v4_49 : zb v4_49), F_Mo_sameName_49 p1 p2 b_a_all_m7 size_m6 n_a_all_m6 b_a_all_m6 size_m4 n_a_all_m4 b_a_all_m4  k_49 v5_49 v4_49 = some ret → J (KxOf p l e { frames := 1, cells := 0, slots := 0, locals := 21 } s m [.ref h0, .int p1, .int p2].toArray below meth c D (gT cI cB cJ cS) [(h0, .inr (9, moF am known_h0 thrown_h0 wrong_h0 lastEnd_h0 at_h0 bad_h0 levels_h0 least_h0 found_h0)), ((am 7), .inr (8, [.ref a_all_m7, .int size_m7])), (a_all_m7, .inl (cI, n_a_all_m7, .inl b_a_all_m7)), ((am 6), .inr (8, [.ref a_all_m6, .int size_m6])), (a_all_m6, .inl (cI, n_a_all_m6, .inl b_a_all_m6)), ((am 4), .inr (8, [.ref a_all_m4, .int size_m4])), (a_all_m4, .inl (cI, n_a_all_m4, .inl b_a_all_m4))] (fun v w => v = some (.int ret) ∧ zb ret ∧ w = [(h0, .inr (9, moF am known_h0 thrown_h0 wrong_h0 lastEnd_h0 at_h0 bad_h0 levels_h0 least_h0 found_h0)), ((am 7), .inr (8, [.ref a_all_m7, .int size_m7])), (a_all_m7, .inl (cI, n_a_all_m7, .inl b_a_all_m7)), ((am 6), .inr (8, [.ref a_all_m6, .int size_m6])), (a_all_m6, .inl (cI, n_a_all_m6, .inl b_a_all_m6)), ((am 4), .inr (8, [.ref a_all_m4, .int size_m4])), (a_all_m4, .inl (cI, n_a_all_m4, .inl b_a_all_m4))]) 0 0) prog_12_method_37_code 6 R_Mo 49 [(5, .int v5_49), (4, .int v4_49), (3, .int ((b_a_all_m7 (Int32.toNatClampNeg p1)) - (b_a_all_m6 (Int32.toNatClampNeg p1)))), (0, .ref h0), (1, .int p1), (2, .int p2)] [] [(h0, .inr (9, moF am known_h0 thrown_h0 wrong_h0 lastEnd_h0 at_h0 bad_h0 levels_h0 least_h0 found_h0)), ((am 4), .inr (8, [.ref a_all_m4, .int size_m4])), (a_all_m4, .inl (cI, n_a_all_m4, .inl b_a_all_m4)), ((am 7), .inr (8, [.ref a_all_m7, .int size_m7])), (a_all_m7, .inl (cI, n_a_all_m7, .inl b_a_all_m7)), ((am 6), .inr (8, [.ref a_all_m6, .int size_m6])), (a_all_m6, .inl (cI, n_a_all_m6, .inl b_a_all_m6))] 0 0 := by
  intro k_49
  induction k_49 with
  | zero => intro v5_49 v4_49 hz_v4_49 h; rw [F_Mo_sameName_49] at h; cases h
  | succ k_49 ih_49 =>
    intro v5_49 v4_49 hz_v4_49 h
    rw [F_Mo_sameName_49] at h
    refine j_iload d_Mo_sameName_49 0 rfl ?_
    refine j_iload_n d_Mo_sameName_51 rfl 2 rfl ?_
    refine j_icmp_ge (tgt := 112) d_Mo_sameName_52 (by decide) (fun c1 => ?_) (fun c1 => ?_)
    · replace h := it_t c1 h
      refine j_iload d_Mo_sameName_112 1 rfl ?_
      replace h := Option.some.inj h
      subst h
      exact j_zret (w := [(h0, .inr (9, moF am known_h0 thrown_h0 wrong_h0 lastEnd_h0 at_h0 bad_h0 levels_h0 least_h0 found_h0)), ((am 7), .inr (8, [.ref a_all_m7, .int size_m7])), (a_all_m7, .inl (cI, n_a_all_m7, .inl b_a_all_m7)), ((am 6), .inr (8, [.ref a_all_m6, .int size_m6])), (a_all_m6, .inl (cI, n_a_all_m6, .inl b_a_all_m6)), ((am 4), .inr (8, [.ref a_all_m4, .int size_m4])), (a_all_m4, .inl (cI, n_a_all_m4, .inl b_a_all_m4))]) hr (zb_n hz_v4_49) d_Mo_sameName_114 [0, 3, 4, 5, 6, 1, 2] rfl (by decide) ⟨rfl, hz_v4_49, rfl⟩
    · replace h := it_f c1 h
      refine j_iload d_Mo_sameName_55 1 rfl ?_
      refine j_if_eq (tgt := 112) d_Mo_sameName_57 (by decide) (fun c2 => ?_) (fun c2 => ?_)
      · replace h := it_t c2 h
        refine j_iload d_Mo_sameName_112 1 rfl ?_
        replace h := Option.some.inj h
        subst h
        exact j_zret (w := [(h0, .inr (9, moF am known_h0 thrown_h0 wrong_h0 lastEnd_h0 at_h0 bad_h0 levels_h0 least_h0 found_h0)), ((am 7), .inr (8, [.ref a_all_m7, .int size_m7])), (a_all_m7, .inl (cI, n_a_all_m7, .inl b_a_all_m7)), ((am 6), .inr (8, [.ref a_all_m6, .int size_m6])), (a_all_m6, .inl (cI, n_a_all_m6, .inl b_a_all_m6)), ((am 4), .inr (8, [.ref a_all_m4, .int size_m4])), (a_all_m4, .inl (cI, n_a_all_m4, .inl b_a_all_m4))]) hr (zb_n hz_v4_49) d_Mo_sameName_114 [0, 3, 4, 5, 6, 1, 2] rfl (by decide) ⟨rfl, hz_v4_49, rfl⟩
      · replace h := it_f c2 h
        refine j_aload_n d_Mo_sameName_60 rfl 3 rfl ?_
        refine j_get ig_Mo rfl 0 rfl 4 (by decide) rfl m_1117 rfl d_Mo_sameName_61 ?_
        refine j_aload_n d_Mo_sameName_64 rfl 3 rfl ?_
        refine j_get ig_Mo rfl 0 rfl 6 (by decide) rfl m_1119 rfl d_Mo_sameName_65 ?_
        refine j_iload_n d_Mo_sameName_68 rfl 4 rfl ?_
        replace h := bd_s h
        obtain ⟨_, k3, h⟩ := h
        refine j_callV (n := 1) (As := [.int p1]) (rest := [.ref (am 4)]) (wr := [(h0, .inr (9, moF am known_h0 thrown_h0 wrong_h0 lastEnd_h0 at_h0 bad_h0 levels_h0 least_h0 found_h0)), ((am 4), .inr (8, [.ref a_all_m4, .int size_m4])), (a_all_m4, .inl (cI, n_a_all_m4, .inl b_a_all_m4)), ((am 7), .inr (8, [.ref a_all_m7, .int size_m7])), (a_all_m7, .inl (cI, n_a_all_m7, .inl b_a_all_m7))]) (c_Nm_at l D cI cB cJ cS (am 6) a_all_m6 p1 size_m6 n_a_all_m6 b_a_all_m6  k3) k_Mo_214 (by decide) ⟨Nat.le_of_ble_eq_true rfl, Nat.le_of_ble_eq_true rfl⟩ rfl 0 rfl [5, 6] [0, 1, 2, 3, 4] rfl (by decide) rfl (by decide) (by decide) rfl rfl (Nat.le_of_ble_eq_true rfl) d_Mo_sameName_69 ⟨Nat.le_of_ble_eq_true rfl, Nat.le_of_ble_eq_true rfl⟩ (fun v w hq => ?_)
        obtain ⟨rfl, rfl⟩ := hq
        refine j_norm (pc' := 72) (st' := [.int (b_a_all_m6 (Int32.toNatClampNeg p1)), .ref (am 4)]) (ws' := [(h0, .inr (9, moF am known_h0 thrown_h0 wrong_h0 lastEnd_h0 at_h0 bad_h0 levels_h0 least_h0 found_h0)), ((am 4), .inr (8, [.ref a_all_m4, .int size_m4])), (a_all_m4, .inl (cI, n_a_all_m4, .inl b_a_all_m4)), ((am 7), .inr (8, [.ref a_all_m7, .int size_m7])), (a_all_m7, .inl (cI, n_a_all_m7, .inl b_a_all_m7)), ((am 6), .inr (8, [.ref a_all_m6, .int size_m6])), (a_all_m6, .inl (cI, n_a_all_m6, .inl b_a_all_m6))]) (cl' := 0) (sl' := 0) rfl rfl rfl rfl rfl rfl ?_
        refine j_iload d_Mo_sameName_72 0 rfl ?_
        refine j_iadd d_Mo_sameName_74 ?_
        replace h := bd_s h
        obtain ⟨_, k4, h⟩ := h
        refine j_callV (n := 1) (As := [.int ((b_a_all_m6 (Int32.toNatClampNeg p1)) + v5_49)]) (rest := []) (wr := [(h0, .inr (9, moF am known_h0 thrown_h0 wrong_h0 lastEnd_h0 at_h0 bad_h0 levels_h0 least_h0 found_h0)), ((am 7), .inr (8, [.ref a_all_m7, .int size_m7])), (a_all_m7, .inl (cI, n_a_all_m7, .inl b_a_all_m7)), ((am 6), .inr (8, [.ref a_all_m6, .int size_m6])), (a_all_m6, .inl (cI, n_a_all_m6, .inl b_a_all_m6))]) (c_Nm_at l D cI cB cJ cS (am 4) a_all_m4 ((b_a_all_m6 (Int32.toNatClampNeg p1)) + v5_49) size_m4 n_a_all_m4 b_a_all_m4  k4) k_Mo_214 (by decide) ⟨Nat.le_of_ble_eq_true rfl, Nat.le_of_ble_eq_true rfl⟩ rfl 0 rfl [1, 2] [0, 3, 4, 5, 6] rfl (by decide) rfl (by decide) (by decide) rfl rfl (Nat.le_of_ble_eq_true rfl) d_Mo_sameName_75 ⟨Nat.le_of_ble_eq_true rfl, Nat.le_of_ble_eq_true rfl⟩ (fun v w hq => ?_)
        obtain ⟨rfl, rfl⟩ := hq
        refine j_norm (pc' := 78) (st' := [.int (b_a_all_m4 (Int32.toNatClampNeg ((b_a_all_m6 (Int32.toNatClampNeg p1)) + v5_49)))]) (ws' := [(h0, .inr (9, moF am known_h0 thrown_h0 wrong_h0 lastEnd_h0 at_h0 bad_h0 levels_h0 least_h0 found_h0)), ((am 7), .inr (8, [.ref a_all_m7, .int size_m7])), (a_all_m7, .inl (cI, n_a_all_m7, .inl b_a_all_m7)), ((am 6), .inr (8, [.ref a_all_m6, .int size_m6])), (a_all_m6, .inl (cI, n_a_all_m6, .inl b_a_all_m6)), ((am 4), .inr (8, [.ref a_all_m4, .int size_m4])), (a_all_m4, .inl (cI, n_a_all_m4, .inl b_a_all_m4))]) (cl' := 0) (sl' := 0) rfl rfl rfl rfl rfl rfl ?_
        refine j_aload_n d_Mo_sameName_78 rfl 3 rfl ?_
        refine j_get ig_Mo rfl 0 rfl 4 (by decide) rfl m_1117 rfl d_Mo_sameName_79 ?_
        refine j_aload_n d_Mo_sameName_82 rfl 3 rfl ?_
        refine j_get ig_Mo rfl 0 rfl 6 (by decide) rfl m_1119 rfl d_Mo_sameName_83 ?_
        refine j_iload_n d_Mo_sameName_86 rfl 5 rfl ?_
        replace h := bd_s h
        obtain ⟨_, k5, h⟩ := h
        refine j_callV (n := 1) (As := [.int p2]) (rest := [.ref (am 4), .int (b_a_all_m4 (Int32.toNatClampNeg ((b_a_all_m6 (Int32.toNatClampNeg p1)) + v5_49)))]) (wr := [(h0, .inr (9, moF am known_h0 thrown_h0 wrong_h0 lastEnd_h0 at_h0 bad_h0 levels_h0 least_h0 found_h0)), ((am 7), .inr (8, [.ref a_all_m7, .int size_m7])), (a_all_m7, .inl (cI, n_a_all_m7, .inl b_a_all_m7)), ((am 4), .inr (8, [.ref a_all_m4, .int size_m4])), (a_all_m4, .inl (cI, n_a_all_m4, .inl b_a_all_m4))]) (c_Nm_at l D cI cB cJ cS (am 6) a_all_m6 p2 size_m6 n_a_all_m6 b_a_all_m6  k5) k_Mo_214 (by decide) ⟨Nat.le_of_ble_eq_true rfl, Nat.le_of_ble_eq_true rfl⟩ rfl 0 rfl [3, 4] [0, 1, 2, 5, 6] rfl (by decide) rfl (by decide) (by decide) rfl rfl (Nat.le_of_ble_eq_true rfl) d_Mo_sameName_87 ⟨Nat.le_of_ble_eq_true rfl, Nat.le_of_ble_eq_true rfl⟩ (fun v w hq => ?_)
        obtain ⟨rfl, rfl⟩ := hq
        refine j_norm (pc' := 90) (st' := [.int (b_a_all_m6 (Int32.toNatClampNeg p2)), .ref (am 4), .int (b_a_all_m4 (Int32.toNatClampNeg ((b_a_all_m6 (Int32.toNatClampNeg p1)) + v5_49)))]) (ws' := [(h0, .inr (9, moF am known_h0 thrown_h0 wrong_h0 lastEnd_h0 at_h0 bad_h0 levels_h0 least_h0 found_h0)), ((am 7), .inr (8, [.ref a_all_m7, .int size_m7])), (a_all_m7, .inl (cI, n_a_all_m7, .inl b_a_all_m7)), ((am 4), .inr (8, [.ref a_all_m4, .int size_m4])), (a_all_m4, .inl (cI, n_a_all_m4, .inl b_a_all_m4)), ((am 6), .inr (8, [.ref a_all_m6, .int size_m6])), (a_all_m6, .inl (cI, n_a_all_m6, .inl b_a_all_m6))]) (cl' := 0) (sl' := 0) rfl rfl rfl rfl rfl rfl ?_
        refine j_iload d_Mo_sameName_90 0 rfl ?_
        refine j_iadd d_Mo_sameName_92 ?_
        replace h := bd_s h
        obtain ⟨_, k6, h⟩ := h
        refine j_callV (n := 1) (As := [.int ((b_a_all_m6 (Int32.toNatClampNeg p2)) + v5_49)]) (rest := [.int (b_a_all_m4 (Int32.toNatClampNeg ((b_a_all_m6 (Int32.toNatClampNeg p1)) + v5_49)))]) (wr := [(h0, .inr (9, moF am known_h0 thrown_h0 wrong_h0 lastEnd_h0 at_h0 bad_h0 levels_h0 least_h0 found_h0)), ((am 7), .inr (8, [.ref a_all_m7, .int size_m7])), (a_all_m7, .inl (cI, n_a_all_m7, .inl b_a_all_m7)), ((am 6), .inr (8, [.ref a_all_m6, .int size_m6])), (a_all_m6, .inl (cI, n_a_all_m6, .inl b_a_all_m6))]) (c_Nm_at l D cI cB cJ cS (am 4) a_all_m4 ((b_a_all_m6 (Int32.toNatClampNeg p2)) + v5_49) size_m4 n_a_all_m4 b_a_all_m4  k6) k_Mo_214 (by decide) ⟨Nat.le_of_ble_eq_true rfl, Nat.le_of_ble_eq_true rfl⟩ rfl 0 rfl [3, 4] [0, 1, 2, 5, 6] rfl (by decide) rfl (by decide) (by decide) rfl rfl (Nat.le_of_ble_eq_true rfl) d_Mo_sameName_93 ⟨Nat.le_of_ble_eq_true rfl, Nat.le_of_ble_eq_true rfl⟩ (fun v w hq => ?_)
        obtain ⟨rfl, rfl⟩ := hq
        refine j_norm (pc' := 96) (st' := [.int (b_a_all_m4 (Int32.toNatClampNeg ((b_a_all_m6 (Int32.toNatClampNeg p2)) + v5_49))), .int (b_a_all_m4 (Int32.toNatClampNeg ((b_a_all_m6 (Int32.toNatClampNeg p1)) + v5_49)))]) (ws' := [(h0, .inr (9, moF am known_h0 thrown_h0 wrong_h0 lastEnd_h0 at_h0 bad_h0 levels_h0 least_h0 found_h0)), ((am 7), .inr (8, [.ref a_all_m7, .int size_m7])), (a_all_m7, .inl (cI, n_a_all_m7, .inl b_a_all_m7)), ((am 6), .inr (8, [.ref a_all_m6, .int size_m6])), (a_all_m6, .inl (cI, n_a_all_m6, .inl b_a_all_m6)), ((am 4), .inr (8, [.ref a_all_m4, .int size_m4])), (a_all_m4, .inl (cI, n_a_all_m4, .inl b_a_all_m4))]) (cl' := 0) (sl' := 0) rfl rfl rfl rfl rfl rfl ?_
        refine j_icmp_ne (tgt := 103) d_Mo_sameName_96 (by decide) (fun c7 => ?_) (fun c7 => ?_)
        · replace h := it_f c7 h
          refine j_iconst (v := 0) d_Mo_sameName_103 (by decide) ?_
          refine j_istore (lv' := [(4, .int 0), (5, .int v5_49), (3, .int ((b_a_all_m7 (Int32.toNatClampNeg p1)) - (b_a_all_m6 (Int32.toNatClampNeg p1)))), (0, .ref h0), (1, .int p1), (2, .int p2)]) d_Mo_sameName_104 (by decide) rfl ?_
          refine j_iinc (v := v5_49 + 1) (lv' := [(5, .int (v5_49 + 1)), (4, .int 0), (3, .int ((b_a_all_m7 (Int32.toNatClampNeg p1)) - (b_a_all_m6 (Int32.toNatClampNeg p1)))), (0, .ref h0), (1, .int p1), (2, .int p2)]) d_Mo_sameName_106 1 rfl rfl (by decide) rfl ?_
          refine j_goto (tgt := 49) d_Mo_sameName_109 (by decide) ?_
          refine j_sub (w := [(h0, .inr (9, moF am known_h0 thrown_h0 wrong_h0 lastEnd_h0 at_h0 bad_h0 levels_h0 least_h0 found_h0)), ((am 4), .inr (8, [.ref a_all_m4, .int size_m4])), (a_all_m4, .inl (cI, n_a_all_m4, .inl b_a_all_m4)), ((am 7), .inr (8, [.ref a_all_m7, .int size_m7])), (a_all_m7, .inl (cI, n_a_all_m7, .inl b_a_all_m7)), ((am 6), .inr (8, [.ref a_all_m6, .int size_m6])), (a_all_m6, .inl (cI, n_a_all_m6, .inl b_a_all_m6))]) (lv' := [(5, .int (v5_49 + 1)), (4, .int 0), (3, .int ((b_a_all_m7 (Int32.toNatClampNeg p1)) - (b_a_all_m6 (Int32.toNatClampNeg p1)))), (0, .ref h0), (1, .int p1), (2, .int p2)]) [0, 5, 6, 1, 2, 3, 4] rfl (by decide) [0, 1, 2, 3, 4, 5] rfl ?_
          exact ih_49 (v5_49 + 1) 0 zb0 h
        · replace h := it_t c7 h
          refine j_iconst (v := 1) d_Mo_sameName_99 (by decide) ?_
          refine j_goto (tgt := 104) d_Mo_sameName_100 (by decide) ?_
          refine j_istore (lv' := [(4, .int 1), (5, .int v5_49), (3, .int ((b_a_all_m7 (Int32.toNatClampNeg p1)) - (b_a_all_m6 (Int32.toNatClampNeg p1)))), (0, .ref h0), (1, .int p1), (2, .int p2)]) d_Mo_sameName_104 (by decide) rfl ?_
          refine j_iinc (v := v5_49 + 1) (lv' := [(5, .int (v5_49 + 1)), (4, .int 1), (3, .int ((b_a_all_m7 (Int32.toNatClampNeg p1)) - (b_a_all_m6 (Int32.toNatClampNeg p1)))), (0, .ref h0), (1, .int p1), (2, .int p2)]) d_Mo_sameName_106 1 rfl rfl (by decide) rfl ?_
          refine j_goto (tgt := 49) d_Mo_sameName_109 (by decide) ?_
          refine j_sub (w := [(h0, .inr (9, moF am known_h0 thrown_h0 wrong_h0 lastEnd_h0 at_h0 bad_h0 levels_h0 least_h0 found_h0)), ((am 4), .inr (8, [.ref a_all_m4, .int size_m4])), (a_all_m4, .inl (cI, n_a_all_m4, .inl b_a_all_m4)), ((am 7), .inr (8, [.ref a_all_m7, .int size_m7])), (a_all_m7, .inl (cI, n_a_all_m7, .inl b_a_all_m7)), ((am 6), .inr (8, [.ref a_all_m6, .int size_m6])), (a_all_m6, .inl (cI, n_a_all_m6, .inl b_a_all_m6))]) (lv' := [(5, .int (v5_49 + 1)), (4, .int 1), (3, .int ((b_a_all_m7 (Int32.toNatClampNeg p1)) - (b_a_all_m6 (Int32.toNatClampNeg p1)))), (0, .ref h0), (1, .int p1), (2, .int p2)]) [0, 5, 6, 1, 2, 3, 4] rfl (by decide) [0, 1, 2, 3, 4, 5] rfl ?_
          exact ih_49 (v5_49 + 1) 1 zb1 h
set_option maxHeartbeats 4000000 in
set_option maxRecDepth 100000 in
theorem c_Mo_sameName (l : Launch) (D : va_G) (cI cB cJ cS : ClassId) (h0 : Nat) (am : Nat → Nat) (a_all_m7 : Nat) (a_all_m6 : Nat) (a_all_m4 : Nat) (p1 : Int32) (p2 : Int32) (known_h0 : Int32) (thrown_h0 : Int32) (wrong_h0 : Int32) (lastEnd_h0 : Int32) (at_h0 : Int32) (bad_h0 : Int32) (levels_h0 : Int32) (least_h0 : Int32) (found_h0 : Int32) (size_m7 : Int32) (n_a_all_m7 : Nat) (b_a_all_m7 : Nat → Int32) (size_m6 : Int32) (n_a_all_m6 : Nat) (b_a_all_m6 : Nat → Int32) (size_m4 : Int32) (n_a_all_m4 : Nat) (b_a_all_m4 : Nat → Int32) (ret : Int32) (h : F_Mo_sameName p1 p2 known_h0 thrown_h0 wrong_h0 lastEnd_h0 at_h0 bad_h0 levels_h0 least_h0 found_h0 size_m7 n_a_all_m7 b_a_all_m7 size_m6 n_a_all_m6 b_a_all_m6 size_m4 n_a_all_m4 b_a_all_m4 = some ret) : Ct l D (gT cI cB cJ cS) y_Mo_sameName prog_12_method_37_code 6 (Option.some Jvm.ClassFile.FieldType.boolean) 1 21 0 0 [.ref h0, .int p1, .int p2] [(h0, .inr (9, moF am known_h0 thrown_h0 wrong_h0 lastEnd_h0 at_h0 bad_h0 levels_h0 least_h0 found_h0)), ((am 7), .inr (8, [.ref a_all_m7, .int size_m7])), (a_all_m7, .inl (cI, n_a_all_m7, .inl b_a_all_m7)), ((am 6), .inr (8, [.ref a_all_m6, .int size_m6])), (a_all_m6, .inl (cI, n_a_all_m6, .inl b_a_all_m6)), ((am 4), .inr (8, [.ref a_all_m4, .int size_m4])), (a_all_m4, .inl (cI, n_a_all_m4, .inl b_a_all_m4))] (fun v w => v = some (.int ret) ∧ zb ret ∧ w = [(h0, .inr (9, moF am known_h0 thrown_h0 wrong_h0 lastEnd_h0 at_h0 bad_h0 levels_h0 least_h0 found_h0)), ((am 7), .inr (8, [.ref a_all_m7, .int size_m7])), (a_all_m7, .inl (cI, n_a_all_m7, .inl b_a_all_m7)), ((am 6), .inr (8, [.ref a_all_m6, .int size_m6])), (a_all_m6, .inl (cI, n_a_all_m6, .inl b_a_all_m6)), ((am 4), .inr (8, [.ref a_all_m4, .int size_m4])), (a_all_m4, .inl (cI, n_a_all_m4, .inl b_a_all_m4))]) := by
  refine Ct.mk (by decide) (Nat.le_of_ble_eq_true rfl) ?_
  intro p e s m below meth c hr hnm
  refine j_norm (pc' := 0) (lv' := [(0, .ref h0), (1, .int p1), (2, .int p2)]) (st' := []) (ws' := [(h0, .inr (9, moF am known_h0 thrown_h0 wrong_h0 lastEnd_h0 at_h0 bad_h0 levels_h0 least_h0 found_h0)), ((am 7), .inr (8, [.ref a_all_m7, .int size_m7])), (a_all_m7, .inl (cI, n_a_all_m7, .inl b_a_all_m7)), ((am 6), .inr (8, [.ref a_all_m6, .int size_m6])), (a_all_m6, .inl (cI, n_a_all_m6, .inl b_a_all_m6)), ((am 4), .inr (8, [.ref a_all_m4, .int size_m4])), (a_all_m4, .inl (cI, n_a_all_m4, .inl b_a_all_m4))]) (cl' := 0) (sl' := 0) rfl rfl rfl rfl rfl rfl ?_
  unfold F_Mo_sameName at h
  refine j_aload_n d_Mo_sameName_0 rfl 0 rfl ?_
  refine j_get ig_Mo rfl 0 rfl 7 (by decide) rfl m_1120 rfl d_Mo_sameName_1 ?_
  refine j_iload_n d_Mo_sameName_4 rfl 1 rfl ?_
  replace h := bd_s h
  obtain ⟨_, k8, h⟩ := h
  refine j_callV (n := 1) (As := [.int p1]) (rest := []) (wr := [(h0, .inr (9, moF am known_h0 thrown_h0 wrong_h0 lastEnd_h0 at_h0 bad_h0 levels_h0 least_h0 found_h0)), ((am 6), .inr (8, [.ref a_all_m6, .int size_m6])), (a_all_m6, .inl (cI, n_a_all_m6, .inl b_a_all_m6)), ((am 4), .inr (8, [.ref a_all_m4, .int size_m4])), (a_all_m4, .inl (cI, n_a_all_m4, .inl b_a_all_m4))]) (c_Nm_at l D cI cB cJ cS (am 7) a_all_m7 p1 size_m7 n_a_all_m7 b_a_all_m7  k8) k_Mo_214 (by decide) ⟨Nat.le_of_ble_eq_true rfl, Nat.le_of_ble_eq_true rfl⟩ rfl 0 rfl [1, 2] [0, 3, 4, 5, 6] rfl (by decide) rfl (by decide) (by decide) rfl rfl (Nat.le_of_ble_eq_true rfl) d_Mo_sameName_5 ⟨Nat.le_of_ble_eq_true rfl, Nat.le_of_ble_eq_true rfl⟩ (fun v w hq => ?_)
  obtain ⟨rfl, rfl⟩ := hq
  refine j_norm (pc' := 8) (st' := [.int (b_a_all_m7 (Int32.toNatClampNeg p1))]) (ws' := [(h0, .inr (9, moF am known_h0 thrown_h0 wrong_h0 lastEnd_h0 at_h0 bad_h0 levels_h0 least_h0 found_h0)), ((am 6), .inr (8, [.ref a_all_m6, .int size_m6])), (a_all_m6, .inl (cI, n_a_all_m6, .inl b_a_all_m6)), ((am 4), .inr (8, [.ref a_all_m4, .int size_m4])), (a_all_m4, .inl (cI, n_a_all_m4, .inl b_a_all_m4)), ((am 7), .inr (8, [.ref a_all_m7, .int size_m7])), (a_all_m7, .inl (cI, n_a_all_m7, .inl b_a_all_m7))]) (cl' := 0) (sl' := 0) rfl rfl rfl rfl rfl rfl ?_
  refine j_aload_n d_Mo_sameName_8 rfl 0 rfl ?_
  refine j_get ig_Mo rfl 0 rfl 6 (by decide) rfl m_1119 rfl d_Mo_sameName_9 ?_
  refine j_iload_n d_Mo_sameName_12 rfl 1 rfl ?_
  replace h := bd_s h
  obtain ⟨_, k9, h⟩ := h
  refine j_callV (n := 1) (As := [.int p1]) (rest := [.int (b_a_all_m7 (Int32.toNatClampNeg p1))]) (wr := [(h0, .inr (9, moF am known_h0 thrown_h0 wrong_h0 lastEnd_h0 at_h0 bad_h0 levels_h0 least_h0 found_h0)), ((am 4), .inr (8, [.ref a_all_m4, .int size_m4])), (a_all_m4, .inl (cI, n_a_all_m4, .inl b_a_all_m4)), ((am 7), .inr (8, [.ref a_all_m7, .int size_m7])), (a_all_m7, .inl (cI, n_a_all_m7, .inl b_a_all_m7))]) (c_Nm_at l D cI cB cJ cS (am 6) a_all_m6 p1 size_m6 n_a_all_m6 b_a_all_m6  k9) k_Mo_214 (by decide) ⟨Nat.le_of_ble_eq_true rfl, Nat.le_of_ble_eq_true rfl⟩ rfl 0 rfl [1, 2] [0, 3, 4, 5, 6] rfl (by decide) rfl (by decide) (by decide) rfl rfl (Nat.le_of_ble_eq_true rfl) d_Mo_sameName_13 ⟨Nat.le_of_ble_eq_true rfl, Nat.le_of_ble_eq_true rfl⟩ (fun v w hq => ?_)
  obtain ⟨rfl, rfl⟩ := hq
  refine j_norm (pc' := 16) (st' := [.int (b_a_all_m6 (Int32.toNatClampNeg p1)), .int (b_a_all_m7 (Int32.toNatClampNeg p1))]) (ws' := [(h0, .inr (9, moF am known_h0 thrown_h0 wrong_h0 lastEnd_h0 at_h0 bad_h0 levels_h0 least_h0 found_h0)), ((am 4), .inr (8, [.ref a_all_m4, .int size_m4])), (a_all_m4, .inl (cI, n_a_all_m4, .inl b_a_all_m4)), ((am 7), .inr (8, [.ref a_all_m7, .int size_m7])), (a_all_m7, .inl (cI, n_a_all_m7, .inl b_a_all_m7)), ((am 6), .inr (8, [.ref a_all_m6, .int size_m6])), (a_all_m6, .inl (cI, n_a_all_m6, .inl b_a_all_m6))]) (cl' := 0) (sl' := 0) rfl rfl rfl rfl rfl rfl ?_
  refine j_isub d_Mo_sameName_16 ?_
  refine j_istore_n (lv' := [(3, .int ((b_a_all_m7 (Int32.toNatClampNeg p1)) - (b_a_all_m6 (Int32.toNatClampNeg p1)))), (0, .ref h0), (1, .int p1), (2, .int p2)]) d_Mo_sameName_17 rfl (by decide) rfl ?_
  refine j_iload_n d_Mo_sameName_18 rfl 0 rfl ?_
  refine j_aload_n d_Mo_sameName_19 rfl 1 rfl ?_
  refine j_get ig_Mo rfl 0 rfl 7 (by decide) rfl m_1120 rfl d_Mo_sameName_20 ?_
  refine j_iload_n d_Mo_sameName_23 rfl 3 rfl ?_
  replace h := bd_s h
  obtain ⟨_, k10, h⟩ := h
  refine j_callV (n := 1) (As := [.int p2]) (rest := [.int ((b_a_all_m7 (Int32.toNatClampNeg p1)) - (b_a_all_m6 (Int32.toNatClampNeg p1)))]) (wr := [(h0, .inr (9, moF am known_h0 thrown_h0 wrong_h0 lastEnd_h0 at_h0 bad_h0 levels_h0 least_h0 found_h0)), ((am 4), .inr (8, [.ref a_all_m4, .int size_m4])), (a_all_m4, .inl (cI, n_a_all_m4, .inl b_a_all_m4)), ((am 6), .inr (8, [.ref a_all_m6, .int size_m6])), (a_all_m6, .inl (cI, n_a_all_m6, .inl b_a_all_m6))]) (c_Nm_at l D cI cB cJ cS (am 7) a_all_m7 p2 size_m7 n_a_all_m7 b_a_all_m7  k10) k_Mo_214 (by decide) ⟨Nat.le_of_ble_eq_true rfl, Nat.le_of_ble_eq_true rfl⟩ rfl 0 rfl [3, 4] [0, 1, 2, 5, 6] rfl (by decide) rfl (by decide) (by decide) rfl rfl (Nat.le_of_ble_eq_true rfl) d_Mo_sameName_24 ⟨Nat.le_of_ble_eq_true rfl, Nat.le_of_ble_eq_true rfl⟩ (fun v w hq => ?_)
  obtain ⟨rfl, rfl⟩ := hq
  refine j_norm (pc' := 27) (st' := [.int (b_a_all_m7 (Int32.toNatClampNeg p2)), .int ((b_a_all_m7 (Int32.toNatClampNeg p1)) - (b_a_all_m6 (Int32.toNatClampNeg p1)))]) (ws' := [(h0, .inr (9, moF am known_h0 thrown_h0 wrong_h0 lastEnd_h0 at_h0 bad_h0 levels_h0 least_h0 found_h0)), ((am 4), .inr (8, [.ref a_all_m4, .int size_m4])), (a_all_m4, .inl (cI, n_a_all_m4, .inl b_a_all_m4)), ((am 6), .inr (8, [.ref a_all_m6, .int size_m6])), (a_all_m6, .inl (cI, n_a_all_m6, .inl b_a_all_m6)), ((am 7), .inr (8, [.ref a_all_m7, .int size_m7])), (a_all_m7, .inl (cI, n_a_all_m7, .inl b_a_all_m7))]) (cl' := 0) (sl' := 0) rfl rfl rfl rfl rfl rfl ?_
  refine j_aload_n d_Mo_sameName_27 rfl 1 rfl ?_
  refine j_get ig_Mo rfl 0 rfl 6 (by decide) rfl m_1119 rfl d_Mo_sameName_28 ?_
  refine j_iload_n d_Mo_sameName_31 rfl 3 rfl ?_
  replace h := bd_s h
  obtain ⟨_, k11, h⟩ := h
  refine j_callV (n := 1) (As := [.int p2]) (rest := [.int (b_a_all_m7 (Int32.toNatClampNeg p2)), .int ((b_a_all_m7 (Int32.toNatClampNeg p1)) - (b_a_all_m6 (Int32.toNatClampNeg p1)))]) (wr := [(h0, .inr (9, moF am known_h0 thrown_h0 wrong_h0 lastEnd_h0 at_h0 bad_h0 levels_h0 least_h0 found_h0)), ((am 4), .inr (8, [.ref a_all_m4, .int size_m4])), (a_all_m4, .inl (cI, n_a_all_m4, .inl b_a_all_m4)), ((am 7), .inr (8, [.ref a_all_m7, .int size_m7])), (a_all_m7, .inl (cI, n_a_all_m7, .inl b_a_all_m7))]) (c_Nm_at l D cI cB cJ cS (am 6) a_all_m6 p2 size_m6 n_a_all_m6 b_a_all_m6  k11) k_Mo_214 (by decide) ⟨Nat.le_of_ble_eq_true rfl, Nat.le_of_ble_eq_true rfl⟩ rfl 0 rfl [3, 4] [0, 1, 2, 5, 6] rfl (by decide) rfl (by decide) (by decide) rfl rfl (Nat.le_of_ble_eq_true rfl) d_Mo_sameName_32 ⟨Nat.le_of_ble_eq_true rfl, Nat.le_of_ble_eq_true rfl⟩ (fun v w hq => ?_)
  obtain ⟨rfl, rfl⟩ := hq
  refine j_norm (pc' := 35) (st' := [.int (b_a_all_m6 (Int32.toNatClampNeg p2)), .int (b_a_all_m7 (Int32.toNatClampNeg p2)), .int ((b_a_all_m7 (Int32.toNatClampNeg p1)) - (b_a_all_m6 (Int32.toNatClampNeg p1)))]) (ws' := [(h0, .inr (9, moF am known_h0 thrown_h0 wrong_h0 lastEnd_h0 at_h0 bad_h0 levels_h0 least_h0 found_h0)), ((am 4), .inr (8, [.ref a_all_m4, .int size_m4])), (a_all_m4, .inl (cI, n_a_all_m4, .inl b_a_all_m4)), ((am 7), .inr (8, [.ref a_all_m7, .int size_m7])), (a_all_m7, .inl (cI, n_a_all_m7, .inl b_a_all_m7)), ((am 6), .inr (8, [.ref a_all_m6, .int size_m6])), (a_all_m6, .inl (cI, n_a_all_m6, .inl b_a_all_m6))]) (cl' := 0) (sl' := 0) rfl rfl rfl rfl rfl rfl ?_
  refine j_isub d_Mo_sameName_35 ?_
  refine j_icmp_ne (tgt := 43) d_Mo_sameName_36 (by decide) (fun c12 => ?_) (fun c12 => ?_)
  · replace h := it_f c12 h
    refine j_iconst (v := 0) d_Mo_sameName_43 (by decide) ?_
    refine j_istore (lv' := [(4, .int 0), (3, .int ((b_a_all_m7 (Int32.toNatClampNeg p1)) - (b_a_all_m6 (Int32.toNatClampNeg p1)))), (0, .ref h0), (1, .int p1), (2, .int p2)]) d_Mo_sameName_44 (by decide) rfl ?_
    refine j_iconst (v := 0) d_Mo_sameName_46 (by decide) ?_
    refine j_istore (lv' := [(5, .int 0), (4, .int 0), (3, .int ((b_a_all_m7 (Int32.toNatClampNeg p1)) - (b_a_all_m6 (Int32.toNatClampNeg p1)))), (0, .ref h0), (1, .int p1), (2, .int p2)]) d_Mo_sameName_47 (by decide) rfl ?_
    refine j_sub (w := [(h0, .inr (9, moF am known_h0 thrown_h0 wrong_h0 lastEnd_h0 at_h0 bad_h0 levels_h0 least_h0 found_h0)), ((am 4), .inr (8, [.ref a_all_m4, .int size_m4])), (a_all_m4, .inl (cI, n_a_all_m4, .inl b_a_all_m4)), ((am 7), .inr (8, [.ref a_all_m7, .int size_m7])), (a_all_m7, .inl (cI, n_a_all_m7, .inl b_a_all_m7)), ((am 6), .inr (8, [.ref a_all_m6, .int size_m6])), (a_all_m6, .inl (cI, n_a_all_m6, .inl b_a_all_m6))]) (lv' := [(5, .int 0), (4, .int 0), (3, .int ((b_a_all_m7 (Int32.toNatClampNeg p1)) - (b_a_all_m6 (Int32.toNatClampNeg p1)))), (0, .ref h0), (1, .int p1), (2, .int p2)]) [0, 1, 2, 3, 4, 5, 6] rfl (by decide) [0, 1, 2, 3, 4, 5] rfl ?_
    exact L_Mo_sameName_49 l D cI cB cJ cS h0 am a_all_m7 a_all_m6 a_all_m4 p1 p2 known_h0 thrown_h0 wrong_h0 lastEnd_h0 at_h0 bad_h0 levels_h0 least_h0 found_h0 size_m7 n_a_all_m7 b_a_all_m7 size_m6 n_a_all_m6 b_a_all_m6 size_m4 n_a_all_m4 b_a_all_m4 ret p e s m below meth c hr hnm FU 0 0 zb0 h
  · replace h := it_t c12 h
    refine j_iconst (v := 1) d_Mo_sameName_39 (by decide) ?_
    refine j_goto (tgt := 44) d_Mo_sameName_40 (by decide) ?_
    refine j_istore (lv' := [(4, .int 1), (3, .int ((b_a_all_m7 (Int32.toNatClampNeg p1)) - (b_a_all_m6 (Int32.toNatClampNeg p1)))), (0, .ref h0), (1, .int p1), (2, .int p2)]) d_Mo_sameName_44 (by decide) rfl ?_
    refine j_iconst (v := 0) d_Mo_sameName_46 (by decide) ?_
    refine j_istore (lv' := [(5, .int 0), (4, .int 1), (3, .int ((b_a_all_m7 (Int32.toNatClampNeg p1)) - (b_a_all_m6 (Int32.toNatClampNeg p1)))), (0, .ref h0), (1, .int p1), (2, .int p2)]) d_Mo_sameName_47 (by decide) rfl ?_
    refine j_sub (w := [(h0, .inr (9, moF am known_h0 thrown_h0 wrong_h0 lastEnd_h0 at_h0 bad_h0 levels_h0 least_h0 found_h0)), ((am 4), .inr (8, [.ref a_all_m4, .int size_m4])), (a_all_m4, .inl (cI, n_a_all_m4, .inl b_a_all_m4)), ((am 7), .inr (8, [.ref a_all_m7, .int size_m7])), (a_all_m7, .inl (cI, n_a_all_m7, .inl b_a_all_m7)), ((am 6), .inr (8, [.ref a_all_m6, .int size_m6])), (a_all_m6, .inl (cI, n_a_all_m6, .inl b_a_all_m6))]) (lv' := [(5, .int 0), (4, .int 1), (3, .int ((b_a_all_m7 (Int32.toNatClampNeg p1)) - (b_a_all_m6 (Int32.toNatClampNeg p1)))), (0, .ref h0), (1, .int p1), (2, .int p2)]) [0, 1, 2, 3, 4, 5, 6] rfl (by decide) [0, 1, 2, 3, 4, 5] rfl ?_
    exact L_Mo_sameName_49 l D cI cB cJ cS h0 am a_all_m7 a_all_m6 a_all_m4 p1 p2 known_h0 thrown_h0 wrong_h0 lastEnd_h0 at_h0 bad_h0 levels_h0 least_h0 found_h0 size_m7 n_a_all_m7 b_a_all_m7 size_m6 n_a_all_m6 b_a_all_m6 size_m4 n_a_all_m4 b_a_all_m4 ret p e s m below meth c hr hnm FU 0 1 zb1 h
def F_Mo_readNames_58 (known_h0 : Int32) (thrown_h0 : Int32) (wrong_h0 : Int32) (lastEnd_h0 : Int32) (at_h0 : Int32) (bad_h0 : Int32) (levels_h0 : Int32) (least_h0 : Int32) (found_h0 : Int32) (size_m5 : Int32) (n_a_all_m5 : Nat) (b_a_all_m5 : Nat → Int32) (f0_17_5 : Int32) (K_5 : Int32 → Option (Int32 × Int32 × Int32)) (v3_58 : Int32) (v2_58 : Int32) : Option (Int32 × Int32 × Int32) :=
    if v2_58 = 0 then (some (0, f0_17_5, f0_17_5))
    else (Option.bind (F_Mo_kind known_h0 thrown_h0 wrong_h0 lastEnd_h0 (f0_17_5 + 1) bad_h0 levels_h0 least_h0 found_h0 size_m5 n_a_all_m5 b_a_all_m5) fun _ =>
      if (b_a_all_m5 (Int32.toNatClampNeg (f0_17_5 + 1))) = 54 then (if (((f0_17_5 + 1) - at_h0) / 2) = 7 then (some (0, (f0_17_5 + 1), (f0_17_5 + 1)))
        else (K_5 ((f0_17_5 + 1) + 1)))
      else (some (1, (f0_17_5 + 1), bad_h0)))
def F_Mo_readNames_21 (known_h0 : Int32) (thrown_h0 : Int32) (wrong_h0 : Int32) (lastEnd_h0 : Int32) (at_h0 : Int32) (bad_h0 : Int32) (levels_h0 : Int32) (least_h0 : Int32) (found_h0 : Int32) (size_m5 : Int32) (n_a_all_m5 : Nat) (b_a_all_m5 : Nat → Int32) (size_m7 : Int32) (n_a_all_m7 : Nat) (b_a_all_m7 : Nat → Int32) (size_m6 : Int32) (n_a_all_m6 : Nat) (b_a_all_m6 : Nat → Int32) (size_m4 : Int32) (n_a_all_m4 : Nat) (b_a_all_m4 : Nat → Int32) (f0_17_5 : Int32) (K_5 : Int32 → Option (Int32 × Int32 × Int32)) : Nat → Int32 → Int32 → Option (Int32 × Int32 × Int32)
  | 0, _, _ => none
  | k_21 + 1, v3_21, v2_21 =>
    if f0_17_5 ≤ v3_21 then (F_Mo_readNames_58 known_h0 thrown_h0 wrong_h0 lastEnd_h0 at_h0 bad_h0 levels_h0 least_h0 found_h0 size_m5 n_a_all_m5 b_a_all_m5 f0_17_5 K_5  v3_21 v2_21)
    else if v2_21 = 0 then (F_Mo_readNames_58 known_h0 thrown_h0 wrong_h0 lastEnd_h0 at_h0 bad_h0 levels_h0 least_h0 found_h0 size_m5 n_a_all_m5 b_a_all_m5 f0_17_5 K_5  v3_21 v2_21)
    else (Option.bind (F_Mo_sameName v3_21 f0_17_5 known_h0 thrown_h0 wrong_h0 lastEnd_h0 f0_17_5 bad_h0 levels_h0 least_h0 found_h0 size_m7 n_a_all_m7 b_a_all_m7 size_m6 n_a_all_m6 b_a_all_m6 size_m4 n_a_all_m4 b_a_all_m4) fun r9 =>
      if r9 = 0 then (F_Mo_readNames_21 known_h0 thrown_h0 wrong_h0 lastEnd_h0 at_h0 bad_h0 levels_h0 least_h0 found_h0 size_m5 n_a_all_m5 b_a_all_m5 size_m7 n_a_all_m7 b_a_all_m7 size_m6 n_a_all_m6 b_a_all_m6 size_m4 n_a_all_m4 b_a_all_m4 f0_17_5 K_5 k_21 (v3_21 + 2) 1)
      else (F_Mo_readNames_21 known_h0 thrown_h0 wrong_h0 lastEnd_h0 at_h0 bad_h0 levels_h0 least_h0 found_h0 size_m5 n_a_all_m5 b_a_all_m5 size_m7 n_a_all_m7 b_a_all_m7 size_m6 n_a_all_m6 b_a_all_m6 size_m4 n_a_all_m4 b_a_all_m4 f0_17_5 K_5 k_21 (v3_21 + 2) 0))
def F_Mo_readNames_5 (known_h0 : Int32) (thrown_h0 : Int32) (wrong_h0 : Int32) (lastEnd_h0 : Int32) (at_h0 : Int32) (bad_h0 : Int32) (levels_h0 : Int32) (least_h0 : Int32) (found_h0 : Int32) (size_m5 : Int32) (n_a_all_m5 : Nat) (b_a_all_m5 : Nat → Int32) (size_m7 : Int32) (n_a_all_m7 : Nat) (b_a_all_m7 : Nat → Int32) (size_m6 : Int32) (n_a_all_m6 : Nat) (b_a_all_m6 : Nat → Int32) (size_m4 : Int32) (n_a_all_m4 : Nat) (b_a_all_m4 : Nat → Int32) : Nat → Int32 → Option (Int32 × Int32 × Int32)
  | 0, _ => none
  | k_5 + 1, f0_17_5 =>
    Option.bind (F_Mo_kind known_h0 thrown_h0 wrong_h0 lastEnd_h0 f0_17_5 bad_h0 levels_h0 least_h0 found_h0 size_m5 n_a_all_m5 b_a_all_m5) fun _ =>
    if (b_a_all_m5 (Int32.toNatClampNeg f0_17_5)) = 2 then (F_Mo_readNames_21 known_h0 thrown_h0 wrong_h0 lastEnd_h0 at_h0 bad_h0 levels_h0 least_h0 found_h0 size_m5 n_a_all_m5 b_a_all_m5 size_m7 n_a_all_m7 b_a_all_m7 size_m6 n_a_all_m6 b_a_all_m6 size_m4 n_a_all_m4 b_a_all_m4 f0_17_5 (F_Mo_readNames_5 known_h0 thrown_h0 wrong_h0 lastEnd_h0 at_h0 bad_h0 levels_h0 least_h0 found_h0 size_m5 n_a_all_m5 b_a_all_m5 size_m7 n_a_all_m7 b_a_all_m7 size_m6 n_a_all_m6 b_a_all_m6 size_m4 n_a_all_m4 b_a_all_m4  k_5) FU at_h0 1)
    else (F_Mo_readNames_21 known_h0 thrown_h0 wrong_h0 lastEnd_h0 at_h0 bad_h0 levels_h0 least_h0 found_h0 size_m5 n_a_all_m5 b_a_all_m5 size_m7 n_a_all_m7 b_a_all_m7 size_m6 n_a_all_m6 b_a_all_m6 size_m4 n_a_all_m4 b_a_all_m4 f0_17_5 (F_Mo_readNames_5 known_h0 thrown_h0 wrong_h0 lastEnd_h0 at_h0 bad_h0 levels_h0 least_h0 found_h0 size_m5 n_a_all_m5 b_a_all_m5 size_m7 n_a_all_m7 b_a_all_m7 size_m6 n_a_all_m6 b_a_all_m6 size_m4 n_a_all_m4 b_a_all_m4  k_5) FU at_h0 0)
def F_Mo_readNames (known_h0 : Int32) (thrown_h0 : Int32) (wrong_h0 : Int32) (lastEnd_h0 : Int32) (at_h0 : Int32) (bad_h0 : Int32) (levels_h0 : Int32) (least_h0 : Int32) (found_h0 : Int32) (size_m5 : Int32) (n_a_all_m5 : Nat) (b_a_all_m5 : Nat → Int32) (size_m7 : Int32) (n_a_all_m7 : Nat) (b_a_all_m7 : Nat → Int32) (size_m6 : Int32) (n_a_all_m6 : Nat) (b_a_all_m6 : Nat → Int32) (size_m4 : Int32) (n_a_all_m4 : Nat) (b_a_all_m4 : Nat → Int32) : Option (Int32 × Int32 × Int32) :=
  F_Mo_readNames_5 known_h0 thrown_h0 wrong_h0 lastEnd_h0 at_h0 bad_h0 levels_h0 least_h0 found_h0 size_m5 n_a_all_m5 b_a_all_m5 size_m7 n_a_all_m7 b_a_all_m7 size_m6 n_a_all_m6 b_a_all_m6 size_m4 n_a_all_m4 b_a_all_m4  FU at_h0
theorem d_Mo_readNames_0 : decode prog_12_method_38_code 0 = .ok (.aload_n 0, 1) := by decide +kernel
theorem d_Mo_readNames_1 : decode prog_12_method_38_code 1 = .ok (.getfield 270, 3) := by decide +kernel
theorem d_Mo_readNames_4 : decode prog_12_method_38_code 4 = .ok (.istore_n 1, 1) := by decide +kernel
theorem d_Mo_readNames_5 : decode prog_12_method_38_code 5 = .ok (.aload_n 0, 1) := by decide +kernel
theorem d_Mo_readNames_6 : decode prog_12_method_38_code 6 = .ok (.invokevirtual 275, 3) := by decide +kernel
theorem d_Mo_readNames_9 : decode prog_12_method_38_code 9 = .ok (.iconst 2, 1) := by decide +kernel
theorem d_Mo_readNames_10 : decode prog_12_method_38_code 10 = .ok (.if_icmp .ne 7, 3) := by decide +kernel
theorem d_Mo_readNames_13 : decode prog_12_method_38_code 13 = .ok (.iconst 1, 1) := by decide +kernel
theorem d_Mo_readNames_14 : decode prog_12_method_38_code 14 = .ok (.goto 4, 3) := by decide +kernel
theorem d_Mo_readNames_17 : decode prog_12_method_38_code 17 = .ok (.iconst 0, 1) := by decide +kernel
theorem d_Mo_readNames_18 : decode prog_12_method_38_code 18 = .ok (.istore_n 2, 1) := by decide +kernel
theorem d_Mo_readNames_19 : decode prog_12_method_38_code 19 = .ok (.iload_n 1, 1) := by decide +kernel
theorem d_Mo_readNames_20 : decode prog_12_method_38_code 20 = .ok (.istore_n 3, 1) := by decide +kernel
theorem d_Mo_readNames_21 : decode prog_12_method_38_code 21 = .ok (.iload_n 3, 1) := by decide +kernel
theorem d_Mo_readNames_22 : decode prog_12_method_38_code 22 = .ok (.aload_n 0, 1) := by decide +kernel
theorem d_Mo_readNames_23 : decode prog_12_method_38_code 23 = .ok (.getfield 270, 3) := by decide +kernel
theorem d_Mo_readNames_26 : decode prog_12_method_38_code 26 = .ok (.if_icmp .ge 32, 3) := by decide +kernel
theorem d_Mo_readNames_29 : decode prog_12_method_38_code 29 = .ok (.iload_n 2, 1) := by decide +kernel
theorem d_Mo_readNames_30 : decode prog_12_method_38_code 30 = .ok (.ifCond .eq 28, 3) := by decide +kernel
theorem d_Mo_readNames_33 : decode prog_12_method_38_code 33 = .ok (.aload_n 0, 1) := by decide +kernel
theorem d_Mo_readNames_34 : decode prog_12_method_38_code 34 = .ok (.iload_n 3, 1) := by decide +kernel
theorem d_Mo_readNames_35 : decode prog_12_method_38_code 35 = .ok (.aload_n 0, 1) := by decide +kernel
theorem d_Mo_readNames_36 : decode prog_12_method_38_code 36 = .ok (.getfield 270, 3) := by decide +kernel
theorem d_Mo_readNames_39 : decode prog_12_method_38_code 39 = .ok (.invokevirtual 332, 3) := by decide +kernel
theorem d_Mo_readNames_42 : decode prog_12_method_38_code 42 = .ok (.ifCond .ne 7, 3) := by decide +kernel
theorem d_Mo_readNames_45 : decode prog_12_method_38_code 45 = .ok (.iconst 1, 1) := by decide +kernel
theorem d_Mo_readNames_46 : decode prog_12_method_38_code 46 = .ok (.goto 4, 3) := by decide +kernel
theorem d_Mo_readNames_49 : decode prog_12_method_38_code 49 = .ok (.iconst 0, 1) := by decide +kernel
theorem d_Mo_readNames_50 : decode prog_12_method_38_code 50 = .ok (.istore_n 2, 1) := by decide +kernel
theorem d_Mo_readNames_51 : decode prog_12_method_38_code 51 = .ok (.iload_n 3, 1) := by decide +kernel
theorem d_Mo_readNames_52 : decode prog_12_method_38_code 52 = .ok (.iconst 2, 1) := by decide +kernel
theorem d_Mo_readNames_53 : decode prog_12_method_38_code 53 = .ok (.iadd, 1) := by decide +kernel
theorem d_Mo_readNames_54 : decode prog_12_method_38_code 54 = .ok (.istore_n 3, 1) := by decide +kernel
theorem d_Mo_readNames_55 : decode prog_12_method_38_code 55 = .ok (.goto (-34), 3) := by decide +kernel
theorem d_Mo_readNames_58 : decode prog_12_method_38_code 58 = .ok (.iload_n 2, 1) := by decide +kernel
theorem d_Mo_readNames_59 : decode prog_12_method_38_code 59 = .ok (.ifCond .ne 8, 3) := by decide +kernel
theorem d_Mo_readNames_62 : decode prog_12_method_38_code 62 = .ok (.aload_n 0, 1) := by decide +kernel
theorem d_Mo_readNames_63 : decode prog_12_method_38_code 63 = .ok (.invokevirtual 278, 3) := by decide +kernel
theorem d_Mo_readNames_66 : decode prog_12_method_38_code 66 = .ok (.ireturn, 1) := by decide +kernel
theorem d_Mo_readNames_67 : decode prog_12_method_38_code 67 = .ok (.aload_n 0, 1) := by decide +kernel
theorem d_Mo_readNames_68 : decode prog_12_method_38_code 68 = .ok (.dup, 1) := by decide +kernel
theorem d_Mo_readNames_69 : decode prog_12_method_38_code 69 = .ok (.getfield 270, 3) := by decide +kernel
theorem d_Mo_readNames_72 : decode prog_12_method_38_code 72 = .ok (.iconst 1, 1) := by decide +kernel
theorem d_Mo_readNames_73 : decode prog_12_method_38_code 73 = .ok (.iadd, 1) := by decide +kernel
theorem d_Mo_readNames_74 : decode prog_12_method_38_code 74 = .ok (.putfield 270, 3) := by decide +kernel
theorem d_Mo_readNames_77 : decode prog_12_method_38_code 77 = .ok (.aload_n 0, 1) := by decide +kernel
theorem d_Mo_readNames_78 : decode prog_12_method_38_code 78 = .ok (.invokevirtual 275, 3) := by decide +kernel
theorem d_Mo_readNames_81 : decode prog_12_method_38_code 81 = .ok (.bipush 54, 2) := by decide +kernel
theorem d_Mo_readNames_83 : decode prog_12_method_38_code 83 = .ok (.if_icmp .eq 5, 3) := by decide +kernel
theorem d_Mo_readNames_86 : decode prog_12_method_38_code 86 = .ok (.iconst 1, 1) := by decide +kernel
theorem d_Mo_readNames_87 : decode prog_12_method_38_code 87 = .ok (.ireturn, 1) := by decide +kernel
theorem d_Mo_readNames_88 : decode prog_12_method_38_code 88 = .ok (.aload_n 0, 1) := by decide +kernel
theorem d_Mo_readNames_89 : decode prog_12_method_38_code 89 = .ok (.getfield 270, 3) := by decide +kernel
theorem d_Mo_readNames_92 : decode prog_12_method_38_code 92 = .ok (.iload_n 1, 1) := by decide +kernel
theorem d_Mo_readNames_93 : decode prog_12_method_38_code 93 = .ok (.isub, 1) := by decide +kernel
theorem d_Mo_readNames_94 : decode prog_12_method_38_code 94 = .ok (.iconst 2, 1) := by decide +kernel
theorem d_Mo_readNames_95 : decode prog_12_method_38_code 95 = .ok (.idiv, 1) := by decide +kernel
theorem d_Mo_readNames_96 : decode prog_12_method_38_code 96 = .ok (.bipush 7, 2) := by decide +kernel
theorem d_Mo_readNames_98 : decode prog_12_method_38_code 98 = .ok (.if_icmp .ne 8, 3) := by decide +kernel
theorem d_Mo_readNames_101 : decode prog_12_method_38_code 101 = .ok (.aload_n 0, 1) := by decide +kernel
theorem d_Mo_readNames_102 : decode prog_12_method_38_code 102 = .ok (.invokevirtual 278, 3) := by decide +kernel
theorem d_Mo_readNames_105 : decode prog_12_method_38_code 105 = .ok (.ireturn, 1) := by decide +kernel
theorem d_Mo_readNames_106 : decode prog_12_method_38_code 106 = .ok (.aload_n 0, 1) := by decide +kernel
theorem d_Mo_readNames_107 : decode prog_12_method_38_code 107 = .ok (.dup, 1) := by decide +kernel
theorem d_Mo_readNames_108 : decode prog_12_method_38_code 108 = .ok (.getfield 270, 3) := by decide +kernel
theorem d_Mo_readNames_111 : decode prog_12_method_38_code 111 = .ok (.iconst 1, 1) := by decide +kernel
theorem d_Mo_readNames_112 : decode prog_12_method_38_code 112 = .ok (.iadd, 1) := by decide +kernel
theorem d_Mo_readNames_113 : decode prog_12_method_38_code 113 = .ok (.putfield 270, 3) := by decide +kernel
theorem d_Mo_readNames_116 : decode prog_12_method_38_code 116 = .ok (.goto (-111), 3) := by decide +kernel
set_option maxHeartbeats 4000000 in
set_option maxRecDepth 100000 in
theorem L_Mo_readNames_5 (l : Launch) (D : va_G) (cI cB cJ cS : ClassId) (h0 : Nat) (am : Nat → Nat) (a_all_m5 : Nat) (a_all_m7 : Nat) (a_all_m6 : Nat) (a_all_m4 : Nat) (known_h0 : Int32) (thrown_h0 : Int32) (wrong_h0 : Int32) (lastEnd_h0 : Int32) (at_h0 : Int32) (bad_h0 : Int32) (levels_h0 : Int32) (least_h0 : Int32) (found_h0 : Int32) (size_m5 : Int32) (n_a_all_m5 : Nat) (b_a_all_m5 : Nat → Int32) (size_m7 : Int32) (n_a_all_m7 : Nat) (b_a_all_m7 : Nat → Int32) (size_m6 : Int32) (n_a_all_m6 : Nat) (b_a_all_m6 : Nat → Int32) (size_m4 : Int32) (n_a_all_m4 : Nat) (b_a_all_m4 : Nat → Int32) (ret : Int32) (o_0_17 : Int32) (o_0_18 : Int32) (p : Program) (e : Env) (s : State) (m : MethodId) (below : List Frame) (meth : Method) (c : Code) (hr : meth.sig.returnType = (Option.some Jvm.ClassFile.FieldType.boolean)) (hnm : meth.name = y_Mo_readNames.name) : ∀ (k_5 : Nat) (f0_17_5 : Int32), F_Mo_readNames_5 known_h0 thrown_h0 wrong_h0 lastEnd_h0 at_h0 bad_h0 levels_h0 least_h0 found_h0 size_m5 n_a_all_m5 b_a_all_m5 size_m7 n_a_all_m7 b_a_all_m7 size_m6 n_a_all_m6 b_a_all_m6 size_m4 n_a_all_m4 b_a_all_m4  k_5 f0_17_5 = some (ret, o_0_17, o_0_18) → J (KxOf p l e { frames := 2, cells := 0, slots := 0, locals := 46 } s m [.ref h0].toArray below meth c D (gT cI cB cJ cS) [(h0, .inr (9, moF am known_h0 thrown_h0 wrong_h0 lastEnd_h0 at_h0 bad_h0 levels_h0 least_h0 found_h0)), ((am 5), .inr (8, [.ref a_all_m5, .int size_m5])), (a_all_m5, .inl (cI, n_a_all_m5, .inl b_a_all_m5)), ((am 7), .inr (8, [.ref a_all_m7, .int size_m7])), (a_all_m7, .inl (cI, n_a_all_m7, .inl b_a_all_m7)), ((am 6), .inr (8, [.ref a_all_m6, .int size_m6])), (a_all_m6, .inl (cI, n_a_all_m6, .inl b_a_all_m6)), ((am 4), .inr (8, [.ref a_all_m4, .int size_m4])), (a_all_m4, .inl (cI, n_a_all_m4, .inl b_a_all_m4))] (fun v w => v = some (.int ret) ∧ zb ret ∧ w = [(h0, .inr (9, moF am known_h0 thrown_h0 wrong_h0 lastEnd_h0 o_0_17 o_0_18 levels_h0 least_h0 found_h0)), ((am 5), .inr (8, [.ref a_all_m5, .int size_m5])), (a_all_m5, .inl (cI, n_a_all_m5, .inl b_a_all_m5)), ((am 7), .inr (8, [.ref a_all_m7, .int size_m7])), (a_all_m7, .inl (cI, n_a_all_m7, .inl b_a_all_m7)), ((am 6), .inr (8, [.ref a_all_m6, .int size_m6])), (a_all_m6, .inl (cI, n_a_all_m6, .inl b_a_all_m6)), ((am 4), .inr (8, [.ref a_all_m4, .int size_m4])), (a_all_m4, .inl (cI, n_a_all_m4, .inl b_a_all_m4))]) 0 0) prog_12_method_38_code 4 R_Mo 5 [(1, .int at_h0), (0, .ref h0)] [] [(h0, .inr (9, moF am known_h0 thrown_h0 wrong_h0 lastEnd_h0 f0_17_5 bad_h0 levels_h0 least_h0 found_h0)), ((am 5), .inr (8, [.ref a_all_m5, .int size_m5])), (a_all_m5, .inl (cI, n_a_all_m5, .inl b_a_all_m5)), ((am 7), .inr (8, [.ref a_all_m7, .int size_m7])), (a_all_m7, .inl (cI, n_a_all_m7, .inl b_a_all_m7)), ((am 6), .inr (8, [.ref a_all_m6, .int size_m6])), (a_all_m6, .inl (cI, n_a_all_m6, .inl b_a_all_m6)), ((am 4), .inr (8, [.ref a_all_m4, .int size_m4])), (a_all_m4, .inl (cI, n_a_all_m4, .inl b_a_all_m4))] 0 0 := by
  intro k_5
  induction k_5 with
  | zero => intro f0_17_5 h; rw [F_Mo_readNames_5] at h; cases h
  | succ k_5 ih_5 =>
    intro f0_17_5 h
    rw [F_Mo_readNames_5] at h
    have L_58 : ∀ (v3_58 : Int32) (v2_58 : Int32) (hz_v2_58 : zb v2_58), F_Mo_readNames_58 known_h0 thrown_h0 wrong_h0 lastEnd_h0 at_h0 bad_h0 levels_h0 least_h0 found_h0 size_m5 n_a_all_m5 b_a_all_m5 f0_17_5 (F_Mo_readNames_5 known_h0 thrown_h0 wrong_h0 lastEnd_h0 at_h0 bad_h0 levels_h0 least_h0 found_h0 size_m5 n_a_all_m5 b_a_all_m5 size_m7 n_a_all_m7 b_a_all_m7 size_m6 n_a_all_m6 b_a_all_m6 size_m4 n_a_all_m4 b_a_all_m4  k_5)  v3_58 v2_58 = some (ret, o_0_17, o_0_18) → J (KxOf p l e { frames := 2, cells := 0, slots := 0, locals := 46 } s m [.ref h0].toArray below meth c D (gT cI cB cJ cS) [(h0, .inr (9, moF am known_h0 thrown_h0 wrong_h0 lastEnd_h0 at_h0 bad_h0 levels_h0 least_h0 found_h0)), ((am 5), .inr (8, [.ref a_all_m5, .int size_m5])), (a_all_m5, .inl (cI, n_a_all_m5, .inl b_a_all_m5)), ((am 7), .inr (8, [.ref a_all_m7, .int size_m7])), (a_all_m7, .inl (cI, n_a_all_m7, .inl b_a_all_m7)), ((am 6), .inr (8, [.ref a_all_m6, .int size_m6])), (a_all_m6, .inl (cI, n_a_all_m6, .inl b_a_all_m6)), ((am 4), .inr (8, [.ref a_all_m4, .int size_m4])), (a_all_m4, .inl (cI, n_a_all_m4, .inl b_a_all_m4))] (fun v w => v = some (.int ret) ∧ zb ret ∧ w = [(h0, .inr (9, moF am known_h0 thrown_h0 wrong_h0 lastEnd_h0 o_0_17 o_0_18 levels_h0 least_h0 found_h0)), ((am 5), .inr (8, [.ref a_all_m5, .int size_m5])), (a_all_m5, .inl (cI, n_a_all_m5, .inl b_a_all_m5)), ((am 7), .inr (8, [.ref a_all_m7, .int size_m7])), (a_all_m7, .inl (cI, n_a_all_m7, .inl b_a_all_m7)), ((am 6), .inr (8, [.ref a_all_m6, .int size_m6])), (a_all_m6, .inl (cI, n_a_all_m6, .inl b_a_all_m6)), ((am 4), .inr (8, [.ref a_all_m4, .int size_m4])), (a_all_m4, .inl (cI, n_a_all_m4, .inl b_a_all_m4))]) 0 0) prog_12_method_38_code 4 R_Mo 58 [(3, .int v3_58), (2, .int v2_58), (1, .int at_h0), (0, .ref h0)] [] [((am 7), .inr (8, [.ref a_all_m7, .int size_m7])), (a_all_m7, .inl (cI, n_a_all_m7, .inl b_a_all_m7)), ((am 6), .inr (8, [.ref a_all_m6, .int size_m6])), (a_all_m6, .inl (cI, n_a_all_m6, .inl b_a_all_m6)), ((am 4), .inr (8, [.ref a_all_m4, .int size_m4])), (a_all_m4, .inl (cI, n_a_all_m4, .inl b_a_all_m4)), (h0, .inr (9, moF am known_h0 thrown_h0 wrong_h0 lastEnd_h0 f0_17_5 bad_h0 levels_h0 least_h0 found_h0)), ((am 5), .inr (8, [.ref a_all_m5, .int size_m5])), (a_all_m5, .inl (cI, n_a_all_m5, .inl b_a_all_m5))] 0 0 := by
      clear h
      intro v3_58 v2_58 hz_v2_58 h
      unfold F_Mo_readNames_58 at h
      refine j_iload_n d_Mo_readNames_58 rfl 1 rfl ?_
      refine j_if_ne (tgt := 67) d_Mo_readNames_59 (by decide) (fun c1 => ?_) (fun c1 => ?_)
      · replace h := it_f c1 h
        refine j_aload_n d_Mo_readNames_67 rfl 3 rfl ?_
        refine j_dup rfl d_Mo_readNames_68 ?_
        refine j_get ig_Mo rfl 6 rfl 17 (by decide) rfl m_1130 rfl d_Mo_readNames_69 ?_
        refine j_iconst (v := 1) d_Mo_readNames_72 (by decide) ?_
        refine j_iadd d_Mo_readNames_73 ?_
        refine j_put (ws' := [((am 7), .inr (8, [.ref a_all_m7, .int size_m7])), (a_all_m7, .inl (cI, n_a_all_m7, .inl b_a_all_m7)), ((am 6), .inr (8, [.ref a_all_m6, .int size_m6])), (a_all_m6, .inl (cI, n_a_all_m6, .inl b_a_all_m6)), ((am 4), .inr (8, [.ref a_all_m4, .int size_m4])), (a_all_m4, .inl (cI, n_a_all_m4, .inl b_a_all_m4)), (h0, .inr (9, moF am known_h0 thrown_h0 wrong_h0 lastEnd_h0 (f0_17_5 + 1) bad_h0 levels_h0 least_h0 found_h0)), ((am 5), .inr (8, [.ref a_all_m5, .int size_m5])), (a_all_m5, .inl (cI, n_a_all_m5, .inl b_a_all_m5))]) ig_Mo tk_Mo nm_Mo rfl 6 rfl 17 (by decide) rfl m_1130 rfl (tk_Mo 17 (by decide)) rfl rfl (Nat.le_of_ble_eq_true rfl) d_Mo_readNames_74 rfl ?_
        refine j_aload_n d_Mo_readNames_77 rfl 3 rfl ?_
        replace h := bd_s h
        obtain ⟨_, k2, h⟩ := h
        refine j_callV (n := 0) (As := []) (rest := []) (wr := [((am 7), .inr (8, [.ref a_all_m7, .int size_m7])), (a_all_m7, .inl (cI, n_a_all_m7, .inl b_a_all_m7)), ((am 6), .inr (8, [.ref a_all_m6, .int size_m6])), (a_all_m6, .inl (cI, n_a_all_m6, .inl b_a_all_m6)), ((am 4), .inr (8, [.ref a_all_m4, .int size_m4])), (a_all_m4, .inl (cI, n_a_all_m4, .inl b_a_all_m4))]) (c_Mo_kind l D cI cB cJ cS h0 am a_all_m5 known_h0 thrown_h0 wrong_h0 lastEnd_h0 (f0_17_5 + 1) bad_h0 levels_h0 least_h0 found_h0 size_m5 n_a_all_m5 b_a_all_m5  k2) k_Mo_275 (by decide) ⟨Nat.le_of_ble_eq_true rfl, Nat.le_of_ble_eq_true rfl⟩ rfl 0 rfl [6, 7, 8] [0, 1, 2, 3, 4, 5] rfl (by decide) rfl (by decide) (by decide) rfl rfl (Nat.le_of_ble_eq_true rfl) d_Mo_readNames_78 ⟨Nat.le_of_ble_eq_true rfl, Nat.le_of_ble_eq_true rfl⟩ (fun v w hq => ?_)
        obtain ⟨rfl, rfl⟩ := hq
        refine j_norm (pc' := 81) (st' := [.int (b_a_all_m5 (Int32.toNatClampNeg (f0_17_5 + 1)))]) (ws' := [((am 7), .inr (8, [.ref a_all_m7, .int size_m7])), (a_all_m7, .inl (cI, n_a_all_m7, .inl b_a_all_m7)), ((am 6), .inr (8, [.ref a_all_m6, .int size_m6])), (a_all_m6, .inl (cI, n_a_all_m6, .inl b_a_all_m6)), ((am 4), .inr (8, [.ref a_all_m4, .int size_m4])), (a_all_m4, .inl (cI, n_a_all_m4, .inl b_a_all_m4)), (h0, .inr (9, moF am known_h0 thrown_h0 wrong_h0 lastEnd_h0 (f0_17_5 + 1) bad_h0 levels_h0 least_h0 found_h0)), ((am 5), .inr (8, [.ref a_all_m5, .int size_m5])), (a_all_m5, .inl (cI, n_a_all_m5, .inl b_a_all_m5))]) (cl' := 0) (sl' := 0) rfl rfl rfl rfl rfl rfl ?_
        refine j_bipush (v := 54) d_Mo_readNames_81 (by decide) ?_
        refine j_icmp_eq (tgt := 88) d_Mo_readNames_83 (by decide) (fun c3 => ?_) (fun c3 => ?_)
        · replace h := it_t c3 h
          refine j_aload_n d_Mo_readNames_88 rfl 3 rfl ?_
          refine j_get ig_Mo rfl 6 rfl 17 (by decide) rfl m_1130 rfl d_Mo_readNames_89 ?_
          refine j_iload_n d_Mo_readNames_92 rfl 2 rfl ?_
          refine j_isub d_Mo_readNames_93 ?_
          refine j_iconst (v := 2) d_Mo_readNames_94 (by decide) ?_
          refine j_idiv (by decide) d_Mo_readNames_95 ?_
          refine j_bipush (v := 7) d_Mo_readNames_96 (by decide) ?_
          refine j_icmp_ne (tgt := 106) d_Mo_readNames_98 (by decide) (fun c4 => ?_) (fun c4 => ?_)
          · replace h := it_f c4 h
            refine j_aload_n d_Mo_readNames_106 rfl 3 rfl ?_
            refine j_dup rfl d_Mo_readNames_107 ?_
            refine j_get ig_Mo rfl 6 rfl 17 (by decide) rfl m_1130 rfl d_Mo_readNames_108 ?_
            refine j_iconst (v := 1) d_Mo_readNames_111 (by decide) ?_
            refine j_iadd d_Mo_readNames_112 ?_
            refine j_put (ws' := [((am 7), .inr (8, [.ref a_all_m7, .int size_m7])), (a_all_m7, .inl (cI, n_a_all_m7, .inl b_a_all_m7)), ((am 6), .inr (8, [.ref a_all_m6, .int size_m6])), (a_all_m6, .inl (cI, n_a_all_m6, .inl b_a_all_m6)), ((am 4), .inr (8, [.ref a_all_m4, .int size_m4])), (a_all_m4, .inl (cI, n_a_all_m4, .inl b_a_all_m4)), (h0, .inr (9, moF am known_h0 thrown_h0 wrong_h0 lastEnd_h0 ((f0_17_5 + 1) + 1) bad_h0 levels_h0 least_h0 found_h0)), ((am 5), .inr (8, [.ref a_all_m5, .int size_m5])), (a_all_m5, .inl (cI, n_a_all_m5, .inl b_a_all_m5))]) ig_Mo tk_Mo nm_Mo rfl 6 rfl 17 (by decide) rfl m_1130 rfl (tk_Mo 17 (by decide)) rfl rfl (Nat.le_of_ble_eq_true rfl) d_Mo_readNames_113 rfl ?_
            refine j_goto (tgt := 5) d_Mo_readNames_116 (by decide) ?_
            refine j_sub (w := [(h0, .inr (9, moF am known_h0 thrown_h0 wrong_h0 lastEnd_h0 ((f0_17_5 + 1) + 1) bad_h0 levels_h0 least_h0 found_h0)), ((am 5), .inr (8, [.ref a_all_m5, .int size_m5])), (a_all_m5, .inl (cI, n_a_all_m5, .inl b_a_all_m5)), ((am 7), .inr (8, [.ref a_all_m7, .int size_m7])), (a_all_m7, .inl (cI, n_a_all_m7, .inl b_a_all_m7)), ((am 6), .inr (8, [.ref a_all_m6, .int size_m6])), (a_all_m6, .inl (cI, n_a_all_m6, .inl b_a_all_m6)), ((am 4), .inr (8, [.ref a_all_m4, .int size_m4])), (a_all_m4, .inl (cI, n_a_all_m4, .inl b_a_all_m4))]) (lv' := [(1, .int at_h0), (0, .ref h0)]) [6, 7, 8, 0, 1, 2, 3, 4, 5] rfl (by decide) [2, 3] rfl ?_
            exact ih_5 ((f0_17_5 + 1) + 1) h
          · replace h := it_t c4 h
            refine j_aload_n d_Mo_readNames_101 rfl 3 rfl ?_
            refine j_callV (n := 0) (As := []) (rest := []) (wr := [((am 7), .inr (8, [.ref a_all_m7, .int size_m7])), (a_all_m7, .inl (cI, n_a_all_m7, .inl b_a_all_m7)), ((am 6), .inr (8, [.ref a_all_m6, .int size_m6])), (a_all_m6, .inl (cI, n_a_all_m6, .inl b_a_all_m6)), ((am 4), .inr (8, [.ref a_all_m4, .int size_m4])), (a_all_m4, .inl (cI, n_a_all_m4, .inl b_a_all_m4)), ((am 5), .inr (8, [.ref a_all_m5, .int size_m5])), (a_all_m5, .inl (cI, n_a_all_m5, .inl b_a_all_m5))]) (c_Mo_fail l D cI cB cJ cS h0 am known_h0 thrown_h0 wrong_h0 lastEnd_h0 (f0_17_5 + 1) bad_h0 levels_h0 least_h0 found_h0  ) k_Mo_278 (by decide) ⟨Nat.le_of_ble_eq_true rfl, Nat.le_of_ble_eq_true rfl⟩ rfl 0 rfl [6] [0, 1, 2, 3, 4, 5, 7, 8] rfl (by decide) rfl (by decide) (by decide) rfl rfl (Nat.le_of_ble_eq_true rfl) d_Mo_readNames_102 ⟨Nat.le_of_ble_eq_true rfl, Nat.le_of_ble_eq_true rfl⟩ (fun v w hq => ?_)
            obtain ⟨rfl, _, rfl⟩ := hq
            refine j_norm (pc' := 105) (st' := [.int 0]) (ws' := [((am 7), .inr (8, [.ref a_all_m7, .int size_m7])), (a_all_m7, .inl (cI, n_a_all_m7, .inl b_a_all_m7)), ((am 6), .inr (8, [.ref a_all_m6, .int size_m6])), (a_all_m6, .inl (cI, n_a_all_m6, .inl b_a_all_m6)), ((am 4), .inr (8, [.ref a_all_m4, .int size_m4])), (a_all_m4, .inl (cI, n_a_all_m4, .inl b_a_all_m4)), ((am 5), .inr (8, [.ref a_all_m5, .int size_m5])), (a_all_m5, .inl (cI, n_a_all_m5, .inl b_a_all_m5)), (h0, .inr (9, moF am known_h0 thrown_h0 wrong_h0 lastEnd_h0 (f0_17_5 + 1) (f0_17_5 + 1) levels_h0 least_h0 found_h0))]) (cl' := 0) (sl' := 0) rfl rfl rfl rfl rfl rfl ?_
            replace h := Option.some.inj h
            replace h := Prod.mk.inj h
            obtain ⟨h9, h⟩ := h
            subst h9
            replace h := Prod.mk.inj h
            obtain ⟨h9, h⟩ := h
            subst h9
            subst h
            exact j_zret (w := [(h0, .inr (9, moF am known_h0 thrown_h0 wrong_h0 lastEnd_h0 (f0_17_5 + 1) (f0_17_5 + 1) levels_h0 least_h0 found_h0)), ((am 5), .inr (8, [.ref a_all_m5, .int size_m5])), (a_all_m5, .inl (cI, n_a_all_m5, .inl b_a_all_m5)), ((am 7), .inr (8, [.ref a_all_m7, .int size_m7])), (a_all_m7, .inl (cI, n_a_all_m7, .inl b_a_all_m7)), ((am 6), .inr (8, [.ref a_all_m6, .int size_m6])), (a_all_m6, .inl (cI, n_a_all_m6, .inl b_a_all_m6)), ((am 4), .inr (8, [.ref a_all_m4, .int size_m4])), (a_all_m4, .inl (cI, n_a_all_m4, .inl b_a_all_m4))]) hr (zb_n zb0) d_Mo_readNames_105 [8, 6, 7, 0, 1, 2, 3, 4, 5] rfl (by decide) ⟨rfl, zb0, rfl⟩
        · replace h := it_f c3 h
          refine j_iconst (v := 1) d_Mo_readNames_86 (by decide) ?_
          replace h := Option.some.inj h
          replace h := Prod.mk.inj h
          obtain ⟨h9, h⟩ := h
          subst h9
          replace h := Prod.mk.inj h
          obtain ⟨h9, h⟩ := h
          subst h9
          subst h
          exact j_zret (w := [(h0, .inr (9, moF am known_h0 thrown_h0 wrong_h0 lastEnd_h0 (f0_17_5 + 1) bad_h0 levels_h0 least_h0 found_h0)), ((am 5), .inr (8, [.ref a_all_m5, .int size_m5])), (a_all_m5, .inl (cI, n_a_all_m5, .inl b_a_all_m5)), ((am 7), .inr (8, [.ref a_all_m7, .int size_m7])), (a_all_m7, .inl (cI, n_a_all_m7, .inl b_a_all_m7)), ((am 6), .inr (8, [.ref a_all_m6, .int size_m6])), (a_all_m6, .inl (cI, n_a_all_m6, .inl b_a_all_m6)), ((am 4), .inr (8, [.ref a_all_m4, .int size_m4])), (a_all_m4, .inl (cI, n_a_all_m4, .inl b_a_all_m4))]) hr (zb_n zb1) d_Mo_readNames_87 [6, 7, 8, 0, 1, 2, 3, 4, 5] rfl (by decide) ⟨rfl, zb1, rfl⟩
      · replace h := it_t c1 h
        refine j_aload_n d_Mo_readNames_62 rfl 3 rfl ?_
        refine j_callV (n := 0) (As := []) (rest := []) (wr := [((am 7), .inr (8, [.ref a_all_m7, .int size_m7])), (a_all_m7, .inl (cI, n_a_all_m7, .inl b_a_all_m7)), ((am 6), .inr (8, [.ref a_all_m6, .int size_m6])), (a_all_m6, .inl (cI, n_a_all_m6, .inl b_a_all_m6)), ((am 4), .inr (8, [.ref a_all_m4, .int size_m4])), (a_all_m4, .inl (cI, n_a_all_m4, .inl b_a_all_m4)), ((am 5), .inr (8, [.ref a_all_m5, .int size_m5])), (a_all_m5, .inl (cI, n_a_all_m5, .inl b_a_all_m5))]) (c_Mo_fail l D cI cB cJ cS h0 am known_h0 thrown_h0 wrong_h0 lastEnd_h0 f0_17_5 bad_h0 levels_h0 least_h0 found_h0  ) k_Mo_278 (by decide) ⟨Nat.le_of_ble_eq_true rfl, Nat.le_of_ble_eq_true rfl⟩ rfl 0 rfl [6] [0, 1, 2, 3, 4, 5, 7, 8] rfl (by decide) rfl (by decide) (by decide) rfl rfl (Nat.le_of_ble_eq_true rfl) d_Mo_readNames_63 ⟨Nat.le_of_ble_eq_true rfl, Nat.le_of_ble_eq_true rfl⟩ (fun v w hq => ?_)
        obtain ⟨rfl, _, rfl⟩ := hq
        refine j_norm (pc' := 66) (st' := [.int 0]) (ws' := [((am 7), .inr (8, [.ref a_all_m7, .int size_m7])), (a_all_m7, .inl (cI, n_a_all_m7, .inl b_a_all_m7)), ((am 6), .inr (8, [.ref a_all_m6, .int size_m6])), (a_all_m6, .inl (cI, n_a_all_m6, .inl b_a_all_m6)), ((am 4), .inr (8, [.ref a_all_m4, .int size_m4])), (a_all_m4, .inl (cI, n_a_all_m4, .inl b_a_all_m4)), ((am 5), .inr (8, [.ref a_all_m5, .int size_m5])), (a_all_m5, .inl (cI, n_a_all_m5, .inl b_a_all_m5)), (h0, .inr (9, moF am known_h0 thrown_h0 wrong_h0 lastEnd_h0 f0_17_5 f0_17_5 levels_h0 least_h0 found_h0))]) (cl' := 0) (sl' := 0) rfl rfl rfl rfl rfl rfl ?_
        replace h := Option.some.inj h
        replace h := Prod.mk.inj h
        obtain ⟨h9, h⟩ := h
        subst h9
        replace h := Prod.mk.inj h
        obtain ⟨h9, h⟩ := h
        subst h9
        subst h
        exact j_zret (w := [(h0, .inr (9, moF am known_h0 thrown_h0 wrong_h0 lastEnd_h0 f0_17_5 f0_17_5 levels_h0 least_h0 found_h0)), ((am 5), .inr (8, [.ref a_all_m5, .int size_m5])), (a_all_m5, .inl (cI, n_a_all_m5, .inl b_a_all_m5)), ((am 7), .inr (8, [.ref a_all_m7, .int size_m7])), (a_all_m7, .inl (cI, n_a_all_m7, .inl b_a_all_m7)), ((am 6), .inr (8, [.ref a_all_m6, .int size_m6])), (a_all_m6, .inl (cI, n_a_all_m6, .inl b_a_all_m6)), ((am 4), .inr (8, [.ref a_all_m4, .int size_m4])), (a_all_m4, .inl (cI, n_a_all_m4, .inl b_a_all_m4))]) hr (zb_n zb0) d_Mo_readNames_66 [8, 6, 7, 0, 1, 2, 3, 4, 5] rfl (by decide) ⟨rfl, zb0, rfl⟩
    have L_21 : ∀ (k_21 : Nat) (v3_21 : Int32) (v2_21 : Int32) (hz_v2_21 : zb v2_21), F_Mo_readNames_21 known_h0 thrown_h0 wrong_h0 lastEnd_h0 at_h0 bad_h0 levels_h0 least_h0 found_h0 size_m5 n_a_all_m5 b_a_all_m5 size_m7 n_a_all_m7 b_a_all_m7 size_m6 n_a_all_m6 b_a_all_m6 size_m4 n_a_all_m4 b_a_all_m4 f0_17_5 (F_Mo_readNames_5 known_h0 thrown_h0 wrong_h0 lastEnd_h0 at_h0 bad_h0 levels_h0 least_h0 found_h0 size_m5 n_a_all_m5 b_a_all_m5 size_m7 n_a_all_m7 b_a_all_m7 size_m6 n_a_all_m6 b_a_all_m6 size_m4 n_a_all_m4 b_a_all_m4  k_5) k_21 v3_21 v2_21 = some (ret, o_0_17, o_0_18) → J (KxOf p l e { frames := 2, cells := 0, slots := 0, locals := 46 } s m [.ref h0].toArray below meth c D (gT cI cB cJ cS) [(h0, .inr (9, moF am known_h0 thrown_h0 wrong_h0 lastEnd_h0 at_h0 bad_h0 levels_h0 least_h0 found_h0)), ((am 5), .inr (8, [.ref a_all_m5, .int size_m5])), (a_all_m5, .inl (cI, n_a_all_m5, .inl b_a_all_m5)), ((am 7), .inr (8, [.ref a_all_m7, .int size_m7])), (a_all_m7, .inl (cI, n_a_all_m7, .inl b_a_all_m7)), ((am 6), .inr (8, [.ref a_all_m6, .int size_m6])), (a_all_m6, .inl (cI, n_a_all_m6, .inl b_a_all_m6)), ((am 4), .inr (8, [.ref a_all_m4, .int size_m4])), (a_all_m4, .inl (cI, n_a_all_m4, .inl b_a_all_m4))] (fun v w => v = some (.int ret) ∧ zb ret ∧ w = [(h0, .inr (9, moF am known_h0 thrown_h0 wrong_h0 lastEnd_h0 o_0_17 o_0_18 levels_h0 least_h0 found_h0)), ((am 5), .inr (8, [.ref a_all_m5, .int size_m5])), (a_all_m5, .inl (cI, n_a_all_m5, .inl b_a_all_m5)), ((am 7), .inr (8, [.ref a_all_m7, .int size_m7])), (a_all_m7, .inl (cI, n_a_all_m7, .inl b_a_all_m7)), ((am 6), .inr (8, [.ref a_all_m6, .int size_m6])), (a_all_m6, .inl (cI, n_a_all_m6, .inl b_a_all_m6)), ((am 4), .inr (8, [.ref a_all_m4, .int size_m4])), (a_all_m4, .inl (cI, n_a_all_m4, .inl b_a_all_m4))]) 0 0) prog_12_method_38_code 4 R_Mo 21 [(3, .int v3_21), (2, .int v2_21), (1, .int at_h0), (0, .ref h0)] [] [((am 7), .inr (8, [.ref a_all_m7, .int size_m7])), (a_all_m7, .inl (cI, n_a_all_m7, .inl b_a_all_m7)), ((am 6), .inr (8, [.ref a_all_m6, .int size_m6])), (a_all_m6, .inl (cI, n_a_all_m6, .inl b_a_all_m6)), ((am 4), .inr (8, [.ref a_all_m4, .int size_m4])), (a_all_m4, .inl (cI, n_a_all_m4, .inl b_a_all_m4)), (h0, .inr (9, moF am known_h0 thrown_h0 wrong_h0 lastEnd_h0 f0_17_5 bad_h0 levels_h0 least_h0 found_h0)), ((am 5), .inr (8, [.ref a_all_m5, .int size_m5])), (a_all_m5, .inl (cI, n_a_all_m5, .inl b_a_all_m5))] 0 0 := by
      clear h
      intro k_21
      induction k_21 with
      | zero => intro v3_21 v2_21 hz_v2_21 h; rw [F_Mo_readNames_21] at h; cases h
      | succ k_21 ih_21 =>
        intro v3_21 v2_21 hz_v2_21 h
        rw [F_Mo_readNames_21] at h
        refine j_iload_n d_Mo_readNames_21 rfl 0 rfl ?_
        refine j_aload_n d_Mo_readNames_22 rfl 3 rfl ?_
        refine j_get ig_Mo rfl 6 rfl 17 (by decide) rfl m_1130 rfl d_Mo_readNames_23 ?_
        refine j_icmp_ge (tgt := 58) d_Mo_readNames_26 (by decide) (fun c7 => ?_) (fun c7 => ?_)
        · replace h := it_t c7 h
          refine j_sub (w := [((am 7), .inr (8, [.ref a_all_m7, .int size_m7])), (a_all_m7, .inl (cI, n_a_all_m7, .inl b_a_all_m7)), ((am 6), .inr (8, [.ref a_all_m6, .int size_m6])), (a_all_m6, .inl (cI, n_a_all_m6, .inl b_a_all_m6)), ((am 4), .inr (8, [.ref a_all_m4, .int size_m4])), (a_all_m4, .inl (cI, n_a_all_m4, .inl b_a_all_m4)), (h0, .inr (9, moF am known_h0 thrown_h0 wrong_h0 lastEnd_h0 f0_17_5 bad_h0 levels_h0 least_h0 found_h0)), ((am 5), .inr (8, [.ref a_all_m5, .int size_m5])), (a_all_m5, .inl (cI, n_a_all_m5, .inl b_a_all_m5))]) (lv' := [(3, .int v3_21), (2, .int v2_21), (1, .int at_h0), (0, .ref h0)]) [0, 1, 2, 3, 4, 5, 6, 7, 8] rfl (by decide) [0, 1, 2, 3] rfl ?_
          exact L_58 v3_21 v2_21 hz_v2_21 h
        · replace h := it_f c7 h
          refine j_iload_n d_Mo_readNames_29 rfl 1 rfl ?_
          refine j_if_eq (tgt := 58) d_Mo_readNames_30 (by decide) (fun c8 => ?_) (fun c8 => ?_)
          · replace h := it_t c8 h
            refine j_sub (w := [((am 7), .inr (8, [.ref a_all_m7, .int size_m7])), (a_all_m7, .inl (cI, n_a_all_m7, .inl b_a_all_m7)), ((am 6), .inr (8, [.ref a_all_m6, .int size_m6])), (a_all_m6, .inl (cI, n_a_all_m6, .inl b_a_all_m6)), ((am 4), .inr (8, [.ref a_all_m4, .int size_m4])), (a_all_m4, .inl (cI, n_a_all_m4, .inl b_a_all_m4)), (h0, .inr (9, moF am known_h0 thrown_h0 wrong_h0 lastEnd_h0 f0_17_5 bad_h0 levels_h0 least_h0 found_h0)), ((am 5), .inr (8, [.ref a_all_m5, .int size_m5])), (a_all_m5, .inl (cI, n_a_all_m5, .inl b_a_all_m5))]) (lv' := [(3, .int v3_21), (2, .int v2_21), (1, .int at_h0), (0, .ref h0)]) [0, 1, 2, 3, 4, 5, 6, 7, 8] rfl (by decide) [0, 1, 2, 3] rfl ?_
            exact L_58 v3_21 v2_21 hz_v2_21 h
          · replace h := it_f c8 h
            refine j_aload_n d_Mo_readNames_33 rfl 3 rfl ?_
            refine j_iload_n d_Mo_readNames_34 rfl 0 rfl ?_
            refine j_aload_n d_Mo_readNames_35 rfl 3 rfl ?_
            refine j_get ig_Mo rfl 6 rfl 17 (by decide) rfl m_1130 rfl d_Mo_readNames_36 ?_
            replace h := bd_s h
            obtain ⟨r9, k11, h⟩ := h
            refine j_callV (n := 2) (As := [.int v3_21, .int f0_17_5]) (rest := []) (wr := [((am 5), .inr (8, [.ref a_all_m5, .int size_m5])), (a_all_m5, .inl (cI, n_a_all_m5, .inl b_a_all_m5))]) (c_Mo_sameName l D cI cB cJ cS h0 am a_all_m7 a_all_m6 a_all_m4 v3_21 f0_17_5 known_h0 thrown_h0 wrong_h0 lastEnd_h0 f0_17_5 bad_h0 levels_h0 least_h0 found_h0 size_m7 n_a_all_m7 b_a_all_m7 size_m6 n_a_all_m6 b_a_all_m6 size_m4 n_a_all_m4 b_a_all_m4  r9 k11) k_Mo_332 (by decide) ⟨Nat.le_of_ble_eq_true rfl, Nat.le_of_ble_eq_true rfl⟩ rfl 0 rfl [6, 0, 1, 2, 3, 4, 5] [7, 8] rfl (by decide) rfl (by decide) (by decide) rfl rfl (Nat.le_of_ble_eq_true rfl) d_Mo_readNames_39 ⟨Nat.le_of_ble_eq_true rfl, Nat.le_of_ble_eq_true rfl⟩ (fun v w hq => ?_)
            obtain ⟨rfl, z10, rfl⟩ := hq
            refine j_norm (pc' := 42) (st' := [.int r9]) (ws' := [((am 5), .inr (8, [.ref a_all_m5, .int size_m5])), (a_all_m5, .inl (cI, n_a_all_m5, .inl b_a_all_m5)), (h0, .inr (9, moF am known_h0 thrown_h0 wrong_h0 lastEnd_h0 f0_17_5 bad_h0 levels_h0 least_h0 found_h0)), ((am 7), .inr (8, [.ref a_all_m7, .int size_m7])), (a_all_m7, .inl (cI, n_a_all_m7, .inl b_a_all_m7)), ((am 6), .inr (8, [.ref a_all_m6, .int size_m6])), (a_all_m6, .inl (cI, n_a_all_m6, .inl b_a_all_m6)), ((am 4), .inr (8, [.ref a_all_m4, .int size_m4])), (a_all_m4, .inl (cI, n_a_all_m4, .inl b_a_all_m4))]) (cl' := 0) (sl' := 0) rfl rfl rfl rfl rfl rfl ?_
            refine j_if_ne (tgt := 49) d_Mo_readNames_42 (by decide) (fun c12 => ?_) (fun c12 => ?_)
            · replace h := it_f c12 h
              refine j_iconst (v := 0) d_Mo_readNames_49 (by decide) ?_
              refine j_istore_n (lv' := [(2, .int 0), (3, .int v3_21), (1, .int at_h0), (0, .ref h0)]) d_Mo_readNames_50 rfl (by decide) rfl ?_
              refine j_iload_n d_Mo_readNames_51 rfl 1 rfl ?_
              refine j_iconst (v := 2) d_Mo_readNames_52 (by decide) ?_
              refine j_iadd d_Mo_readNames_53 ?_
              refine j_istore_n (lv' := [(3, .int (v3_21 + 2)), (2, .int 0), (1, .int at_h0), (0, .ref h0)]) d_Mo_readNames_54 rfl (by decide) rfl ?_
              refine j_goto (tgt := 21) d_Mo_readNames_55 (by decide) ?_
              refine j_sub (w := [((am 7), .inr (8, [.ref a_all_m7, .int size_m7])), (a_all_m7, .inl (cI, n_a_all_m7, .inl b_a_all_m7)), ((am 6), .inr (8, [.ref a_all_m6, .int size_m6])), (a_all_m6, .inl (cI, n_a_all_m6, .inl b_a_all_m6)), ((am 4), .inr (8, [.ref a_all_m4, .int size_m4])), (a_all_m4, .inl (cI, n_a_all_m4, .inl b_a_all_m4)), (h0, .inr (9, moF am known_h0 thrown_h0 wrong_h0 lastEnd_h0 f0_17_5 bad_h0 levels_h0 least_h0 found_h0)), ((am 5), .inr (8, [.ref a_all_m5, .int size_m5])), (a_all_m5, .inl (cI, n_a_all_m5, .inl b_a_all_m5))]) (lv' := [(3, .int (v3_21 + 2)), (2, .int 0), (1, .int at_h0), (0, .ref h0)]) [3, 4, 5, 6, 7, 8, 2, 0, 1] rfl (by decide) [0, 1, 2, 3] rfl ?_
              exact ih_21 (v3_21 + 2) 0 zb0 h
            · replace h := it_t c12 h
              refine j_iconst (v := 1) d_Mo_readNames_45 (by decide) ?_
              refine j_goto (tgt := 50) d_Mo_readNames_46 (by decide) ?_
              refine j_istore_n (lv' := [(2, .int 1), (3, .int v3_21), (1, .int at_h0), (0, .ref h0)]) d_Mo_readNames_50 rfl (by decide) rfl ?_
              refine j_iload_n d_Mo_readNames_51 rfl 1 rfl ?_
              refine j_iconst (v := 2) d_Mo_readNames_52 (by decide) ?_
              refine j_iadd d_Mo_readNames_53 ?_
              refine j_istore_n (lv' := [(3, .int (v3_21 + 2)), (2, .int 1), (1, .int at_h0), (0, .ref h0)]) d_Mo_readNames_54 rfl (by decide) rfl ?_
              refine j_goto (tgt := 21) d_Mo_readNames_55 (by decide) ?_
              refine j_sub (w := [((am 7), .inr (8, [.ref a_all_m7, .int size_m7])), (a_all_m7, .inl (cI, n_a_all_m7, .inl b_a_all_m7)), ((am 6), .inr (8, [.ref a_all_m6, .int size_m6])), (a_all_m6, .inl (cI, n_a_all_m6, .inl b_a_all_m6)), ((am 4), .inr (8, [.ref a_all_m4, .int size_m4])), (a_all_m4, .inl (cI, n_a_all_m4, .inl b_a_all_m4)), (h0, .inr (9, moF am known_h0 thrown_h0 wrong_h0 lastEnd_h0 f0_17_5 bad_h0 levels_h0 least_h0 found_h0)), ((am 5), .inr (8, [.ref a_all_m5, .int size_m5])), (a_all_m5, .inl (cI, n_a_all_m5, .inl b_a_all_m5))]) (lv' := [(3, .int (v3_21 + 2)), (2, .int 1), (1, .int at_h0), (0, .ref h0)]) [3, 4, 5, 6, 7, 8, 2, 0, 1] rfl (by decide) [0, 1, 2, 3] rfl ?_
              exact ih_21 (v3_21 + 2) 1 zb1 h
    refine j_aload_n d_Mo_readNames_5 rfl 1 rfl ?_
    replace h := bd_s h
    obtain ⟨_, k13, h⟩ := h
    refine j_callV (n := 0) (As := []) (rest := []) (wr := [((am 7), .inr (8, [.ref a_all_m7, .int size_m7])), (a_all_m7, .inl (cI, n_a_all_m7, .inl b_a_all_m7)), ((am 6), .inr (8, [.ref a_all_m6, .int size_m6])), (a_all_m6, .inl (cI, n_a_all_m6, .inl b_a_all_m6)), ((am 4), .inr (8, [.ref a_all_m4, .int size_m4])), (a_all_m4, .inl (cI, n_a_all_m4, .inl b_a_all_m4))]) (c_Mo_kind l D cI cB cJ cS h0 am a_all_m5 known_h0 thrown_h0 wrong_h0 lastEnd_h0 f0_17_5 bad_h0 levels_h0 least_h0 found_h0 size_m5 n_a_all_m5 b_a_all_m5  k13) k_Mo_275 (by decide) ⟨Nat.le_of_ble_eq_true rfl, Nat.le_of_ble_eq_true rfl⟩ rfl 0 rfl [0, 1, 2] [3, 4, 5, 6, 7, 8] rfl (by decide) rfl (by decide) (by decide) rfl rfl (Nat.le_of_ble_eq_true rfl) d_Mo_readNames_6 ⟨Nat.le_of_ble_eq_true rfl, Nat.le_of_ble_eq_true rfl⟩ (fun v w hq => ?_)
    obtain ⟨rfl, rfl⟩ := hq
    refine j_norm (pc' := 9) (st' := [.int (b_a_all_m5 (Int32.toNatClampNeg f0_17_5))]) (ws' := [((am 7), .inr (8, [.ref a_all_m7, .int size_m7])), (a_all_m7, .inl (cI, n_a_all_m7, .inl b_a_all_m7)), ((am 6), .inr (8, [.ref a_all_m6, .int size_m6])), (a_all_m6, .inl (cI, n_a_all_m6, .inl b_a_all_m6)), ((am 4), .inr (8, [.ref a_all_m4, .int size_m4])), (a_all_m4, .inl (cI, n_a_all_m4, .inl b_a_all_m4)), (h0, .inr (9, moF am known_h0 thrown_h0 wrong_h0 lastEnd_h0 f0_17_5 bad_h0 levels_h0 least_h0 found_h0)), ((am 5), .inr (8, [.ref a_all_m5, .int size_m5])), (a_all_m5, .inl (cI, n_a_all_m5, .inl b_a_all_m5))]) (cl' := 0) (sl' := 0) rfl rfl rfl rfl rfl rfl ?_
    refine j_iconst (v := 2) d_Mo_readNames_9 (by decide) ?_
    refine j_icmp_ne (tgt := 17) d_Mo_readNames_10 (by decide) (fun c14 => ?_) (fun c14 => ?_)
    · replace h := it_f c14 h
      refine j_iconst (v := 0) d_Mo_readNames_17 (by decide) ?_
      refine j_istore_n (lv' := [(2, .int 0), (1, .int at_h0), (0, .ref h0)]) d_Mo_readNames_18 rfl (by decide) rfl ?_
      refine j_iload_n d_Mo_readNames_19 rfl 1 rfl ?_
      refine j_istore_n (lv' := [(3, .int at_h0), (2, .int 0), (1, .int at_h0), (0, .ref h0)]) d_Mo_readNames_20 rfl (by decide) rfl ?_
      refine j_sub (w := [((am 7), .inr (8, [.ref a_all_m7, .int size_m7])), (a_all_m7, .inl (cI, n_a_all_m7, .inl b_a_all_m7)), ((am 6), .inr (8, [.ref a_all_m6, .int size_m6])), (a_all_m6, .inl (cI, n_a_all_m6, .inl b_a_all_m6)), ((am 4), .inr (8, [.ref a_all_m4, .int size_m4])), (a_all_m4, .inl (cI, n_a_all_m4, .inl b_a_all_m4)), (h0, .inr (9, moF am known_h0 thrown_h0 wrong_h0 lastEnd_h0 f0_17_5 bad_h0 levels_h0 least_h0 found_h0)), ((am 5), .inr (8, [.ref a_all_m5, .int size_m5])), (a_all_m5, .inl (cI, n_a_all_m5, .inl b_a_all_m5))]) (lv' := [(3, .int at_h0), (2, .int 0), (1, .int at_h0), (0, .ref h0)]) [0, 1, 2, 3, 4, 5, 6, 7, 8] rfl (by decide) [0, 1, 2, 3] rfl ?_
      exact L_21 FU at_h0 0 zb0 h
    · replace h := it_t c14 h
      refine j_iconst (v := 1) d_Mo_readNames_13 (by decide) ?_
      refine j_goto (tgt := 18) d_Mo_readNames_14 (by decide) ?_
      refine j_istore_n (lv' := [(2, .int 1), (1, .int at_h0), (0, .ref h0)]) d_Mo_readNames_18 rfl (by decide) rfl ?_
      refine j_iload_n d_Mo_readNames_19 rfl 1 rfl ?_
      refine j_istore_n (lv' := [(3, .int at_h0), (2, .int 1), (1, .int at_h0), (0, .ref h0)]) d_Mo_readNames_20 rfl (by decide) rfl ?_
      refine j_sub (w := [((am 7), .inr (8, [.ref a_all_m7, .int size_m7])), (a_all_m7, .inl (cI, n_a_all_m7, .inl b_a_all_m7)), ((am 6), .inr (8, [.ref a_all_m6, .int size_m6])), (a_all_m6, .inl (cI, n_a_all_m6, .inl b_a_all_m6)), ((am 4), .inr (8, [.ref a_all_m4, .int size_m4])), (a_all_m4, .inl (cI, n_a_all_m4, .inl b_a_all_m4)), (h0, .inr (9, moF am known_h0 thrown_h0 wrong_h0 lastEnd_h0 f0_17_5 bad_h0 levels_h0 least_h0 found_h0)), ((am 5), .inr (8, [.ref a_all_m5, .int size_m5])), (a_all_m5, .inl (cI, n_a_all_m5, .inl b_a_all_m5))]) (lv' := [(3, .int at_h0), (2, .int 1), (1, .int at_h0), (0, .ref h0)]) [0, 1, 2, 3, 4, 5, 6, 7, 8] rfl (by decide) [0, 1, 2, 3] rfl ?_
      exact L_21 FU at_h0 1 zb1 h
set_option maxHeartbeats 4000000 in
set_option maxRecDepth 100000 in
theorem c_Mo_readNames (l : Launch) (D : va_G) (cI cB cJ cS : ClassId) (h0 : Nat) (am : Nat → Nat) (a_all_m5 : Nat) (a_all_m7 : Nat) (a_all_m6 : Nat) (a_all_m4 : Nat) (known_h0 : Int32) (thrown_h0 : Int32) (wrong_h0 : Int32) (lastEnd_h0 : Int32) (at_h0 : Int32) (bad_h0 : Int32) (levels_h0 : Int32) (least_h0 : Int32) (found_h0 : Int32) (size_m5 : Int32) (n_a_all_m5 : Nat) (b_a_all_m5 : Nat → Int32) (size_m7 : Int32) (n_a_all_m7 : Nat) (b_a_all_m7 : Nat → Int32) (size_m6 : Int32) (n_a_all_m6 : Nat) (b_a_all_m6 : Nat → Int32) (size_m4 : Int32) (n_a_all_m4 : Nat) (b_a_all_m4 : Nat → Int32) (ret : Int32) (o_0_17 : Int32) (o_0_18 : Int32) (h : F_Mo_readNames known_h0 thrown_h0 wrong_h0 lastEnd_h0 at_h0 bad_h0 levels_h0 least_h0 found_h0 size_m5 n_a_all_m5 b_a_all_m5 size_m7 n_a_all_m7 b_a_all_m7 size_m6 n_a_all_m6 b_a_all_m6 size_m4 n_a_all_m4 b_a_all_m4 = some (ret, o_0_17, o_0_18)) : Ct l D (gT cI cB cJ cS) y_Mo_readNames prog_12_method_38_code 4 (Option.some Jvm.ClassFile.FieldType.boolean) 2 46 0 0 [.ref h0] [(h0, .inr (9, moF am known_h0 thrown_h0 wrong_h0 lastEnd_h0 at_h0 bad_h0 levels_h0 least_h0 found_h0)), ((am 5), .inr (8, [.ref a_all_m5, .int size_m5])), (a_all_m5, .inl (cI, n_a_all_m5, .inl b_a_all_m5)), ((am 7), .inr (8, [.ref a_all_m7, .int size_m7])), (a_all_m7, .inl (cI, n_a_all_m7, .inl b_a_all_m7)), ((am 6), .inr (8, [.ref a_all_m6, .int size_m6])), (a_all_m6, .inl (cI, n_a_all_m6, .inl b_a_all_m6)), ((am 4), .inr (8, [.ref a_all_m4, .int size_m4])), (a_all_m4, .inl (cI, n_a_all_m4, .inl b_a_all_m4))] (fun v w => v = some (.int ret) ∧ zb ret ∧ w = [(h0, .inr (9, moF am known_h0 thrown_h0 wrong_h0 lastEnd_h0 o_0_17 o_0_18 levels_h0 least_h0 found_h0)), ((am 5), .inr (8, [.ref a_all_m5, .int size_m5])), (a_all_m5, .inl (cI, n_a_all_m5, .inl b_a_all_m5)), ((am 7), .inr (8, [.ref a_all_m7, .int size_m7])), (a_all_m7, .inl (cI, n_a_all_m7, .inl b_a_all_m7)), ((am 6), .inr (8, [.ref a_all_m6, .int size_m6])), (a_all_m6, .inl (cI, n_a_all_m6, .inl b_a_all_m6)), ((am 4), .inr (8, [.ref a_all_m4, .int size_m4])), (a_all_m4, .inl (cI, n_a_all_m4, .inl b_a_all_m4))]) := by
  refine Ct.mk (by decide) (Nat.le_of_ble_eq_true rfl) ?_
  intro p e s m below meth c hr hnm
  refine j_norm (pc' := 0) (lv' := [(0, .ref h0)]) (st' := []) (ws' := [(h0, .inr (9, moF am known_h0 thrown_h0 wrong_h0 lastEnd_h0 at_h0 bad_h0 levels_h0 least_h0 found_h0)), ((am 5), .inr (8, [.ref a_all_m5, .int size_m5])), (a_all_m5, .inl (cI, n_a_all_m5, .inl b_a_all_m5)), ((am 7), .inr (8, [.ref a_all_m7, .int size_m7])), (a_all_m7, .inl (cI, n_a_all_m7, .inl b_a_all_m7)), ((am 6), .inr (8, [.ref a_all_m6, .int size_m6])), (a_all_m6, .inl (cI, n_a_all_m6, .inl b_a_all_m6)), ((am 4), .inr (8, [.ref a_all_m4, .int size_m4])), (a_all_m4, .inl (cI, n_a_all_m4, .inl b_a_all_m4))]) (cl' := 0) (sl' := 0) rfl rfl rfl rfl rfl rfl ?_
  unfold F_Mo_readNames at h
  refine j_aload_n d_Mo_readNames_0 rfl 0 rfl ?_
  refine j_get ig_Mo rfl 0 rfl 17 (by decide) rfl m_1130 rfl d_Mo_readNames_1 ?_
  refine j_istore_n (lv' := [(1, .int at_h0), (0, .ref h0)]) d_Mo_readNames_4 rfl (by decide) rfl ?_
  refine j_sub (w := [(h0, .inr (9, moF am known_h0 thrown_h0 wrong_h0 lastEnd_h0 at_h0 bad_h0 levels_h0 least_h0 found_h0)), ((am 5), .inr (8, [.ref a_all_m5, .int size_m5])), (a_all_m5, .inl (cI, n_a_all_m5, .inl b_a_all_m5)), ((am 7), .inr (8, [.ref a_all_m7, .int size_m7])), (a_all_m7, .inl (cI, n_a_all_m7, .inl b_a_all_m7)), ((am 6), .inr (8, [.ref a_all_m6, .int size_m6])), (a_all_m6, .inl (cI, n_a_all_m6, .inl b_a_all_m6)), ((am 4), .inr (8, [.ref a_all_m4, .int size_m4])), (a_all_m4, .inl (cI, n_a_all_m4, .inl b_a_all_m4))]) (lv' := [(1, .int at_h0), (0, .ref h0)]) [0, 1, 2, 3, 4, 5, 6, 7, 8] rfl (by decide) [0, 1] rfl ?_
  exact L_Mo_readNames_5 l D cI cB cJ cS h0 am a_all_m5 a_all_m7 a_all_m6 a_all_m4 known_h0 thrown_h0 wrong_h0 lastEnd_h0 at_h0 bad_h0 levels_h0 least_h0 found_h0 size_m5 n_a_all_m5 b_a_all_m5 size_m7 n_a_all_m7 b_a_all_m7 size_m6 n_a_all_m6 b_a_all_m6 size_m4 n_a_all_m4 b_a_all_m4 ret o_0_17 o_0_18 p e s m below meth c hr hnm FU at_h0 h
def F_Mo_isFunction_4 (p1 : Int32) (known_h0 : Int32) (thrown_h0 : Int32) (wrong_h0 : Int32) (lastEnd_h0 : Int32) (at_h0 : Int32) (bad_h0 : Int32) (levels_h0 : Int32) (least_h0 : Int32) (found_h0 : Int32) (size_m22 : Int32) (n_a_all_m22 : Nat) (b_a_all_m22 : Nat → Int32) (size_m7 : Int32) (n_a_all_m7 : Nat) (b_a_all_m7 : Nat → Int32) (size_m6 : Int32) (n_a_all_m6 : Nat) (b_a_all_m6 : Nat → Int32) (size_m4 : Int32) (n_a_all_m4 : Nat) (b_a_all_m4 : Nat → Int32) : Nat → Int32 → Int32 → Option (Int32)
  | 0, _, _ => none
  | k_4 + 1, v3_4, v2_4 =>
    if size_m22 ≤ v3_4 then (some v2_4)
    else if v2_4 = 0 then (Option.bind (F_Nm_at v3_4 size_m22 n_a_all_m22 b_a_all_m22) fun _ =>
      Option.bind (F_Mo_sameName (b_a_all_m22 (Int32.toNatClampNeg v3_4)) p1 known_h0 thrown_h0 wrong_h0 lastEnd_h0 at_h0 bad_h0 levels_h0 least_h0 found_h0 size_m7 n_a_all_m7 b_a_all_m7 size_m6 n_a_all_m6 b_a_all_m6 size_m4 n_a_all_m4 b_a_all_m4) fun r4 =>
      if r4 = 0 then (F_Mo_isFunction_4 p1 known_h0 thrown_h0 wrong_h0 lastEnd_h0 at_h0 bad_h0 levels_h0 least_h0 found_h0 size_m22 n_a_all_m22 b_a_all_m22 size_m7 n_a_all_m7 b_a_all_m7 size_m6 n_a_all_m6 b_a_all_m6 size_m4 n_a_all_m4 b_a_all_m4  k_4 (v3_4 + 1) 0)
      else (F_Mo_isFunction_4 p1 known_h0 thrown_h0 wrong_h0 lastEnd_h0 at_h0 bad_h0 levels_h0 least_h0 found_h0 size_m22 n_a_all_m22 b_a_all_m22 size_m7 n_a_all_m7 b_a_all_m7 size_m6 n_a_all_m6 b_a_all_m6 size_m4 n_a_all_m4 b_a_all_m4  k_4 (v3_4 + 1) 1))
    else (F_Mo_isFunction_4 p1 known_h0 thrown_h0 wrong_h0 lastEnd_h0 at_h0 bad_h0 levels_h0 least_h0 found_h0 size_m22 n_a_all_m22 b_a_all_m22 size_m7 n_a_all_m7 b_a_all_m7 size_m6 n_a_all_m6 b_a_all_m6 size_m4 n_a_all_m4 b_a_all_m4  k_4 (v3_4 + 1) 1)
def F_Mo_isFunction (p1 : Int32) (known_h0 : Int32) (thrown_h0 : Int32) (wrong_h0 : Int32) (lastEnd_h0 : Int32) (at_h0 : Int32) (bad_h0 : Int32) (levels_h0 : Int32) (least_h0 : Int32) (found_h0 : Int32) (size_m22 : Int32) (n_a_all_m22 : Nat) (b_a_all_m22 : Nat → Int32) (size_m7 : Int32) (n_a_all_m7 : Nat) (b_a_all_m7 : Nat → Int32) (size_m6 : Int32) (n_a_all_m6 : Nat) (b_a_all_m6 : Nat → Int32) (size_m4 : Int32) (n_a_all_m4 : Nat) (b_a_all_m4 : Nat → Int32) : Option (Int32) :=
  F_Mo_isFunction_4 p1 known_h0 thrown_h0 wrong_h0 lastEnd_h0 at_h0 bad_h0 levels_h0 least_h0 found_h0 size_m22 n_a_all_m22 b_a_all_m22 size_m7 n_a_all_m7 b_a_all_m7 size_m6 n_a_all_m6 b_a_all_m6 size_m4 n_a_all_m4 b_a_all_m4  FU 0 0
theorem d_Mo_isFunction_0 : decode prog_12_method_39_code 0 = .ok (.iconst 0, 1) := by decide +kernel
theorem d_Mo_isFunction_1 : decode prog_12_method_39_code 1 = .ok (.istore_n 2, 1) := by decide +kernel
theorem d_Mo_isFunction_2 : decode prog_12_method_39_code 2 = .ok (.iconst 0, 1) := by decide +kernel
theorem d_Mo_isFunction_3 : decode prog_12_method_39_code 3 = .ok (.istore_n 3, 1) := by decide +kernel
theorem d_Mo_isFunction_4 : decode prog_12_method_39_code 4 = .ok (.iload_n 3, 1) := by decide +kernel
theorem d_Mo_isFunction_5 : decode prog_12_method_39_code 5 = .ok (.aload_n 0, 1) := by decide +kernel
theorem d_Mo_isFunction_6 : decode prog_12_method_39_code 6 = .ok (.getfield 148, 3) := by decide +kernel
theorem d_Mo_isFunction_9 : decode prog_12_method_39_code 9 = .ok (.getfield 204, 3) := by decide +kernel
theorem d_Mo_isFunction_12 : decode prog_12_method_39_code 12 = .ok (.if_icmp .ge 35, 3) := by decide +kernel
theorem d_Mo_isFunction_15 : decode prog_12_method_39_code 15 = .ok (.iload_n 2, 1) := by decide +kernel
theorem d_Mo_isFunction_16 : decode prog_12_method_39_code 16 = .ok (.ifCond .ne 19, 3) := by decide +kernel
theorem d_Mo_isFunction_19 : decode prog_12_method_39_code 19 = .ok (.aload_n 0, 1) := by decide +kernel
theorem d_Mo_isFunction_20 : decode prog_12_method_39_code 20 = .ok (.aload_n 0, 1) := by decide +kernel
theorem d_Mo_isFunction_21 : decode prog_12_method_39_code 21 = .ok (.getfield 148, 3) := by decide +kernel
theorem d_Mo_isFunction_24 : decode prog_12_method_39_code 24 = .ok (.iload_n 3, 1) := by decide +kernel
theorem d_Mo_isFunction_25 : decode prog_12_method_39_code 25 = .ok (.invokevirtual 214, 3) := by decide +kernel
theorem d_Mo_isFunction_28 : decode prog_12_method_39_code 28 = .ok (.iload_n 1, 1) := by decide +kernel
theorem d_Mo_isFunction_29 : decode prog_12_method_39_code 29 = .ok (.invokevirtual 332, 3) := by decide +kernel
theorem d_Mo_isFunction_32 : decode prog_12_method_39_code 32 = .ok (.ifCond .eq 7, 3) := by decide +kernel
theorem d_Mo_isFunction_35 : decode prog_12_method_39_code 35 = .ok (.iconst 1, 1) := by decide +kernel
theorem d_Mo_isFunction_36 : decode prog_12_method_39_code 36 = .ok (.goto 4, 3) := by decide +kernel
theorem d_Mo_isFunction_39 : decode prog_12_method_39_code 39 = .ok (.iconst 0, 1) := by decide +kernel
theorem d_Mo_isFunction_40 : decode prog_12_method_39_code 40 = .ok (.istore_n 2, 1) := by decide +kernel
theorem d_Mo_isFunction_41 : decode prog_12_method_39_code 41 = .ok (.iinc 3 1, 3) := by decide +kernel
theorem d_Mo_isFunction_44 : decode prog_12_method_39_code 44 = .ok (.goto (-40), 3) := by decide +kernel
theorem d_Mo_isFunction_47 : decode prog_12_method_39_code 47 = .ok (.iload_n 2, 1) := by decide +kernel
theorem d_Mo_isFunction_48 : decode prog_12_method_39_code 48 = .ok (.ireturn, 1) := by decide +kernel
set_option maxHeartbeats 4000000 in
set_option maxRecDepth 100000 in
theorem L_Mo_isFunction_4 (l : Launch) (D : va_G) (cI cB cJ cS : ClassId) (h0 : Nat) (am : Nat → Nat) (a_all_m22 : Nat) (a_all_m7 : Nat) (a_all_m6 : Nat) (a_all_m4 : Nat) (p1 : Int32) (known_h0 : Int32) (thrown_h0 : Int32) (wrong_h0 : Int32) (lastEnd_h0 : Int32) (at_h0 : Int32) (bad_h0 : Int32) (levels_h0 : Int32) (least_h0 : Int32) (found_h0 : Int32) (size_m22 : Int32) (n_a_all_m22 : Nat) (b_a_all_m22 : Nat → Int32) (size_m7 : Int32) (n_a_all_m7 : Nat) (b_a_all_m7 : Nat → Int32) (size_m6 : Int32) (n_a_all_m6 : Nat) (b_a_all_m6 : Nat → Int32) (size_m4 : Int32) (n_a_all_m4 : Nat) (b_a_all_m4 : Nat → Int32) (ret : Int32) (p : Program) (e : Env) (s : State) (m : MethodId) (below : List Frame) (meth : Method) (c : Code) (hr : meth.sig.returnType = (Option.some Jvm.ClassFile.FieldType.boolean)) (hnm : meth.name = y_Mo_isFunction.name) : ∀ (k_4 : Nat) (v3_4 : Int32) (v2_4 : Int32) (hz_v2_4 : zb v2_4), F_Mo_isFunction_4 p1 known_h0 thrown_h0 wrong_h0 lastEnd_h0 at_h0 bad_h0 levels_h0 least_h0 found_h0 size_m22 n_a_all_m22 b_a_all_m22 size_m7 n_a_all_m7 b_a_all_m7 size_m6 n_a_all_m6 b_a_all_m6 size_m4 n_a_all_m4 b_a_all_m4  k_4 v3_4 v2_4 = some ret → J (KxOf p l e { frames := 2, cells := 0, slots := 0, locals := 46 } s m [.ref h0, .int p1].toArray below meth c D (gT cI cB cJ cS) [(h0, .inr (9, moF am known_h0 thrown_h0 wrong_h0 lastEnd_h0 at_h0 bad_h0 levels_h0 least_h0 found_h0)), ((am 22), .inr (8, [.ref a_all_m22, .int size_m22])), (a_all_m22, .inl (cI, n_a_all_m22, .inl b_a_all_m22)), ((am 7), .inr (8, [.ref a_all_m7, .int size_m7])), (a_all_m7, .inl (cI, n_a_all_m7, .inl b_a_all_m7)), ((am 6), .inr (8, [.ref a_all_m6, .int size_m6])), (a_all_m6, .inl (cI, n_a_all_m6, .inl b_a_all_m6)), ((am 4), .inr (8, [.ref a_all_m4, .int size_m4])), (a_all_m4, .inl (cI, n_a_all_m4, .inl b_a_all_m4))] (fun v w => v = some (.int ret) ∧ zb ret ∧ w = [(h0, .inr (9, moF am known_h0 thrown_h0 wrong_h0 lastEnd_h0 at_h0 bad_h0 levels_h0 least_h0 found_h0)), ((am 22), .inr (8, [.ref a_all_m22, .int size_m22])), (a_all_m22, .inl (cI, n_a_all_m22, .inl b_a_all_m22)), ((am 7), .inr (8, [.ref a_all_m7, .int size_m7])), (a_all_m7, .inl (cI, n_a_all_m7, .inl b_a_all_m7)), ((am 6), .inr (8, [.ref a_all_m6, .int size_m6])), (a_all_m6, .inl (cI, n_a_all_m6, .inl b_a_all_m6)), ((am 4), .inr (8, [.ref a_all_m4, .int size_m4])), (a_all_m4, .inl (cI, n_a_all_m4, .inl b_a_all_m4))]) 0 0) prog_12_method_39_code 4 R_Mo 4 [(3, .int v3_4), (2, .int v2_4), (0, .ref h0), (1, .int p1)] [] [(h0, .inr (9, moF am known_h0 thrown_h0 wrong_h0 lastEnd_h0 at_h0 bad_h0 levels_h0 least_h0 found_h0)), ((am 22), .inr (8, [.ref a_all_m22, .int size_m22])), (a_all_m22, .inl (cI, n_a_all_m22, .inl b_a_all_m22)), ((am 7), .inr (8, [.ref a_all_m7, .int size_m7])), (a_all_m7, .inl (cI, n_a_all_m7, .inl b_a_all_m7)), ((am 6), .inr (8, [.ref a_all_m6, .int size_m6])), (a_all_m6, .inl (cI, n_a_all_m6, .inl b_a_all_m6)), ((am 4), .inr (8, [.ref a_all_m4, .int size_m4])), (a_all_m4, .inl (cI, n_a_all_m4, .inl b_a_all_m4))] 0 0 := by
  intro k_4
  induction k_4 with
  | zero => intro v3_4 v2_4 hz_v2_4 h; rw [F_Mo_isFunction_4] at h; cases h
  | succ k_4 ih_4 =>
    intro v3_4 v2_4 hz_v2_4 h
    rw [F_Mo_isFunction_4] at h
    refine j_iload_n d_Mo_isFunction_4 rfl 0 rfl ?_
    refine j_aload_n d_Mo_isFunction_5 rfl 2 rfl ?_
    refine j_get ig_Mo rfl 0 rfl 22 (by decide) rfl m_1135 rfl d_Mo_isFunction_6 ?_
    refine j_getN ig_Nm rfl 1 rfl 1 (by decide) rfl mn_13 rfl d_Mo_isFunction_9 ?_
    refine j_icmp_ge (tgt := 47) d_Mo_isFunction_12 (by decide) (fun c1 => ?_) (fun c1 => ?_)
    · replace h := it_t c1 h
      refine j_iload_n d_Mo_isFunction_47 rfl 1 rfl ?_
      replace h := Option.some.inj h
      subst h
      exact j_zret (w := [(h0, .inr (9, moF am known_h0 thrown_h0 wrong_h0 lastEnd_h0 at_h0 bad_h0 levels_h0 least_h0 found_h0)), ((am 22), .inr (8, [.ref a_all_m22, .int size_m22])), (a_all_m22, .inl (cI, n_a_all_m22, .inl b_a_all_m22)), ((am 7), .inr (8, [.ref a_all_m7, .int size_m7])), (a_all_m7, .inl (cI, n_a_all_m7, .inl b_a_all_m7)), ((am 6), .inr (8, [.ref a_all_m6, .int size_m6])), (a_all_m6, .inl (cI, n_a_all_m6, .inl b_a_all_m6)), ((am 4), .inr (8, [.ref a_all_m4, .int size_m4])), (a_all_m4, .inl (cI, n_a_all_m4, .inl b_a_all_m4))]) hr (zb_n hz_v2_4) d_Mo_isFunction_48 [0, 1, 2, 3, 4, 5, 6, 7, 8] rfl (by decide) ⟨rfl, hz_v2_4, rfl⟩
    · replace h := it_f c1 h
      refine j_iload_n d_Mo_isFunction_15 rfl 1 rfl ?_
      refine j_if_ne (tgt := 35) d_Mo_isFunction_16 (by decide) (fun c2 => ?_) (fun c2 => ?_)
      · replace h := it_f c2 h
        refine j_iconst (v := 1) d_Mo_isFunction_35 (by decide) ?_
        refine j_goto (tgt := 40) d_Mo_isFunction_36 (by decide) ?_
        refine j_istore_n (lv' := [(2, .int 1), (3, .int v3_4), (0, .ref h0), (1, .int p1)]) d_Mo_isFunction_40 rfl (by decide) rfl ?_
        refine j_iinc (v := v3_4 + 1) (lv' := [(3, .int (v3_4 + 1)), (2, .int 1), (0, .ref h0), (1, .int p1)]) d_Mo_isFunction_41 1 rfl rfl (by decide) rfl ?_
        refine j_goto (tgt := 4) d_Mo_isFunction_44 (by decide) ?_
        refine j_sub (w := [(h0, .inr (9, moF am known_h0 thrown_h0 wrong_h0 lastEnd_h0 at_h0 bad_h0 levels_h0 least_h0 found_h0)), ((am 22), .inr (8, [.ref a_all_m22, .int size_m22])), (a_all_m22, .inl (cI, n_a_all_m22, .inl b_a_all_m22)), ((am 7), .inr (8, [.ref a_all_m7, .int size_m7])), (a_all_m7, .inl (cI, n_a_all_m7, .inl b_a_all_m7)), ((am 6), .inr (8, [.ref a_all_m6, .int size_m6])), (a_all_m6, .inl (cI, n_a_all_m6, .inl b_a_all_m6)), ((am 4), .inr (8, [.ref a_all_m4, .int size_m4])), (a_all_m4, .inl (cI, n_a_all_m4, .inl b_a_all_m4))]) (lv' := [(3, .int (v3_4 + 1)), (2, .int 1), (0, .ref h0), (1, .int p1)]) [0, 1, 2, 3, 4, 5, 6, 7, 8] rfl (by decide) [0, 1, 2, 3] rfl ?_
        exact ih_4 (v3_4 + 1) 1 zb1 h
      · replace h := it_t c2 h
        refine j_aload_n d_Mo_isFunction_19 rfl 2 rfl ?_
        refine j_aload_n d_Mo_isFunction_20 rfl 2 rfl ?_
        refine j_get ig_Mo rfl 0 rfl 22 (by decide) rfl m_1135 rfl d_Mo_isFunction_21 ?_
        refine j_iload_n d_Mo_isFunction_24 rfl 0 rfl ?_
        replace h := bd_s h
        obtain ⟨_, k3, h⟩ := h
        refine j_callV (n := 1) (As := [.int v3_4]) (rest := [.ref h0]) (wr := [(h0, .inr (9, moF am known_h0 thrown_h0 wrong_h0 lastEnd_h0 at_h0 bad_h0 levels_h0 least_h0 found_h0)), ((am 7), .inr (8, [.ref a_all_m7, .int size_m7])), (a_all_m7, .inl (cI, n_a_all_m7, .inl b_a_all_m7)), ((am 6), .inr (8, [.ref a_all_m6, .int size_m6])), (a_all_m6, .inl (cI, n_a_all_m6, .inl b_a_all_m6)), ((am 4), .inr (8, [.ref a_all_m4, .int size_m4])), (a_all_m4, .inl (cI, n_a_all_m4, .inl b_a_all_m4))]) (c_Nm_at l D cI cB cJ cS (am 22) a_all_m22 v3_4 size_m22 n_a_all_m22 b_a_all_m22  k3) k_Mo_214 (by decide) ⟨Nat.le_of_ble_eq_true rfl, Nat.le_of_ble_eq_true rfl⟩ rfl 0 rfl [1, 2] [0, 3, 4, 5, 6, 7, 8] rfl (by decide) rfl (by decide) (by decide) rfl rfl (Nat.le_of_ble_eq_true rfl) d_Mo_isFunction_25 ⟨Nat.le_of_ble_eq_true rfl, Nat.le_of_ble_eq_true rfl⟩ (fun v w hq => ?_)
        obtain ⟨rfl, rfl⟩ := hq
        refine j_norm (pc' := 28) (st' := [.int (b_a_all_m22 (Int32.toNatClampNeg v3_4)), .ref h0]) (ws' := [(h0, .inr (9, moF am known_h0 thrown_h0 wrong_h0 lastEnd_h0 at_h0 bad_h0 levels_h0 least_h0 found_h0)), ((am 7), .inr (8, [.ref a_all_m7, .int size_m7])), (a_all_m7, .inl (cI, n_a_all_m7, .inl b_a_all_m7)), ((am 6), .inr (8, [.ref a_all_m6, .int size_m6])), (a_all_m6, .inl (cI, n_a_all_m6, .inl b_a_all_m6)), ((am 4), .inr (8, [.ref a_all_m4, .int size_m4])), (a_all_m4, .inl (cI, n_a_all_m4, .inl b_a_all_m4)), ((am 22), .inr (8, [.ref a_all_m22, .int size_m22])), (a_all_m22, .inl (cI, n_a_all_m22, .inl b_a_all_m22))]) (cl' := 0) (sl' := 0) rfl rfl rfl rfl rfl rfl ?_
        refine j_iload_n d_Mo_isFunction_28 rfl 3 rfl ?_
        replace h := bd_s h
        obtain ⟨r4, k6, h⟩ := h
        refine j_callV (n := 2) (As := [.int (b_a_all_m22 (Int32.toNatClampNeg v3_4)), .int p1]) (rest := []) (wr := [((am 22), .inr (8, [.ref a_all_m22, .int size_m22])), (a_all_m22, .inl (cI, n_a_all_m22, .inl b_a_all_m22))]) (c_Mo_sameName l D cI cB cJ cS h0 am a_all_m7 a_all_m6 a_all_m4 (b_a_all_m22 (Int32.toNatClampNeg v3_4)) p1 known_h0 thrown_h0 wrong_h0 lastEnd_h0 at_h0 bad_h0 levels_h0 least_h0 found_h0 size_m7 n_a_all_m7 b_a_all_m7 size_m6 n_a_all_m6 b_a_all_m6 size_m4 n_a_all_m4 b_a_all_m4  r4 k6) k_Mo_332 (by decide) ⟨Nat.le_of_ble_eq_true rfl, Nat.le_of_ble_eq_true rfl⟩ rfl 0 rfl [0, 1, 2, 3, 4, 5, 6] [7, 8] rfl (by decide) rfl (by decide) (by decide) rfl rfl (Nat.le_of_ble_eq_true rfl) d_Mo_isFunction_29 ⟨Nat.le_of_ble_eq_true rfl, Nat.le_of_ble_eq_true rfl⟩ (fun v w hq => ?_)
        obtain ⟨rfl, z5, rfl⟩ := hq
        refine j_norm (pc' := 32) (st' := [.int r4]) (ws' := [((am 22), .inr (8, [.ref a_all_m22, .int size_m22])), (a_all_m22, .inl (cI, n_a_all_m22, .inl b_a_all_m22)), (h0, .inr (9, moF am known_h0 thrown_h0 wrong_h0 lastEnd_h0 at_h0 bad_h0 levels_h0 least_h0 found_h0)), ((am 7), .inr (8, [.ref a_all_m7, .int size_m7])), (a_all_m7, .inl (cI, n_a_all_m7, .inl b_a_all_m7)), ((am 6), .inr (8, [.ref a_all_m6, .int size_m6])), (a_all_m6, .inl (cI, n_a_all_m6, .inl b_a_all_m6)), ((am 4), .inr (8, [.ref a_all_m4, .int size_m4])), (a_all_m4, .inl (cI, n_a_all_m4, .inl b_a_all_m4))]) (cl' := 0) (sl' := 0) rfl rfl rfl rfl rfl rfl ?_
        refine j_if_eq (tgt := 39) d_Mo_isFunction_32 (by decide) (fun c7 => ?_) (fun c7 => ?_)
        · replace h := it_t c7 h
          refine j_iconst (v := 0) d_Mo_isFunction_39 (by decide) ?_
          refine j_istore_n (lv' := [(2, .int 0), (3, .int v3_4), (0, .ref h0), (1, .int p1)]) d_Mo_isFunction_40 rfl (by decide) rfl ?_
          refine j_iinc (v := v3_4 + 1) (lv' := [(3, .int (v3_4 + 1)), (2, .int 0), (0, .ref h0), (1, .int p1)]) d_Mo_isFunction_41 1 rfl rfl (by decide) rfl ?_
          refine j_goto (tgt := 4) d_Mo_isFunction_44 (by decide) ?_
          refine j_sub (w := [(h0, .inr (9, moF am known_h0 thrown_h0 wrong_h0 lastEnd_h0 at_h0 bad_h0 levels_h0 least_h0 found_h0)), ((am 22), .inr (8, [.ref a_all_m22, .int size_m22])), (a_all_m22, .inl (cI, n_a_all_m22, .inl b_a_all_m22)), ((am 7), .inr (8, [.ref a_all_m7, .int size_m7])), (a_all_m7, .inl (cI, n_a_all_m7, .inl b_a_all_m7)), ((am 6), .inr (8, [.ref a_all_m6, .int size_m6])), (a_all_m6, .inl (cI, n_a_all_m6, .inl b_a_all_m6)), ((am 4), .inr (8, [.ref a_all_m4, .int size_m4])), (a_all_m4, .inl (cI, n_a_all_m4, .inl b_a_all_m4))]) (lv' := [(3, .int (v3_4 + 1)), (2, .int 0), (0, .ref h0), (1, .int p1)]) [2, 0, 1, 3, 4, 5, 6, 7, 8] rfl (by decide) [0, 1, 2, 3] rfl ?_
          exact ih_4 (v3_4 + 1) 0 zb0 h
        · replace h := it_f c7 h
          refine j_iconst (v := 1) d_Mo_isFunction_35 (by decide) ?_
          refine j_goto (tgt := 40) d_Mo_isFunction_36 (by decide) ?_
          refine j_istore_n (lv' := [(2, .int 1), (3, .int v3_4), (0, .ref h0), (1, .int p1)]) d_Mo_isFunction_40 rfl (by decide) rfl ?_
          refine j_iinc (v := v3_4 + 1) (lv' := [(3, .int (v3_4 + 1)), (2, .int 1), (0, .ref h0), (1, .int p1)]) d_Mo_isFunction_41 1 rfl rfl (by decide) rfl ?_
          refine j_goto (tgt := 4) d_Mo_isFunction_44 (by decide) ?_
          refine j_sub (w := [(h0, .inr (9, moF am known_h0 thrown_h0 wrong_h0 lastEnd_h0 at_h0 bad_h0 levels_h0 least_h0 found_h0)), ((am 22), .inr (8, [.ref a_all_m22, .int size_m22])), (a_all_m22, .inl (cI, n_a_all_m22, .inl b_a_all_m22)), ((am 7), .inr (8, [.ref a_all_m7, .int size_m7])), (a_all_m7, .inl (cI, n_a_all_m7, .inl b_a_all_m7)), ((am 6), .inr (8, [.ref a_all_m6, .int size_m6])), (a_all_m6, .inl (cI, n_a_all_m6, .inl b_a_all_m6)), ((am 4), .inr (8, [.ref a_all_m4, .int size_m4])), (a_all_m4, .inl (cI, n_a_all_m4, .inl b_a_all_m4))]) (lv' := [(3, .int (v3_4 + 1)), (2, .int 1), (0, .ref h0), (1, .int p1)]) [2, 0, 1, 3, 4, 5, 6, 7, 8] rfl (by decide) [0, 1, 2, 3] rfl ?_
          exact ih_4 (v3_4 + 1) 1 zb1 h
set_option maxHeartbeats 4000000 in
set_option maxRecDepth 100000 in
theorem c_Mo_isFunction (l : Launch) (D : va_G) (cI cB cJ cS : ClassId) (h0 : Nat) (am : Nat → Nat) (a_all_m22 : Nat) (a_all_m7 : Nat) (a_all_m6 : Nat) (a_all_m4 : Nat) (p1 : Int32) (known_h0 : Int32) (thrown_h0 : Int32) (wrong_h0 : Int32) (lastEnd_h0 : Int32) (at_h0 : Int32) (bad_h0 : Int32) (levels_h0 : Int32) (least_h0 : Int32) (found_h0 : Int32) (size_m22 : Int32) (n_a_all_m22 : Nat) (b_a_all_m22 : Nat → Int32) (size_m7 : Int32) (n_a_all_m7 : Nat) (b_a_all_m7 : Nat → Int32) (size_m6 : Int32) (n_a_all_m6 : Nat) (b_a_all_m6 : Nat → Int32) (size_m4 : Int32) (n_a_all_m4 : Nat) (b_a_all_m4 : Nat → Int32) (ret : Int32) (h : F_Mo_isFunction p1 known_h0 thrown_h0 wrong_h0 lastEnd_h0 at_h0 bad_h0 levels_h0 least_h0 found_h0 size_m22 n_a_all_m22 b_a_all_m22 size_m7 n_a_all_m7 b_a_all_m7 size_m6 n_a_all_m6 b_a_all_m6 size_m4 n_a_all_m4 b_a_all_m4 = some ret) : Ct l D (gT cI cB cJ cS) y_Mo_isFunction prog_12_method_39_code 4 (Option.some Jvm.ClassFile.FieldType.boolean) 2 46 0 0 [.ref h0, .int p1] [(h0, .inr (9, moF am known_h0 thrown_h0 wrong_h0 lastEnd_h0 at_h0 bad_h0 levels_h0 least_h0 found_h0)), ((am 22), .inr (8, [.ref a_all_m22, .int size_m22])), (a_all_m22, .inl (cI, n_a_all_m22, .inl b_a_all_m22)), ((am 7), .inr (8, [.ref a_all_m7, .int size_m7])), (a_all_m7, .inl (cI, n_a_all_m7, .inl b_a_all_m7)), ((am 6), .inr (8, [.ref a_all_m6, .int size_m6])), (a_all_m6, .inl (cI, n_a_all_m6, .inl b_a_all_m6)), ((am 4), .inr (8, [.ref a_all_m4, .int size_m4])), (a_all_m4, .inl (cI, n_a_all_m4, .inl b_a_all_m4))] (fun v w => v = some (.int ret) ∧ zb ret ∧ w = [(h0, .inr (9, moF am known_h0 thrown_h0 wrong_h0 lastEnd_h0 at_h0 bad_h0 levels_h0 least_h0 found_h0)), ((am 22), .inr (8, [.ref a_all_m22, .int size_m22])), (a_all_m22, .inl (cI, n_a_all_m22, .inl b_a_all_m22)), ((am 7), .inr (8, [.ref a_all_m7, .int size_m7])), (a_all_m7, .inl (cI, n_a_all_m7, .inl b_a_all_m7)), ((am 6), .inr (8, [.ref a_all_m6, .int size_m6])), (a_all_m6, .inl (cI, n_a_all_m6, .inl b_a_all_m6)), ((am 4), .inr (8, [.ref a_all_m4, .int size_m4])), (a_all_m4, .inl (cI, n_a_all_m4, .inl b_a_all_m4))]) := by
  refine Ct.mk (by decide) (Nat.le_of_ble_eq_true rfl) ?_
  intro p e s m below meth c hr hnm
  refine j_norm (pc' := 0) (lv' := [(0, .ref h0), (1, .int p1)]) (st' := []) (ws' := [(h0, .inr (9, moF am known_h0 thrown_h0 wrong_h0 lastEnd_h0 at_h0 bad_h0 levels_h0 least_h0 found_h0)), ((am 22), .inr (8, [.ref a_all_m22, .int size_m22])), (a_all_m22, .inl (cI, n_a_all_m22, .inl b_a_all_m22)), ((am 7), .inr (8, [.ref a_all_m7, .int size_m7])), (a_all_m7, .inl (cI, n_a_all_m7, .inl b_a_all_m7)), ((am 6), .inr (8, [.ref a_all_m6, .int size_m6])), (a_all_m6, .inl (cI, n_a_all_m6, .inl b_a_all_m6)), ((am 4), .inr (8, [.ref a_all_m4, .int size_m4])), (a_all_m4, .inl (cI, n_a_all_m4, .inl b_a_all_m4))]) (cl' := 0) (sl' := 0) rfl rfl rfl rfl rfl rfl ?_
  unfold F_Mo_isFunction at h
  refine j_iconst (v := 0) d_Mo_isFunction_0 (by decide) ?_
  refine j_istore_n (lv' := [(2, .int 0), (0, .ref h0), (1, .int p1)]) d_Mo_isFunction_1 rfl (by decide) rfl ?_
  refine j_iconst (v := 0) d_Mo_isFunction_2 (by decide) ?_
  refine j_istore_n (lv' := [(3, .int 0), (2, .int 0), (0, .ref h0), (1, .int p1)]) d_Mo_isFunction_3 rfl (by decide) rfl ?_
  refine j_sub (w := [(h0, .inr (9, moF am known_h0 thrown_h0 wrong_h0 lastEnd_h0 at_h0 bad_h0 levels_h0 least_h0 found_h0)), ((am 22), .inr (8, [.ref a_all_m22, .int size_m22])), (a_all_m22, .inl (cI, n_a_all_m22, .inl b_a_all_m22)), ((am 7), .inr (8, [.ref a_all_m7, .int size_m7])), (a_all_m7, .inl (cI, n_a_all_m7, .inl b_a_all_m7)), ((am 6), .inr (8, [.ref a_all_m6, .int size_m6])), (a_all_m6, .inl (cI, n_a_all_m6, .inl b_a_all_m6)), ((am 4), .inr (8, [.ref a_all_m4, .int size_m4])), (a_all_m4, .inl (cI, n_a_all_m4, .inl b_a_all_m4))]) (lv' := [(3, .int 0), (2, .int 0), (0, .ref h0), (1, .int p1)]) [0, 1, 2, 3, 4, 5, 6, 7, 8] rfl (by decide) [0, 1, 2, 3] rfl ?_
  exact L_Mo_isFunction_4 l D cI cB cJ cS h0 am a_all_m22 a_all_m7 a_all_m6 a_all_m4 p1 known_h0 thrown_h0 wrong_h0 lastEnd_h0 at_h0 bad_h0 levels_h0 least_h0 found_h0 size_m22 n_a_all_m22 b_a_all_m22 size_m7 n_a_all_m7 b_a_all_m7 size_m6 n_a_all_m6 b_a_all_m6 size_m4 n_a_all_m4 b_a_all_m4 ret p e s m below meth c hr hnm FU 0 0 zb0 h
noncomputable def F_Mo_readFunction_243 (known_h0 : Int32) (thrown_h0 : Int32) (wrong_h0 : Int32) (lastEnd_h0 : Int32) (least_h0 : Int32) (found_h0 : Int32) (size_m21 : Int32) (size_m5 : Int32) (n_a_all_m5 : Nat) (b_a_all_m5 : Nat → Int32) (size_m22 : Int32) (n_a_all_m21 : Nat) (b_a_all_m21 : Nat → Int32) (v1_243 : Int32) (n9_243 : Nat) (b9_243 : Nat → Int32) (f10_17_243 : Int32) (f10_18_243 : Int32) (f10_19_243 : Int32) : Option ((Int32 × Int32 × Int32 × Int32 × Int32 × Int32 × Nat × (Nat → Int32) × Nat × (Nat → Int32)) × Nat × Nat) :=
    Option.bind (F_Mo_leave 51 known_h0 thrown_h0 wrong_h0 lastEnd_h0 f10_17_243 f10_18_243 f10_19_243 least_h0 found_h0 size_m5 n_a_all_m5 b_a_all_m5) fun ⟨r1, r2, r3⟩ =>
    if r1 = 0 then (some ((0, r2, r3, (f10_19_243 - 1), size_m21, size_m22 + 1, n_a_all_m21, b_a_all_m21, n9_243, b9_243), 0, 0))
    else (bw (F_Nm_add 19 size_m21 n_a_all_m21 b_a_all_m21) fun ⟨r7, r8⟩ =>
      (some ((1, r2, r3, (f10_19_243 - 1), size_m21 + 1, size_m22 + 1, r7, r8, n9_243, b9_243), 0, 0)))
noncomputable def F_Mo_readFunction_170 (size_m21 : Int32) (size_m22 : Int32) (n_a_all_m22 : Nat) (b_a_all_m22 : Nat → Int32) (n_a_all_m21 : Nat) (b_a_all_m21 : Nat → Int32) (v1_170 : Int32) (t0_170 : Int32) (f4_17_170 : Int32) (f4_18_170 : Int32) (f4_19_170 : Int32) : Option ((Int32 × Int32 × Int32 × Int32 × Int32 × Int32 × Nat × (Nat → Int32) × Nat × (Nat → Int32)) × Nat × Nat) :=
    if t0_170 = 0 then (some ((0, f4_17_170, f4_17_170, f4_19_170, size_m21, size_m22, n_a_all_m21, b_a_all_m21, n_a_all_m22, b_a_all_m22), 0, 0))
    else (some ((0, (f4_17_170 + 1), (f4_17_170 + 1), f4_19_170, size_m21, size_m22, n_a_all_m21, b_a_all_m21, n_a_all_m22, b_a_all_m22), 0, 0))
noncomputable def F_Mo_readFunction_119 (known_h0 : Int32) (thrown_h0 : Int32) (wrong_h0 : Int32) (lastEnd_h0 : Int32) (least_h0 : Int32) (found_h0 : Int32) (size_m21 : Int32) (size_m5 : Int32) (n_a_all_m5 : Nat) (b_a_all_m5 : Nat → Int32) (size_m7 : Int32) (n_a_all_m7 : Nat) (b_a_all_m7 : Nat → Int32) (size_m6 : Int32) (n_a_all_m6 : Nat) (b_a_all_m6 : Nat → Int32) (size_m4 : Int32) (n_a_all_m4 : Nat) (b_a_all_m4 : Nat → Int32) (size_m22 : Int32) (n_a_all_m22 : Nat) (b_a_all_m22 : Nat → Int32) (n_a_all_m21 : Nat) (b_a_all_m21 : Nat → Int32) (v1_119 : Int32) (f10_17_119 : Int32) (f10_18_119 : Int32) (f10_19_119 : Int32) : Option ((Int32 × Int32 × Int32 × Int32 × Int32 × Int32 × Nat × (Nat → Int32) × Nat × (Nat → Int32)) × Nat × Nat) :=
    Option.bind (F_Mo_kind known_h0 thrown_h0 wrong_h0 lastEnd_h0 f10_17_119 f10_18_119 f10_19_119 least_h0 found_h0 size_m5 n_a_all_m5 b_a_all_m5) fun _ =>
    if (b_a_all_m5 (Int32.toNatClampNeg f10_17_119)) = 2 then (Option.bind (F_Mo_isFunction f10_17_119 known_h0 thrown_h0 wrong_h0 lastEnd_h0 f10_17_119 f10_18_119 f10_19_119 least_h0 found_h0 size_m22 n_a_all_m22 b_a_all_m22 size_m7 n_a_all_m7 b_a_all_m7 size_m6 n_a_all_m6 b_a_all_m6 size_m4 n_a_all_m4 b_a_all_m4) fun r20 =>
      if r20 = 0 then (bw (F_Nm_add f10_17_119 size_m22 n_a_all_m22 b_a_all_m22) fun ⟨r24, r25⟩ =>
        Option.bind (F_Mo_enter 50 known_h0 thrown_h0 wrong_h0 lastEnd_h0 (f10_17_119 + 1) f10_18_119 f10_19_119 least_h0 found_h0 size_m5 n_a_all_m5 b_a_all_m5) fun ⟨r32, r33, r34, r35⟩ =>
        if r32 = 0 then (some ((0, r33, r34, r35, size_m21, size_m22 + 1, n_a_all_m21, b_a_all_m21, r24, r25), 0, 0))
        else (Option.bind (F_Mo_kind known_h0 thrown_h0 wrong_h0 lastEnd_h0 r33 r34 r35 least_h0 found_h0 size_m5 n_a_all_m5 b_a_all_m5) fun _ =>
          if (b_a_all_m5 (Int32.toNatClampNeg r33)) = 51 then (F_Mo_readFunction_243 known_h0 thrown_h0 wrong_h0 lastEnd_h0 least_h0 found_h0 size_m21 size_m5 n_a_all_m5 b_a_all_m5 size_m22 n_a_all_m21 b_a_all_m21   v1_119 r24 r25 r33 r34 r35)
          else (Option.bind (F_Mo_readNames known_h0 thrown_h0 wrong_h0 lastEnd_h0 r33 r34 r35 least_h0 found_h0 size_m5 n_a_all_m5 b_a_all_m5 size_m7 n_a_all_m7 b_a_all_m7 size_m6 n_a_all_m6 b_a_all_m6 size_m4 n_a_all_m4 b_a_all_m4) fun ⟨r41, r42, r43⟩ =>
            if r41 = 0 then (some ((0, r42, r43, r35, size_m21, size_m22 + 1, n_a_all_m21, b_a_all_m21, r24, r25), 0, 0))
            else (F_Mo_readFunction_243 known_h0 thrown_h0 wrong_h0 lastEnd_h0 least_h0 found_h0 size_m21 size_m5 n_a_all_m5 b_a_all_m5 size_m22 n_a_all_m21 b_a_all_m21   v1_119 r24 r25 r42 r43 r35))))
      else if v1_119 = 0 then (Option.bind (F_Nm_at (f10_17_119 - 1) size_m5 n_a_all_m5 b_a_all_m5) fun _ =>
        if (b_a_all_m5 (Int32.toNatClampNeg (f10_17_119 - 1))) = 19 then (F_Mo_readFunction_170 size_m21 size_m22 n_a_all_m22 b_a_all_m22 n_a_all_m21 b_a_all_m21   v1_119 1 f10_17_119 f10_18_119 f10_19_119)
        else (F_Mo_readFunction_170 size_m21 size_m22 n_a_all_m22 b_a_all_m22 n_a_all_m21 b_a_all_m21   v1_119 0 f10_17_119 f10_18_119 f10_19_119))
      else (F_Mo_readFunction_170 size_m21 size_m22 n_a_all_m22 b_a_all_m22 n_a_all_m21 b_a_all_m21   v1_119 0 f10_17_119 f10_18_119 f10_19_119))
    else (some ((0, f10_17_119, f10_17_119, f10_19_119, size_m21, size_m22, n_a_all_m21, b_a_all_m21, n_a_all_m22, b_a_all_m22), 0, 0))
noncomputable def F_Mo_readFunction_79 (known_h0 : Int32) (thrown_h0 : Int32) (wrong_h0 : Int32) (lastEnd_h0 : Int32) (least_h0 : Int32) (found_h0 : Int32) (size_m21 : Int32) (size_m5 : Int32) (n_a_all_m5 : Nat) (b_a_all_m5 : Nat → Int32) (size_m7 : Int32) (n_a_all_m7 : Nat) (b_a_all_m7 : Nat → Int32) (size_m6 : Int32) (n_a_all_m6 : Nat) (b_a_all_m6 : Nat → Int32) (size_m4 : Int32) (n_a_all_m4 : Nat) (b_a_all_m4 : Nat → Int32) (size_m22 : Int32) (n_a_all_m22 : Nat) (b_a_all_m22 : Nat → Int32) (n_a_all_m21 : Nat) (b_a_all_m21 : Nat → Int32) (v1_79 : Int32) (f10_17_79 : Int32) (f10_18_79 : Int32) (f10_19_79 : Int32) : Option ((Int32 × Int32 × Int32 × Int32 × Int32 × Int32 × Nat × (Nat → Int32) × Nat × (Nat → Int32)) × Nat × Nat) :=
    if v1_79 = 0 then (Option.bind (F_Mo_kind known_h0 thrown_h0 wrong_h0 lastEnd_h0 f10_17_79 f10_18_79 f10_19_79 least_h0 found_h0 size_m5 n_a_all_m5 b_a_all_m5) fun _ =>
      if (b_a_all_m5 (Int32.toNatClampNeg f10_17_79)) = 2 then (Option.bind (F_Nm_at (f10_17_79 + 1) size_m5 n_a_all_m5 b_a_all_m5) fun _ =>
        if (b_a_all_m5 (Int32.toNatClampNeg (f10_17_79 + 1))) = 56 then (F_Mo_readFunction_119 known_h0 thrown_h0 wrong_h0 lastEnd_h0 least_h0 found_h0 size_m21 size_m5 n_a_all_m5 b_a_all_m5 size_m7 n_a_all_m7 b_a_all_m7 size_m6 n_a_all_m6 b_a_all_m6 size_m4 n_a_all_m4 b_a_all_m4 size_m22 n_a_all_m22 b_a_all_m22 n_a_all_m21 b_a_all_m21   v1_79 (f10_17_79 + 2) f10_18_79 f10_19_79)
        else (F_Mo_readFunction_119 known_h0 thrown_h0 wrong_h0 lastEnd_h0 least_h0 found_h0 size_m21 size_m5 n_a_all_m5 b_a_all_m5 size_m7 n_a_all_m7 b_a_all_m7 size_m6 n_a_all_m6 b_a_all_m6 size_m4 n_a_all_m4 b_a_all_m4 size_m22 n_a_all_m22 b_a_all_m22 n_a_all_m21 b_a_all_m21   v1_79 f10_17_79 f10_18_79 f10_19_79))
      else (F_Mo_readFunction_119 known_h0 thrown_h0 wrong_h0 lastEnd_h0 least_h0 found_h0 size_m21 size_m5 n_a_all_m5 b_a_all_m5 size_m7 n_a_all_m7 b_a_all_m7 size_m6 n_a_all_m6 b_a_all_m6 size_m4 n_a_all_m4 b_a_all_m4 size_m22 n_a_all_m22 b_a_all_m22 n_a_all_m21 b_a_all_m21   v1_79 f10_17_79 f10_18_79 f10_19_79))
    else (F_Mo_readFunction_119 known_h0 thrown_h0 wrong_h0 lastEnd_h0 least_h0 found_h0 size_m21 size_m5 n_a_all_m5 b_a_all_m5 size_m7 n_a_all_m7 b_a_all_m7 size_m6 n_a_all_m6 b_a_all_m6 size_m4 n_a_all_m4 b_a_all_m4 size_m22 n_a_all_m22 b_a_all_m22 n_a_all_m21 b_a_all_m21   v1_79 f10_17_79 f10_18_79 f10_19_79)
noncomputable def F_Mo_readFunction_38 (known_h0 : Int32) (thrown_h0 : Int32) (wrong_h0 : Int32) (lastEnd_h0 : Int32) (least_h0 : Int32) (found_h0 : Int32) (size_m21 : Int32) (size_m5 : Int32) (n_a_all_m5 : Nat) (b_a_all_m5 : Nat → Int32) (size_m7 : Int32) (n_a_all_m7 : Nat) (b_a_all_m7 : Nat → Int32) (size_m6 : Int32) (n_a_all_m6 : Nat) (b_a_all_m6 : Nat → Int32) (size_m4 : Int32) (n_a_all_m4 : Nat) (b_a_all_m4 : Nat → Int32) (size_m22 : Int32) (n_a_all_m22 : Nat) (b_a_all_m22 : Nat → Int32) (n_a_all_m21 : Nat) (b_a_all_m21 : Nat → Int32) (t0_38 : Int32) (f10_17_38 : Int32) (f10_18_38 : Int32) (f10_19_38 : Int32) : Option ((Int32 × Int32 × Int32 × Int32 × Int32 × Int32 × Nat × (Nat → Int32) × Nat × (Nat → Int32)) × Nat × Nat) :=
    if t0_38 = 0 then (F_Mo_readFunction_79 known_h0 thrown_h0 wrong_h0 lastEnd_h0 least_h0 found_h0 size_m21 size_m5 n_a_all_m5 b_a_all_m5 size_m7 n_a_all_m7 b_a_all_m7 size_m6 n_a_all_m6 b_a_all_m6 size_m4 n_a_all_m4 b_a_all_m4 size_m22 n_a_all_m22 b_a_all_m22 n_a_all_m21 b_a_all_m21   t0_38 f10_17_38 f10_18_38 f10_19_38)
    else (Option.bind (F_Mo_enter 52 known_h0 thrown_h0 wrong_h0 lastEnd_h0 f10_17_38 f10_18_38 f10_19_38 least_h0 found_h0 size_m5 n_a_all_m5 b_a_all_m5) fun ⟨r57, r58, r59, r60⟩ =>
      if r57 = 0 then (some ((0, r58, r59, r60, size_m21, size_m22, n_a_all_m21, b_a_all_m21, n_a_all_m22, b_a_all_m22), 0, 0))
      else (Option.bind (F_Mo_readNames known_h0 thrown_h0 wrong_h0 lastEnd_h0 r58 r59 r60 least_h0 found_h0 size_m5 n_a_all_m5 b_a_all_m5 size_m7 n_a_all_m7 b_a_all_m7 size_m6 n_a_all_m6 b_a_all_m6 size_m4 n_a_all_m4 b_a_all_m4) fun ⟨r64, r65, r66⟩ =>
        if r64 = 0 then (some ((0, r65, r66, r60, size_m21, size_m22, n_a_all_m21, b_a_all_m21, n_a_all_m22, b_a_all_m22), 0, 0))
        else (Option.bind (F_Mo_leave 53 known_h0 thrown_h0 wrong_h0 lastEnd_h0 r65 r66 r60 least_h0 found_h0 size_m5 n_a_all_m5 b_a_all_m5) fun ⟨r70, r71, r72⟩ =>
          if r70 = 0 then (some ((0, r71, r72, (r60 - 1), size_m21, size_m22, n_a_all_m21, b_a_all_m21, n_a_all_m22, b_a_all_m22), 0, 0))
          else (Option.bind (F_Mo_take 56 known_h0 thrown_h0 wrong_h0 lastEnd_h0 r71 r72 (r60 - 1) least_h0 found_h0 size_m5 n_a_all_m5 b_a_all_m5) fun ⟨r76, r77, r78⟩ =>
            if r76 = 0 then (some ((0, r77, r78, (r60 - 1), size_m21, size_m22, n_a_all_m21, b_a_all_m21, n_a_all_m22, b_a_all_m22), 0, 0))
            else (F_Mo_readFunction_79 known_h0 thrown_h0 wrong_h0 lastEnd_h0 least_h0 found_h0 size_m21 size_m5 n_a_all_m5 b_a_all_m5 size_m7 n_a_all_m7 b_a_all_m7 size_m6 n_a_all_m6 b_a_all_m6 size_m4 n_a_all_m4 b_a_all_m4 size_m22 n_a_all_m22 b_a_all_m22 n_a_all_m21 b_a_all_m21   t0_38 r77 r78 (r60 - 1))))))
noncomputable def F_Mo_readFunction (known_h0 : Int32) (thrown_h0 : Int32) (wrong_h0 : Int32) (lastEnd_h0 : Int32) (at_h0 : Int32) (bad_h0 : Int32) (levels_h0 : Int32) (least_h0 : Int32) (found_h0 : Int32) (size_m21 : Int32) (size_m5 : Int32) (n_a_all_m5 : Nat) (b_a_all_m5 : Nat → Int32) (size_m7 : Int32) (n_a_all_m7 : Nat) (b_a_all_m7 : Nat → Int32) (size_m6 : Int32) (n_a_all_m6 : Nat) (b_a_all_m6 : Nat → Int32) (size_m4 : Int32) (n_a_all_m4 : Nat) (b_a_all_m4 : Nat → Int32) (size_m22 : Int32) (n_a_all_m22 : Nat) (b_a_all_m22 : Nat → Int32) (n_a_all_m21 : Nat) (b_a_all_m21 : Nat → Int32) : Option ((Int32 × Int32 × Int32 × Int32 × Int32 × Int32 × Nat × (Nat → Int32) × Nat × (Nat → Int32)) × Nat × Nat) :=
  if 0 < size_m21 then (some ((0, at_h0, at_h0, levels_h0, size_m21, size_m22, n_a_all_m21, b_a_all_m21, n_a_all_m22, b_a_all_m22), 0, 0))
  else (Option.bind (F_Mo_enter 19 known_h0 thrown_h0 wrong_h0 lastEnd_h0 at_h0 bad_h0 levels_h0 least_h0 found_h0 size_m5 n_a_all_m5 b_a_all_m5) fun ⟨r84, r85, r86, r87⟩ =>
    if r84 = 0 then (some ((0, r85, r85, r87, size_m21, size_m22, n_a_all_m21, b_a_all_m21, n_a_all_m22, b_a_all_m22), 0, 0))
    else (Option.bind (F_Mo_kind known_h0 thrown_h0 wrong_h0 lastEnd_h0 r85 r86 r87 least_h0 found_h0 size_m5 n_a_all_m5 b_a_all_m5) fun _ =>
      if (b_a_all_m5 (Int32.toNatClampNeg r85)) = 52 then (F_Mo_readFunction_38 known_h0 thrown_h0 wrong_h0 lastEnd_h0 least_h0 found_h0 size_m21 size_m5 n_a_all_m5 b_a_all_m5 size_m7 n_a_all_m7 b_a_all_m7 size_m6 n_a_all_m6 b_a_all_m6 size_m4 n_a_all_m4 b_a_all_m4 size_m22 n_a_all_m22 b_a_all_m22 n_a_all_m21 b_a_all_m21   1 r85 r86 r87)
      else (F_Mo_readFunction_38 known_h0 thrown_h0 wrong_h0 lastEnd_h0 least_h0 found_h0 size_m21 size_m5 n_a_all_m5 b_a_all_m5 size_m7 n_a_all_m7 b_a_all_m7 size_m6 n_a_all_m6 b_a_all_m6 size_m4 n_a_all_m4 b_a_all_m4 size_m22 n_a_all_m22 b_a_all_m22 n_a_all_m21 b_a_all_m21   0 r85 r86 r87)))
theorem d_Mo_readFunction_0 : decode prog_12_method_40_code 0 = .ok (.aload_n 0, 1) := by decide +kernel
theorem d_Mo_readFunction_1 : decode prog_12_method_40_code 1 = .ok (.getfield 145, 3) := by decide +kernel
theorem d_Mo_readFunction_4 : decode prog_12_method_40_code 4 = .ok (.getfield 204, 3) := by decide +kernel
theorem d_Mo_readFunction_7 : decode prog_12_method_40_code 7 = .ok (.ifCond .gt 12, 3) := by decide +kernel
theorem d_Mo_readFunction_10 : decode prog_12_method_40_code 10 = .ok (.aload_n 0, 1) := by decide +kernel
theorem d_Mo_readFunction_11 : decode prog_12_method_40_code 11 = .ok (.bipush 19, 2) := by decide +kernel
theorem d_Mo_readFunction_13 : decode prog_12_method_40_code 13 = .ok (.invokevirtual 297, 3) := by decide +kernel
theorem d_Mo_readFunction_16 : decode prog_12_method_40_code 16 = .ok (.ifCond .ne 8, 3) := by decide +kernel
theorem d_Mo_readFunction_19 : decode prog_12_method_40_code 19 = .ok (.aload_n 0, 1) := by decide +kernel
theorem d_Mo_readFunction_20 : decode prog_12_method_40_code 20 = .ok (.invokevirtual 278, 3) := by decide +kernel
theorem d_Mo_readFunction_23 : decode prog_12_method_40_code 23 = .ok (.ireturn, 1) := by decide +kernel
theorem d_Mo_readFunction_24 : decode prog_12_method_40_code 24 = .ok (.aload_n 0, 1) := by decide +kernel
theorem d_Mo_readFunction_25 : decode prog_12_method_40_code 25 = .ok (.invokevirtual 275, 3) := by decide +kernel
theorem d_Mo_readFunction_28 : decode prog_12_method_40_code 28 = .ok (.bipush 52, 2) := by decide +kernel
theorem d_Mo_readFunction_30 : decode prog_12_method_40_code 30 = .ok (.if_icmp .ne 7, 3) := by decide +kernel
theorem d_Mo_readFunction_33 : decode prog_12_method_40_code 33 = .ok (.iconst 1, 1) := by decide +kernel
theorem d_Mo_readFunction_34 : decode prog_12_method_40_code 34 = .ok (.goto 4, 3) := by decide +kernel
theorem d_Mo_readFunction_37 : decode prog_12_method_40_code 37 = .ok (.iconst 0, 1) := by decide +kernel
theorem d_Mo_readFunction_38 : decode prog_12_method_40_code 38 = .ok (.istore_n 1, 1) := by decide +kernel
theorem d_Mo_readFunction_39 : decode prog_12_method_40_code 39 = .ok (.iload_n 1, 1) := by decide +kernel
theorem d_Mo_readFunction_40 : decode prog_12_method_40_code 40 = .ok (.ifCond .eq 39, 3) := by decide +kernel
theorem d_Mo_readFunction_43 : decode prog_12_method_40_code 43 = .ok (.aload_n 0, 1) := by decide +kernel
theorem d_Mo_readFunction_44 : decode prog_12_method_40_code 44 = .ok (.bipush 52, 2) := by decide +kernel
theorem d_Mo_readFunction_46 : decode prog_12_method_40_code 46 = .ok (.invokevirtual 297, 3) := by decide +kernel
theorem d_Mo_readFunction_49 : decode prog_12_method_40_code 49 = .ok (.ifCond .eq 28, 3) := by decide +kernel
theorem d_Mo_readFunction_52 : decode prog_12_method_40_code 52 = .ok (.aload_n 0, 1) := by decide +kernel
theorem d_Mo_readFunction_53 : decode prog_12_method_40_code 53 = .ok (.invokevirtual 335, 3) := by decide +kernel
theorem d_Mo_readFunction_56 : decode prog_12_method_40_code 56 = .ok (.ifCond .eq 21, 3) := by decide +kernel
theorem d_Mo_readFunction_59 : decode prog_12_method_40_code 59 = .ok (.aload_n 0, 1) := by decide +kernel
theorem d_Mo_readFunction_60 : decode prog_12_method_40_code 60 = .ok (.bipush 53, 2) := by decide +kernel
theorem d_Mo_readFunction_62 : decode prog_12_method_40_code 62 = .ok (.invokevirtual 338, 3) := by decide +kernel
theorem d_Mo_readFunction_65 : decode prog_12_method_40_code 65 = .ok (.ifCond .eq 12, 3) := by decide +kernel
theorem d_Mo_readFunction_68 : decode prog_12_method_40_code 68 = .ok (.aload_n 0, 1) := by decide +kernel
theorem d_Mo_readFunction_69 : decode prog_12_method_40_code 69 = .ok (.bipush 56, 2) := by decide +kernel
theorem d_Mo_readFunction_71 : decode prog_12_method_40_code 71 = .ok (.invokevirtual 285, 3) := by decide +kernel
theorem d_Mo_readFunction_74 : decode prog_12_method_40_code 74 = .ok (.ifCond .ne 5, 3) := by decide +kernel
theorem d_Mo_readFunction_77 : decode prog_12_method_40_code 77 = .ok (.iconst 0, 1) := by decide +kernel
theorem d_Mo_readFunction_78 : decode prog_12_method_40_code 78 = .ok (.ireturn, 1) := by decide +kernel
theorem d_Mo_readFunction_79 : decode prog_12_method_40_code 79 = .ok (.iload_n 1, 1) := by decide +kernel
theorem d_Mo_readFunction_80 : decode prog_12_method_40_code 80 = .ok (.ifCond .ne 39, 3) := by decide +kernel
theorem d_Mo_readFunction_83 : decode prog_12_method_40_code 83 = .ok (.aload_n 0, 1) := by decide +kernel
theorem d_Mo_readFunction_84 : decode prog_12_method_40_code 84 = .ok (.invokevirtual 275, 3) := by decide +kernel
theorem d_Mo_readFunction_87 : decode prog_12_method_40_code 87 = .ok (.iconst 2, 1) := by decide +kernel
theorem d_Mo_readFunction_88 : decode prog_12_method_40_code 88 = .ok (.if_icmp .ne 31, 3) := by decide +kernel
theorem d_Mo_readFunction_91 : decode prog_12_method_40_code 91 = .ok (.aload_n 0, 1) := by decide +kernel
theorem d_Mo_readFunction_92 : decode prog_12_method_40_code 92 = .ok (.getfield 114, 3) := by decide +kernel
theorem d_Mo_readFunction_95 : decode prog_12_method_40_code 95 = .ok (.aload_n 0, 1) := by decide +kernel
theorem d_Mo_readFunction_96 : decode prog_12_method_40_code 96 = .ok (.getfield 270, 3) := by decide +kernel
theorem d_Mo_readFunction_99 : decode prog_12_method_40_code 99 = .ok (.iconst 1, 1) := by decide +kernel
theorem d_Mo_readFunction_100 : decode prog_12_method_40_code 100 = .ok (.iadd, 1) := by decide +kernel
theorem d_Mo_readFunction_101 : decode prog_12_method_40_code 101 = .ok (.invokevirtual 214, 3) := by decide +kernel
theorem d_Mo_readFunction_104 : decode prog_12_method_40_code 104 = .ok (.bipush 56, 2) := by decide +kernel
theorem d_Mo_readFunction_106 : decode prog_12_method_40_code 106 = .ok (.if_icmp .ne 13, 3) := by decide +kernel
theorem d_Mo_readFunction_109 : decode prog_12_method_40_code 109 = .ok (.aload_n 0, 1) := by decide +kernel
theorem d_Mo_readFunction_110 : decode prog_12_method_40_code 110 = .ok (.aload_n 0, 1) := by decide +kernel
theorem d_Mo_readFunction_111 : decode prog_12_method_40_code 111 = .ok (.getfield 270, 3) := by decide +kernel
theorem d_Mo_readFunction_114 : decode prog_12_method_40_code 114 = .ok (.iconst 2, 1) := by decide +kernel
theorem d_Mo_readFunction_115 : decode prog_12_method_40_code 115 = .ok (.iadd, 1) := by decide +kernel
theorem d_Mo_readFunction_116 : decode prog_12_method_40_code 116 = .ok (.putfield 270, 3) := by decide +kernel
theorem d_Mo_readFunction_119 : decode prog_12_method_40_code 119 = .ok (.aload_n 0, 1) := by decide +kernel
theorem d_Mo_readFunction_120 : decode prog_12_method_40_code 120 = .ok (.invokevirtual 275, 3) := by decide +kernel
theorem d_Mo_readFunction_123 : decode prog_12_method_40_code 123 = .ok (.iconst 2, 1) := by decide +kernel
theorem d_Mo_readFunction_124 : decode prog_12_method_40_code 124 = .ok (.if_icmp .eq 8, 3) := by decide +kernel
theorem d_Mo_readFunction_127 : decode prog_12_method_40_code 127 = .ok (.aload_n 0, 1) := by decide +kernel
theorem d_Mo_readFunction_128 : decode prog_12_method_40_code 128 = .ok (.invokevirtual 278, 3) := by decide +kernel
theorem d_Mo_readFunction_131 : decode prog_12_method_40_code 131 = .ok (.ireturn, 1) := by decide +kernel
theorem d_Mo_readFunction_132 : decode prog_12_method_40_code 132 = .ok (.aload_n 0, 1) := by decide +kernel
theorem d_Mo_readFunction_133 : decode prog_12_method_40_code 133 = .ok (.aload_n 0, 1) := by decide +kernel
theorem d_Mo_readFunction_134 : decode prog_12_method_40_code 134 = .ok (.getfield 270, 3) := by decide +kernel
theorem d_Mo_readFunction_137 : decode prog_12_method_40_code 137 = .ok (.invokevirtual 341, 3) := by decide +kernel
theorem d_Mo_readFunction_140 : decode prog_12_method_40_code 140 = .ok (.ifCond .eq 57, 3) := by decide +kernel
theorem d_Mo_readFunction_143 : decode prog_12_method_40_code 143 = .ok (.iload_n 1, 1) := by decide +kernel
theorem d_Mo_readFunction_144 : decode prog_12_method_40_code 144 = .ok (.ifCond .ne 25, 3) := by decide +kernel
theorem d_Mo_readFunction_147 : decode prog_12_method_40_code 147 = .ok (.aload_n 0, 1) := by decide +kernel
theorem d_Mo_readFunction_148 : decode prog_12_method_40_code 148 = .ok (.getfield 114, 3) := by decide +kernel
theorem d_Mo_readFunction_151 : decode prog_12_method_40_code 151 = .ok (.aload_n 0, 1) := by decide +kernel
theorem d_Mo_readFunction_152 : decode prog_12_method_40_code 152 = .ok (.getfield 270, 3) := by decide +kernel
theorem d_Mo_readFunction_155 : decode prog_12_method_40_code 155 = .ok (.iconst 1, 1) := by decide +kernel
theorem d_Mo_readFunction_156 : decode prog_12_method_40_code 156 = .ok (.isub, 1) := by decide +kernel
theorem d_Mo_readFunction_157 : decode prog_12_method_40_code 157 = .ok (.invokevirtual 214, 3) := by decide +kernel
theorem d_Mo_readFunction_160 : decode prog_12_method_40_code 160 = .ok (.bipush 19, 2) := by decide +kernel
theorem d_Mo_readFunction_162 : decode prog_12_method_40_code 162 = .ok (.if_icmp .ne 7, 3) := by decide +kernel
theorem d_Mo_readFunction_165 : decode prog_12_method_40_code 165 = .ok (.iconst 1, 1) := by decide +kernel
theorem d_Mo_readFunction_166 : decode prog_12_method_40_code 166 = .ok (.goto 4, 3) := by decide +kernel
theorem d_Mo_readFunction_169 : decode prog_12_method_40_code 169 = .ok (.iconst 0, 1) := by decide +kernel
theorem d_Mo_readFunction_170 : decode prog_12_method_40_code 170 = .ok (.istore_n 2, 1) := by decide +kernel
theorem d_Mo_readFunction_171 : decode prog_12_method_40_code 171 = .ok (.aload_n 0, 1) := by decide +kernel
theorem d_Mo_readFunction_172 : decode prog_12_method_40_code 172 = .ok (.iload_n 2, 1) := by decide +kernel
theorem d_Mo_readFunction_173 : decode prog_12_method_40_code 173 = .ok (.ifCond .eq 12, 3) := by decide +kernel
theorem d_Mo_readFunction_176 : decode prog_12_method_40_code 176 = .ok (.aload_n 0, 1) := by decide +kernel
theorem d_Mo_readFunction_177 : decode prog_12_method_40_code 177 = .ok (.getfield 270, 3) := by decide +kernel
theorem d_Mo_readFunction_180 : decode prog_12_method_40_code 180 = .ok (.iconst 1, 1) := by decide +kernel
theorem d_Mo_readFunction_181 : decode prog_12_method_40_code 181 = .ok (.iadd, 1) := by decide +kernel
theorem d_Mo_readFunction_182 : decode prog_12_method_40_code 182 = .ok (.goto 7, 3) := by decide +kernel
theorem d_Mo_readFunction_185 : decode prog_12_method_40_code 185 = .ok (.aload_n 0, 1) := by decide +kernel
theorem d_Mo_readFunction_186 : decode prog_12_method_40_code 186 = .ok (.getfield 270, 3) := by decide +kernel
theorem d_Mo_readFunction_189 : decode prog_12_method_40_code 189 = .ok (.putfield 270, 3) := by decide +kernel
theorem d_Mo_readFunction_192 : decode prog_12_method_40_code 192 = .ok (.aload_n 0, 1) := by decide +kernel
theorem d_Mo_readFunction_193 : decode prog_12_method_40_code 193 = .ok (.invokevirtual 278, 3) := by decide +kernel
theorem d_Mo_readFunction_196 : decode prog_12_method_40_code 196 = .ok (.ireturn, 1) := by decide +kernel
theorem d_Mo_readFunction_197 : decode prog_12_method_40_code 197 = .ok (.aload_n 0, 1) := by decide +kernel
theorem d_Mo_readFunction_198 : decode prog_12_method_40_code 198 = .ok (.getfield 148, 3) := by decide +kernel
theorem d_Mo_readFunction_201 : decode prog_12_method_40_code 201 = .ok (.aload_n 0, 1) := by decide +kernel
theorem d_Mo_readFunction_202 : decode prog_12_method_40_code 202 = .ok (.getfield 270, 3) := by decide +kernel
theorem d_Mo_readFunction_205 : decode prog_12_method_40_code 205 = .ok (.invokevirtual 200, 3) := by decide +kernel
theorem d_Mo_readFunction_208 : decode prog_12_method_40_code 208 = .ok (.aload_n 0, 1) := by decide +kernel
theorem d_Mo_readFunction_209 : decode prog_12_method_40_code 209 = .ok (.dup, 1) := by decide +kernel
theorem d_Mo_readFunction_210 : decode prog_12_method_40_code 210 = .ok (.getfield 270, 3) := by decide +kernel
theorem d_Mo_readFunction_213 : decode prog_12_method_40_code 213 = .ok (.iconst 1, 1) := by decide +kernel
theorem d_Mo_readFunction_214 : decode prog_12_method_40_code 214 = .ok (.iadd, 1) := by decide +kernel
theorem d_Mo_readFunction_215 : decode prog_12_method_40_code 215 = .ok (.putfield 270, 3) := by decide +kernel
theorem d_Mo_readFunction_218 : decode prog_12_method_40_code 218 = .ok (.aload_n 0, 1) := by decide +kernel
theorem d_Mo_readFunction_219 : decode prog_12_method_40_code 219 = .ok (.bipush 50, 2) := by decide +kernel
theorem d_Mo_readFunction_221 : decode prog_12_method_40_code 221 = .ok (.invokevirtual 297, 3) := by decide +kernel
theorem d_Mo_readFunction_224 : decode prog_12_method_40_code 224 = .ok (.ifCond .eq 28, 3) := by decide +kernel
theorem d_Mo_readFunction_227 : decode prog_12_method_40_code 227 = .ok (.aload_n 0, 1) := by decide +kernel
theorem d_Mo_readFunction_228 : decode prog_12_method_40_code 228 = .ok (.invokevirtual 275, 3) := by decide +kernel
theorem d_Mo_readFunction_231 : decode prog_12_method_40_code 231 = .ok (.bipush 51, 2) := by decide +kernel
theorem d_Mo_readFunction_233 : decode prog_12_method_40_code 233 = .ok (.if_icmp .eq 10, 3) := by decide +kernel
theorem d_Mo_readFunction_236 : decode prog_12_method_40_code 236 = .ok (.aload_n 0, 1) := by decide +kernel
theorem d_Mo_readFunction_237 : decode prog_12_method_40_code 237 = .ok (.invokevirtual 335, 3) := by decide +kernel
theorem d_Mo_readFunction_240 : decode prog_12_method_40_code 240 = .ok (.ifCond .eq 12, 3) := by decide +kernel
theorem d_Mo_readFunction_243 : decode prog_12_method_40_code 243 = .ok (.aload_n 0, 1) := by decide +kernel
theorem d_Mo_readFunction_244 : decode prog_12_method_40_code 244 = .ok (.bipush 51, 2) := by decide +kernel
theorem d_Mo_readFunction_246 : decode prog_12_method_40_code 246 = .ok (.invokevirtual 338, 3) := by decide +kernel
theorem d_Mo_readFunction_249 : decode prog_12_method_40_code 249 = .ok (.ifCond .ne 5, 3) := by decide +kernel
theorem d_Mo_readFunction_252 : decode prog_12_method_40_code 252 = .ok (.iconst 0, 1) := by decide +kernel
theorem d_Mo_readFunction_253 : decode prog_12_method_40_code 253 = .ok (.ireturn, 1) := by decide +kernel
theorem d_Mo_readFunction_254 : decode prog_12_method_40_code 254 = .ok (.aload_n 0, 1) := by decide +kernel
theorem d_Mo_readFunction_255 : decode prog_12_method_40_code 255 = .ok (.getfield 145, 3) := by decide +kernel
theorem d_Mo_readFunction_258 : decode prog_12_method_40_code 258 = .ok (.bipush 19, 2) := by decide +kernel
theorem d_Mo_readFunction_260 : decode prog_12_method_40_code 260 = .ok (.invokevirtual 200, 3) := by decide +kernel
theorem d_Mo_readFunction_263 : decode prog_12_method_40_code 263 = .ok (.iconst 1, 1) := by decide +kernel
theorem d_Mo_readFunction_264 : decode prog_12_method_40_code 264 = .ok (.ireturn, 1) := by decide +kernel
set_option maxHeartbeats 4000000 in
set_option maxRecDepth 100000 in
theorem L_Mo_readFunction_243 (l : Launch) (D : va_G) (cI cB cJ cS : ClassId) (h0 : Nat) (am : Nat → Nat) (a_all_m21 : Nat) (a_all_m5 : Nat) (a_all_m7 : Nat) (a_all_m6 : Nat) (a_all_m4 : Nat) (a_all_m22 : Nat) (known_h0 : Int32) (thrown_h0 : Int32) (wrong_h0 : Int32) (lastEnd_h0 : Int32) (at_h0 : Int32) (bad_h0 : Int32) (levels_h0 : Int32) (least_h0 : Int32) (found_h0 : Int32) (size_m21 : Int32) (size_m5 : Int32) (n_a_all_m5 : Nat) (b_a_all_m5 : Nat → Int32) (size_m7 : Int32) (n_a_all_m7 : Nat) (b_a_all_m7 : Nat → Int32) (size_m6 : Int32) (n_a_all_m6 : Nat) (b_a_all_m6 : Nat → Int32) (size_m4 : Int32) (n_a_all_m4 : Nat) (b_a_all_m4 : Nat → Int32) (size_m22 : Int32) (n_a_all_m22 : Nat) (b_a_all_m22 : Nat → Int32) (n_a_all_m21 : Nat) (b_a_all_m21 : Nat → Int32) (ret : Int32) (o_0_17 : Int32) (o_0_18 : Int32) (o_0_19 : Int32) (o_1_1 : Int32) (o_10_1 : Int32) (on_nq_1_0 : Nat) (ob_nq_1_0 : Nat → Int32) (on_nq_10_0 : Nat) (ob_nq_10_0 : Nat → Int32) (mc ms : Nat) (p : Program) (e : Env) (s : State) (m : MethodId) (below : List Frame) (meth : Method) (c : Code) (hr : meth.sig.returnType = (Option.some Jvm.ClassFile.FieldType.boolean)) (hnm : meth.name = y_Mo_readFunction.name) : ∀ (q8_0_243 : Nat) (v1_243 : Int32) (n9_243 : Nat) (b9_243 : Nat → Int32) (f10_17_243 : Int32) (f10_18_243 : Int32) (f10_19_243 : Int32) (hz_v1_243 : zb v1_243) (cl_243 sl_243 C_243 S_243 : Nat), F_Mo_readFunction_243 known_h0 thrown_h0 wrong_h0 lastEnd_h0 least_h0 found_h0 size_m21 size_m5 n_a_all_m5 b_a_all_m5 size_m22 n_a_all_m21 b_a_all_m21   v1_243 n9_243 b9_243 f10_17_243 f10_18_243 f10_19_243 = some ((ret, o_0_17, o_0_18, o_0_19, o_1_1, o_10_1, on_nq_1_0, ob_nq_1_0, on_nq_10_0, ob_nq_10_0), C_243, S_243) → cl_243 + C_243 ≤ mc → sl_243 + S_243 ≤ ms → J (KxOf p l e { frames := 4, cells := mc, slots := ms, locals := 83 } s m [.ref h0].toArray below meth c D (gT cI cB cJ cS) [(h0, .inr (9, moF am known_h0 thrown_h0 wrong_h0 lastEnd_h0 at_h0 bad_h0 levels_h0 least_h0 found_h0)), ((am 21), .inr (8, [.ref a_all_m21, .int size_m21])), ((am 5), .inr (8, [.ref a_all_m5, .int size_m5])), (a_all_m5, .inl (cI, n_a_all_m5, .inl b_a_all_m5)), ((am 7), .inr (8, [.ref a_all_m7, .int size_m7])), (a_all_m7, .inl (cI, n_a_all_m7, .inl b_a_all_m7)), ((am 6), .inr (8, [.ref a_all_m6, .int size_m6])), (a_all_m6, .inl (cI, n_a_all_m6, .inl b_a_all_m6)), ((am 4), .inr (8, [.ref a_all_m4, .int size_m4])), (a_all_m4, .inl (cI, n_a_all_m4, .inl b_a_all_m4)), ((am 22), .inr (8, [.ref a_all_m22, .int size_m22])), (a_all_m22, .inl (cI, n_a_all_m22, .inl b_a_all_m22)), (a_all_m21, .inl (cI, n_a_all_m21, .inl b_a_all_m21))] (fun v w => ∃ nq_1_0 : Nat, ∃ nq_10_0 : Nat, v = some (.int ret) ∧ zb ret ∧ w = [(h0, .inr (9, moF am known_h0 thrown_h0 wrong_h0 lastEnd_h0 o_0_17 o_0_18 o_0_19 least_h0 found_h0)), ((am 21), .inr (8, [.ref nq_1_0, .int o_1_1])), ((am 5), .inr (8, [.ref a_all_m5, .int size_m5])), (a_all_m5, .inl (cI, n_a_all_m5, .inl b_a_all_m5)), ((am 7), .inr (8, [.ref a_all_m7, .int size_m7])), (a_all_m7, .inl (cI, n_a_all_m7, .inl b_a_all_m7)), ((am 6), .inr (8, [.ref a_all_m6, .int size_m6])), (a_all_m6, .inl (cI, n_a_all_m6, .inl b_a_all_m6)), ((am 4), .inr (8, [.ref a_all_m4, .int size_m4])), (a_all_m4, .inl (cI, n_a_all_m4, .inl b_a_all_m4)), ((am 22), .inr (8, [.ref nq_10_0, .int o_10_1])), (nq_1_0, .inl (cI, on_nq_1_0, .inl ob_nq_1_0)), (nq_10_0, .inl (cI, on_nq_10_0, .inl ob_nq_10_0))]) mc ms) prog_12_method_40_code 3 R_Mo 243 [(1, .int v1_243), (0, .ref h0)] [] [((am 21), .inr (8, [.ref a_all_m21, .int size_m21])), (a_all_m21, .inl (cI, n_a_all_m21, .inl b_a_all_m21)), ((am 7), .inr (8, [.ref a_all_m7, .int size_m7])), (a_all_m7, .inl (cI, n_a_all_m7, .inl b_a_all_m7)), ((am 6), .inr (8, [.ref a_all_m6, .int size_m6])), (a_all_m6, .inl (cI, n_a_all_m6, .inl b_a_all_m6)), ((am 4), .inr (8, [.ref a_all_m4, .int size_m4])), (a_all_m4, .inl (cI, n_a_all_m4, .inl b_a_all_m4)), ((am 22), .inr (8, [.ref q8_0_243, .int (size_m22 + 1)])), (q8_0_243, .inl (cI, n9_243, .inl b9_243)), (h0, .inr (9, moF am known_h0 thrown_h0 wrong_h0 lastEnd_h0 f10_17_243 f10_18_243 f10_19_243 least_h0 found_h0)), ((am 5), .inr (8, [.ref a_all_m5, .int size_m5])), (a_all_m5, .inl (cI, n_a_all_m5, .inl b_a_all_m5))] cl_243 sl_243 := by
  intro q8_0_243 v1_243 n9_243 b9_243 f10_17_243 f10_18_243 f10_19_243 hz_v1_243 cl_243 sl_243 C_243 S_243 h hC hS
  unfold F_Mo_readFunction_243 at h
  refine j_aload_n d_Mo_readFunction_243 rfl 1 rfl ?_
  refine j_bipush (v := 51) d_Mo_readFunction_244 (by decide) ?_
  replace h := bd_s h
  obtain ⟨⟨r1, r2, r3⟩, k5, h⟩ := h
  refine j_callV (n := 1) (As := [.int 51]) (rest := []) (wr := [((am 21), .inr (8, [.ref a_all_m21, .int size_m21])), (a_all_m21, .inl (cI, n_a_all_m21, .inl b_a_all_m21)), ((am 7), .inr (8, [.ref a_all_m7, .int size_m7])), (a_all_m7, .inl (cI, n_a_all_m7, .inl b_a_all_m7)), ((am 6), .inr (8, [.ref a_all_m6, .int size_m6])), (a_all_m6, .inl (cI, n_a_all_m6, .inl b_a_all_m6)), ((am 4), .inr (8, [.ref a_all_m4, .int size_m4])), (a_all_m4, .inl (cI, n_a_all_m4, .inl b_a_all_m4)), ((am 22), .inr (8, [.ref q8_0_243, .int (size_m22 + 1)])), (q8_0_243, .inl (cI, n9_243, .inl b9_243))]) (c_Mo_leave l D cI cB cJ cS h0 am a_all_m5 51 known_h0 thrown_h0 wrong_h0 lastEnd_h0 f10_17_243 f10_18_243 f10_19_243 least_h0 found_h0 size_m5 n_a_all_m5 b_a_all_m5  r1 r2 r3 k5) k_Mo_338 (by decide) ⟨Nat.le_of_ble_eq_true rfl, Nat.le_of_ble_eq_true rfl⟩ rfl 0 rfl [10, 11, 12] [0, 1, 2, 3, 4, 5, 6, 7, 8, 9] rfl (by decide) rfl (by decide) (by decide) rfl rfl (Nat.le_of_ble_eq_true rfl) d_Mo_readFunction_246 ⟨show cl_243 + 0 ≤ mc by omega, show sl_243 + 0 ≤ ms by omega⟩ (fun v w hq => ?_)
  obtain ⟨rfl, z4, rfl⟩ := hq
  refine j_norm (pc' := 249) (st' := [.int r1]) (ws' := [((am 21), .inr (8, [.ref a_all_m21, .int size_m21])), (a_all_m21, .inl (cI, n_a_all_m21, .inl b_a_all_m21)), ((am 7), .inr (8, [.ref a_all_m7, .int size_m7])), (a_all_m7, .inl (cI, n_a_all_m7, .inl b_a_all_m7)), ((am 6), .inr (8, [.ref a_all_m6, .int size_m6])), (a_all_m6, .inl (cI, n_a_all_m6, .inl b_a_all_m6)), ((am 4), .inr (8, [.ref a_all_m4, .int size_m4])), (a_all_m4, .inl (cI, n_a_all_m4, .inl b_a_all_m4)), ((am 22), .inr (8, [.ref q8_0_243, .int (size_m22 + 1)])), (q8_0_243, .inl (cI, n9_243, .inl b9_243)), (h0, .inr (9, moF am known_h0 thrown_h0 wrong_h0 lastEnd_h0 r2 r3 (f10_19_243 - 1) least_h0 found_h0)), ((am 5), .inr (8, [.ref a_all_m5, .int size_m5])), (a_all_m5, .inl (cI, n_a_all_m5, .inl b_a_all_m5))]) (cl' := cl_243) (sl' := sl_243) rfl rfl rfl rfl rfl rfl ?_
  refine j_if_ne (tgt := 254) d_Mo_readFunction_249 (by decide) (fun c6 => ?_) (fun c6 => ?_)
  · replace h := it_f c6 h
    refine j_aload_n d_Mo_readFunction_254 rfl 1 rfl ?_
    refine j_get ig_Mo rfl 10 rfl 21 (by decide) rfl m_1134 rfl d_Mo_readFunction_255 ?_
    refine j_bipush (v := 19) d_Mo_readFunction_258 (by decide) ?_
    replace h := bw_s h
    obtain ⟨⟨r7, r8⟩, C10, S11, C12, S13, k14, h, e1, e2⟩ := h
    replace hC : cl_243 + C10 + C12 ≤ mc := by omega
    replace hS : sl_243 + S11 + S13 ≤ ms := by omega
    clear e1 e2
    refine j_callV (n := 1) (As := [.int 19]) (rest := []) (wr := [((am 7), .inr (8, [.ref a_all_m7, .int size_m7])), (a_all_m7, .inl (cI, n_a_all_m7, .inl b_a_all_m7)), ((am 6), .inr (8, [.ref a_all_m6, .int size_m6])), (a_all_m6, .inl (cI, n_a_all_m6, .inl b_a_all_m6)), ((am 4), .inr (8, [.ref a_all_m4, .int size_m4])), (a_all_m4, .inl (cI, n_a_all_m4, .inl b_a_all_m4)), ((am 22), .inr (8, [.ref q8_0_243, .int (size_m22 + 1)])), (q8_0_243, .inl (cI, n9_243, .inl b9_243)), (h0, .inr (9, moF am known_h0 thrown_h0 wrong_h0 lastEnd_h0 r2 r3 (f10_19_243 - 1) least_h0 found_h0)), ((am 5), .inr (8, [.ref a_all_m5, .int size_m5])), (a_all_m5, .inl (cI, n_a_all_m5, .inl b_a_all_m5))]) (c_Nm_add l D cI cB cJ cS (am 21) a_all_m21 19 size_m21 n_a_all_m21 b_a_all_m21  r7 r8 C10 S11 k14) k_Mo_200 (by decide) ⟨Nat.le_of_ble_eq_true rfl, Nat.le_of_ble_eq_true rfl⟩ rfl 0 rfl [0, 1] [2, 3, 4, 5, 6, 7, 8, 9, 10, 11, 12] rfl (by decide) rfl (by decide) (by decide) rfl rfl (Nat.le_of_ble_eq_true rfl) d_Mo_readFunction_260 ⟨show cl_243 + C10 ≤ mc by omega, show sl_243 + S11 ≤ ms by omega⟩ (fun v w hq => ?_)
    obtain ⟨q9, rfl, rfl⟩ := hq
    refine j_norm (pc' := 263) (st' := []) (ws' := [((am 7), .inr (8, [.ref a_all_m7, .int size_m7])), (a_all_m7, .inl (cI, n_a_all_m7, .inl b_a_all_m7)), ((am 6), .inr (8, [.ref a_all_m6, .int size_m6])), (a_all_m6, .inl (cI, n_a_all_m6, .inl b_a_all_m6)), ((am 4), .inr (8, [.ref a_all_m4, .int size_m4])), (a_all_m4, .inl (cI, n_a_all_m4, .inl b_a_all_m4)), ((am 22), .inr (8, [.ref q8_0_243, .int (size_m22 + 1)])), (q8_0_243, .inl (cI, n9_243, .inl b9_243)), (h0, .inr (9, moF am known_h0 thrown_h0 wrong_h0 lastEnd_h0 r2 r3 (f10_19_243 - 1) least_h0 found_h0)), ((am 5), .inr (8, [.ref a_all_m5, .int size_m5])), (a_all_m5, .inl (cI, n_a_all_m5, .inl b_a_all_m5)), ((am 21), .inr (8, [.ref q9, .int (size_m21 + 1)])), (q9, .inl (cI, r7, .inl r8))]) (cl' := cl_243 + C10) (sl' := sl_243 + S11) rfl rfl rfl rfl rfl rfl ?_
    refine j_iconst (v := 1) d_Mo_readFunction_263 (by decide) ?_
    replace h := lf_s h
    obtain ⟨h, e1, e2⟩ := h
    replace h := Prod.mk.inj h
    obtain ⟨h9, h⟩ := h
    subst h9
    replace h := Prod.mk.inj h
    obtain ⟨h9, h⟩ := h
    subst h9
    replace h := Prod.mk.inj h
    obtain ⟨h9, h⟩ := h
    subst h9
    replace h := Prod.mk.inj h
    obtain ⟨h9, h⟩ := h
    subst h9
    replace h := Prod.mk.inj h
    obtain ⟨h9, h⟩ := h
    subst h9
    replace h := Prod.mk.inj h
    obtain ⟨h9, h⟩ := h
    subst h9
    replace h := Prod.mk.inj h
    obtain ⟨h9, h⟩ := h
    subst h9
    replace h := Prod.mk.inj h
    obtain ⟨h9, h⟩ := h
    subst h9
    replace h := Prod.mk.inj h
    obtain ⟨h9, h⟩ := h
    subst h9
    subst h
    refine j_widen (cl' := mc) (sl' := ms) (by omega) (by omega) ?_
    exact j_zret (w := [(h0, .inr (9, moF am known_h0 thrown_h0 wrong_h0 lastEnd_h0 r2 r3 (f10_19_243 - 1) least_h0 found_h0)), ((am 21), .inr (8, [.ref q9, .int (size_m21 + 1)])), ((am 5), .inr (8, [.ref a_all_m5, .int size_m5])), (a_all_m5, .inl (cI, n_a_all_m5, .inl b_a_all_m5)), ((am 7), .inr (8, [.ref a_all_m7, .int size_m7])), (a_all_m7, .inl (cI, n_a_all_m7, .inl b_a_all_m7)), ((am 6), .inr (8, [.ref a_all_m6, .int size_m6])), (a_all_m6, .inl (cI, n_a_all_m6, .inl b_a_all_m6)), ((am 4), .inr (8, [.ref a_all_m4, .int size_m4])), (a_all_m4, .inl (cI, n_a_all_m4, .inl b_a_all_m4)), ((am 22), .inr (8, [.ref q8_0_243, .int (size_m22 + 1)])), (q9, .inl (cI, r7, .inl r8)), (q8_0_243, .inl (cI, n9_243, .inl b9_243))]) hr (zb_n zb1) d_Mo_readFunction_264 [8, 11, 9, 10, 0, 1, 2, 3, 4, 5, 6, 12, 7] rfl (by decide) ⟨q9, q8_0_243, rfl, zb1, rfl⟩
  · replace h := it_t c6 h
    refine j_iconst (v := 0) d_Mo_readFunction_252 (by decide) ?_
    replace h := lf_s h
    obtain ⟨h, e1, e2⟩ := h
    replace h := Prod.mk.inj h
    obtain ⟨h9, h⟩ := h
    subst h9
    replace h := Prod.mk.inj h
    obtain ⟨h9, h⟩ := h
    subst h9
    replace h := Prod.mk.inj h
    obtain ⟨h9, h⟩ := h
    subst h9
    replace h := Prod.mk.inj h
    obtain ⟨h9, h⟩ := h
    subst h9
    replace h := Prod.mk.inj h
    obtain ⟨h9, h⟩ := h
    subst h9
    replace h := Prod.mk.inj h
    obtain ⟨h9, h⟩ := h
    subst h9
    replace h := Prod.mk.inj h
    obtain ⟨h9, h⟩ := h
    subst h9
    replace h := Prod.mk.inj h
    obtain ⟨h9, h⟩ := h
    subst h9
    replace h := Prod.mk.inj h
    obtain ⟨h9, h⟩ := h
    subst h9
    subst h
    refine j_widen (cl' := mc) (sl' := ms) (by omega) (by omega) ?_
    exact j_zret (w := [(h0, .inr (9, moF am known_h0 thrown_h0 wrong_h0 lastEnd_h0 r2 r3 (f10_19_243 - 1) least_h0 found_h0)), ((am 21), .inr (8, [.ref a_all_m21, .int size_m21])), ((am 5), .inr (8, [.ref a_all_m5, .int size_m5])), (a_all_m5, .inl (cI, n_a_all_m5, .inl b_a_all_m5)), ((am 7), .inr (8, [.ref a_all_m7, .int size_m7])), (a_all_m7, .inl (cI, n_a_all_m7, .inl b_a_all_m7)), ((am 6), .inr (8, [.ref a_all_m6, .int size_m6])), (a_all_m6, .inl (cI, n_a_all_m6, .inl b_a_all_m6)), ((am 4), .inr (8, [.ref a_all_m4, .int size_m4])), (a_all_m4, .inl (cI, n_a_all_m4, .inl b_a_all_m4)), ((am 22), .inr (8, [.ref q8_0_243, .int (size_m22 + 1)])), (a_all_m21, .inl (cI, n_a_all_m21, .inl b_a_all_m21)), (q8_0_243, .inl (cI, n9_243, .inl b9_243))]) hr (zb_n zb0) d_Mo_readFunction_253 [10, 0, 11, 12, 2, 3, 4, 5, 6, 7, 8, 1, 9] rfl (by decide) ⟨a_all_m21, q8_0_243, rfl, zb0, rfl⟩
set_option maxHeartbeats 4000000 in
set_option maxRecDepth 100000 in
theorem L_Mo_readFunction_170 (l : Launch) (D : va_G) (cI cB cJ cS : ClassId) (h0 : Nat) (am : Nat → Nat) (a_all_m21 : Nat) (a_all_m5 : Nat) (a_all_m7 : Nat) (a_all_m6 : Nat) (a_all_m4 : Nat) (a_all_m22 : Nat) (known_h0 : Int32) (thrown_h0 : Int32) (wrong_h0 : Int32) (lastEnd_h0 : Int32) (at_h0 : Int32) (bad_h0 : Int32) (levels_h0 : Int32) (least_h0 : Int32) (found_h0 : Int32) (size_m21 : Int32) (size_m5 : Int32) (n_a_all_m5 : Nat) (b_a_all_m5 : Nat → Int32) (size_m7 : Int32) (n_a_all_m7 : Nat) (b_a_all_m7 : Nat → Int32) (size_m6 : Int32) (n_a_all_m6 : Nat) (b_a_all_m6 : Nat → Int32) (size_m4 : Int32) (n_a_all_m4 : Nat) (b_a_all_m4 : Nat → Int32) (size_m22 : Int32) (n_a_all_m22 : Nat) (b_a_all_m22 : Nat → Int32) (n_a_all_m21 : Nat) (b_a_all_m21 : Nat → Int32) (ret : Int32) (o_0_17 : Int32) (o_0_18 : Int32) (o_0_19 : Int32) (o_1_1 : Int32) (o_10_1 : Int32) (on_nq_1_0 : Nat) (ob_nq_1_0 : Nat → Int32) (on_nq_10_0 : Nat) (ob_nq_10_0 : Nat → Int32) (mc ms : Nat) (p : Program) (e : Env) (s : State) (m : MethodId) (below : List Frame) (meth : Method) (c : Code) (hr : meth.sig.returnType = (Option.some Jvm.ClassFile.FieldType.boolean)) (hnm : meth.name = y_Mo_readFunction.name) : ∀ (v1_170 : Int32) (t0_170 : Int32) (f4_17_170 : Int32) (f4_18_170 : Int32) (f4_19_170 : Int32) (hz_v1_170 : zb v1_170) (hz_t0_170 : zb t0_170) (cl_170 sl_170 C_170 S_170 : Nat), F_Mo_readFunction_170 size_m21 size_m22 n_a_all_m22 b_a_all_m22 n_a_all_m21 b_a_all_m21   v1_170 t0_170 f4_17_170 f4_18_170 f4_19_170 = some ((ret, o_0_17, o_0_18, o_0_19, o_1_1, o_10_1, on_nq_1_0, ob_nq_1_0, on_nq_10_0, ob_nq_10_0), C_170, S_170) → cl_170 + C_170 ≤ mc → sl_170 + S_170 ≤ ms → J (KxOf p l e { frames := 4, cells := mc, slots := ms, locals := 83 } s m [.ref h0].toArray below meth c D (gT cI cB cJ cS) [(h0, .inr (9, moF am known_h0 thrown_h0 wrong_h0 lastEnd_h0 at_h0 bad_h0 levels_h0 least_h0 found_h0)), ((am 21), .inr (8, [.ref a_all_m21, .int size_m21])), ((am 5), .inr (8, [.ref a_all_m5, .int size_m5])), (a_all_m5, .inl (cI, n_a_all_m5, .inl b_a_all_m5)), ((am 7), .inr (8, [.ref a_all_m7, .int size_m7])), (a_all_m7, .inl (cI, n_a_all_m7, .inl b_a_all_m7)), ((am 6), .inr (8, [.ref a_all_m6, .int size_m6])), (a_all_m6, .inl (cI, n_a_all_m6, .inl b_a_all_m6)), ((am 4), .inr (8, [.ref a_all_m4, .int size_m4])), (a_all_m4, .inl (cI, n_a_all_m4, .inl b_a_all_m4)), ((am 22), .inr (8, [.ref a_all_m22, .int size_m22])), (a_all_m22, .inl (cI, n_a_all_m22, .inl b_a_all_m22)), (a_all_m21, .inl (cI, n_a_all_m21, .inl b_a_all_m21))] (fun v w => ∃ nq_1_0 : Nat, ∃ nq_10_0 : Nat, v = some (.int ret) ∧ zb ret ∧ w = [(h0, .inr (9, moF am known_h0 thrown_h0 wrong_h0 lastEnd_h0 o_0_17 o_0_18 o_0_19 least_h0 found_h0)), ((am 21), .inr (8, [.ref nq_1_0, .int o_1_1])), ((am 5), .inr (8, [.ref a_all_m5, .int size_m5])), (a_all_m5, .inl (cI, n_a_all_m5, .inl b_a_all_m5)), ((am 7), .inr (8, [.ref a_all_m7, .int size_m7])), (a_all_m7, .inl (cI, n_a_all_m7, .inl b_a_all_m7)), ((am 6), .inr (8, [.ref a_all_m6, .int size_m6])), (a_all_m6, .inl (cI, n_a_all_m6, .inl b_a_all_m6)), ((am 4), .inr (8, [.ref a_all_m4, .int size_m4])), (a_all_m4, .inl (cI, n_a_all_m4, .inl b_a_all_m4)), ((am 22), .inr (8, [.ref nq_10_0, .int o_10_1])), (nq_1_0, .inl (cI, on_nq_1_0, .inl ob_nq_1_0)), (nq_10_0, .inl (cI, on_nq_10_0, .inl ob_nq_10_0))]) mc ms) prog_12_method_40_code 3 R_Mo 170 [(1, .int v1_170), (0, .ref h0)] [.int t0_170] [((am 21), .inr (8, [.ref a_all_m21, .int size_m21])), (a_all_m21, .inl (cI, n_a_all_m21, .inl b_a_all_m21)), ((am 5), .inr (8, [.ref a_all_m5, .int size_m5])), (a_all_m5, .inl (cI, n_a_all_m5, .inl b_a_all_m5)), (h0, .inr (9, moF am known_h0 thrown_h0 wrong_h0 lastEnd_h0 f4_17_170 f4_18_170 f4_19_170 least_h0 found_h0)), ((am 22), .inr (8, [.ref a_all_m22, .int size_m22])), (a_all_m22, .inl (cI, n_a_all_m22, .inl b_a_all_m22)), ((am 7), .inr (8, [.ref a_all_m7, .int size_m7])), (a_all_m7, .inl (cI, n_a_all_m7, .inl b_a_all_m7)), ((am 6), .inr (8, [.ref a_all_m6, .int size_m6])), (a_all_m6, .inl (cI, n_a_all_m6, .inl b_a_all_m6)), ((am 4), .inr (8, [.ref a_all_m4, .int size_m4])), (a_all_m4, .inl (cI, n_a_all_m4, .inl b_a_all_m4))] cl_170 sl_170 := by
  intro v1_170 t0_170 f4_17_170 f4_18_170 f4_19_170 hz_v1_170 hz_t0_170 cl_170 sl_170 C_170 S_170 h hC hS
  unfold F_Mo_readFunction_170 at h
  refine j_istore_n (lv' := [(2, .int t0_170), (1, .int v1_170), (0, .ref h0)]) d_Mo_readFunction_170 rfl (by decide) rfl ?_
  refine j_aload_n d_Mo_readFunction_171 rfl 2 rfl ?_
  refine j_iload_n d_Mo_readFunction_172 rfl 0 rfl ?_
  refine j_if_eq (tgt := 185) d_Mo_readFunction_173 (by decide) (fun c15 => ?_) (fun c15 => ?_)
  · replace h := it_t c15 h
    refine j_aload_n d_Mo_readFunction_185 rfl 2 rfl ?_
    refine j_get ig_Mo rfl 4 rfl 17 (by decide) rfl m_1130 rfl d_Mo_readFunction_186 ?_
    refine j_put (ws' := [((am 21), .inr (8, [.ref a_all_m21, .int size_m21])), (a_all_m21, .inl (cI, n_a_all_m21, .inl b_a_all_m21)), ((am 5), .inr (8, [.ref a_all_m5, .int size_m5])), (a_all_m5, .inl (cI, n_a_all_m5, .inl b_a_all_m5)), (h0, .inr (9, moF am known_h0 thrown_h0 wrong_h0 lastEnd_h0 f4_17_170 f4_18_170 f4_19_170 least_h0 found_h0)), ((am 22), .inr (8, [.ref a_all_m22, .int size_m22])), (a_all_m22, .inl (cI, n_a_all_m22, .inl b_a_all_m22)), ((am 7), .inr (8, [.ref a_all_m7, .int size_m7])), (a_all_m7, .inl (cI, n_a_all_m7, .inl b_a_all_m7)), ((am 6), .inr (8, [.ref a_all_m6, .int size_m6])), (a_all_m6, .inl (cI, n_a_all_m6, .inl b_a_all_m6)), ((am 4), .inr (8, [.ref a_all_m4, .int size_m4])), (a_all_m4, .inl (cI, n_a_all_m4, .inl b_a_all_m4))]) ig_Mo tk_Mo nm_Mo rfl 4 rfl 17 (by decide) rfl m_1130 rfl (tk_Mo 17 (by decide)) rfl rfl (Nat.le_of_ble_eq_true rfl) d_Mo_readFunction_189 rfl ?_
    refine j_aload_n d_Mo_readFunction_192 rfl 2 rfl ?_
    refine j_callV (n := 0) (As := []) (rest := []) (wr := [((am 21), .inr (8, [.ref a_all_m21, .int size_m21])), (a_all_m21, .inl (cI, n_a_all_m21, .inl b_a_all_m21)), ((am 5), .inr (8, [.ref a_all_m5, .int size_m5])), (a_all_m5, .inl (cI, n_a_all_m5, .inl b_a_all_m5)), ((am 22), .inr (8, [.ref a_all_m22, .int size_m22])), (a_all_m22, .inl (cI, n_a_all_m22, .inl b_a_all_m22)), ((am 7), .inr (8, [.ref a_all_m7, .int size_m7])), (a_all_m7, .inl (cI, n_a_all_m7, .inl b_a_all_m7)), ((am 6), .inr (8, [.ref a_all_m6, .int size_m6])), (a_all_m6, .inl (cI, n_a_all_m6, .inl b_a_all_m6)), ((am 4), .inr (8, [.ref a_all_m4, .int size_m4])), (a_all_m4, .inl (cI, n_a_all_m4, .inl b_a_all_m4))]) (c_Mo_fail l D cI cB cJ cS h0 am known_h0 thrown_h0 wrong_h0 lastEnd_h0 f4_17_170 f4_18_170 f4_19_170 least_h0 found_h0  ) k_Mo_278 (by decide) ⟨Nat.le_of_ble_eq_true rfl, Nat.le_of_ble_eq_true rfl⟩ rfl 0 rfl [4] [0, 1, 2, 3, 5, 6, 7, 8, 9, 10, 11, 12] rfl (by decide) rfl (by decide) (by decide) rfl rfl (Nat.le_of_ble_eq_true rfl) d_Mo_readFunction_193 ⟨show cl_170 + 0 ≤ mc by omega, show sl_170 + 0 ≤ ms by omega⟩ (fun v w hq => ?_)
    obtain ⟨rfl, _, rfl⟩ := hq
    refine j_norm (pc' := 196) (st' := [.int 0]) (ws' := [((am 21), .inr (8, [.ref a_all_m21, .int size_m21])), (a_all_m21, .inl (cI, n_a_all_m21, .inl b_a_all_m21)), ((am 5), .inr (8, [.ref a_all_m5, .int size_m5])), (a_all_m5, .inl (cI, n_a_all_m5, .inl b_a_all_m5)), ((am 22), .inr (8, [.ref a_all_m22, .int size_m22])), (a_all_m22, .inl (cI, n_a_all_m22, .inl b_a_all_m22)), ((am 7), .inr (8, [.ref a_all_m7, .int size_m7])), (a_all_m7, .inl (cI, n_a_all_m7, .inl b_a_all_m7)), ((am 6), .inr (8, [.ref a_all_m6, .int size_m6])), (a_all_m6, .inl (cI, n_a_all_m6, .inl b_a_all_m6)), ((am 4), .inr (8, [.ref a_all_m4, .int size_m4])), (a_all_m4, .inl (cI, n_a_all_m4, .inl b_a_all_m4)), (h0, .inr (9, moF am known_h0 thrown_h0 wrong_h0 lastEnd_h0 f4_17_170 f4_17_170 f4_19_170 least_h0 found_h0))]) (cl' := cl_170) (sl' := sl_170) rfl rfl rfl rfl rfl rfl ?_
    replace h := lf_s h
    obtain ⟨h, e1, e2⟩ := h
    replace h := Prod.mk.inj h
    obtain ⟨h9, h⟩ := h
    subst h9
    replace h := Prod.mk.inj h
    obtain ⟨h9, h⟩ := h
    subst h9
    replace h := Prod.mk.inj h
    obtain ⟨h9, h⟩ := h
    subst h9
    replace h := Prod.mk.inj h
    obtain ⟨h9, h⟩ := h
    subst h9
    replace h := Prod.mk.inj h
    obtain ⟨h9, h⟩ := h
    subst h9
    replace h := Prod.mk.inj h
    obtain ⟨h9, h⟩ := h
    subst h9
    replace h := Prod.mk.inj h
    obtain ⟨h9, h⟩ := h
    subst h9
    replace h := Prod.mk.inj h
    obtain ⟨h9, h⟩ := h
    subst h9
    replace h := Prod.mk.inj h
    obtain ⟨h9, h⟩ := h
    subst h9
    subst h
    refine j_widen (cl' := mc) (sl' := ms) (by omega) (by omega) ?_
    exact j_zret (w := [(h0, .inr (9, moF am known_h0 thrown_h0 wrong_h0 lastEnd_h0 f4_17_170 f4_17_170 f4_19_170 least_h0 found_h0)), ((am 21), .inr (8, [.ref a_all_m21, .int size_m21])), ((am 5), .inr (8, [.ref a_all_m5, .int size_m5])), (a_all_m5, .inl (cI, n_a_all_m5, .inl b_a_all_m5)), ((am 7), .inr (8, [.ref a_all_m7, .int size_m7])), (a_all_m7, .inl (cI, n_a_all_m7, .inl b_a_all_m7)), ((am 6), .inr (8, [.ref a_all_m6, .int size_m6])), (a_all_m6, .inl (cI, n_a_all_m6, .inl b_a_all_m6)), ((am 4), .inr (8, [.ref a_all_m4, .int size_m4])), (a_all_m4, .inl (cI, n_a_all_m4, .inl b_a_all_m4)), ((am 22), .inr (8, [.ref a_all_m22, .int size_m22])), (a_all_m21, .inl (cI, n_a_all_m21, .inl b_a_all_m21)), (a_all_m22, .inl (cI, n_a_all_m22, .inl b_a_all_m22))]) hr (zb_n zb0) d_Mo_readFunction_196 [12, 0, 2, 3, 6, 7, 8, 9, 10, 11, 4, 1, 5] rfl (by decide) ⟨a_all_m21, a_all_m22, rfl, zb0, rfl⟩
  · replace h := it_f c15 h
    refine j_aload_n d_Mo_readFunction_176 rfl 2 rfl ?_
    refine j_get ig_Mo rfl 4 rfl 17 (by decide) rfl m_1130 rfl d_Mo_readFunction_177 ?_
    refine j_iconst (v := 1) d_Mo_readFunction_180 (by decide) ?_
    refine j_iadd d_Mo_readFunction_181 ?_
    refine j_goto (tgt := 189) d_Mo_readFunction_182 (by decide) ?_
    refine j_put (ws' := [((am 21), .inr (8, [.ref a_all_m21, .int size_m21])), (a_all_m21, .inl (cI, n_a_all_m21, .inl b_a_all_m21)), ((am 5), .inr (8, [.ref a_all_m5, .int size_m5])), (a_all_m5, .inl (cI, n_a_all_m5, .inl b_a_all_m5)), (h0, .inr (9, moF am known_h0 thrown_h0 wrong_h0 lastEnd_h0 (f4_17_170 + 1) f4_18_170 f4_19_170 least_h0 found_h0)), ((am 22), .inr (8, [.ref a_all_m22, .int size_m22])), (a_all_m22, .inl (cI, n_a_all_m22, .inl b_a_all_m22)), ((am 7), .inr (8, [.ref a_all_m7, .int size_m7])), (a_all_m7, .inl (cI, n_a_all_m7, .inl b_a_all_m7)), ((am 6), .inr (8, [.ref a_all_m6, .int size_m6])), (a_all_m6, .inl (cI, n_a_all_m6, .inl b_a_all_m6)), ((am 4), .inr (8, [.ref a_all_m4, .int size_m4])), (a_all_m4, .inl (cI, n_a_all_m4, .inl b_a_all_m4))]) ig_Mo tk_Mo nm_Mo rfl 4 rfl 17 (by decide) rfl m_1130 rfl (tk_Mo 17 (by decide)) rfl rfl (Nat.le_of_ble_eq_true rfl) d_Mo_readFunction_189 rfl ?_
    refine j_aload_n d_Mo_readFunction_192 rfl 2 rfl ?_
    refine j_callV (n := 0) (As := []) (rest := []) (wr := [((am 21), .inr (8, [.ref a_all_m21, .int size_m21])), (a_all_m21, .inl (cI, n_a_all_m21, .inl b_a_all_m21)), ((am 5), .inr (8, [.ref a_all_m5, .int size_m5])), (a_all_m5, .inl (cI, n_a_all_m5, .inl b_a_all_m5)), ((am 22), .inr (8, [.ref a_all_m22, .int size_m22])), (a_all_m22, .inl (cI, n_a_all_m22, .inl b_a_all_m22)), ((am 7), .inr (8, [.ref a_all_m7, .int size_m7])), (a_all_m7, .inl (cI, n_a_all_m7, .inl b_a_all_m7)), ((am 6), .inr (8, [.ref a_all_m6, .int size_m6])), (a_all_m6, .inl (cI, n_a_all_m6, .inl b_a_all_m6)), ((am 4), .inr (8, [.ref a_all_m4, .int size_m4])), (a_all_m4, .inl (cI, n_a_all_m4, .inl b_a_all_m4))]) (c_Mo_fail l D cI cB cJ cS h0 am known_h0 thrown_h0 wrong_h0 lastEnd_h0 (f4_17_170 + 1) f4_18_170 f4_19_170 least_h0 found_h0  ) k_Mo_278 (by decide) ⟨Nat.le_of_ble_eq_true rfl, Nat.le_of_ble_eq_true rfl⟩ rfl 0 rfl [4] [0, 1, 2, 3, 5, 6, 7, 8, 9, 10, 11, 12] rfl (by decide) rfl (by decide) (by decide) rfl rfl (Nat.le_of_ble_eq_true rfl) d_Mo_readFunction_193 ⟨show cl_170 + 0 ≤ mc by omega, show sl_170 + 0 ≤ ms by omega⟩ (fun v w hq => ?_)
    obtain ⟨rfl, _, rfl⟩ := hq
    refine j_norm (pc' := 196) (st' := [.int 0]) (ws' := [((am 21), .inr (8, [.ref a_all_m21, .int size_m21])), (a_all_m21, .inl (cI, n_a_all_m21, .inl b_a_all_m21)), ((am 5), .inr (8, [.ref a_all_m5, .int size_m5])), (a_all_m5, .inl (cI, n_a_all_m5, .inl b_a_all_m5)), ((am 22), .inr (8, [.ref a_all_m22, .int size_m22])), (a_all_m22, .inl (cI, n_a_all_m22, .inl b_a_all_m22)), ((am 7), .inr (8, [.ref a_all_m7, .int size_m7])), (a_all_m7, .inl (cI, n_a_all_m7, .inl b_a_all_m7)), ((am 6), .inr (8, [.ref a_all_m6, .int size_m6])), (a_all_m6, .inl (cI, n_a_all_m6, .inl b_a_all_m6)), ((am 4), .inr (8, [.ref a_all_m4, .int size_m4])), (a_all_m4, .inl (cI, n_a_all_m4, .inl b_a_all_m4)), (h0, .inr (9, moF am known_h0 thrown_h0 wrong_h0 lastEnd_h0 (f4_17_170 + 1) (f4_17_170 + 1) f4_19_170 least_h0 found_h0))]) (cl' := cl_170) (sl' := sl_170) rfl rfl rfl rfl rfl rfl ?_
    replace h := lf_s h
    obtain ⟨h, e1, e2⟩ := h
    replace h := Prod.mk.inj h
    obtain ⟨h9, h⟩ := h
    subst h9
    replace h := Prod.mk.inj h
    obtain ⟨h9, h⟩ := h
    subst h9
    replace h := Prod.mk.inj h
    obtain ⟨h9, h⟩ := h
    subst h9
    replace h := Prod.mk.inj h
    obtain ⟨h9, h⟩ := h
    subst h9
    replace h := Prod.mk.inj h
    obtain ⟨h9, h⟩ := h
    subst h9
    replace h := Prod.mk.inj h
    obtain ⟨h9, h⟩ := h
    subst h9
    replace h := Prod.mk.inj h
    obtain ⟨h9, h⟩ := h
    subst h9
    replace h := Prod.mk.inj h
    obtain ⟨h9, h⟩ := h
    subst h9
    replace h := Prod.mk.inj h
    obtain ⟨h9, h⟩ := h
    subst h9
    subst h
    refine j_widen (cl' := mc) (sl' := ms) (by omega) (by omega) ?_
    exact j_zret (w := [(h0, .inr (9, moF am known_h0 thrown_h0 wrong_h0 lastEnd_h0 (f4_17_170 + 1) (f4_17_170 + 1) f4_19_170 least_h0 found_h0)), ((am 21), .inr (8, [.ref a_all_m21, .int size_m21])), ((am 5), .inr (8, [.ref a_all_m5, .int size_m5])), (a_all_m5, .inl (cI, n_a_all_m5, .inl b_a_all_m5)), ((am 7), .inr (8, [.ref a_all_m7, .int size_m7])), (a_all_m7, .inl (cI, n_a_all_m7, .inl b_a_all_m7)), ((am 6), .inr (8, [.ref a_all_m6, .int size_m6])), (a_all_m6, .inl (cI, n_a_all_m6, .inl b_a_all_m6)), ((am 4), .inr (8, [.ref a_all_m4, .int size_m4])), (a_all_m4, .inl (cI, n_a_all_m4, .inl b_a_all_m4)), ((am 22), .inr (8, [.ref a_all_m22, .int size_m22])), (a_all_m21, .inl (cI, n_a_all_m21, .inl b_a_all_m21)), (a_all_m22, .inl (cI, n_a_all_m22, .inl b_a_all_m22))]) hr (zb_n zb0) d_Mo_readFunction_196 [12, 0, 2, 3, 6, 7, 8, 9, 10, 11, 4, 1, 5] rfl (by decide) ⟨a_all_m21, a_all_m22, rfl, zb0, rfl⟩
set_option maxHeartbeats 4000000 in
set_option maxRecDepth 100000 in
theorem L_Mo_readFunction_119 (l : Launch) (D : va_G) (cI cB cJ cS : ClassId) (h0 : Nat) (am : Nat → Nat) (a_all_m21 : Nat) (a_all_m5 : Nat) (a_all_m7 : Nat) (a_all_m6 : Nat) (a_all_m4 : Nat) (a_all_m22 : Nat) (known_h0 : Int32) (thrown_h0 : Int32) (wrong_h0 : Int32) (lastEnd_h0 : Int32) (at_h0 : Int32) (bad_h0 : Int32) (levels_h0 : Int32) (least_h0 : Int32) (found_h0 : Int32) (size_m21 : Int32) (size_m5 : Int32) (n_a_all_m5 : Nat) (b_a_all_m5 : Nat → Int32) (size_m7 : Int32) (n_a_all_m7 : Nat) (b_a_all_m7 : Nat → Int32) (size_m6 : Int32) (n_a_all_m6 : Nat) (b_a_all_m6 : Nat → Int32) (size_m4 : Int32) (n_a_all_m4 : Nat) (b_a_all_m4 : Nat → Int32) (size_m22 : Int32) (n_a_all_m22 : Nat) (b_a_all_m22 : Nat → Int32) (n_a_all_m21 : Nat) (b_a_all_m21 : Nat → Int32) (ret : Int32) (o_0_17 : Int32) (o_0_18 : Int32) (o_0_19 : Int32) (o_1_1 : Int32) (o_10_1 : Int32) (on_nq_1_0 : Nat) (ob_nq_1_0 : Nat → Int32) (on_nq_10_0 : Nat) (ob_nq_10_0 : Nat → Int32) (mc ms : Nat) (p : Program) (e : Env) (s : State) (m : MethodId) (below : List Frame) (meth : Method) (c : Code) (hr : meth.sig.returnType = (Option.some Jvm.ClassFile.FieldType.boolean)) (hnm : meth.name = y_Mo_readFunction.name) : ∀ (v1_119 : Int32) (f10_17_119 : Int32) (f10_18_119 : Int32) (f10_19_119 : Int32) (hz_v1_119 : zb v1_119) (cl_119 sl_119 C_119 S_119 : Nat), F_Mo_readFunction_119 known_h0 thrown_h0 wrong_h0 lastEnd_h0 least_h0 found_h0 size_m21 size_m5 n_a_all_m5 b_a_all_m5 size_m7 n_a_all_m7 b_a_all_m7 size_m6 n_a_all_m6 b_a_all_m6 size_m4 n_a_all_m4 b_a_all_m4 size_m22 n_a_all_m22 b_a_all_m22 n_a_all_m21 b_a_all_m21   v1_119 f10_17_119 f10_18_119 f10_19_119 = some ((ret, o_0_17, o_0_18, o_0_19, o_1_1, o_10_1, on_nq_1_0, ob_nq_1_0, on_nq_10_0, ob_nq_10_0), C_119, S_119) → cl_119 + C_119 ≤ mc → sl_119 + S_119 ≤ ms → J (KxOf p l e { frames := 4, cells := mc, slots := ms, locals := 83 } s m [.ref h0].toArray below meth c D (gT cI cB cJ cS) [(h0, .inr (9, moF am known_h0 thrown_h0 wrong_h0 lastEnd_h0 at_h0 bad_h0 levels_h0 least_h0 found_h0)), ((am 21), .inr (8, [.ref a_all_m21, .int size_m21])), ((am 5), .inr (8, [.ref a_all_m5, .int size_m5])), (a_all_m5, .inl (cI, n_a_all_m5, .inl b_a_all_m5)), ((am 7), .inr (8, [.ref a_all_m7, .int size_m7])), (a_all_m7, .inl (cI, n_a_all_m7, .inl b_a_all_m7)), ((am 6), .inr (8, [.ref a_all_m6, .int size_m6])), (a_all_m6, .inl (cI, n_a_all_m6, .inl b_a_all_m6)), ((am 4), .inr (8, [.ref a_all_m4, .int size_m4])), (a_all_m4, .inl (cI, n_a_all_m4, .inl b_a_all_m4)), ((am 22), .inr (8, [.ref a_all_m22, .int size_m22])), (a_all_m22, .inl (cI, n_a_all_m22, .inl b_a_all_m22)), (a_all_m21, .inl (cI, n_a_all_m21, .inl b_a_all_m21))] (fun v w => ∃ nq_1_0 : Nat, ∃ nq_10_0 : Nat, v = some (.int ret) ∧ zb ret ∧ w = [(h0, .inr (9, moF am known_h0 thrown_h0 wrong_h0 lastEnd_h0 o_0_17 o_0_18 o_0_19 least_h0 found_h0)), ((am 21), .inr (8, [.ref nq_1_0, .int o_1_1])), ((am 5), .inr (8, [.ref a_all_m5, .int size_m5])), (a_all_m5, .inl (cI, n_a_all_m5, .inl b_a_all_m5)), ((am 7), .inr (8, [.ref a_all_m7, .int size_m7])), (a_all_m7, .inl (cI, n_a_all_m7, .inl b_a_all_m7)), ((am 6), .inr (8, [.ref a_all_m6, .int size_m6])), (a_all_m6, .inl (cI, n_a_all_m6, .inl b_a_all_m6)), ((am 4), .inr (8, [.ref a_all_m4, .int size_m4])), (a_all_m4, .inl (cI, n_a_all_m4, .inl b_a_all_m4)), ((am 22), .inr (8, [.ref nq_10_0, .int o_10_1])), (nq_1_0, .inl (cI, on_nq_1_0, .inl ob_nq_1_0)), (nq_10_0, .inl (cI, on_nq_10_0, .inl ob_nq_10_0))]) mc ms) prog_12_method_40_code 3 R_Mo 119 [(1, .int v1_119), (0, .ref h0)] [] [((am 21), .inr (8, [.ref a_all_m21, .int size_m21])), ((am 7), .inr (8, [.ref a_all_m7, .int size_m7])), (a_all_m7, .inl (cI, n_a_all_m7, .inl b_a_all_m7)), ((am 6), .inr (8, [.ref a_all_m6, .int size_m6])), (a_all_m6, .inl (cI, n_a_all_m6, .inl b_a_all_m6)), ((am 4), .inr (8, [.ref a_all_m4, .int size_m4])), (a_all_m4, .inl (cI, n_a_all_m4, .inl b_a_all_m4)), ((am 22), .inr (8, [.ref a_all_m22, .int size_m22])), (a_all_m22, .inl (cI, n_a_all_m22, .inl b_a_all_m22)), (a_all_m21, .inl (cI, n_a_all_m21, .inl b_a_all_m21)), (h0, .inr (9, moF am known_h0 thrown_h0 wrong_h0 lastEnd_h0 f10_17_119 f10_18_119 f10_19_119 least_h0 found_h0)), ((am 5), .inr (8, [.ref a_all_m5, .int size_m5])), (a_all_m5, .inl (cI, n_a_all_m5, .inl b_a_all_m5))] cl_119 sl_119 := by
  intro v1_119 f10_17_119 f10_18_119 f10_19_119 hz_v1_119 cl_119 sl_119 C_119 S_119 h hC hS
  unfold F_Mo_readFunction_119 at h
  refine j_aload_n d_Mo_readFunction_119 rfl 1 rfl ?_
  replace h := bd_s h
  obtain ⟨_, k18, h⟩ := h
  refine j_callV (n := 0) (As := []) (rest := []) (wr := [((am 21), .inr (8, [.ref a_all_m21, .int size_m21])), ((am 7), .inr (8, [.ref a_all_m7, .int size_m7])), (a_all_m7, .inl (cI, n_a_all_m7, .inl b_a_all_m7)), ((am 6), .inr (8, [.ref a_all_m6, .int size_m6])), (a_all_m6, .inl (cI, n_a_all_m6, .inl b_a_all_m6)), ((am 4), .inr (8, [.ref a_all_m4, .int size_m4])), (a_all_m4, .inl (cI, n_a_all_m4, .inl b_a_all_m4)), ((am 22), .inr (8, [.ref a_all_m22, .int size_m22])), (a_all_m22, .inl (cI, n_a_all_m22, .inl b_a_all_m22)), (a_all_m21, .inl (cI, n_a_all_m21, .inl b_a_all_m21))]) (c_Mo_kind l D cI cB cJ cS h0 am a_all_m5 known_h0 thrown_h0 wrong_h0 lastEnd_h0 f10_17_119 f10_18_119 f10_19_119 least_h0 found_h0 size_m5 n_a_all_m5 b_a_all_m5  k18) k_Mo_275 (by decide) ⟨Nat.le_of_ble_eq_true rfl, Nat.le_of_ble_eq_true rfl⟩ rfl 0 rfl [10, 11, 12] [0, 1, 2, 3, 4, 5, 6, 7, 8, 9] rfl (by decide) rfl (by decide) (by decide) rfl rfl (Nat.le_of_ble_eq_true rfl) d_Mo_readFunction_120 ⟨show cl_119 + 0 ≤ mc by omega, show sl_119 + 0 ≤ ms by omega⟩ (fun v w hq => ?_)
  obtain ⟨rfl, rfl⟩ := hq
  refine j_norm (pc' := 123) (st' := [.int (b_a_all_m5 (Int32.toNatClampNeg f10_17_119))]) (ws' := [((am 21), .inr (8, [.ref a_all_m21, .int size_m21])), ((am 7), .inr (8, [.ref a_all_m7, .int size_m7])), (a_all_m7, .inl (cI, n_a_all_m7, .inl b_a_all_m7)), ((am 6), .inr (8, [.ref a_all_m6, .int size_m6])), (a_all_m6, .inl (cI, n_a_all_m6, .inl b_a_all_m6)), ((am 4), .inr (8, [.ref a_all_m4, .int size_m4])), (a_all_m4, .inl (cI, n_a_all_m4, .inl b_a_all_m4)), ((am 22), .inr (8, [.ref a_all_m22, .int size_m22])), (a_all_m22, .inl (cI, n_a_all_m22, .inl b_a_all_m22)), (a_all_m21, .inl (cI, n_a_all_m21, .inl b_a_all_m21)), (h0, .inr (9, moF am known_h0 thrown_h0 wrong_h0 lastEnd_h0 f10_17_119 f10_18_119 f10_19_119 least_h0 found_h0)), ((am 5), .inr (8, [.ref a_all_m5, .int size_m5])), (a_all_m5, .inl (cI, n_a_all_m5, .inl b_a_all_m5))]) (cl' := cl_119) (sl' := sl_119) rfl rfl rfl rfl rfl rfl ?_
  refine j_iconst (v := 2) d_Mo_readFunction_123 (by decide) ?_
  refine j_icmp_eq (tgt := 132) d_Mo_readFunction_124 (by decide) (fun c19 => ?_) (fun c19 => ?_)
  · replace h := it_t c19 h
    refine j_aload_n d_Mo_readFunction_132 rfl 1 rfl ?_
    refine j_aload_n d_Mo_readFunction_133 rfl 1 rfl ?_
    refine j_get ig_Mo rfl 10 rfl 17 (by decide) rfl m_1130 rfl d_Mo_readFunction_134 ?_
    replace h := bd_s h
    obtain ⟨r20, k22, h⟩ := h
    refine j_callV (n := 1) (As := [.int f10_17_119]) (rest := []) (wr := [((am 21), .inr (8, [.ref a_all_m21, .int size_m21])), (a_all_m21, .inl (cI, n_a_all_m21, .inl b_a_all_m21)), ((am 5), .inr (8, [.ref a_all_m5, .int size_m5])), (a_all_m5, .inl (cI, n_a_all_m5, .inl b_a_all_m5))]) (c_Mo_isFunction l D cI cB cJ cS h0 am a_all_m22 a_all_m7 a_all_m6 a_all_m4 f10_17_119 known_h0 thrown_h0 wrong_h0 lastEnd_h0 f10_17_119 f10_18_119 f10_19_119 least_h0 found_h0 size_m22 n_a_all_m22 b_a_all_m22 size_m7 n_a_all_m7 b_a_all_m7 size_m6 n_a_all_m6 b_a_all_m6 size_m4 n_a_all_m4 b_a_all_m4  r20 k22) k_Mo_341 (by decide) ⟨Nat.le_of_ble_eq_true rfl, Nat.le_of_ble_eq_true rfl⟩ rfl 0 rfl [10, 7, 8, 1, 2, 3, 4, 5, 6] [0, 9, 11, 12] rfl (by decide) rfl (by decide) (by decide) rfl rfl (Nat.le_of_ble_eq_true rfl) d_Mo_readFunction_137 ⟨show cl_119 + 0 ≤ mc by omega, show sl_119 + 0 ≤ ms by omega⟩ (fun v w hq => ?_)
    obtain ⟨rfl, z21, rfl⟩ := hq
    refine j_norm (pc' := 140) (st' := [.int r20]) (ws' := [((am 21), .inr (8, [.ref a_all_m21, .int size_m21])), (a_all_m21, .inl (cI, n_a_all_m21, .inl b_a_all_m21)), ((am 5), .inr (8, [.ref a_all_m5, .int size_m5])), (a_all_m5, .inl (cI, n_a_all_m5, .inl b_a_all_m5)), (h0, .inr (9, moF am known_h0 thrown_h0 wrong_h0 lastEnd_h0 f10_17_119 f10_18_119 f10_19_119 least_h0 found_h0)), ((am 22), .inr (8, [.ref a_all_m22, .int size_m22])), (a_all_m22, .inl (cI, n_a_all_m22, .inl b_a_all_m22)), ((am 7), .inr (8, [.ref a_all_m7, .int size_m7])), (a_all_m7, .inl (cI, n_a_all_m7, .inl b_a_all_m7)), ((am 6), .inr (8, [.ref a_all_m6, .int size_m6])), (a_all_m6, .inl (cI, n_a_all_m6, .inl b_a_all_m6)), ((am 4), .inr (8, [.ref a_all_m4, .int size_m4])), (a_all_m4, .inl (cI, n_a_all_m4, .inl b_a_all_m4))]) (cl' := cl_119) (sl' := sl_119) rfl rfl rfl rfl rfl rfl ?_
    refine j_if_eq (tgt := 197) d_Mo_readFunction_140 (by decide) (fun c23 => ?_) (fun c23 => ?_)
    · replace h := it_t c23 h
      refine j_aload_n d_Mo_readFunction_197 rfl 1 rfl ?_
      refine j_get ig_Mo rfl 4 rfl 22 (by decide) rfl m_1135 rfl d_Mo_readFunction_198 ?_
      refine j_aload_n d_Mo_readFunction_201 rfl 1 rfl ?_
      refine j_get ig_Mo rfl 4 rfl 17 (by decide) rfl m_1130 rfl d_Mo_readFunction_202 ?_
      replace h := bw_s h
      obtain ⟨⟨r24, r25⟩, C27, S28, C29, S30, k31, h, e1, e2⟩ := h
      replace hC : cl_119 + C27 + C29 ≤ mc := by omega
      replace hS : sl_119 + S28 + S30 ≤ ms := by omega
      clear e1 e2
      refine j_callV (n := 1) (As := [.int f10_17_119]) (rest := []) (wr := [((am 21), .inr (8, [.ref a_all_m21, .int size_m21])), (a_all_m21, .inl (cI, n_a_all_m21, .inl b_a_all_m21)), ((am 5), .inr (8, [.ref a_all_m5, .int size_m5])), (a_all_m5, .inl (cI, n_a_all_m5, .inl b_a_all_m5)), (h0, .inr (9, moF am known_h0 thrown_h0 wrong_h0 lastEnd_h0 f10_17_119 f10_18_119 f10_19_119 least_h0 found_h0)), ((am 7), .inr (8, [.ref a_all_m7, .int size_m7])), (a_all_m7, .inl (cI, n_a_all_m7, .inl b_a_all_m7)), ((am 6), .inr (8, [.ref a_all_m6, .int size_m6])), (a_all_m6, .inl (cI, n_a_all_m6, .inl b_a_all_m6)), ((am 4), .inr (8, [.ref a_all_m4, .int size_m4])), (a_all_m4, .inl (cI, n_a_all_m4, .inl b_a_all_m4))]) (c_Nm_add l D cI cB cJ cS (am 22) a_all_m22 f10_17_119 size_m22 n_a_all_m22 b_a_all_m22  r24 r25 C27 S28 k31) k_Mo_200 (by decide) ⟨Nat.le_of_ble_eq_true rfl, Nat.le_of_ble_eq_true rfl⟩ rfl 0 rfl [5, 6] [0, 1, 2, 3, 4, 7, 8, 9, 10, 11, 12] rfl (by decide) rfl (by decide) (by decide) rfl rfl (Nat.le_of_ble_eq_true rfl) d_Mo_readFunction_205 ⟨show cl_119 + C27 ≤ mc by omega, show sl_119 + S28 ≤ ms by omega⟩ (fun v w hq => ?_)
      obtain ⟨q26, rfl, rfl⟩ := hq
      refine j_norm (pc' := 208) (st' := []) (ws' := [((am 21), .inr (8, [.ref a_all_m21, .int size_m21])), (a_all_m21, .inl (cI, n_a_all_m21, .inl b_a_all_m21)), ((am 5), .inr (8, [.ref a_all_m5, .int size_m5])), (a_all_m5, .inl (cI, n_a_all_m5, .inl b_a_all_m5)), (h0, .inr (9, moF am known_h0 thrown_h0 wrong_h0 lastEnd_h0 f10_17_119 f10_18_119 f10_19_119 least_h0 found_h0)), ((am 7), .inr (8, [.ref a_all_m7, .int size_m7])), (a_all_m7, .inl (cI, n_a_all_m7, .inl b_a_all_m7)), ((am 6), .inr (8, [.ref a_all_m6, .int size_m6])), (a_all_m6, .inl (cI, n_a_all_m6, .inl b_a_all_m6)), ((am 4), .inr (8, [.ref a_all_m4, .int size_m4])), (a_all_m4, .inl (cI, n_a_all_m4, .inl b_a_all_m4)), ((am 22), .inr (8, [.ref q26, .int (size_m22 + 1)])), (q26, .inl (cI, r24, .inl r25))]) (cl' := cl_119 + C27) (sl' := sl_119 + S28) rfl rfl rfl rfl rfl rfl ?_
      refine j_aload_n d_Mo_readFunction_208 rfl 1 rfl ?_
      refine j_dup rfl d_Mo_readFunction_209 ?_
      refine j_get ig_Mo rfl 4 rfl 17 (by decide) rfl m_1130 rfl d_Mo_readFunction_210 ?_
      refine j_iconst (v := 1) d_Mo_readFunction_213 (by decide) ?_
      refine j_iadd d_Mo_readFunction_214 ?_
      refine j_put (ws' := [((am 21), .inr (8, [.ref a_all_m21, .int size_m21])), (a_all_m21, .inl (cI, n_a_all_m21, .inl b_a_all_m21)), ((am 5), .inr (8, [.ref a_all_m5, .int size_m5])), (a_all_m5, .inl (cI, n_a_all_m5, .inl b_a_all_m5)), (h0, .inr (9, moF am known_h0 thrown_h0 wrong_h0 lastEnd_h0 (f10_17_119 + 1) f10_18_119 f10_19_119 least_h0 found_h0)), ((am 7), .inr (8, [.ref a_all_m7, .int size_m7])), (a_all_m7, .inl (cI, n_a_all_m7, .inl b_a_all_m7)), ((am 6), .inr (8, [.ref a_all_m6, .int size_m6])), (a_all_m6, .inl (cI, n_a_all_m6, .inl b_a_all_m6)), ((am 4), .inr (8, [.ref a_all_m4, .int size_m4])), (a_all_m4, .inl (cI, n_a_all_m4, .inl b_a_all_m4)), ((am 22), .inr (8, [.ref q26, .int (size_m22 + 1)])), (q26, .inl (cI, r24, .inl r25))]) ig_Mo tk_Mo nm_Mo rfl 4 rfl 17 (by decide) rfl m_1130 rfl (tk_Mo 17 (by decide)) rfl rfl (Nat.le_of_ble_eq_true rfl) d_Mo_readFunction_215 rfl ?_
      refine j_aload_n d_Mo_readFunction_218 rfl 1 rfl ?_
      refine j_bipush (v := 50) d_Mo_readFunction_219 (by decide) ?_
      replace h := bd_s h
      obtain ⟨⟨r32, r33, r34, r35⟩, k37, h⟩ := h
      refine j_callV (n := 1) (As := [.int 50]) (rest := []) (wr := [((am 21), .inr (8, [.ref a_all_m21, .int size_m21])), (a_all_m21, .inl (cI, n_a_all_m21, .inl b_a_all_m21)), ((am 7), .inr (8, [.ref a_all_m7, .int size_m7])), (a_all_m7, .inl (cI, n_a_all_m7, .inl b_a_all_m7)), ((am 6), .inr (8, [.ref a_all_m6, .int size_m6])), (a_all_m6, .inl (cI, n_a_all_m6, .inl b_a_all_m6)), ((am 4), .inr (8, [.ref a_all_m4, .int size_m4])), (a_all_m4, .inl (cI, n_a_all_m4, .inl b_a_all_m4)), ((am 22), .inr (8, [.ref q26, .int (size_m22 + 1)])), (q26, .inl (cI, r24, .inl r25))]) (c_Mo_enter l D cI cB cJ cS h0 am a_all_m5 50 known_h0 thrown_h0 wrong_h0 lastEnd_h0 (f10_17_119 + 1) f10_18_119 f10_19_119 least_h0 found_h0 size_m5 n_a_all_m5 b_a_all_m5  r32 r33 r34 r35 k37) k_Mo_297 (by decide) ⟨Nat.le_of_ble_eq_true rfl, Nat.le_of_ble_eq_true rfl⟩ rfl 0 rfl [4, 2, 3] [0, 1, 5, 6, 7, 8, 9, 10, 11, 12] rfl (by decide) rfl (by decide) (by decide) rfl rfl (Nat.le_of_ble_eq_true rfl) d_Mo_readFunction_221 ⟨show cl_119 + C27 + 0 ≤ mc by omega, show sl_119 + S28 + 0 ≤ ms by omega⟩ (fun v w hq => ?_)
      obtain ⟨rfl, z36, rfl⟩ := hq
      refine j_norm (pc' := 224) (st' := [.int r32]) (ws' := [((am 21), .inr (8, [.ref a_all_m21, .int size_m21])), (a_all_m21, .inl (cI, n_a_all_m21, .inl b_a_all_m21)), ((am 7), .inr (8, [.ref a_all_m7, .int size_m7])), (a_all_m7, .inl (cI, n_a_all_m7, .inl b_a_all_m7)), ((am 6), .inr (8, [.ref a_all_m6, .int size_m6])), (a_all_m6, .inl (cI, n_a_all_m6, .inl b_a_all_m6)), ((am 4), .inr (8, [.ref a_all_m4, .int size_m4])), (a_all_m4, .inl (cI, n_a_all_m4, .inl b_a_all_m4)), ((am 22), .inr (8, [.ref q26, .int (size_m22 + 1)])), (q26, .inl (cI, r24, .inl r25)), (h0, .inr (9, moF am known_h0 thrown_h0 wrong_h0 lastEnd_h0 r33 r34 r35 least_h0 found_h0)), ((am 5), .inr (8, [.ref a_all_m5, .int size_m5])), (a_all_m5, .inl (cI, n_a_all_m5, .inl b_a_all_m5))]) (cl' := cl_119 + C27) (sl' := sl_119 + S28) rfl rfl rfl rfl rfl rfl ?_
      refine j_if_eq (tgt := 252) d_Mo_readFunction_224 (by decide) (fun c38 => ?_) (fun c38 => ?_)
      · replace h := it_t c38 h
        refine j_iconst (v := 0) d_Mo_readFunction_252 (by decide) ?_
        replace h := lf_s h
        obtain ⟨h, e1, e2⟩ := h
        replace h := Prod.mk.inj h
        obtain ⟨h9, h⟩ := h
        subst h9
        replace h := Prod.mk.inj h
        obtain ⟨h9, h⟩ := h
        subst h9
        replace h := Prod.mk.inj h
        obtain ⟨h9, h⟩ := h
        subst h9
        replace h := Prod.mk.inj h
        obtain ⟨h9, h⟩ := h
        subst h9
        replace h := Prod.mk.inj h
        obtain ⟨h9, h⟩ := h
        subst h9
        replace h := Prod.mk.inj h
        obtain ⟨h9, h⟩ := h
        subst h9
        replace h := Prod.mk.inj h
        obtain ⟨h9, h⟩ := h
        subst h9
        replace h := Prod.mk.inj h
        obtain ⟨h9, h⟩ := h
        subst h9
        replace h := Prod.mk.inj h
        obtain ⟨h9, h⟩ := h
        subst h9
        subst h
        refine j_widen (cl' := mc) (sl' := ms) (by omega) (by omega) ?_
        exact j_zret (w := [(h0, .inr (9, moF am known_h0 thrown_h0 wrong_h0 lastEnd_h0 r33 r34 r35 least_h0 found_h0)), ((am 21), .inr (8, [.ref a_all_m21, .int size_m21])), ((am 5), .inr (8, [.ref a_all_m5, .int size_m5])), (a_all_m5, .inl (cI, n_a_all_m5, .inl b_a_all_m5)), ((am 7), .inr (8, [.ref a_all_m7, .int size_m7])), (a_all_m7, .inl (cI, n_a_all_m7, .inl b_a_all_m7)), ((am 6), .inr (8, [.ref a_all_m6, .int size_m6])), (a_all_m6, .inl (cI, n_a_all_m6, .inl b_a_all_m6)), ((am 4), .inr (8, [.ref a_all_m4, .int size_m4])), (a_all_m4, .inl (cI, n_a_all_m4, .inl b_a_all_m4)), ((am 22), .inr (8, [.ref q26, .int (size_m22 + 1)])), (a_all_m21, .inl (cI, n_a_all_m21, .inl b_a_all_m21)), (q26, .inl (cI, r24, .inl r25))]) hr (zb_n zb0) d_Mo_readFunction_253 [10, 0, 11, 12, 2, 3, 4, 5, 6, 7, 8, 1, 9] rfl (by decide) ⟨a_all_m21, q26, rfl, zb0, rfl⟩
      · replace h := it_f c38 h
        refine j_aload_n d_Mo_readFunction_227 rfl 1 rfl ?_
        replace h := bd_s h
        obtain ⟨_, k39, h⟩ := h
        refine j_callV (n := 0) (As := []) (rest := []) (wr := [((am 21), .inr (8, [.ref a_all_m21, .int size_m21])), (a_all_m21, .inl (cI, n_a_all_m21, .inl b_a_all_m21)), ((am 7), .inr (8, [.ref a_all_m7, .int size_m7])), (a_all_m7, .inl (cI, n_a_all_m7, .inl b_a_all_m7)), ((am 6), .inr (8, [.ref a_all_m6, .int size_m6])), (a_all_m6, .inl (cI, n_a_all_m6, .inl b_a_all_m6)), ((am 4), .inr (8, [.ref a_all_m4, .int size_m4])), (a_all_m4, .inl (cI, n_a_all_m4, .inl b_a_all_m4)), ((am 22), .inr (8, [.ref q26, .int (size_m22 + 1)])), (q26, .inl (cI, r24, .inl r25))]) (c_Mo_kind l D cI cB cJ cS h0 am a_all_m5 known_h0 thrown_h0 wrong_h0 lastEnd_h0 r33 r34 r35 least_h0 found_h0 size_m5 n_a_all_m5 b_a_all_m5  k39) k_Mo_275 (by decide) ⟨Nat.le_of_ble_eq_true rfl, Nat.le_of_ble_eq_true rfl⟩ rfl 0 rfl [10, 11, 12] [0, 1, 2, 3, 4, 5, 6, 7, 8, 9] rfl (by decide) rfl (by decide) (by decide) rfl rfl (Nat.le_of_ble_eq_true rfl) d_Mo_readFunction_228 ⟨show cl_119 + C27 + 0 ≤ mc by omega, show sl_119 + S28 + 0 ≤ ms by omega⟩ (fun v w hq => ?_)
        obtain ⟨rfl, rfl⟩ := hq
        refine j_norm (pc' := 231) (st' := [.int (b_a_all_m5 (Int32.toNatClampNeg r33))]) (ws' := [((am 21), .inr (8, [.ref a_all_m21, .int size_m21])), (a_all_m21, .inl (cI, n_a_all_m21, .inl b_a_all_m21)), ((am 7), .inr (8, [.ref a_all_m7, .int size_m7])), (a_all_m7, .inl (cI, n_a_all_m7, .inl b_a_all_m7)), ((am 6), .inr (8, [.ref a_all_m6, .int size_m6])), (a_all_m6, .inl (cI, n_a_all_m6, .inl b_a_all_m6)), ((am 4), .inr (8, [.ref a_all_m4, .int size_m4])), (a_all_m4, .inl (cI, n_a_all_m4, .inl b_a_all_m4)), ((am 22), .inr (8, [.ref q26, .int (size_m22 + 1)])), (q26, .inl (cI, r24, .inl r25)), (h0, .inr (9, moF am known_h0 thrown_h0 wrong_h0 lastEnd_h0 r33 r34 r35 least_h0 found_h0)), ((am 5), .inr (8, [.ref a_all_m5, .int size_m5])), (a_all_m5, .inl (cI, n_a_all_m5, .inl b_a_all_m5))]) (cl' := cl_119 + C27) (sl' := sl_119 + S28) rfl rfl rfl rfl rfl rfl ?_
        refine j_bipush (v := 51) d_Mo_readFunction_231 (by decide) ?_
        refine j_icmp_eq (tgt := 243) d_Mo_readFunction_233 (by decide) (fun c40 => ?_) (fun c40 => ?_)
        · replace h := it_t c40 h
          refine j_sub (w := [((am 21), .inr (8, [.ref a_all_m21, .int size_m21])), (a_all_m21, .inl (cI, n_a_all_m21, .inl b_a_all_m21)), ((am 7), .inr (8, [.ref a_all_m7, .int size_m7])), (a_all_m7, .inl (cI, n_a_all_m7, .inl b_a_all_m7)), ((am 6), .inr (8, [.ref a_all_m6, .int size_m6])), (a_all_m6, .inl (cI, n_a_all_m6, .inl b_a_all_m6)), ((am 4), .inr (8, [.ref a_all_m4, .int size_m4])), (a_all_m4, .inl (cI, n_a_all_m4, .inl b_a_all_m4)), ((am 22), .inr (8, [.ref q26, .int (size_m22 + 1)])), (q26, .inl (cI, r24, .inl r25)), (h0, .inr (9, moF am known_h0 thrown_h0 wrong_h0 lastEnd_h0 r33 r34 r35 least_h0 found_h0)), ((am 5), .inr (8, [.ref a_all_m5, .int size_m5])), (a_all_m5, .inl (cI, n_a_all_m5, .inl b_a_all_m5))]) (lv' := [(1, .int v1_119), (0, .ref h0)]) [0, 1, 2, 3, 4, 5, 6, 7, 8, 9, 10, 11, 12] rfl (by decide) [0, 1] rfl ?_
          exact L_Mo_readFunction_243 l D cI cB cJ cS h0 am a_all_m21 a_all_m5 a_all_m7 a_all_m6 a_all_m4 a_all_m22 known_h0 thrown_h0 wrong_h0 lastEnd_h0 at_h0 bad_h0 levels_h0 least_h0 found_h0 size_m21 size_m5 n_a_all_m5 b_a_all_m5 size_m7 n_a_all_m7 b_a_all_m7 size_m6 n_a_all_m6 b_a_all_m6 size_m4 n_a_all_m4 b_a_all_m4 size_m22 n_a_all_m22 b_a_all_m22 n_a_all_m21 b_a_all_m21 ret o_0_17 o_0_18 o_0_19 o_1_1 o_10_1 on_nq_1_0 ob_nq_1_0 on_nq_10_0 ob_nq_10_0 mc ms p e s m below meth c hr hnm q26 v1_119 r24 r25 r33 r34 r35 hz_v1_119 (cl_119 + C27) (sl_119 + S28) C29 S30 h hC hS
        · replace h := it_f c40 h
          refine j_aload_n d_Mo_readFunction_236 rfl 1 rfl ?_
          replace h := bd_s h
          obtain ⟨⟨r41, r42, r43⟩, k45, h⟩ := h
          refine j_callV (n := 0) (As := []) (rest := []) (wr := [((am 21), .inr (8, [.ref a_all_m21, .int size_m21])), (a_all_m21, .inl (cI, n_a_all_m21, .inl b_a_all_m21)), ((am 22), .inr (8, [.ref q26, .int (size_m22 + 1)])), (q26, .inl (cI, r24, .inl r25))]) (c_Mo_readNames l D cI cB cJ cS h0 am a_all_m5 a_all_m7 a_all_m6 a_all_m4 known_h0 thrown_h0 wrong_h0 lastEnd_h0 r33 r34 r35 least_h0 found_h0 size_m5 n_a_all_m5 b_a_all_m5 size_m7 n_a_all_m7 b_a_all_m7 size_m6 n_a_all_m6 b_a_all_m6 size_m4 n_a_all_m4 b_a_all_m4  r41 r42 r43 k45) k_Mo_335 (by decide) ⟨Nat.le_of_ble_eq_true rfl, Nat.le_of_ble_eq_true rfl⟩ rfl 0 rfl [10, 11, 12, 2, 3, 4, 5, 6, 7] [0, 1, 8, 9] rfl (by decide) rfl (by decide) (by decide) rfl rfl (Nat.le_of_ble_eq_true rfl) d_Mo_readFunction_237 ⟨show cl_119 + C27 + 0 ≤ mc by omega, show sl_119 + S28 + 0 ≤ ms by omega⟩ (fun v w hq => ?_)
          obtain ⟨rfl, z44, rfl⟩ := hq
          refine j_norm (pc' := 240) (st' := [.int r41]) (ws' := [((am 21), .inr (8, [.ref a_all_m21, .int size_m21])), (a_all_m21, .inl (cI, n_a_all_m21, .inl b_a_all_m21)), ((am 22), .inr (8, [.ref q26, .int (size_m22 + 1)])), (q26, .inl (cI, r24, .inl r25)), (h0, .inr (9, moF am known_h0 thrown_h0 wrong_h0 lastEnd_h0 r42 r43 r35 least_h0 found_h0)), ((am 5), .inr (8, [.ref a_all_m5, .int size_m5])), (a_all_m5, .inl (cI, n_a_all_m5, .inl b_a_all_m5)), ((am 7), .inr (8, [.ref a_all_m7, .int size_m7])), (a_all_m7, .inl (cI, n_a_all_m7, .inl b_a_all_m7)), ((am 6), .inr (8, [.ref a_all_m6, .int size_m6])), (a_all_m6, .inl (cI, n_a_all_m6, .inl b_a_all_m6)), ((am 4), .inr (8, [.ref a_all_m4, .int size_m4])), (a_all_m4, .inl (cI, n_a_all_m4, .inl b_a_all_m4))]) (cl' := cl_119 + C27) (sl' := sl_119 + S28) rfl rfl rfl rfl rfl rfl ?_
          refine j_if_eq (tgt := 252) d_Mo_readFunction_240 (by decide) (fun c46 => ?_) (fun c46 => ?_)
          · replace h := it_t c46 h
            refine j_iconst (v := 0) d_Mo_readFunction_252 (by decide) ?_
            replace h := lf_s h
            obtain ⟨h, e1, e2⟩ := h
            replace h := Prod.mk.inj h
            obtain ⟨h9, h⟩ := h
            subst h9
            replace h := Prod.mk.inj h
            obtain ⟨h9, h⟩ := h
            subst h9
            replace h := Prod.mk.inj h
            obtain ⟨h9, h⟩ := h
            subst h9
            replace h := Prod.mk.inj h
            obtain ⟨h9, h⟩ := h
            subst h9
            replace h := Prod.mk.inj h
            obtain ⟨h9, h⟩ := h
            subst h9
            replace h := Prod.mk.inj h
            obtain ⟨h9, h⟩ := h
            subst h9
            replace h := Prod.mk.inj h
            obtain ⟨h9, h⟩ := h
            subst h9
            replace h := Prod.mk.inj h
            obtain ⟨h9, h⟩ := h
            subst h9
            replace h := Prod.mk.inj h
            obtain ⟨h9, h⟩ := h
            subst h9
            subst h
            refine j_widen (cl' := mc) (sl' := ms) (by omega) (by omega) ?_
            exact j_zret (w := [(h0, .inr (9, moF am known_h0 thrown_h0 wrong_h0 lastEnd_h0 r42 r43 r35 least_h0 found_h0)), ((am 21), .inr (8, [.ref a_all_m21, .int size_m21])), ((am 5), .inr (8, [.ref a_all_m5, .int size_m5])), (a_all_m5, .inl (cI, n_a_all_m5, .inl b_a_all_m5)), ((am 7), .inr (8, [.ref a_all_m7, .int size_m7])), (a_all_m7, .inl (cI, n_a_all_m7, .inl b_a_all_m7)), ((am 6), .inr (8, [.ref a_all_m6, .int size_m6])), (a_all_m6, .inl (cI, n_a_all_m6, .inl b_a_all_m6)), ((am 4), .inr (8, [.ref a_all_m4, .int size_m4])), (a_all_m4, .inl (cI, n_a_all_m4, .inl b_a_all_m4)), ((am 22), .inr (8, [.ref q26, .int (size_m22 + 1)])), (a_all_m21, .inl (cI, n_a_all_m21, .inl b_a_all_m21)), (q26, .inl (cI, r24, .inl r25))]) hr (zb_n zb0) d_Mo_readFunction_253 [4, 0, 5, 6, 7, 8, 9, 10, 11, 12, 2, 1, 3] rfl (by decide) ⟨a_all_m21, q26, rfl, zb0, rfl⟩
          · replace h := it_f c46 h
            refine j_sub (w := [((am 21), .inr (8, [.ref a_all_m21, .int size_m21])), (a_all_m21, .inl (cI, n_a_all_m21, .inl b_a_all_m21)), ((am 7), .inr (8, [.ref a_all_m7, .int size_m7])), (a_all_m7, .inl (cI, n_a_all_m7, .inl b_a_all_m7)), ((am 6), .inr (8, [.ref a_all_m6, .int size_m6])), (a_all_m6, .inl (cI, n_a_all_m6, .inl b_a_all_m6)), ((am 4), .inr (8, [.ref a_all_m4, .int size_m4])), (a_all_m4, .inl (cI, n_a_all_m4, .inl b_a_all_m4)), ((am 22), .inr (8, [.ref q26, .int (size_m22 + 1)])), (q26, .inl (cI, r24, .inl r25)), (h0, .inr (9, moF am known_h0 thrown_h0 wrong_h0 lastEnd_h0 r42 r43 r35 least_h0 found_h0)), ((am 5), .inr (8, [.ref a_all_m5, .int size_m5])), (a_all_m5, .inl (cI, n_a_all_m5, .inl b_a_all_m5))]) (lv' := [(1, .int v1_119), (0, .ref h0)]) [0, 1, 7, 8, 9, 10, 11, 12, 2, 3, 4, 5, 6] rfl (by decide) [0, 1] rfl ?_
            exact L_Mo_readFunction_243 l D cI cB cJ cS h0 am a_all_m21 a_all_m5 a_all_m7 a_all_m6 a_all_m4 a_all_m22 known_h0 thrown_h0 wrong_h0 lastEnd_h0 at_h0 bad_h0 levels_h0 least_h0 found_h0 size_m21 size_m5 n_a_all_m5 b_a_all_m5 size_m7 n_a_all_m7 b_a_all_m7 size_m6 n_a_all_m6 b_a_all_m6 size_m4 n_a_all_m4 b_a_all_m4 size_m22 n_a_all_m22 b_a_all_m22 n_a_all_m21 b_a_all_m21 ret o_0_17 o_0_18 o_0_19 o_1_1 o_10_1 on_nq_1_0 ob_nq_1_0 on_nq_10_0 ob_nq_10_0 mc ms p e s m below meth c hr hnm q26 v1_119 r24 r25 r42 r43 r35 hz_v1_119 (cl_119 + C27) (sl_119 + S28) C29 S30 h hC hS
    · replace h := it_f c23 h
      refine j_iload_n d_Mo_readFunction_143 rfl 0 rfl ?_
      refine j_if_ne (tgt := 169) d_Mo_readFunction_144 (by decide) (fun c47 => ?_) (fun c47 => ?_)
      · replace h := it_f c47 h
        refine j_iconst (v := 0) d_Mo_readFunction_169 (by decide) ?_
        refine j_sub (w := [((am 21), .inr (8, [.ref a_all_m21, .int size_m21])), (a_all_m21, .inl (cI, n_a_all_m21, .inl b_a_all_m21)), ((am 5), .inr (8, [.ref a_all_m5, .int size_m5])), (a_all_m5, .inl (cI, n_a_all_m5, .inl b_a_all_m5)), (h0, .inr (9, moF am known_h0 thrown_h0 wrong_h0 lastEnd_h0 f10_17_119 f10_18_119 f10_19_119 least_h0 found_h0)), ((am 22), .inr (8, [.ref a_all_m22, .int size_m22])), (a_all_m22, .inl (cI, n_a_all_m22, .inl b_a_all_m22)), ((am 7), .inr (8, [.ref a_all_m7, .int size_m7])), (a_all_m7, .inl (cI, n_a_all_m7, .inl b_a_all_m7)), ((am 6), .inr (8, [.ref a_all_m6, .int size_m6])), (a_all_m6, .inl (cI, n_a_all_m6, .inl b_a_all_m6)), ((am 4), .inr (8, [.ref a_all_m4, .int size_m4])), (a_all_m4, .inl (cI, n_a_all_m4, .inl b_a_all_m4))]) (lv' := [(1, .int v1_119), (0, .ref h0)]) [0, 1, 2, 3, 4, 5, 6, 7, 8, 9, 10, 11, 12] rfl (by decide) [0, 1] rfl ?_
        exact L_Mo_readFunction_170 l D cI cB cJ cS h0 am a_all_m21 a_all_m5 a_all_m7 a_all_m6 a_all_m4 a_all_m22 known_h0 thrown_h0 wrong_h0 lastEnd_h0 at_h0 bad_h0 levels_h0 least_h0 found_h0 size_m21 size_m5 n_a_all_m5 b_a_all_m5 size_m7 n_a_all_m7 b_a_all_m7 size_m6 n_a_all_m6 b_a_all_m6 size_m4 n_a_all_m4 b_a_all_m4 size_m22 n_a_all_m22 b_a_all_m22 n_a_all_m21 b_a_all_m21 ret o_0_17 o_0_18 o_0_19 o_1_1 o_10_1 on_nq_1_0 ob_nq_1_0 on_nq_10_0 ob_nq_10_0 mc ms p e s m below meth c hr hnm v1_119 0 f10_17_119 f10_18_119 f10_19_119 hz_v1_119 zb0 cl_119 sl_119 C_119 S_119 h hC hS
      · replace h := it_t c47 h
        refine j_aload_n d_Mo_readFunction_147 rfl 1 rfl ?_
        refine j_get ig_Mo rfl 4 rfl 5 (by decide) rfl m_1118 rfl d_Mo_readFunction_148 ?_
        refine j_aload_n d_Mo_readFunction_151 rfl 1 rfl ?_
        refine j_get ig_Mo rfl 4 rfl 17 (by decide) rfl m_1130 rfl d_Mo_readFunction_152 ?_
        refine j_iconst (v := 1) d_Mo_readFunction_155 (by decide) ?_
        refine j_isub d_Mo_readFunction_156 ?_
        replace h := bd_s h
        obtain ⟨_, k48, h⟩ := h
        refine j_callV (n := 1) (As := [.int (f10_17_119 - 1)]) (rest := []) (wr := [((am 21), .inr (8, [.ref a_all_m21, .int size_m21])), (a_all_m21, .inl (cI, n_a_all_m21, .inl b_a_all_m21)), (h0, .inr (9, moF am known_h0 thrown_h0 wrong_h0 lastEnd_h0 f10_17_119 f10_18_119 f10_19_119 least_h0 found_h0)), ((am 22), .inr (8, [.ref a_all_m22, .int size_m22])), (a_all_m22, .inl (cI, n_a_all_m22, .inl b_a_all_m22)), ((am 7), .inr (8, [.ref a_all_m7, .int size_m7])), (a_all_m7, .inl (cI, n_a_all_m7, .inl b_a_all_m7)), ((am 6), .inr (8, [.ref a_all_m6, .int size_m6])), (a_all_m6, .inl (cI, n_a_all_m6, .inl b_a_all_m6)), ((am 4), .inr (8, [.ref a_all_m4, .int size_m4])), (a_all_m4, .inl (cI, n_a_all_m4, .inl b_a_all_m4))]) (c_Nm_at l D cI cB cJ cS (am 5) a_all_m5 (f10_17_119 - 1) size_m5 n_a_all_m5 b_a_all_m5  k48) k_Mo_214 (by decide) ⟨Nat.le_of_ble_eq_true rfl, Nat.le_of_ble_eq_true rfl⟩ rfl 0 rfl [2, 3] [0, 1, 4, 5, 6, 7, 8, 9, 10, 11, 12] rfl (by decide) rfl (by decide) (by decide) rfl rfl (Nat.le_of_ble_eq_true rfl) d_Mo_readFunction_157 ⟨show cl_119 + 0 ≤ mc by omega, show sl_119 + 0 ≤ ms by omega⟩ (fun v w hq => ?_)
        obtain ⟨rfl, rfl⟩ := hq
        refine j_norm (pc' := 160) (st' := [.int (b_a_all_m5 (Int32.toNatClampNeg (f10_17_119 - 1)))]) (ws' := [((am 21), .inr (8, [.ref a_all_m21, .int size_m21])), (a_all_m21, .inl (cI, n_a_all_m21, .inl b_a_all_m21)), (h0, .inr (9, moF am known_h0 thrown_h0 wrong_h0 lastEnd_h0 f10_17_119 f10_18_119 f10_19_119 least_h0 found_h0)), ((am 22), .inr (8, [.ref a_all_m22, .int size_m22])), (a_all_m22, .inl (cI, n_a_all_m22, .inl b_a_all_m22)), ((am 7), .inr (8, [.ref a_all_m7, .int size_m7])), (a_all_m7, .inl (cI, n_a_all_m7, .inl b_a_all_m7)), ((am 6), .inr (8, [.ref a_all_m6, .int size_m6])), (a_all_m6, .inl (cI, n_a_all_m6, .inl b_a_all_m6)), ((am 4), .inr (8, [.ref a_all_m4, .int size_m4])), (a_all_m4, .inl (cI, n_a_all_m4, .inl b_a_all_m4)), ((am 5), .inr (8, [.ref a_all_m5, .int size_m5])), (a_all_m5, .inl (cI, n_a_all_m5, .inl b_a_all_m5))]) (cl' := cl_119) (sl' := sl_119) rfl rfl rfl rfl rfl rfl ?_
        refine j_bipush (v := 19) d_Mo_readFunction_160 (by decide) ?_
        refine j_icmp_ne (tgt := 169) d_Mo_readFunction_162 (by decide) (fun c49 => ?_) (fun c49 => ?_)
        · replace h := it_f c49 h
          refine j_iconst (v := 0) d_Mo_readFunction_169 (by decide) ?_
          refine j_sub (w := [((am 21), .inr (8, [.ref a_all_m21, .int size_m21])), (a_all_m21, .inl (cI, n_a_all_m21, .inl b_a_all_m21)), ((am 5), .inr (8, [.ref a_all_m5, .int size_m5])), (a_all_m5, .inl (cI, n_a_all_m5, .inl b_a_all_m5)), (h0, .inr (9, moF am known_h0 thrown_h0 wrong_h0 lastEnd_h0 f10_17_119 f10_18_119 f10_19_119 least_h0 found_h0)), ((am 22), .inr (8, [.ref a_all_m22, .int size_m22])), (a_all_m22, .inl (cI, n_a_all_m22, .inl b_a_all_m22)), ((am 7), .inr (8, [.ref a_all_m7, .int size_m7])), (a_all_m7, .inl (cI, n_a_all_m7, .inl b_a_all_m7)), ((am 6), .inr (8, [.ref a_all_m6, .int size_m6])), (a_all_m6, .inl (cI, n_a_all_m6, .inl b_a_all_m6)), ((am 4), .inr (8, [.ref a_all_m4, .int size_m4])), (a_all_m4, .inl (cI, n_a_all_m4, .inl b_a_all_m4))]) (lv' := [(1, .int v1_119), (0, .ref h0)]) [0, 1, 11, 12, 2, 3, 4, 5, 6, 7, 8, 9, 10] rfl (by decide) [0, 1] rfl ?_
          exact L_Mo_readFunction_170 l D cI cB cJ cS h0 am a_all_m21 a_all_m5 a_all_m7 a_all_m6 a_all_m4 a_all_m22 known_h0 thrown_h0 wrong_h0 lastEnd_h0 at_h0 bad_h0 levels_h0 least_h0 found_h0 size_m21 size_m5 n_a_all_m5 b_a_all_m5 size_m7 n_a_all_m7 b_a_all_m7 size_m6 n_a_all_m6 b_a_all_m6 size_m4 n_a_all_m4 b_a_all_m4 size_m22 n_a_all_m22 b_a_all_m22 n_a_all_m21 b_a_all_m21 ret o_0_17 o_0_18 o_0_19 o_1_1 o_10_1 on_nq_1_0 ob_nq_1_0 on_nq_10_0 ob_nq_10_0 mc ms p e s m below meth c hr hnm v1_119 0 f10_17_119 f10_18_119 f10_19_119 hz_v1_119 zb0 cl_119 sl_119 C_119 S_119 h hC hS
        · replace h := it_t c49 h
          refine j_iconst (v := 1) d_Mo_readFunction_165 (by decide) ?_
          refine j_goto (tgt := 170) d_Mo_readFunction_166 (by decide) ?_
          refine j_sub (w := [((am 21), .inr (8, [.ref a_all_m21, .int size_m21])), (a_all_m21, .inl (cI, n_a_all_m21, .inl b_a_all_m21)), ((am 5), .inr (8, [.ref a_all_m5, .int size_m5])), (a_all_m5, .inl (cI, n_a_all_m5, .inl b_a_all_m5)), (h0, .inr (9, moF am known_h0 thrown_h0 wrong_h0 lastEnd_h0 f10_17_119 f10_18_119 f10_19_119 least_h0 found_h0)), ((am 22), .inr (8, [.ref a_all_m22, .int size_m22])), (a_all_m22, .inl (cI, n_a_all_m22, .inl b_a_all_m22)), ((am 7), .inr (8, [.ref a_all_m7, .int size_m7])), (a_all_m7, .inl (cI, n_a_all_m7, .inl b_a_all_m7)), ((am 6), .inr (8, [.ref a_all_m6, .int size_m6])), (a_all_m6, .inl (cI, n_a_all_m6, .inl b_a_all_m6)), ((am 4), .inr (8, [.ref a_all_m4, .int size_m4])), (a_all_m4, .inl (cI, n_a_all_m4, .inl b_a_all_m4))]) (lv' := [(1, .int v1_119), (0, .ref h0)]) [0, 1, 11, 12, 2, 3, 4, 5, 6, 7, 8, 9, 10] rfl (by decide) [0, 1] rfl ?_
          exact L_Mo_readFunction_170 l D cI cB cJ cS h0 am a_all_m21 a_all_m5 a_all_m7 a_all_m6 a_all_m4 a_all_m22 known_h0 thrown_h0 wrong_h0 lastEnd_h0 at_h0 bad_h0 levels_h0 least_h0 found_h0 size_m21 size_m5 n_a_all_m5 b_a_all_m5 size_m7 n_a_all_m7 b_a_all_m7 size_m6 n_a_all_m6 b_a_all_m6 size_m4 n_a_all_m4 b_a_all_m4 size_m22 n_a_all_m22 b_a_all_m22 n_a_all_m21 b_a_all_m21 ret o_0_17 o_0_18 o_0_19 o_1_1 o_10_1 on_nq_1_0 ob_nq_1_0 on_nq_10_0 ob_nq_10_0 mc ms p e s m below meth c hr hnm v1_119 1 f10_17_119 f10_18_119 f10_19_119 hz_v1_119 zb1 cl_119 sl_119 C_119 S_119 h hC hS
  · replace h := it_f c19 h
    refine j_aload_n d_Mo_readFunction_127 rfl 1 rfl ?_
    refine j_callV (n := 0) (As := []) (rest := []) (wr := [((am 21), .inr (8, [.ref a_all_m21, .int size_m21])), ((am 7), .inr (8, [.ref a_all_m7, .int size_m7])), (a_all_m7, .inl (cI, n_a_all_m7, .inl b_a_all_m7)), ((am 6), .inr (8, [.ref a_all_m6, .int size_m6])), (a_all_m6, .inl (cI, n_a_all_m6, .inl b_a_all_m6)), ((am 4), .inr (8, [.ref a_all_m4, .int size_m4])), (a_all_m4, .inl (cI, n_a_all_m4, .inl b_a_all_m4)), ((am 22), .inr (8, [.ref a_all_m22, .int size_m22])), (a_all_m22, .inl (cI, n_a_all_m22, .inl b_a_all_m22)), (a_all_m21, .inl (cI, n_a_all_m21, .inl b_a_all_m21)), ((am 5), .inr (8, [.ref a_all_m5, .int size_m5])), (a_all_m5, .inl (cI, n_a_all_m5, .inl b_a_all_m5))]) (c_Mo_fail l D cI cB cJ cS h0 am known_h0 thrown_h0 wrong_h0 lastEnd_h0 f10_17_119 f10_18_119 f10_19_119 least_h0 found_h0  ) k_Mo_278 (by decide) ⟨Nat.le_of_ble_eq_true rfl, Nat.le_of_ble_eq_true rfl⟩ rfl 0 rfl [10] [0, 1, 2, 3, 4, 5, 6, 7, 8, 9, 11, 12] rfl (by decide) rfl (by decide) (by decide) rfl rfl (Nat.le_of_ble_eq_true rfl) d_Mo_readFunction_128 ⟨show cl_119 + 0 ≤ mc by omega, show sl_119 + 0 ≤ ms by omega⟩ (fun v w hq => ?_)
    obtain ⟨rfl, _, rfl⟩ := hq
    refine j_norm (pc' := 131) (st' := [.int 0]) (ws' := [((am 21), .inr (8, [.ref a_all_m21, .int size_m21])), ((am 7), .inr (8, [.ref a_all_m7, .int size_m7])), (a_all_m7, .inl (cI, n_a_all_m7, .inl b_a_all_m7)), ((am 6), .inr (8, [.ref a_all_m6, .int size_m6])), (a_all_m6, .inl (cI, n_a_all_m6, .inl b_a_all_m6)), ((am 4), .inr (8, [.ref a_all_m4, .int size_m4])), (a_all_m4, .inl (cI, n_a_all_m4, .inl b_a_all_m4)), ((am 22), .inr (8, [.ref a_all_m22, .int size_m22])), (a_all_m22, .inl (cI, n_a_all_m22, .inl b_a_all_m22)), (a_all_m21, .inl (cI, n_a_all_m21, .inl b_a_all_m21)), ((am 5), .inr (8, [.ref a_all_m5, .int size_m5])), (a_all_m5, .inl (cI, n_a_all_m5, .inl b_a_all_m5)), (h0, .inr (9, moF am known_h0 thrown_h0 wrong_h0 lastEnd_h0 f10_17_119 f10_17_119 f10_19_119 least_h0 found_h0))]) (cl' := cl_119) (sl' := sl_119) rfl rfl rfl rfl rfl rfl ?_
    replace h := lf_s h
    obtain ⟨h, e1, e2⟩ := h
    replace h := Prod.mk.inj h
    obtain ⟨h9, h⟩ := h
    subst h9
    replace h := Prod.mk.inj h
    obtain ⟨h9, h⟩ := h
    subst h9
    replace h := Prod.mk.inj h
    obtain ⟨h9, h⟩ := h
    subst h9
    replace h := Prod.mk.inj h
    obtain ⟨h9, h⟩ := h
    subst h9
    replace h := Prod.mk.inj h
    obtain ⟨h9, h⟩ := h
    subst h9
    replace h := Prod.mk.inj h
    obtain ⟨h9, h⟩ := h
    subst h9
    replace h := Prod.mk.inj h
    obtain ⟨h9, h⟩ := h
    subst h9
    replace h := Prod.mk.inj h
    obtain ⟨h9, h⟩ := h
    subst h9
    replace h := Prod.mk.inj h
    obtain ⟨h9, h⟩ := h
    subst h9
    subst h
    refine j_widen (cl' := mc) (sl' := ms) (by omega) (by omega) ?_
    exact j_zret (w := [(h0, .inr (9, moF am known_h0 thrown_h0 wrong_h0 lastEnd_h0 f10_17_119 f10_17_119 f10_19_119 least_h0 found_h0)), ((am 21), .inr (8, [.ref a_all_m21, .int size_m21])), ((am 5), .inr (8, [.ref a_all_m5, .int size_m5])), (a_all_m5, .inl (cI, n_a_all_m5, .inl b_a_all_m5)), ((am 7), .inr (8, [.ref a_all_m7, .int size_m7])), (a_all_m7, .inl (cI, n_a_all_m7, .inl b_a_all_m7)), ((am 6), .inr (8, [.ref a_all_m6, .int size_m6])), (a_all_m6, .inl (cI, n_a_all_m6, .inl b_a_all_m6)), ((am 4), .inr (8, [.ref a_all_m4, .int size_m4])), (a_all_m4, .inl (cI, n_a_all_m4, .inl b_a_all_m4)), ((am 22), .inr (8, [.ref a_all_m22, .int size_m22])), (a_all_m21, .inl (cI, n_a_all_m21, .inl b_a_all_m21)), (a_all_m22, .inl (cI, n_a_all_m22, .inl b_a_all_m22))]) hr (zb_n zb0) d_Mo_readFunction_131 [12, 0, 10, 11, 1, 2, 3, 4, 5, 6, 7, 9, 8] rfl (by decide) ⟨a_all_m21, a_all_m22, rfl, zb0, rfl⟩
set_option maxHeartbeats 4000000 in
set_option maxRecDepth 100000 in
theorem L_Mo_readFunction_79 (l : Launch) (D : va_G) (cI cB cJ cS : ClassId) (h0 : Nat) (am : Nat → Nat) (a_all_m21 : Nat) (a_all_m5 : Nat) (a_all_m7 : Nat) (a_all_m6 : Nat) (a_all_m4 : Nat) (a_all_m22 : Nat) (known_h0 : Int32) (thrown_h0 : Int32) (wrong_h0 : Int32) (lastEnd_h0 : Int32) (at_h0 : Int32) (bad_h0 : Int32) (levels_h0 : Int32) (least_h0 : Int32) (found_h0 : Int32) (size_m21 : Int32) (size_m5 : Int32) (n_a_all_m5 : Nat) (b_a_all_m5 : Nat → Int32) (size_m7 : Int32) (n_a_all_m7 : Nat) (b_a_all_m7 : Nat → Int32) (size_m6 : Int32) (n_a_all_m6 : Nat) (b_a_all_m6 : Nat → Int32) (size_m4 : Int32) (n_a_all_m4 : Nat) (b_a_all_m4 : Nat → Int32) (size_m22 : Int32) (n_a_all_m22 : Nat) (b_a_all_m22 : Nat → Int32) (n_a_all_m21 : Nat) (b_a_all_m21 : Nat → Int32) (ret : Int32) (o_0_17 : Int32) (o_0_18 : Int32) (o_0_19 : Int32) (o_1_1 : Int32) (o_10_1 : Int32) (on_nq_1_0 : Nat) (ob_nq_1_0 : Nat → Int32) (on_nq_10_0 : Nat) (ob_nq_10_0 : Nat → Int32) (mc ms : Nat) (p : Program) (e : Env) (s : State) (m : MethodId) (below : List Frame) (meth : Method) (c : Code) (hr : meth.sig.returnType = (Option.some Jvm.ClassFile.FieldType.boolean)) (hnm : meth.name = y_Mo_readFunction.name) : ∀ (v1_79 : Int32) (f10_17_79 : Int32) (f10_18_79 : Int32) (f10_19_79 : Int32) (hz_v1_79 : zb v1_79) (cl_79 sl_79 C_79 S_79 : Nat), F_Mo_readFunction_79 known_h0 thrown_h0 wrong_h0 lastEnd_h0 least_h0 found_h0 size_m21 size_m5 n_a_all_m5 b_a_all_m5 size_m7 n_a_all_m7 b_a_all_m7 size_m6 n_a_all_m6 b_a_all_m6 size_m4 n_a_all_m4 b_a_all_m4 size_m22 n_a_all_m22 b_a_all_m22 n_a_all_m21 b_a_all_m21   v1_79 f10_17_79 f10_18_79 f10_19_79 = some ((ret, o_0_17, o_0_18, o_0_19, o_1_1, o_10_1, on_nq_1_0, ob_nq_1_0, on_nq_10_0, ob_nq_10_0), C_79, S_79) → cl_79 + C_79 ≤ mc → sl_79 + S_79 ≤ ms → J (KxOf p l e { frames := 4, cells := mc, slots := ms, locals := 83 } s m [.ref h0].toArray below meth c D (gT cI cB cJ cS) [(h0, .inr (9, moF am known_h0 thrown_h0 wrong_h0 lastEnd_h0 at_h0 bad_h0 levels_h0 least_h0 found_h0)), ((am 21), .inr (8, [.ref a_all_m21, .int size_m21])), ((am 5), .inr (8, [.ref a_all_m5, .int size_m5])), (a_all_m5, .inl (cI, n_a_all_m5, .inl b_a_all_m5)), ((am 7), .inr (8, [.ref a_all_m7, .int size_m7])), (a_all_m7, .inl (cI, n_a_all_m7, .inl b_a_all_m7)), ((am 6), .inr (8, [.ref a_all_m6, .int size_m6])), (a_all_m6, .inl (cI, n_a_all_m6, .inl b_a_all_m6)), ((am 4), .inr (8, [.ref a_all_m4, .int size_m4])), (a_all_m4, .inl (cI, n_a_all_m4, .inl b_a_all_m4)), ((am 22), .inr (8, [.ref a_all_m22, .int size_m22])), (a_all_m22, .inl (cI, n_a_all_m22, .inl b_a_all_m22)), (a_all_m21, .inl (cI, n_a_all_m21, .inl b_a_all_m21))] (fun v w => ∃ nq_1_0 : Nat, ∃ nq_10_0 : Nat, v = some (.int ret) ∧ zb ret ∧ w = [(h0, .inr (9, moF am known_h0 thrown_h0 wrong_h0 lastEnd_h0 o_0_17 o_0_18 o_0_19 least_h0 found_h0)), ((am 21), .inr (8, [.ref nq_1_0, .int o_1_1])), ((am 5), .inr (8, [.ref a_all_m5, .int size_m5])), (a_all_m5, .inl (cI, n_a_all_m5, .inl b_a_all_m5)), ((am 7), .inr (8, [.ref a_all_m7, .int size_m7])), (a_all_m7, .inl (cI, n_a_all_m7, .inl b_a_all_m7)), ((am 6), .inr (8, [.ref a_all_m6, .int size_m6])), (a_all_m6, .inl (cI, n_a_all_m6, .inl b_a_all_m6)), ((am 4), .inr (8, [.ref a_all_m4, .int size_m4])), (a_all_m4, .inl (cI, n_a_all_m4, .inl b_a_all_m4)), ((am 22), .inr (8, [.ref nq_10_0, .int o_10_1])), (nq_1_0, .inl (cI, on_nq_1_0, .inl ob_nq_1_0)), (nq_10_0, .inl (cI, on_nq_10_0, .inl ob_nq_10_0))]) mc ms) prog_12_method_40_code 3 R_Mo 79 [(1, .int v1_79), (0, .ref h0)] [] [((am 21), .inr (8, [.ref a_all_m21, .int size_m21])), ((am 7), .inr (8, [.ref a_all_m7, .int size_m7])), (a_all_m7, .inl (cI, n_a_all_m7, .inl b_a_all_m7)), ((am 6), .inr (8, [.ref a_all_m6, .int size_m6])), (a_all_m6, .inl (cI, n_a_all_m6, .inl b_a_all_m6)), ((am 4), .inr (8, [.ref a_all_m4, .int size_m4])), (a_all_m4, .inl (cI, n_a_all_m4, .inl b_a_all_m4)), ((am 22), .inr (8, [.ref a_all_m22, .int size_m22])), (a_all_m22, .inl (cI, n_a_all_m22, .inl b_a_all_m22)), (a_all_m21, .inl (cI, n_a_all_m21, .inl b_a_all_m21)), (h0, .inr (9, moF am known_h0 thrown_h0 wrong_h0 lastEnd_h0 f10_17_79 f10_18_79 f10_19_79 least_h0 found_h0)), ((am 5), .inr (8, [.ref a_all_m5, .int size_m5])), (a_all_m5, .inl (cI, n_a_all_m5, .inl b_a_all_m5))] cl_79 sl_79 := by
  intro v1_79 f10_17_79 f10_18_79 f10_19_79 hz_v1_79 cl_79 sl_79 C_79 S_79 h hC hS
  unfold F_Mo_readFunction_79 at h
  refine j_iload_n d_Mo_readFunction_79 rfl 0 rfl ?_
  refine j_if_ne (tgt := 119) d_Mo_readFunction_80 (by decide) (fun c51 => ?_) (fun c51 => ?_)
  · replace h := it_f c51 h
    refine j_sub (w := [((am 21), .inr (8, [.ref a_all_m21, .int size_m21])), ((am 7), .inr (8, [.ref a_all_m7, .int size_m7])), (a_all_m7, .inl (cI, n_a_all_m7, .inl b_a_all_m7)), ((am 6), .inr (8, [.ref a_all_m6, .int size_m6])), (a_all_m6, .inl (cI, n_a_all_m6, .inl b_a_all_m6)), ((am 4), .inr (8, [.ref a_all_m4, .int size_m4])), (a_all_m4, .inl (cI, n_a_all_m4, .inl b_a_all_m4)), ((am 22), .inr (8, [.ref a_all_m22, .int size_m22])), (a_all_m22, .inl (cI, n_a_all_m22, .inl b_a_all_m22)), (a_all_m21, .inl (cI, n_a_all_m21, .inl b_a_all_m21)), (h0, .inr (9, moF am known_h0 thrown_h0 wrong_h0 lastEnd_h0 f10_17_79 f10_18_79 f10_19_79 least_h0 found_h0)), ((am 5), .inr (8, [.ref a_all_m5, .int size_m5])), (a_all_m5, .inl (cI, n_a_all_m5, .inl b_a_all_m5))]) (lv' := [(1, .int v1_79), (0, .ref h0)]) [0, 1, 2, 3, 4, 5, 6, 7, 8, 9, 10, 11, 12] rfl (by decide) [0, 1] rfl ?_
    exact L_Mo_readFunction_119 l D cI cB cJ cS h0 am a_all_m21 a_all_m5 a_all_m7 a_all_m6 a_all_m4 a_all_m22 known_h0 thrown_h0 wrong_h0 lastEnd_h0 at_h0 bad_h0 levels_h0 least_h0 found_h0 size_m21 size_m5 n_a_all_m5 b_a_all_m5 size_m7 n_a_all_m7 b_a_all_m7 size_m6 n_a_all_m6 b_a_all_m6 size_m4 n_a_all_m4 b_a_all_m4 size_m22 n_a_all_m22 b_a_all_m22 n_a_all_m21 b_a_all_m21 ret o_0_17 o_0_18 o_0_19 o_1_1 o_10_1 on_nq_1_0 ob_nq_1_0 on_nq_10_0 ob_nq_10_0 mc ms p e s m below meth c hr hnm v1_79 f10_17_79 f10_18_79 f10_19_79 hz_v1_79 cl_79 sl_79 C_79 S_79 h hC hS
  · replace h := it_t c51 h
    refine j_aload_n d_Mo_readFunction_83 rfl 1 rfl ?_
    replace h := bd_s h
    obtain ⟨_, k52, h⟩ := h
    refine j_callV (n := 0) (As := []) (rest := []) (wr := [((am 21), .inr (8, [.ref a_all_m21, .int size_m21])), ((am 7), .inr (8, [.ref a_all_m7, .int size_m7])), (a_all_m7, .inl (cI, n_a_all_m7, .inl b_a_all_m7)), ((am 6), .inr (8, [.ref a_all_m6, .int size_m6])), (a_all_m6, .inl (cI, n_a_all_m6, .inl b_a_all_m6)), ((am 4), .inr (8, [.ref a_all_m4, .int size_m4])), (a_all_m4, .inl (cI, n_a_all_m4, .inl b_a_all_m4)), ((am 22), .inr (8, [.ref a_all_m22, .int size_m22])), (a_all_m22, .inl (cI, n_a_all_m22, .inl b_a_all_m22)), (a_all_m21, .inl (cI, n_a_all_m21, .inl b_a_all_m21))]) (c_Mo_kind l D cI cB cJ cS h0 am a_all_m5 known_h0 thrown_h0 wrong_h0 lastEnd_h0 f10_17_79 f10_18_79 f10_19_79 least_h0 found_h0 size_m5 n_a_all_m5 b_a_all_m5  k52) k_Mo_275 (by decide) ⟨Nat.le_of_ble_eq_true rfl, Nat.le_of_ble_eq_true rfl⟩ rfl 0 rfl [10, 11, 12] [0, 1, 2, 3, 4, 5, 6, 7, 8, 9] rfl (by decide) rfl (by decide) (by decide) rfl rfl (Nat.le_of_ble_eq_true rfl) d_Mo_readFunction_84 ⟨show cl_79 + 0 ≤ mc by omega, show sl_79 + 0 ≤ ms by omega⟩ (fun v w hq => ?_)
    obtain ⟨rfl, rfl⟩ := hq
    refine j_norm (pc' := 87) (st' := [.int (b_a_all_m5 (Int32.toNatClampNeg f10_17_79))]) (ws' := [((am 21), .inr (8, [.ref a_all_m21, .int size_m21])), ((am 7), .inr (8, [.ref a_all_m7, .int size_m7])), (a_all_m7, .inl (cI, n_a_all_m7, .inl b_a_all_m7)), ((am 6), .inr (8, [.ref a_all_m6, .int size_m6])), (a_all_m6, .inl (cI, n_a_all_m6, .inl b_a_all_m6)), ((am 4), .inr (8, [.ref a_all_m4, .int size_m4])), (a_all_m4, .inl (cI, n_a_all_m4, .inl b_a_all_m4)), ((am 22), .inr (8, [.ref a_all_m22, .int size_m22])), (a_all_m22, .inl (cI, n_a_all_m22, .inl b_a_all_m22)), (a_all_m21, .inl (cI, n_a_all_m21, .inl b_a_all_m21)), (h0, .inr (9, moF am known_h0 thrown_h0 wrong_h0 lastEnd_h0 f10_17_79 f10_18_79 f10_19_79 least_h0 found_h0)), ((am 5), .inr (8, [.ref a_all_m5, .int size_m5])), (a_all_m5, .inl (cI, n_a_all_m5, .inl b_a_all_m5))]) (cl' := cl_79) (sl' := sl_79) rfl rfl rfl rfl rfl rfl ?_
    refine j_iconst (v := 2) d_Mo_readFunction_87 (by decide) ?_
    refine j_icmp_ne (tgt := 119) d_Mo_readFunction_88 (by decide) (fun c53 => ?_) (fun c53 => ?_)
    · replace h := it_f c53 h
      refine j_sub (w := [((am 21), .inr (8, [.ref a_all_m21, .int size_m21])), ((am 7), .inr (8, [.ref a_all_m7, .int size_m7])), (a_all_m7, .inl (cI, n_a_all_m7, .inl b_a_all_m7)), ((am 6), .inr (8, [.ref a_all_m6, .int size_m6])), (a_all_m6, .inl (cI, n_a_all_m6, .inl b_a_all_m6)), ((am 4), .inr (8, [.ref a_all_m4, .int size_m4])), (a_all_m4, .inl (cI, n_a_all_m4, .inl b_a_all_m4)), ((am 22), .inr (8, [.ref a_all_m22, .int size_m22])), (a_all_m22, .inl (cI, n_a_all_m22, .inl b_a_all_m22)), (a_all_m21, .inl (cI, n_a_all_m21, .inl b_a_all_m21)), (h0, .inr (9, moF am known_h0 thrown_h0 wrong_h0 lastEnd_h0 f10_17_79 f10_18_79 f10_19_79 least_h0 found_h0)), ((am 5), .inr (8, [.ref a_all_m5, .int size_m5])), (a_all_m5, .inl (cI, n_a_all_m5, .inl b_a_all_m5))]) (lv' := [(1, .int v1_79), (0, .ref h0)]) [0, 1, 2, 3, 4, 5, 6, 7, 8, 9, 10, 11, 12] rfl (by decide) [0, 1] rfl ?_
      exact L_Mo_readFunction_119 l D cI cB cJ cS h0 am a_all_m21 a_all_m5 a_all_m7 a_all_m6 a_all_m4 a_all_m22 known_h0 thrown_h0 wrong_h0 lastEnd_h0 at_h0 bad_h0 levels_h0 least_h0 found_h0 size_m21 size_m5 n_a_all_m5 b_a_all_m5 size_m7 n_a_all_m7 b_a_all_m7 size_m6 n_a_all_m6 b_a_all_m6 size_m4 n_a_all_m4 b_a_all_m4 size_m22 n_a_all_m22 b_a_all_m22 n_a_all_m21 b_a_all_m21 ret o_0_17 o_0_18 o_0_19 o_1_1 o_10_1 on_nq_1_0 ob_nq_1_0 on_nq_10_0 ob_nq_10_0 mc ms p e s m below meth c hr hnm v1_79 f10_17_79 f10_18_79 f10_19_79 hz_v1_79 cl_79 sl_79 C_79 S_79 h hC hS
    · replace h := it_t c53 h
      refine j_aload_n d_Mo_readFunction_91 rfl 1 rfl ?_
      refine j_get ig_Mo rfl 10 rfl 5 (by decide) rfl m_1118 rfl d_Mo_readFunction_92 ?_
      refine j_aload_n d_Mo_readFunction_95 rfl 1 rfl ?_
      refine j_get ig_Mo rfl 10 rfl 17 (by decide) rfl m_1130 rfl d_Mo_readFunction_96 ?_
      refine j_iconst (v := 1) d_Mo_readFunction_99 (by decide) ?_
      refine j_iadd d_Mo_readFunction_100 ?_
      replace h := bd_s h
      obtain ⟨_, k54, h⟩ := h
      refine j_callV (n := 1) (As := [.int (f10_17_79 + 1)]) (rest := []) (wr := [((am 21), .inr (8, [.ref a_all_m21, .int size_m21])), ((am 7), .inr (8, [.ref a_all_m7, .int size_m7])), (a_all_m7, .inl (cI, n_a_all_m7, .inl b_a_all_m7)), ((am 6), .inr (8, [.ref a_all_m6, .int size_m6])), (a_all_m6, .inl (cI, n_a_all_m6, .inl b_a_all_m6)), ((am 4), .inr (8, [.ref a_all_m4, .int size_m4])), (a_all_m4, .inl (cI, n_a_all_m4, .inl b_a_all_m4)), ((am 22), .inr (8, [.ref a_all_m22, .int size_m22])), (a_all_m22, .inl (cI, n_a_all_m22, .inl b_a_all_m22)), (a_all_m21, .inl (cI, n_a_all_m21, .inl b_a_all_m21)), (h0, .inr (9, moF am known_h0 thrown_h0 wrong_h0 lastEnd_h0 f10_17_79 f10_18_79 f10_19_79 least_h0 found_h0))]) (c_Nm_at l D cI cB cJ cS (am 5) a_all_m5 (f10_17_79 + 1) size_m5 n_a_all_m5 b_a_all_m5  k54) k_Mo_214 (by decide) ⟨Nat.le_of_ble_eq_true rfl, Nat.le_of_ble_eq_true rfl⟩ rfl 0 rfl [11, 12] [0, 1, 2, 3, 4, 5, 6, 7, 8, 9, 10] rfl (by decide) rfl (by decide) (by decide) rfl rfl (Nat.le_of_ble_eq_true rfl) d_Mo_readFunction_101 ⟨show cl_79 + 0 ≤ mc by omega, show sl_79 + 0 ≤ ms by omega⟩ (fun v w hq => ?_)
      obtain ⟨rfl, rfl⟩ := hq
      refine j_norm (pc' := 104) (st' := [.int (b_a_all_m5 (Int32.toNatClampNeg (f10_17_79 + 1)))]) (ws' := [((am 21), .inr (8, [.ref a_all_m21, .int size_m21])), ((am 7), .inr (8, [.ref a_all_m7, .int size_m7])), (a_all_m7, .inl (cI, n_a_all_m7, .inl b_a_all_m7)), ((am 6), .inr (8, [.ref a_all_m6, .int size_m6])), (a_all_m6, .inl (cI, n_a_all_m6, .inl b_a_all_m6)), ((am 4), .inr (8, [.ref a_all_m4, .int size_m4])), (a_all_m4, .inl (cI, n_a_all_m4, .inl b_a_all_m4)), ((am 22), .inr (8, [.ref a_all_m22, .int size_m22])), (a_all_m22, .inl (cI, n_a_all_m22, .inl b_a_all_m22)), (a_all_m21, .inl (cI, n_a_all_m21, .inl b_a_all_m21)), (h0, .inr (9, moF am known_h0 thrown_h0 wrong_h0 lastEnd_h0 f10_17_79 f10_18_79 f10_19_79 least_h0 found_h0)), ((am 5), .inr (8, [.ref a_all_m5, .int size_m5])), (a_all_m5, .inl (cI, n_a_all_m5, .inl b_a_all_m5))]) (cl' := cl_79) (sl' := sl_79) rfl rfl rfl rfl rfl rfl ?_
      refine j_bipush (v := 56) d_Mo_readFunction_104 (by decide) ?_
      refine j_icmp_ne (tgt := 119) d_Mo_readFunction_106 (by decide) (fun c55 => ?_) (fun c55 => ?_)
      · replace h := it_f c55 h
        refine j_sub (w := [((am 21), .inr (8, [.ref a_all_m21, .int size_m21])), ((am 7), .inr (8, [.ref a_all_m7, .int size_m7])), (a_all_m7, .inl (cI, n_a_all_m7, .inl b_a_all_m7)), ((am 6), .inr (8, [.ref a_all_m6, .int size_m6])), (a_all_m6, .inl (cI, n_a_all_m6, .inl b_a_all_m6)), ((am 4), .inr (8, [.ref a_all_m4, .int size_m4])), (a_all_m4, .inl (cI, n_a_all_m4, .inl b_a_all_m4)), ((am 22), .inr (8, [.ref a_all_m22, .int size_m22])), (a_all_m22, .inl (cI, n_a_all_m22, .inl b_a_all_m22)), (a_all_m21, .inl (cI, n_a_all_m21, .inl b_a_all_m21)), (h0, .inr (9, moF am known_h0 thrown_h0 wrong_h0 lastEnd_h0 f10_17_79 f10_18_79 f10_19_79 least_h0 found_h0)), ((am 5), .inr (8, [.ref a_all_m5, .int size_m5])), (a_all_m5, .inl (cI, n_a_all_m5, .inl b_a_all_m5))]) (lv' := [(1, .int v1_79), (0, .ref h0)]) [0, 1, 2, 3, 4, 5, 6, 7, 8, 9, 10, 11, 12] rfl (by decide) [0, 1] rfl ?_
        exact L_Mo_readFunction_119 l D cI cB cJ cS h0 am a_all_m21 a_all_m5 a_all_m7 a_all_m6 a_all_m4 a_all_m22 known_h0 thrown_h0 wrong_h0 lastEnd_h0 at_h0 bad_h0 levels_h0 least_h0 found_h0 size_m21 size_m5 n_a_all_m5 b_a_all_m5 size_m7 n_a_all_m7 b_a_all_m7 size_m6 n_a_all_m6 b_a_all_m6 size_m4 n_a_all_m4 b_a_all_m4 size_m22 n_a_all_m22 b_a_all_m22 n_a_all_m21 b_a_all_m21 ret o_0_17 o_0_18 o_0_19 o_1_1 o_10_1 on_nq_1_0 ob_nq_1_0 on_nq_10_0 ob_nq_10_0 mc ms p e s m below meth c hr hnm v1_79 f10_17_79 f10_18_79 f10_19_79 hz_v1_79 cl_79 sl_79 C_79 S_79 h hC hS
      · replace h := it_t c55 h
        refine j_aload_n d_Mo_readFunction_109 rfl 1 rfl ?_
        refine j_aload_n d_Mo_readFunction_110 rfl 1 rfl ?_
        refine j_get ig_Mo rfl 10 rfl 17 (by decide) rfl m_1130 rfl d_Mo_readFunction_111 ?_
        refine j_iconst (v := 2) d_Mo_readFunction_114 (by decide) ?_
        refine j_iadd d_Mo_readFunction_115 ?_
        refine j_put (ws' := [((am 21), .inr (8, [.ref a_all_m21, .int size_m21])), ((am 7), .inr (8, [.ref a_all_m7, .int size_m7])), (a_all_m7, .inl (cI, n_a_all_m7, .inl b_a_all_m7)), ((am 6), .inr (8, [.ref a_all_m6, .int size_m6])), (a_all_m6, .inl (cI, n_a_all_m6, .inl b_a_all_m6)), ((am 4), .inr (8, [.ref a_all_m4, .int size_m4])), (a_all_m4, .inl (cI, n_a_all_m4, .inl b_a_all_m4)), ((am 22), .inr (8, [.ref a_all_m22, .int size_m22])), (a_all_m22, .inl (cI, n_a_all_m22, .inl b_a_all_m22)), (a_all_m21, .inl (cI, n_a_all_m21, .inl b_a_all_m21)), (h0, .inr (9, moF am known_h0 thrown_h0 wrong_h0 lastEnd_h0 (f10_17_79 + 2) f10_18_79 f10_19_79 least_h0 found_h0)), ((am 5), .inr (8, [.ref a_all_m5, .int size_m5])), (a_all_m5, .inl (cI, n_a_all_m5, .inl b_a_all_m5))]) ig_Mo tk_Mo nm_Mo rfl 10 rfl 17 (by decide) rfl m_1130 rfl (tk_Mo 17 (by decide)) rfl rfl (Nat.le_of_ble_eq_true rfl) d_Mo_readFunction_116 rfl ?_
        refine j_sub (w := [((am 21), .inr (8, [.ref a_all_m21, .int size_m21])), ((am 7), .inr (8, [.ref a_all_m7, .int size_m7])), (a_all_m7, .inl (cI, n_a_all_m7, .inl b_a_all_m7)), ((am 6), .inr (8, [.ref a_all_m6, .int size_m6])), (a_all_m6, .inl (cI, n_a_all_m6, .inl b_a_all_m6)), ((am 4), .inr (8, [.ref a_all_m4, .int size_m4])), (a_all_m4, .inl (cI, n_a_all_m4, .inl b_a_all_m4)), ((am 22), .inr (8, [.ref a_all_m22, .int size_m22])), (a_all_m22, .inl (cI, n_a_all_m22, .inl b_a_all_m22)), (a_all_m21, .inl (cI, n_a_all_m21, .inl b_a_all_m21)), (h0, .inr (9, moF am known_h0 thrown_h0 wrong_h0 lastEnd_h0 (f10_17_79 + 2) f10_18_79 f10_19_79 least_h0 found_h0)), ((am 5), .inr (8, [.ref a_all_m5, .int size_m5])), (a_all_m5, .inl (cI, n_a_all_m5, .inl b_a_all_m5))]) (lv' := [(1, .int v1_79), (0, .ref h0)]) [0, 1, 2, 3, 4, 5, 6, 7, 8, 9, 10, 11, 12] rfl (by decide) [0, 1] rfl ?_
        exact L_Mo_readFunction_119 l D cI cB cJ cS h0 am a_all_m21 a_all_m5 a_all_m7 a_all_m6 a_all_m4 a_all_m22 known_h0 thrown_h0 wrong_h0 lastEnd_h0 at_h0 bad_h0 levels_h0 least_h0 found_h0 size_m21 size_m5 n_a_all_m5 b_a_all_m5 size_m7 n_a_all_m7 b_a_all_m7 size_m6 n_a_all_m6 b_a_all_m6 size_m4 n_a_all_m4 b_a_all_m4 size_m22 n_a_all_m22 b_a_all_m22 n_a_all_m21 b_a_all_m21 ret o_0_17 o_0_18 o_0_19 o_1_1 o_10_1 on_nq_1_0 ob_nq_1_0 on_nq_10_0 ob_nq_10_0 mc ms p e s m below meth c hr hnm v1_79 (f10_17_79 + 2) f10_18_79 f10_19_79 hz_v1_79 cl_79 sl_79 C_79 S_79 h hC hS
set_option maxHeartbeats 4000000 in
set_option maxRecDepth 100000 in
theorem L_Mo_readFunction_38 (l : Launch) (D : va_G) (cI cB cJ cS : ClassId) (h0 : Nat) (am : Nat → Nat) (a_all_m21 : Nat) (a_all_m5 : Nat) (a_all_m7 : Nat) (a_all_m6 : Nat) (a_all_m4 : Nat) (a_all_m22 : Nat) (known_h0 : Int32) (thrown_h0 : Int32) (wrong_h0 : Int32) (lastEnd_h0 : Int32) (at_h0 : Int32) (bad_h0 : Int32) (levels_h0 : Int32) (least_h0 : Int32) (found_h0 : Int32) (size_m21 : Int32) (size_m5 : Int32) (n_a_all_m5 : Nat) (b_a_all_m5 : Nat → Int32) (size_m7 : Int32) (n_a_all_m7 : Nat) (b_a_all_m7 : Nat → Int32) (size_m6 : Int32) (n_a_all_m6 : Nat) (b_a_all_m6 : Nat → Int32) (size_m4 : Int32) (n_a_all_m4 : Nat) (b_a_all_m4 : Nat → Int32) (size_m22 : Int32) (n_a_all_m22 : Nat) (b_a_all_m22 : Nat → Int32) (n_a_all_m21 : Nat) (b_a_all_m21 : Nat → Int32) (ret : Int32) (o_0_17 : Int32) (o_0_18 : Int32) (o_0_19 : Int32) (o_1_1 : Int32) (o_10_1 : Int32) (on_nq_1_0 : Nat) (ob_nq_1_0 : Nat → Int32) (on_nq_10_0 : Nat) (ob_nq_10_0 : Nat → Int32) (mc ms : Nat) (p : Program) (e : Env) (s : State) (m : MethodId) (below : List Frame) (meth : Method) (c : Code) (hr : meth.sig.returnType = (Option.some Jvm.ClassFile.FieldType.boolean)) (hnm : meth.name = y_Mo_readFunction.name) : ∀ (t0_38 : Int32) (f10_17_38 : Int32) (f10_18_38 : Int32) (f10_19_38 : Int32) (hz_t0_38 : zb t0_38) (cl_38 sl_38 C_38 S_38 : Nat), F_Mo_readFunction_38 known_h0 thrown_h0 wrong_h0 lastEnd_h0 least_h0 found_h0 size_m21 size_m5 n_a_all_m5 b_a_all_m5 size_m7 n_a_all_m7 b_a_all_m7 size_m6 n_a_all_m6 b_a_all_m6 size_m4 n_a_all_m4 b_a_all_m4 size_m22 n_a_all_m22 b_a_all_m22 n_a_all_m21 b_a_all_m21   t0_38 f10_17_38 f10_18_38 f10_19_38 = some ((ret, o_0_17, o_0_18, o_0_19, o_1_1, o_10_1, on_nq_1_0, ob_nq_1_0, on_nq_10_0, ob_nq_10_0), C_38, S_38) → cl_38 + C_38 ≤ mc → sl_38 + S_38 ≤ ms → J (KxOf p l e { frames := 4, cells := mc, slots := ms, locals := 83 } s m [.ref h0].toArray below meth c D (gT cI cB cJ cS) [(h0, .inr (9, moF am known_h0 thrown_h0 wrong_h0 lastEnd_h0 at_h0 bad_h0 levels_h0 least_h0 found_h0)), ((am 21), .inr (8, [.ref a_all_m21, .int size_m21])), ((am 5), .inr (8, [.ref a_all_m5, .int size_m5])), (a_all_m5, .inl (cI, n_a_all_m5, .inl b_a_all_m5)), ((am 7), .inr (8, [.ref a_all_m7, .int size_m7])), (a_all_m7, .inl (cI, n_a_all_m7, .inl b_a_all_m7)), ((am 6), .inr (8, [.ref a_all_m6, .int size_m6])), (a_all_m6, .inl (cI, n_a_all_m6, .inl b_a_all_m6)), ((am 4), .inr (8, [.ref a_all_m4, .int size_m4])), (a_all_m4, .inl (cI, n_a_all_m4, .inl b_a_all_m4)), ((am 22), .inr (8, [.ref a_all_m22, .int size_m22])), (a_all_m22, .inl (cI, n_a_all_m22, .inl b_a_all_m22)), (a_all_m21, .inl (cI, n_a_all_m21, .inl b_a_all_m21))] (fun v w => ∃ nq_1_0 : Nat, ∃ nq_10_0 : Nat, v = some (.int ret) ∧ zb ret ∧ w = [(h0, .inr (9, moF am known_h0 thrown_h0 wrong_h0 lastEnd_h0 o_0_17 o_0_18 o_0_19 least_h0 found_h0)), ((am 21), .inr (8, [.ref nq_1_0, .int o_1_1])), ((am 5), .inr (8, [.ref a_all_m5, .int size_m5])), (a_all_m5, .inl (cI, n_a_all_m5, .inl b_a_all_m5)), ((am 7), .inr (8, [.ref a_all_m7, .int size_m7])), (a_all_m7, .inl (cI, n_a_all_m7, .inl b_a_all_m7)), ((am 6), .inr (8, [.ref a_all_m6, .int size_m6])), (a_all_m6, .inl (cI, n_a_all_m6, .inl b_a_all_m6)), ((am 4), .inr (8, [.ref a_all_m4, .int size_m4])), (a_all_m4, .inl (cI, n_a_all_m4, .inl b_a_all_m4)), ((am 22), .inr (8, [.ref nq_10_0, .int o_10_1])), (nq_1_0, .inl (cI, on_nq_1_0, .inl ob_nq_1_0)), (nq_10_0, .inl (cI, on_nq_10_0, .inl ob_nq_10_0))]) mc ms) prog_12_method_40_code 3 R_Mo 38 [(0, .ref h0)] [.int t0_38] [((am 21), .inr (8, [.ref a_all_m21, .int size_m21])), ((am 7), .inr (8, [.ref a_all_m7, .int size_m7])), (a_all_m7, .inl (cI, n_a_all_m7, .inl b_a_all_m7)), ((am 6), .inr (8, [.ref a_all_m6, .int size_m6])), (a_all_m6, .inl (cI, n_a_all_m6, .inl b_a_all_m6)), ((am 4), .inr (8, [.ref a_all_m4, .int size_m4])), (a_all_m4, .inl (cI, n_a_all_m4, .inl b_a_all_m4)), ((am 22), .inr (8, [.ref a_all_m22, .int size_m22])), (a_all_m22, .inl (cI, n_a_all_m22, .inl b_a_all_m22)), (a_all_m21, .inl (cI, n_a_all_m21, .inl b_a_all_m21)), (h0, .inr (9, moF am known_h0 thrown_h0 wrong_h0 lastEnd_h0 f10_17_38 f10_18_38 f10_19_38 least_h0 found_h0)), ((am 5), .inr (8, [.ref a_all_m5, .int size_m5])), (a_all_m5, .inl (cI, n_a_all_m5, .inl b_a_all_m5))] cl_38 sl_38 := by
  intro t0_38 f10_17_38 f10_18_38 f10_19_38 hz_t0_38 cl_38 sl_38 C_38 S_38 h hC hS
  unfold F_Mo_readFunction_38 at h
  refine j_istore_n (lv' := [(1, .int t0_38), (0, .ref h0)]) d_Mo_readFunction_38 rfl (by decide) rfl ?_
  refine j_iload_n d_Mo_readFunction_39 rfl 0 rfl ?_
  refine j_if_eq (tgt := 79) d_Mo_readFunction_40 (by decide) (fun c56 => ?_) (fun c56 => ?_)
  · replace h := it_t c56 h
    refine j_sub (w := [((am 21), .inr (8, [.ref a_all_m21, .int size_m21])), ((am 7), .inr (8, [.ref a_all_m7, .int size_m7])), (a_all_m7, .inl (cI, n_a_all_m7, .inl b_a_all_m7)), ((am 6), .inr (8, [.ref a_all_m6, .int size_m6])), (a_all_m6, .inl (cI, n_a_all_m6, .inl b_a_all_m6)), ((am 4), .inr (8, [.ref a_all_m4, .int size_m4])), (a_all_m4, .inl (cI, n_a_all_m4, .inl b_a_all_m4)), ((am 22), .inr (8, [.ref a_all_m22, .int size_m22])), (a_all_m22, .inl (cI, n_a_all_m22, .inl b_a_all_m22)), (a_all_m21, .inl (cI, n_a_all_m21, .inl b_a_all_m21)), (h0, .inr (9, moF am known_h0 thrown_h0 wrong_h0 lastEnd_h0 f10_17_38 f10_18_38 f10_19_38 least_h0 found_h0)), ((am 5), .inr (8, [.ref a_all_m5, .int size_m5])), (a_all_m5, .inl (cI, n_a_all_m5, .inl b_a_all_m5))]) (lv' := [(1, .int t0_38), (0, .ref h0)]) [0, 1, 2, 3, 4, 5, 6, 7, 8, 9, 10, 11, 12] rfl (by decide) [0, 1] rfl ?_
    exact L_Mo_readFunction_79 l D cI cB cJ cS h0 am a_all_m21 a_all_m5 a_all_m7 a_all_m6 a_all_m4 a_all_m22 known_h0 thrown_h0 wrong_h0 lastEnd_h0 at_h0 bad_h0 levels_h0 least_h0 found_h0 size_m21 size_m5 n_a_all_m5 b_a_all_m5 size_m7 n_a_all_m7 b_a_all_m7 size_m6 n_a_all_m6 b_a_all_m6 size_m4 n_a_all_m4 b_a_all_m4 size_m22 n_a_all_m22 b_a_all_m22 n_a_all_m21 b_a_all_m21 ret o_0_17 o_0_18 o_0_19 o_1_1 o_10_1 on_nq_1_0 ob_nq_1_0 on_nq_10_0 ob_nq_10_0 mc ms p e s m below meth c hr hnm t0_38 f10_17_38 f10_18_38 f10_19_38 hz_t0_38 cl_38 sl_38 C_38 S_38 h hC hS
  · replace h := it_f c56 h
    refine j_aload_n d_Mo_readFunction_43 rfl 1 rfl ?_
    refine j_bipush (v := 52) d_Mo_readFunction_44 (by decide) ?_
    replace h := bd_s h
    obtain ⟨⟨r57, r58, r59, r60⟩, k62, h⟩ := h
    refine j_callV (n := 1) (As := [.int 52]) (rest := []) (wr := [((am 21), .inr (8, [.ref a_all_m21, .int size_m21])), ((am 7), .inr (8, [.ref a_all_m7, .int size_m7])), (a_all_m7, .inl (cI, n_a_all_m7, .inl b_a_all_m7)), ((am 6), .inr (8, [.ref a_all_m6, .int size_m6])), (a_all_m6, .inl (cI, n_a_all_m6, .inl b_a_all_m6)), ((am 4), .inr (8, [.ref a_all_m4, .int size_m4])), (a_all_m4, .inl (cI, n_a_all_m4, .inl b_a_all_m4)), ((am 22), .inr (8, [.ref a_all_m22, .int size_m22])), (a_all_m22, .inl (cI, n_a_all_m22, .inl b_a_all_m22)), (a_all_m21, .inl (cI, n_a_all_m21, .inl b_a_all_m21))]) (c_Mo_enter l D cI cB cJ cS h0 am a_all_m5 52 known_h0 thrown_h0 wrong_h0 lastEnd_h0 f10_17_38 f10_18_38 f10_19_38 least_h0 found_h0 size_m5 n_a_all_m5 b_a_all_m5  r57 r58 r59 r60 k62) k_Mo_297 (by decide) ⟨Nat.le_of_ble_eq_true rfl, Nat.le_of_ble_eq_true rfl⟩ rfl 0 rfl [10, 11, 12] [0, 1, 2, 3, 4, 5, 6, 7, 8, 9] rfl (by decide) rfl (by decide) (by decide) rfl rfl (Nat.le_of_ble_eq_true rfl) d_Mo_readFunction_46 ⟨show cl_38 + 0 ≤ mc by omega, show sl_38 + 0 ≤ ms by omega⟩ (fun v w hq => ?_)
    obtain ⟨rfl, z61, rfl⟩ := hq
    refine j_norm (pc' := 49) (st' := [.int r57]) (ws' := [((am 21), .inr (8, [.ref a_all_m21, .int size_m21])), ((am 7), .inr (8, [.ref a_all_m7, .int size_m7])), (a_all_m7, .inl (cI, n_a_all_m7, .inl b_a_all_m7)), ((am 6), .inr (8, [.ref a_all_m6, .int size_m6])), (a_all_m6, .inl (cI, n_a_all_m6, .inl b_a_all_m6)), ((am 4), .inr (8, [.ref a_all_m4, .int size_m4])), (a_all_m4, .inl (cI, n_a_all_m4, .inl b_a_all_m4)), ((am 22), .inr (8, [.ref a_all_m22, .int size_m22])), (a_all_m22, .inl (cI, n_a_all_m22, .inl b_a_all_m22)), (a_all_m21, .inl (cI, n_a_all_m21, .inl b_a_all_m21)), (h0, .inr (9, moF am known_h0 thrown_h0 wrong_h0 lastEnd_h0 r58 r59 r60 least_h0 found_h0)), ((am 5), .inr (8, [.ref a_all_m5, .int size_m5])), (a_all_m5, .inl (cI, n_a_all_m5, .inl b_a_all_m5))]) (cl' := cl_38) (sl' := sl_38) rfl rfl rfl rfl rfl rfl ?_
    refine j_if_eq (tgt := 77) d_Mo_readFunction_49 (by decide) (fun c63 => ?_) (fun c63 => ?_)
    · replace h := it_t c63 h
      refine j_iconst (v := 0) d_Mo_readFunction_77 (by decide) ?_
      replace h := lf_s h
      obtain ⟨h, e1, e2⟩ := h
      replace h := Prod.mk.inj h
      obtain ⟨h9, h⟩ := h
      subst h9
      replace h := Prod.mk.inj h
      obtain ⟨h9, h⟩ := h
      subst h9
      replace h := Prod.mk.inj h
      obtain ⟨h9, h⟩ := h
      subst h9
      replace h := Prod.mk.inj h
      obtain ⟨h9, h⟩ := h
      subst h9
      replace h := Prod.mk.inj h
      obtain ⟨h9, h⟩ := h
      subst h9
      replace h := Prod.mk.inj h
      obtain ⟨h9, h⟩ := h
      subst h9
      replace h := Prod.mk.inj h
      obtain ⟨h9, h⟩ := h
      subst h9
      replace h := Prod.mk.inj h
      obtain ⟨h9, h⟩ := h
      subst h9
      replace h := Prod.mk.inj h
      obtain ⟨h9, h⟩ := h
      subst h9
      subst h
      refine j_widen (cl' := mc) (sl' := ms) (by omega) (by omega) ?_
      exact j_zret (w := [(h0, .inr (9, moF am known_h0 thrown_h0 wrong_h0 lastEnd_h0 r58 r59 r60 least_h0 found_h0)), ((am 21), .inr (8, [.ref a_all_m21, .int size_m21])), ((am 5), .inr (8, [.ref a_all_m5, .int size_m5])), (a_all_m5, .inl (cI, n_a_all_m5, .inl b_a_all_m5)), ((am 7), .inr (8, [.ref a_all_m7, .int size_m7])), (a_all_m7, .inl (cI, n_a_all_m7, .inl b_a_all_m7)), ((am 6), .inr (8, [.ref a_all_m6, .int size_m6])), (a_all_m6, .inl (cI, n_a_all_m6, .inl b_a_all_m6)), ((am 4), .inr (8, [.ref a_all_m4, .int size_m4])), (a_all_m4, .inl (cI, n_a_all_m4, .inl b_a_all_m4)), ((am 22), .inr (8, [.ref a_all_m22, .int size_m22])), (a_all_m21, .inl (cI, n_a_all_m21, .inl b_a_all_m21)), (a_all_m22, .inl (cI, n_a_all_m22, .inl b_a_all_m22))]) hr (zb_n zb0) d_Mo_readFunction_78 [10, 0, 11, 12, 1, 2, 3, 4, 5, 6, 7, 9, 8] rfl (by decide) ⟨a_all_m21, a_all_m22, rfl, zb0, rfl⟩
    · replace h := it_f c63 h
      refine j_aload_n d_Mo_readFunction_52 rfl 1 rfl ?_
      replace h := bd_s h
      obtain ⟨⟨r64, r65, r66⟩, k68, h⟩ := h
      refine j_callV (n := 0) (As := []) (rest := []) (wr := [((am 21), .inr (8, [.ref a_all_m21, .int size_m21])), ((am 22), .inr (8, [.ref a_all_m22, .int size_m22])), (a_all_m22, .inl (cI, n_a_all_m22, .inl b_a_all_m22)), (a_all_m21, .inl (cI, n_a_all_m21, .inl b_a_all_m21))]) (c_Mo_readNames l D cI cB cJ cS h0 am a_all_m5 a_all_m7 a_all_m6 a_all_m4 known_h0 thrown_h0 wrong_h0 lastEnd_h0 r58 r59 r60 least_h0 found_h0 size_m5 n_a_all_m5 b_a_all_m5 size_m7 n_a_all_m7 b_a_all_m7 size_m6 n_a_all_m6 b_a_all_m6 size_m4 n_a_all_m4 b_a_all_m4  r64 r65 r66 k68) k_Mo_335 (by decide) ⟨Nat.le_of_ble_eq_true rfl, Nat.le_of_ble_eq_true rfl⟩ rfl 0 rfl [10, 11, 12, 1, 2, 3, 4, 5, 6] [0, 7, 8, 9] rfl (by decide) rfl (by decide) (by decide) rfl rfl (Nat.le_of_ble_eq_true rfl) d_Mo_readFunction_53 ⟨show cl_38 + 0 ≤ mc by omega, show sl_38 + 0 ≤ ms by omega⟩ (fun v w hq => ?_)
      obtain ⟨rfl, z67, rfl⟩ := hq
      refine j_norm (pc' := 56) (st' := [.int r64]) (ws' := [((am 21), .inr (8, [.ref a_all_m21, .int size_m21])), ((am 22), .inr (8, [.ref a_all_m22, .int size_m22])), (a_all_m22, .inl (cI, n_a_all_m22, .inl b_a_all_m22)), (a_all_m21, .inl (cI, n_a_all_m21, .inl b_a_all_m21)), (h0, .inr (9, moF am known_h0 thrown_h0 wrong_h0 lastEnd_h0 r65 r66 r60 least_h0 found_h0)), ((am 5), .inr (8, [.ref a_all_m5, .int size_m5])), (a_all_m5, .inl (cI, n_a_all_m5, .inl b_a_all_m5)), ((am 7), .inr (8, [.ref a_all_m7, .int size_m7])), (a_all_m7, .inl (cI, n_a_all_m7, .inl b_a_all_m7)), ((am 6), .inr (8, [.ref a_all_m6, .int size_m6])), (a_all_m6, .inl (cI, n_a_all_m6, .inl b_a_all_m6)), ((am 4), .inr (8, [.ref a_all_m4, .int size_m4])), (a_all_m4, .inl (cI, n_a_all_m4, .inl b_a_all_m4))]) (cl' := cl_38) (sl' := sl_38) rfl rfl rfl rfl rfl rfl ?_
      refine j_if_eq (tgt := 77) d_Mo_readFunction_56 (by decide) (fun c69 => ?_) (fun c69 => ?_)
      · replace h := it_t c69 h
        refine j_iconst (v := 0) d_Mo_readFunction_77 (by decide) ?_
        replace h := lf_s h
        obtain ⟨h, e1, e2⟩ := h
        replace h := Prod.mk.inj h
        obtain ⟨h9, h⟩ := h
        subst h9
        replace h := Prod.mk.inj h
        obtain ⟨h9, h⟩ := h
        subst h9
        replace h := Prod.mk.inj h
        obtain ⟨h9, h⟩ := h
        subst h9
        replace h := Prod.mk.inj h
        obtain ⟨h9, h⟩ := h
        subst h9
        replace h := Prod.mk.inj h
        obtain ⟨h9, h⟩ := h
        subst h9
        replace h := Prod.mk.inj h
        obtain ⟨h9, h⟩ := h
        subst h9
        replace h := Prod.mk.inj h
        obtain ⟨h9, h⟩ := h
        subst h9
        replace h := Prod.mk.inj h
        obtain ⟨h9, h⟩ := h
        subst h9
        replace h := Prod.mk.inj h
        obtain ⟨h9, h⟩ := h
        subst h9
        subst h
        refine j_widen (cl' := mc) (sl' := ms) (by omega) (by omega) ?_
        exact j_zret (w := [(h0, .inr (9, moF am known_h0 thrown_h0 wrong_h0 lastEnd_h0 r65 r66 r60 least_h0 found_h0)), ((am 21), .inr (8, [.ref a_all_m21, .int size_m21])), ((am 5), .inr (8, [.ref a_all_m5, .int size_m5])), (a_all_m5, .inl (cI, n_a_all_m5, .inl b_a_all_m5)), ((am 7), .inr (8, [.ref a_all_m7, .int size_m7])), (a_all_m7, .inl (cI, n_a_all_m7, .inl b_a_all_m7)), ((am 6), .inr (8, [.ref a_all_m6, .int size_m6])), (a_all_m6, .inl (cI, n_a_all_m6, .inl b_a_all_m6)), ((am 4), .inr (8, [.ref a_all_m4, .int size_m4])), (a_all_m4, .inl (cI, n_a_all_m4, .inl b_a_all_m4)), ((am 22), .inr (8, [.ref a_all_m22, .int size_m22])), (a_all_m21, .inl (cI, n_a_all_m21, .inl b_a_all_m21)), (a_all_m22, .inl (cI, n_a_all_m22, .inl b_a_all_m22))]) hr (zb_n zb0) d_Mo_readFunction_78 [4, 0, 5, 6, 7, 8, 9, 10, 11, 12, 1, 3, 2] rfl (by decide) ⟨a_all_m21, a_all_m22, rfl, zb0, rfl⟩
      · replace h := it_f c69 h
        refine j_aload_n d_Mo_readFunction_59 rfl 1 rfl ?_
        refine j_bipush (v := 53) d_Mo_readFunction_60 (by decide) ?_
        replace h := bd_s h
        obtain ⟨⟨r70, r71, r72⟩, k74, h⟩ := h
        refine j_callV (n := 1) (As := [.int 53]) (rest := []) (wr := [((am 21), .inr (8, [.ref a_all_m21, .int size_m21])), ((am 22), .inr (8, [.ref a_all_m22, .int size_m22])), (a_all_m22, .inl (cI, n_a_all_m22, .inl b_a_all_m22)), (a_all_m21, .inl (cI, n_a_all_m21, .inl b_a_all_m21)), ((am 7), .inr (8, [.ref a_all_m7, .int size_m7])), (a_all_m7, .inl (cI, n_a_all_m7, .inl b_a_all_m7)), ((am 6), .inr (8, [.ref a_all_m6, .int size_m6])), (a_all_m6, .inl (cI, n_a_all_m6, .inl b_a_all_m6)), ((am 4), .inr (8, [.ref a_all_m4, .int size_m4])), (a_all_m4, .inl (cI, n_a_all_m4, .inl b_a_all_m4))]) (c_Mo_leave l D cI cB cJ cS h0 am a_all_m5 53 known_h0 thrown_h0 wrong_h0 lastEnd_h0 r65 r66 r60 least_h0 found_h0 size_m5 n_a_all_m5 b_a_all_m5  r70 r71 r72 k74) k_Mo_338 (by decide) ⟨Nat.le_of_ble_eq_true rfl, Nat.le_of_ble_eq_true rfl⟩ rfl 0 rfl [4, 5, 6] [0, 1, 2, 3, 7, 8, 9, 10, 11, 12] rfl (by decide) rfl (by decide) (by decide) rfl rfl (Nat.le_of_ble_eq_true rfl) d_Mo_readFunction_62 ⟨show cl_38 + 0 ≤ mc by omega, show sl_38 + 0 ≤ ms by omega⟩ (fun v w hq => ?_)
        obtain ⟨rfl, z73, rfl⟩ := hq
        refine j_norm (pc' := 65) (st' := [.int r70]) (ws' := [((am 21), .inr (8, [.ref a_all_m21, .int size_m21])), ((am 22), .inr (8, [.ref a_all_m22, .int size_m22])), (a_all_m22, .inl (cI, n_a_all_m22, .inl b_a_all_m22)), (a_all_m21, .inl (cI, n_a_all_m21, .inl b_a_all_m21)), ((am 7), .inr (8, [.ref a_all_m7, .int size_m7])), (a_all_m7, .inl (cI, n_a_all_m7, .inl b_a_all_m7)), ((am 6), .inr (8, [.ref a_all_m6, .int size_m6])), (a_all_m6, .inl (cI, n_a_all_m6, .inl b_a_all_m6)), ((am 4), .inr (8, [.ref a_all_m4, .int size_m4])), (a_all_m4, .inl (cI, n_a_all_m4, .inl b_a_all_m4)), (h0, .inr (9, moF am known_h0 thrown_h0 wrong_h0 lastEnd_h0 r71 r72 (r60 - 1) least_h0 found_h0)), ((am 5), .inr (8, [.ref a_all_m5, .int size_m5])), (a_all_m5, .inl (cI, n_a_all_m5, .inl b_a_all_m5))]) (cl' := cl_38) (sl' := sl_38) rfl rfl rfl rfl rfl rfl ?_
        refine j_if_eq (tgt := 77) d_Mo_readFunction_65 (by decide) (fun c75 => ?_) (fun c75 => ?_)
        · replace h := it_t c75 h
          refine j_iconst (v := 0) d_Mo_readFunction_77 (by decide) ?_
          replace h := lf_s h
          obtain ⟨h, e1, e2⟩ := h
          replace h := Prod.mk.inj h
          obtain ⟨h9, h⟩ := h
          subst h9
          replace h := Prod.mk.inj h
          obtain ⟨h9, h⟩ := h
          subst h9
          replace h := Prod.mk.inj h
          obtain ⟨h9, h⟩ := h
          subst h9
          replace h := Prod.mk.inj h
          obtain ⟨h9, h⟩ := h
          subst h9
          replace h := Prod.mk.inj h
          obtain ⟨h9, h⟩ := h
          subst h9
          replace h := Prod.mk.inj h
          obtain ⟨h9, h⟩ := h
          subst h9
          replace h := Prod.mk.inj h
          obtain ⟨h9, h⟩ := h
          subst h9
          replace h := Prod.mk.inj h
          obtain ⟨h9, h⟩ := h
          subst h9
          replace h := Prod.mk.inj h
          obtain ⟨h9, h⟩ := h
          subst h9
          subst h
          refine j_widen (cl' := mc) (sl' := ms) (by omega) (by omega) ?_
          exact j_zret (w := [(h0, .inr (9, moF am known_h0 thrown_h0 wrong_h0 lastEnd_h0 r71 r72 (r60 - 1) least_h0 found_h0)), ((am 21), .inr (8, [.ref a_all_m21, .int size_m21])), ((am 5), .inr (8, [.ref a_all_m5, .int size_m5])), (a_all_m5, .inl (cI, n_a_all_m5, .inl b_a_all_m5)), ((am 7), .inr (8, [.ref a_all_m7, .int size_m7])), (a_all_m7, .inl (cI, n_a_all_m7, .inl b_a_all_m7)), ((am 6), .inr (8, [.ref a_all_m6, .int size_m6])), (a_all_m6, .inl (cI, n_a_all_m6, .inl b_a_all_m6)), ((am 4), .inr (8, [.ref a_all_m4, .int size_m4])), (a_all_m4, .inl (cI, n_a_all_m4, .inl b_a_all_m4)), ((am 22), .inr (8, [.ref a_all_m22, .int size_m22])), (a_all_m21, .inl (cI, n_a_all_m21, .inl b_a_all_m21)), (a_all_m22, .inl (cI, n_a_all_m22, .inl b_a_all_m22))]) hr (zb_n zb0) d_Mo_readFunction_78 [10, 0, 11, 12, 4, 5, 6, 7, 8, 9, 1, 3, 2] rfl (by decide) ⟨a_all_m21, a_all_m22, rfl, zb0, rfl⟩
        · replace h := it_f c75 h
          refine j_aload_n d_Mo_readFunction_68 rfl 1 rfl ?_
          refine j_bipush (v := 56) d_Mo_readFunction_69 (by decide) ?_
          replace h := bd_s h
          obtain ⟨⟨r76, r77, r78⟩, k80, h⟩ := h
          refine j_callV (n := 1) (As := [.int 56]) (rest := []) (wr := [((am 21), .inr (8, [.ref a_all_m21, .int size_m21])), ((am 22), .inr (8, [.ref a_all_m22, .int size_m22])), (a_all_m22, .inl (cI, n_a_all_m22, .inl b_a_all_m22)), (a_all_m21, .inl (cI, n_a_all_m21, .inl b_a_all_m21)), ((am 7), .inr (8, [.ref a_all_m7, .int size_m7])), (a_all_m7, .inl (cI, n_a_all_m7, .inl b_a_all_m7)), ((am 6), .inr (8, [.ref a_all_m6, .int size_m6])), (a_all_m6, .inl (cI, n_a_all_m6, .inl b_a_all_m6)), ((am 4), .inr (8, [.ref a_all_m4, .int size_m4])), (a_all_m4, .inl (cI, n_a_all_m4, .inl b_a_all_m4))]) (c_Mo_take l D cI cB cJ cS h0 am a_all_m5 56 known_h0 thrown_h0 wrong_h0 lastEnd_h0 r71 r72 (r60 - 1) least_h0 found_h0 size_m5 n_a_all_m5 b_a_all_m5  r76 r77 r78 k80) k_Mo_285 (by decide) ⟨Nat.le_of_ble_eq_true rfl, Nat.le_of_ble_eq_true rfl⟩ rfl 0 rfl [10, 11, 12] [0, 1, 2, 3, 4, 5, 6, 7, 8, 9] rfl (by decide) rfl (by decide) (by decide) rfl rfl (Nat.le_of_ble_eq_true rfl) d_Mo_readFunction_71 ⟨show cl_38 + 0 ≤ mc by omega, show sl_38 + 0 ≤ ms by omega⟩ (fun v w hq => ?_)
          obtain ⟨rfl, z79, rfl⟩ := hq
          refine j_norm (pc' := 74) (st' := [.int r76]) (ws' := [((am 21), .inr (8, [.ref a_all_m21, .int size_m21])), ((am 22), .inr (8, [.ref a_all_m22, .int size_m22])), (a_all_m22, .inl (cI, n_a_all_m22, .inl b_a_all_m22)), (a_all_m21, .inl (cI, n_a_all_m21, .inl b_a_all_m21)), ((am 7), .inr (8, [.ref a_all_m7, .int size_m7])), (a_all_m7, .inl (cI, n_a_all_m7, .inl b_a_all_m7)), ((am 6), .inr (8, [.ref a_all_m6, .int size_m6])), (a_all_m6, .inl (cI, n_a_all_m6, .inl b_a_all_m6)), ((am 4), .inr (8, [.ref a_all_m4, .int size_m4])), (a_all_m4, .inl (cI, n_a_all_m4, .inl b_a_all_m4)), (h0, .inr (9, moF am known_h0 thrown_h0 wrong_h0 lastEnd_h0 r77 r78 (r60 - 1) least_h0 found_h0)), ((am 5), .inr (8, [.ref a_all_m5, .int size_m5])), (a_all_m5, .inl (cI, n_a_all_m5, .inl b_a_all_m5))]) (cl' := cl_38) (sl' := sl_38) rfl rfl rfl rfl rfl rfl ?_
          refine j_if_ne (tgt := 79) d_Mo_readFunction_74 (by decide) (fun c81 => ?_) (fun c81 => ?_)
          · replace h := it_f c81 h
            refine j_sub (w := [((am 21), .inr (8, [.ref a_all_m21, .int size_m21])), ((am 7), .inr (8, [.ref a_all_m7, .int size_m7])), (a_all_m7, .inl (cI, n_a_all_m7, .inl b_a_all_m7)), ((am 6), .inr (8, [.ref a_all_m6, .int size_m6])), (a_all_m6, .inl (cI, n_a_all_m6, .inl b_a_all_m6)), ((am 4), .inr (8, [.ref a_all_m4, .int size_m4])), (a_all_m4, .inl (cI, n_a_all_m4, .inl b_a_all_m4)), ((am 22), .inr (8, [.ref a_all_m22, .int size_m22])), (a_all_m22, .inl (cI, n_a_all_m22, .inl b_a_all_m22)), (a_all_m21, .inl (cI, n_a_all_m21, .inl b_a_all_m21)), (h0, .inr (9, moF am known_h0 thrown_h0 wrong_h0 lastEnd_h0 r77 r78 (r60 - 1) least_h0 found_h0)), ((am 5), .inr (8, [.ref a_all_m5, .int size_m5])), (a_all_m5, .inl (cI, n_a_all_m5, .inl b_a_all_m5))]) (lv' := [(1, .int t0_38), (0, .ref h0)]) [0, 4, 5, 6, 7, 8, 9, 1, 2, 3, 10, 11, 12] rfl (by decide) [0, 1] rfl ?_
            exact L_Mo_readFunction_79 l D cI cB cJ cS h0 am a_all_m21 a_all_m5 a_all_m7 a_all_m6 a_all_m4 a_all_m22 known_h0 thrown_h0 wrong_h0 lastEnd_h0 at_h0 bad_h0 levels_h0 least_h0 found_h0 size_m21 size_m5 n_a_all_m5 b_a_all_m5 size_m7 n_a_all_m7 b_a_all_m7 size_m6 n_a_all_m6 b_a_all_m6 size_m4 n_a_all_m4 b_a_all_m4 size_m22 n_a_all_m22 b_a_all_m22 n_a_all_m21 b_a_all_m21 ret o_0_17 o_0_18 o_0_19 o_1_1 o_10_1 on_nq_1_0 ob_nq_1_0 on_nq_10_0 ob_nq_10_0 mc ms p e s m below meth c hr hnm t0_38 r77 r78 (r60 - 1) hz_t0_38 cl_38 sl_38 C_38 S_38 h hC hS
          · replace h := it_t c81 h
            refine j_iconst (v := 0) d_Mo_readFunction_77 (by decide) ?_
            replace h := lf_s h
            obtain ⟨h, e1, e2⟩ := h
            replace h := Prod.mk.inj h
            obtain ⟨h9, h⟩ := h
            subst h9
            replace h := Prod.mk.inj h
            obtain ⟨h9, h⟩ := h
            subst h9
            replace h := Prod.mk.inj h
            obtain ⟨h9, h⟩ := h
            subst h9
            replace h := Prod.mk.inj h
            obtain ⟨h9, h⟩ := h
            subst h9
            replace h := Prod.mk.inj h
            obtain ⟨h9, h⟩ := h
            subst h9
            replace h := Prod.mk.inj h
            obtain ⟨h9, h⟩ := h
            subst h9
            replace h := Prod.mk.inj h
            obtain ⟨h9, h⟩ := h
            subst h9
            replace h := Prod.mk.inj h
            obtain ⟨h9, h⟩ := h
            subst h9
            replace h := Prod.mk.inj h
            obtain ⟨h9, h⟩ := h
            subst h9
            subst h
            refine j_widen (cl' := mc) (sl' := ms) (by omega) (by omega) ?_
            exact j_zret (w := [(h0, .inr (9, moF am known_h0 thrown_h0 wrong_h0 lastEnd_h0 r77 r78 (r60 - 1) least_h0 found_h0)), ((am 21), .inr (8, [.ref a_all_m21, .int size_m21])), ((am 5), .inr (8, [.ref a_all_m5, .int size_m5])), (a_all_m5, .inl (cI, n_a_all_m5, .inl b_a_all_m5)), ((am 7), .inr (8, [.ref a_all_m7, .int size_m7])), (a_all_m7, .inl (cI, n_a_all_m7, .inl b_a_all_m7)), ((am 6), .inr (8, [.ref a_all_m6, .int size_m6])), (a_all_m6, .inl (cI, n_a_all_m6, .inl b_a_all_m6)), ((am 4), .inr (8, [.ref a_all_m4, .int size_m4])), (a_all_m4, .inl (cI, n_a_all_m4, .inl b_a_all_m4)), ((am 22), .inr (8, [.ref a_all_m22, .int size_m22])), (a_all_m21, .inl (cI, n_a_all_m21, .inl b_a_all_m21)), (a_all_m22, .inl (cI, n_a_all_m22, .inl b_a_all_m22))]) hr (zb_n zb0) d_Mo_readFunction_78 [10, 0, 11, 12, 4, 5, 6, 7, 8, 9, 1, 3, 2] rfl (by decide) ⟨a_all_m21, a_all_m22, rfl, zb0, rfl⟩
set_option maxHeartbeats 4000000 in
set_option maxRecDepth 100000 in
theorem c_Mo_readFunction (l : Launch) (D : va_G) (cI cB cJ cS : ClassId) (h0 : Nat) (am : Nat → Nat) (a_all_m21 : Nat) (a_all_m5 : Nat) (a_all_m7 : Nat) (a_all_m6 : Nat) (a_all_m4 : Nat) (a_all_m22 : Nat) (known_h0 : Int32) (thrown_h0 : Int32) (wrong_h0 : Int32) (lastEnd_h0 : Int32) (at_h0 : Int32) (bad_h0 : Int32) (levels_h0 : Int32) (least_h0 : Int32) (found_h0 : Int32) (size_m21 : Int32) (size_m5 : Int32) (n_a_all_m5 : Nat) (b_a_all_m5 : Nat → Int32) (size_m7 : Int32) (n_a_all_m7 : Nat) (b_a_all_m7 : Nat → Int32) (size_m6 : Int32) (n_a_all_m6 : Nat) (b_a_all_m6 : Nat → Int32) (size_m4 : Int32) (n_a_all_m4 : Nat) (b_a_all_m4 : Nat → Int32) (size_m22 : Int32) (n_a_all_m22 : Nat) (b_a_all_m22 : Nat → Int32) (n_a_all_m21 : Nat) (b_a_all_m21 : Nat → Int32) (ret : Int32) (o_0_17 : Int32) (o_0_18 : Int32) (o_0_19 : Int32) (o_1_1 : Int32) (o_10_1 : Int32) (on_nq_1_0 : Nat) (ob_nq_1_0 : Nat → Int32) (on_nq_10_0 : Nat) (ob_nq_10_0 : Nat → Int32) (mc ms : Nat) (h : F_Mo_readFunction known_h0 thrown_h0 wrong_h0 lastEnd_h0 at_h0 bad_h0 levels_h0 least_h0 found_h0 size_m21 size_m5 n_a_all_m5 b_a_all_m5 size_m7 n_a_all_m7 b_a_all_m7 size_m6 n_a_all_m6 b_a_all_m6 size_m4 n_a_all_m4 b_a_all_m4 size_m22 n_a_all_m22 b_a_all_m22 n_a_all_m21 b_a_all_m21 = some ((ret, o_0_17, o_0_18, o_0_19, o_1_1, o_10_1, on_nq_1_0, ob_nq_1_0, on_nq_10_0, ob_nq_10_0), mc, ms)) : Ct l D (gT cI cB cJ cS) y_Mo_readFunction prog_12_method_40_code 3 (Option.some Jvm.ClassFile.FieldType.boolean) 4 83 mc ms [.ref h0] [(h0, .inr (9, moF am known_h0 thrown_h0 wrong_h0 lastEnd_h0 at_h0 bad_h0 levels_h0 least_h0 found_h0)), ((am 21), .inr (8, [.ref a_all_m21, .int size_m21])), ((am 5), .inr (8, [.ref a_all_m5, .int size_m5])), (a_all_m5, .inl (cI, n_a_all_m5, .inl b_a_all_m5)), ((am 7), .inr (8, [.ref a_all_m7, .int size_m7])), (a_all_m7, .inl (cI, n_a_all_m7, .inl b_a_all_m7)), ((am 6), .inr (8, [.ref a_all_m6, .int size_m6])), (a_all_m6, .inl (cI, n_a_all_m6, .inl b_a_all_m6)), ((am 4), .inr (8, [.ref a_all_m4, .int size_m4])), (a_all_m4, .inl (cI, n_a_all_m4, .inl b_a_all_m4)), ((am 22), .inr (8, [.ref a_all_m22, .int size_m22])), (a_all_m22, .inl (cI, n_a_all_m22, .inl b_a_all_m22)), (a_all_m21, .inl (cI, n_a_all_m21, .inl b_a_all_m21))] (fun v w => ∃ nq_1_0 : Nat, ∃ nq_10_0 : Nat, v = some (.int ret) ∧ zb ret ∧ w = [(h0, .inr (9, moF am known_h0 thrown_h0 wrong_h0 lastEnd_h0 o_0_17 o_0_18 o_0_19 least_h0 found_h0)), ((am 21), .inr (8, [.ref nq_1_0, .int o_1_1])), ((am 5), .inr (8, [.ref a_all_m5, .int size_m5])), (a_all_m5, .inl (cI, n_a_all_m5, .inl b_a_all_m5)), ((am 7), .inr (8, [.ref a_all_m7, .int size_m7])), (a_all_m7, .inl (cI, n_a_all_m7, .inl b_a_all_m7)), ((am 6), .inr (8, [.ref a_all_m6, .int size_m6])), (a_all_m6, .inl (cI, n_a_all_m6, .inl b_a_all_m6)), ((am 4), .inr (8, [.ref a_all_m4, .int size_m4])), (a_all_m4, .inl (cI, n_a_all_m4, .inl b_a_all_m4)), ((am 22), .inr (8, [.ref nq_10_0, .int o_10_1])), (nq_1_0, .inl (cI, on_nq_1_0, .inl ob_nq_1_0)), (nq_10_0, .inl (cI, on_nq_10_0, .inl ob_nq_10_0))]) := by
  refine Ct.mk (by decide) (Nat.le_of_ble_eq_true rfl) ?_
  intro p e s m below meth c hr hnm
  refine j_norm (pc' := 0) (lv' := [(0, .ref h0)]) (st' := []) (ws' := [(h0, .inr (9, moF am known_h0 thrown_h0 wrong_h0 lastEnd_h0 at_h0 bad_h0 levels_h0 least_h0 found_h0)), ((am 21), .inr (8, [.ref a_all_m21, .int size_m21])), ((am 5), .inr (8, [.ref a_all_m5, .int size_m5])), (a_all_m5, .inl (cI, n_a_all_m5, .inl b_a_all_m5)), ((am 7), .inr (8, [.ref a_all_m7, .int size_m7])), (a_all_m7, .inl (cI, n_a_all_m7, .inl b_a_all_m7)), ((am 6), .inr (8, [.ref a_all_m6, .int size_m6])), (a_all_m6, .inl (cI, n_a_all_m6, .inl b_a_all_m6)), ((am 4), .inr (8, [.ref a_all_m4, .int size_m4])), (a_all_m4, .inl (cI, n_a_all_m4, .inl b_a_all_m4)), ((am 22), .inr (8, [.ref a_all_m22, .int size_m22])), (a_all_m22, .inl (cI, n_a_all_m22, .inl b_a_all_m22)), (a_all_m21, .inl (cI, n_a_all_m21, .inl b_a_all_m21))]) (cl' := 0) (sl' := 0) rfl rfl rfl rfl rfl rfl ?_
  unfold F_Mo_readFunction at h
  have hC : 0 + mc ≤ mc := by omega
  have hS : 0 + ms ≤ ms := by omega
  refine j_aload_n d_Mo_readFunction_0 rfl 0 rfl ?_
  refine j_get ig_Mo rfl 0 rfl 21 (by decide) rfl m_1134 rfl d_Mo_readFunction_1 ?_
  refine j_getN ig_Nm rfl 1 rfl 1 (by decide) rfl mn_13 rfl d_Mo_readFunction_4 ?_
  refine j_if_gt (tgt := 19) d_Mo_readFunction_7 (by decide) (fun c82 => ?_) (fun c82 => ?_)
  · replace h := it_t c82 h
    refine j_aload_n d_Mo_readFunction_19 rfl 0 rfl ?_
    refine j_callV (n := 0) (As := []) (rest := []) (wr := [((am 21), .inr (8, [.ref a_all_m21, .int size_m21])), ((am 5), .inr (8, [.ref a_all_m5, .int size_m5])), (a_all_m5, .inl (cI, n_a_all_m5, .inl b_a_all_m5)), ((am 7), .inr (8, [.ref a_all_m7, .int size_m7])), (a_all_m7, .inl (cI, n_a_all_m7, .inl b_a_all_m7)), ((am 6), .inr (8, [.ref a_all_m6, .int size_m6])), (a_all_m6, .inl (cI, n_a_all_m6, .inl b_a_all_m6)), ((am 4), .inr (8, [.ref a_all_m4, .int size_m4])), (a_all_m4, .inl (cI, n_a_all_m4, .inl b_a_all_m4)), ((am 22), .inr (8, [.ref a_all_m22, .int size_m22])), (a_all_m22, .inl (cI, n_a_all_m22, .inl b_a_all_m22)), (a_all_m21, .inl (cI, n_a_all_m21, .inl b_a_all_m21))]) (c_Mo_fail l D cI cB cJ cS h0 am known_h0 thrown_h0 wrong_h0 lastEnd_h0 at_h0 bad_h0 levels_h0 least_h0 found_h0  ) k_Mo_278 (by decide) ⟨Nat.le_of_ble_eq_true rfl, Nat.le_of_ble_eq_true rfl⟩ rfl 0 rfl [0] [1, 2, 3, 4, 5, 6, 7, 8, 9, 10, 11, 12] rfl (by decide) rfl (by decide) (by decide) rfl rfl (Nat.le_of_ble_eq_true rfl) d_Mo_readFunction_20 ⟨show 0 + 0 ≤ mc by omega, show 0 + 0 ≤ ms by omega⟩ (fun v w hq => ?_)
    obtain ⟨rfl, _, rfl⟩ := hq
    refine j_norm (pc' := 23) (st' := [.int 0]) (ws' := [((am 21), .inr (8, [.ref a_all_m21, .int size_m21])), ((am 5), .inr (8, [.ref a_all_m5, .int size_m5])), (a_all_m5, .inl (cI, n_a_all_m5, .inl b_a_all_m5)), ((am 7), .inr (8, [.ref a_all_m7, .int size_m7])), (a_all_m7, .inl (cI, n_a_all_m7, .inl b_a_all_m7)), ((am 6), .inr (8, [.ref a_all_m6, .int size_m6])), (a_all_m6, .inl (cI, n_a_all_m6, .inl b_a_all_m6)), ((am 4), .inr (8, [.ref a_all_m4, .int size_m4])), (a_all_m4, .inl (cI, n_a_all_m4, .inl b_a_all_m4)), ((am 22), .inr (8, [.ref a_all_m22, .int size_m22])), (a_all_m22, .inl (cI, n_a_all_m22, .inl b_a_all_m22)), (a_all_m21, .inl (cI, n_a_all_m21, .inl b_a_all_m21)), (h0, .inr (9, moF am known_h0 thrown_h0 wrong_h0 lastEnd_h0 at_h0 at_h0 levels_h0 least_h0 found_h0))]) (cl' := 0) (sl' := 0) rfl rfl rfl rfl rfl rfl ?_
    replace h := lf_s h
    obtain ⟨h, e1, e2⟩ := h
    replace h := Prod.mk.inj h
    obtain ⟨h9, h⟩ := h
    subst h9
    replace h := Prod.mk.inj h
    obtain ⟨h9, h⟩ := h
    subst h9
    replace h := Prod.mk.inj h
    obtain ⟨h9, h⟩ := h
    subst h9
    replace h := Prod.mk.inj h
    obtain ⟨h9, h⟩ := h
    subst h9
    replace h := Prod.mk.inj h
    obtain ⟨h9, h⟩ := h
    subst h9
    replace h := Prod.mk.inj h
    obtain ⟨h9, h⟩ := h
    subst h9
    replace h := Prod.mk.inj h
    obtain ⟨h9, h⟩ := h
    subst h9
    replace h := Prod.mk.inj h
    obtain ⟨h9, h⟩ := h
    subst h9
    replace h := Prod.mk.inj h
    obtain ⟨h9, h⟩ := h
    subst h9
    subst h
    refine j_widen (cl' := mc) (sl' := ms) (by omega) (by omega) ?_
    exact j_zret (w := [(h0, .inr (9, moF am known_h0 thrown_h0 wrong_h0 lastEnd_h0 at_h0 at_h0 levels_h0 least_h0 found_h0)), ((am 21), .inr (8, [.ref a_all_m21, .int size_m21])), ((am 5), .inr (8, [.ref a_all_m5, .int size_m5])), (a_all_m5, .inl (cI, n_a_all_m5, .inl b_a_all_m5)), ((am 7), .inr (8, [.ref a_all_m7, .int size_m7])), (a_all_m7, .inl (cI, n_a_all_m7, .inl b_a_all_m7)), ((am 6), .inr (8, [.ref a_all_m6, .int size_m6])), (a_all_m6, .inl (cI, n_a_all_m6, .inl b_a_all_m6)), ((am 4), .inr (8, [.ref a_all_m4, .int size_m4])), (a_all_m4, .inl (cI, n_a_all_m4, .inl b_a_all_m4)), ((am 22), .inr (8, [.ref a_all_m22, .int size_m22])), (a_all_m21, .inl (cI, n_a_all_m21, .inl b_a_all_m21)), (a_all_m22, .inl (cI, n_a_all_m22, .inl b_a_all_m22))]) hr (zb_n zb0) d_Mo_readFunction_23 [12, 0, 1, 2, 3, 4, 5, 6, 7, 8, 9, 11, 10] rfl (by decide) ⟨a_all_m21, a_all_m22, rfl, zb0, rfl⟩
  · replace h := it_f c82 h
    refine j_aload_n d_Mo_readFunction_10 rfl 0 rfl ?_
    refine j_bipush (v := 19) d_Mo_readFunction_11 (by decide) ?_
    replace h := bd_s h
    obtain ⟨⟨r84, r85, r86, r87⟩, k89, h⟩ := h
    refine j_callV (n := 1) (As := [.int 19]) (rest := []) (wr := [((am 21), .inr (8, [.ref a_all_m21, .int size_m21])), ((am 7), .inr (8, [.ref a_all_m7, .int size_m7])), (a_all_m7, .inl (cI, n_a_all_m7, .inl b_a_all_m7)), ((am 6), .inr (8, [.ref a_all_m6, .int size_m6])), (a_all_m6, .inl (cI, n_a_all_m6, .inl b_a_all_m6)), ((am 4), .inr (8, [.ref a_all_m4, .int size_m4])), (a_all_m4, .inl (cI, n_a_all_m4, .inl b_a_all_m4)), ((am 22), .inr (8, [.ref a_all_m22, .int size_m22])), (a_all_m22, .inl (cI, n_a_all_m22, .inl b_a_all_m22)), (a_all_m21, .inl (cI, n_a_all_m21, .inl b_a_all_m21))]) (c_Mo_enter l D cI cB cJ cS h0 am a_all_m5 19 known_h0 thrown_h0 wrong_h0 lastEnd_h0 at_h0 bad_h0 levels_h0 least_h0 found_h0 size_m5 n_a_all_m5 b_a_all_m5  r84 r85 r86 r87 k89) k_Mo_297 (by decide) ⟨Nat.le_of_ble_eq_true rfl, Nat.le_of_ble_eq_true rfl⟩ rfl 0 rfl [0, 2, 3] [1, 4, 5, 6, 7, 8, 9, 10, 11, 12] rfl (by decide) rfl (by decide) (by decide) rfl rfl (Nat.le_of_ble_eq_true rfl) d_Mo_readFunction_13 ⟨show 0 + 0 ≤ mc by omega, show 0 + 0 ≤ ms by omega⟩ (fun v w hq => ?_)
    obtain ⟨rfl, z88, rfl⟩ := hq
    refine j_norm (pc' := 16) (st' := [.int r84]) (ws' := [((am 21), .inr (8, [.ref a_all_m21, .int size_m21])), ((am 7), .inr (8, [.ref a_all_m7, .int size_m7])), (a_all_m7, .inl (cI, n_a_all_m7, .inl b_a_all_m7)), ((am 6), .inr (8, [.ref a_all_m6, .int size_m6])), (a_all_m6, .inl (cI, n_a_all_m6, .inl b_a_all_m6)), ((am 4), .inr (8, [.ref a_all_m4, .int size_m4])), (a_all_m4, .inl (cI, n_a_all_m4, .inl b_a_all_m4)), ((am 22), .inr (8, [.ref a_all_m22, .int size_m22])), (a_all_m22, .inl (cI, n_a_all_m22, .inl b_a_all_m22)), (a_all_m21, .inl (cI, n_a_all_m21, .inl b_a_all_m21)), (h0, .inr (9, moF am known_h0 thrown_h0 wrong_h0 lastEnd_h0 r85 r86 r87 least_h0 found_h0)), ((am 5), .inr (8, [.ref a_all_m5, .int size_m5])), (a_all_m5, .inl (cI, n_a_all_m5, .inl b_a_all_m5))]) (cl' := 0) (sl' := 0) rfl rfl rfl rfl rfl rfl ?_
    refine j_if_ne (tgt := 24) d_Mo_readFunction_16 (by decide) (fun c90 => ?_) (fun c90 => ?_)
    · replace h := it_f c90 h
      refine j_aload_n d_Mo_readFunction_24 rfl 0 rfl ?_
      replace h := bd_s h
      obtain ⟨_, k91, h⟩ := h
      refine j_callV (n := 0) (As := []) (rest := []) (wr := [((am 21), .inr (8, [.ref a_all_m21, .int size_m21])), ((am 7), .inr (8, [.ref a_all_m7, .int size_m7])), (a_all_m7, .inl (cI, n_a_all_m7, .inl b_a_all_m7)), ((am 6), .inr (8, [.ref a_all_m6, .int size_m6])), (a_all_m6, .inl (cI, n_a_all_m6, .inl b_a_all_m6)), ((am 4), .inr (8, [.ref a_all_m4, .int size_m4])), (a_all_m4, .inl (cI, n_a_all_m4, .inl b_a_all_m4)), ((am 22), .inr (8, [.ref a_all_m22, .int size_m22])), (a_all_m22, .inl (cI, n_a_all_m22, .inl b_a_all_m22)), (a_all_m21, .inl (cI, n_a_all_m21, .inl b_a_all_m21))]) (c_Mo_kind l D cI cB cJ cS h0 am a_all_m5 known_h0 thrown_h0 wrong_h0 lastEnd_h0 r85 r86 r87 least_h0 found_h0 size_m5 n_a_all_m5 b_a_all_m5  k91) k_Mo_275 (by decide) ⟨Nat.le_of_ble_eq_true rfl, Nat.le_of_ble_eq_true rfl⟩ rfl 0 rfl [10, 11, 12] [0, 1, 2, 3, 4, 5, 6, 7, 8, 9] rfl (by decide) rfl (by decide) (by decide) rfl rfl (Nat.le_of_ble_eq_true rfl) d_Mo_readFunction_25 ⟨show 0 + 0 ≤ mc by omega, show 0 + 0 ≤ ms by omega⟩ (fun v w hq => ?_)
      obtain ⟨rfl, rfl⟩ := hq
      refine j_norm (pc' := 28) (st' := [.int (b_a_all_m5 (Int32.toNatClampNeg r85))]) (ws' := [((am 21), .inr (8, [.ref a_all_m21, .int size_m21])), ((am 7), .inr (8, [.ref a_all_m7, .int size_m7])), (a_all_m7, .inl (cI, n_a_all_m7, .inl b_a_all_m7)), ((am 6), .inr (8, [.ref a_all_m6, .int size_m6])), (a_all_m6, .inl (cI, n_a_all_m6, .inl b_a_all_m6)), ((am 4), .inr (8, [.ref a_all_m4, .int size_m4])), (a_all_m4, .inl (cI, n_a_all_m4, .inl b_a_all_m4)), ((am 22), .inr (8, [.ref a_all_m22, .int size_m22])), (a_all_m22, .inl (cI, n_a_all_m22, .inl b_a_all_m22)), (a_all_m21, .inl (cI, n_a_all_m21, .inl b_a_all_m21)), (h0, .inr (9, moF am known_h0 thrown_h0 wrong_h0 lastEnd_h0 r85 r86 r87 least_h0 found_h0)), ((am 5), .inr (8, [.ref a_all_m5, .int size_m5])), (a_all_m5, .inl (cI, n_a_all_m5, .inl b_a_all_m5))]) (cl' := 0) (sl' := 0) rfl rfl rfl rfl rfl rfl ?_
      refine j_bipush (v := 52) d_Mo_readFunction_28 (by decide) ?_
      refine j_icmp_ne (tgt := 37) d_Mo_readFunction_30 (by decide) (fun c92 => ?_) (fun c92 => ?_)
      · replace h := it_f c92 h
        refine j_iconst (v := 0) d_Mo_readFunction_37 (by decide) ?_
        refine j_sub (w := [((am 21), .inr (8, [.ref a_all_m21, .int size_m21])), ((am 7), .inr (8, [.ref a_all_m7, .int size_m7])), (a_all_m7, .inl (cI, n_a_all_m7, .inl b_a_all_m7)), ((am 6), .inr (8, [.ref a_all_m6, .int size_m6])), (a_all_m6, .inl (cI, n_a_all_m6, .inl b_a_all_m6)), ((am 4), .inr (8, [.ref a_all_m4, .int size_m4])), (a_all_m4, .inl (cI, n_a_all_m4, .inl b_a_all_m4)), ((am 22), .inr (8, [.ref a_all_m22, .int size_m22])), (a_all_m22, .inl (cI, n_a_all_m22, .inl b_a_all_m22)), (a_all_m21, .inl (cI, n_a_all_m21, .inl b_a_all_m21)), (h0, .inr (9, moF am known_h0 thrown_h0 wrong_h0 lastEnd_h0 r85 r86 r87 least_h0 found_h0)), ((am 5), .inr (8, [.ref a_all_m5, .int size_m5])), (a_all_m5, .inl (cI, n_a_all_m5, .inl b_a_all_m5))]) (lv' := [(0, .ref h0)]) [0, 1, 2, 3, 4, 5, 6, 7, 8, 9, 10, 11, 12] rfl (by decide) [0] rfl ?_
        exact L_Mo_readFunction_38 l D cI cB cJ cS h0 am a_all_m21 a_all_m5 a_all_m7 a_all_m6 a_all_m4 a_all_m22 known_h0 thrown_h0 wrong_h0 lastEnd_h0 at_h0 bad_h0 levels_h0 least_h0 found_h0 size_m21 size_m5 n_a_all_m5 b_a_all_m5 size_m7 n_a_all_m7 b_a_all_m7 size_m6 n_a_all_m6 b_a_all_m6 size_m4 n_a_all_m4 b_a_all_m4 size_m22 n_a_all_m22 b_a_all_m22 n_a_all_m21 b_a_all_m21 ret o_0_17 o_0_18 o_0_19 o_1_1 o_10_1 on_nq_1_0 ob_nq_1_0 on_nq_10_0 ob_nq_10_0 mc ms p e s m below meth c hr hnm 0 r85 r86 r87 zb0 0 0 mc ms h hC hS
      · replace h := it_t c92 h
        refine j_iconst (v := 1) d_Mo_readFunction_33 (by decide) ?_
        refine j_goto (tgt := 38) d_Mo_readFunction_34 (by decide) ?_
        refine j_sub (w := [((am 21), .inr (8, [.ref a_all_m21, .int size_m21])), ((am 7), .inr (8, [.ref a_all_m7, .int size_m7])), (a_all_m7, .inl (cI, n_a_all_m7, .inl b_a_all_m7)), ((am 6), .inr (8, [.ref a_all_m6, .int size_m6])), (a_all_m6, .inl (cI, n_a_all_m6, .inl b_a_all_m6)), ((am 4), .inr (8, [.ref a_all_m4, .int size_m4])), (a_all_m4, .inl (cI, n_a_all_m4, .inl b_a_all_m4)), ((am 22), .inr (8, [.ref a_all_m22, .int size_m22])), (a_all_m22, .inl (cI, n_a_all_m22, .inl b_a_all_m22)), (a_all_m21, .inl (cI, n_a_all_m21, .inl b_a_all_m21)), (h0, .inr (9, moF am known_h0 thrown_h0 wrong_h0 lastEnd_h0 r85 r86 r87 least_h0 found_h0)), ((am 5), .inr (8, [.ref a_all_m5, .int size_m5])), (a_all_m5, .inl (cI, n_a_all_m5, .inl b_a_all_m5))]) (lv' := [(0, .ref h0)]) [0, 1, 2, 3, 4, 5, 6, 7, 8, 9, 10, 11, 12] rfl (by decide) [0] rfl ?_
        exact L_Mo_readFunction_38 l D cI cB cJ cS h0 am a_all_m21 a_all_m5 a_all_m7 a_all_m6 a_all_m4 a_all_m22 known_h0 thrown_h0 wrong_h0 lastEnd_h0 at_h0 bad_h0 levels_h0 least_h0 found_h0 size_m21 size_m5 n_a_all_m5 b_a_all_m5 size_m7 n_a_all_m7 b_a_all_m7 size_m6 n_a_all_m6 b_a_all_m6 size_m4 n_a_all_m4 b_a_all_m4 size_m22 n_a_all_m22 b_a_all_m22 n_a_all_m21 b_a_all_m21 ret o_0_17 o_0_18 o_0_19 o_1_1 o_10_1 on_nq_1_0 ob_nq_1_0 on_nq_10_0 ob_nq_10_0 mc ms p e s m below meth c hr hnm 1 r85 r86 r87 zb1 0 0 mc ms h hC hS
    · replace h := it_t c90 h
      refine j_aload_n d_Mo_readFunction_19 rfl 0 rfl ?_
      refine j_callV (n := 0) (As := []) (rest := []) (wr := [((am 21), .inr (8, [.ref a_all_m21, .int size_m21])), ((am 7), .inr (8, [.ref a_all_m7, .int size_m7])), (a_all_m7, .inl (cI, n_a_all_m7, .inl b_a_all_m7)), ((am 6), .inr (8, [.ref a_all_m6, .int size_m6])), (a_all_m6, .inl (cI, n_a_all_m6, .inl b_a_all_m6)), ((am 4), .inr (8, [.ref a_all_m4, .int size_m4])), (a_all_m4, .inl (cI, n_a_all_m4, .inl b_a_all_m4)), ((am 22), .inr (8, [.ref a_all_m22, .int size_m22])), (a_all_m22, .inl (cI, n_a_all_m22, .inl b_a_all_m22)), (a_all_m21, .inl (cI, n_a_all_m21, .inl b_a_all_m21)), ((am 5), .inr (8, [.ref a_all_m5, .int size_m5])), (a_all_m5, .inl (cI, n_a_all_m5, .inl b_a_all_m5))]) (c_Mo_fail l D cI cB cJ cS h0 am known_h0 thrown_h0 wrong_h0 lastEnd_h0 r85 r86 r87 least_h0 found_h0  ) k_Mo_278 (by decide) ⟨Nat.le_of_ble_eq_true rfl, Nat.le_of_ble_eq_true rfl⟩ rfl 0 rfl [10] [0, 1, 2, 3, 4, 5, 6, 7, 8, 9, 11, 12] rfl (by decide) rfl (by decide) (by decide) rfl rfl (Nat.le_of_ble_eq_true rfl) d_Mo_readFunction_20 ⟨show 0 + 0 ≤ mc by omega, show 0 + 0 ≤ ms by omega⟩ (fun v w hq => ?_)
      obtain ⟨rfl, _, rfl⟩ := hq
      refine j_norm (pc' := 23) (st' := [.int 0]) (ws' := [((am 21), .inr (8, [.ref a_all_m21, .int size_m21])), ((am 7), .inr (8, [.ref a_all_m7, .int size_m7])), (a_all_m7, .inl (cI, n_a_all_m7, .inl b_a_all_m7)), ((am 6), .inr (8, [.ref a_all_m6, .int size_m6])), (a_all_m6, .inl (cI, n_a_all_m6, .inl b_a_all_m6)), ((am 4), .inr (8, [.ref a_all_m4, .int size_m4])), (a_all_m4, .inl (cI, n_a_all_m4, .inl b_a_all_m4)), ((am 22), .inr (8, [.ref a_all_m22, .int size_m22])), (a_all_m22, .inl (cI, n_a_all_m22, .inl b_a_all_m22)), (a_all_m21, .inl (cI, n_a_all_m21, .inl b_a_all_m21)), ((am 5), .inr (8, [.ref a_all_m5, .int size_m5])), (a_all_m5, .inl (cI, n_a_all_m5, .inl b_a_all_m5)), (h0, .inr (9, moF am known_h0 thrown_h0 wrong_h0 lastEnd_h0 r85 r85 r87 least_h0 found_h0))]) (cl' := 0) (sl' := 0) rfl rfl rfl rfl rfl rfl ?_
      replace h := lf_s h
      obtain ⟨h, e1, e2⟩ := h
      replace h := Prod.mk.inj h
      obtain ⟨h9, h⟩ := h
      subst h9
      replace h := Prod.mk.inj h
      obtain ⟨h9, h⟩ := h
      subst h9
      replace h := Prod.mk.inj h
      obtain ⟨h9, h⟩ := h
      subst h9
      replace h := Prod.mk.inj h
      obtain ⟨h9, h⟩ := h
      subst h9
      replace h := Prod.mk.inj h
      obtain ⟨h9, h⟩ := h
      subst h9
      replace h := Prod.mk.inj h
      obtain ⟨h9, h⟩ := h
      subst h9
      replace h := Prod.mk.inj h
      obtain ⟨h9, h⟩ := h
      subst h9
      replace h := Prod.mk.inj h
      obtain ⟨h9, h⟩ := h
      subst h9
      replace h := Prod.mk.inj h
      obtain ⟨h9, h⟩ := h
      subst h9
      subst h
      refine j_widen (cl' := mc) (sl' := ms) (by omega) (by omega) ?_
      exact j_zret (w := [(h0, .inr (9, moF am known_h0 thrown_h0 wrong_h0 lastEnd_h0 r85 r85 r87 least_h0 found_h0)), ((am 21), .inr (8, [.ref a_all_m21, .int size_m21])), ((am 5), .inr (8, [.ref a_all_m5, .int size_m5])), (a_all_m5, .inl (cI, n_a_all_m5, .inl b_a_all_m5)), ((am 7), .inr (8, [.ref a_all_m7, .int size_m7])), (a_all_m7, .inl (cI, n_a_all_m7, .inl b_a_all_m7)), ((am 6), .inr (8, [.ref a_all_m6, .int size_m6])), (a_all_m6, .inl (cI, n_a_all_m6, .inl b_a_all_m6)), ((am 4), .inr (8, [.ref a_all_m4, .int size_m4])), (a_all_m4, .inl (cI, n_a_all_m4, .inl b_a_all_m4)), ((am 22), .inr (8, [.ref a_all_m22, .int size_m22])), (a_all_m21, .inl (cI, n_a_all_m21, .inl b_a_all_m21)), (a_all_m22, .inl (cI, n_a_all_m22, .inl b_a_all_m22))]) hr (zb_n zb0) d_Mo_readFunction_23 [12, 0, 10, 11, 1, 2, 3, 4, 5, 6, 7, 9, 8] rfl (by decide) ⟨a_all_m21, a_all_m22, rfl, zb0, rfl⟩
