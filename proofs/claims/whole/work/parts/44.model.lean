def F_Mo_targetsEnd_42 (size_m5 : Int32) (n_a_all_m5 : Nat) (b_a_all_m5 : Nat → Int32) (v2_9 : Int32) (v1_9 : Int32) (K_9 : Int32 → Int32 → Option (Int32)) : Option (Int32) :=
    Option.bind (F_Nm_at (v1_9 + 1) size_m5 n_a_all_m5 b_a_all_m5) fun _ =>
    if (b_a_all_m5 (Int32.toNatClampNeg (v1_9 + 1))) = 53 then (Option.bind (F_Nm_at ((v1_9 + 1) + 1) size_m5 n_a_all_m5 b_a_all_m5) fun _ =>
      if (b_a_all_m5 (Int32.toNatClampNeg ((v1_9 + 1) + 1))) = 56 then (some (-1))
      else (some ((v1_9 + 1) + 1)))
    else (Option.bind (F_Nm_at (v1_9 + 1) size_m5 n_a_all_m5 b_a_all_m5) fun _ =>
      if (b_a_all_m5 (Int32.toNatClampNeg (v1_9 + 1))) = 54 then (if v2_9 = 8 then (some (v1_9 + 1))
        else (K_9 (v2_9 + 1) ((v1_9 + 1) + 1)))
      else (some (v1_9 + 1)))
def F_Mo_targetsEnd_9 (size_m5 : Int32) (n_a_all_m5 : Nat) (b_a_all_m5 : Nat → Int32) : Nat → Int32 → Int32 → Option (Int32)
  | 0, _, _ => none
  | k_9 + 1, v2_9, v1_9 =>
    if 8 < v2_9 then (some v1_9)
    else (Option.bind (F_Nm_at v1_9 size_m5 n_a_all_m5 b_a_all_m5) fun _ =>
      if (b_a_all_m5 (Int32.toNatClampNeg v1_9)) = 2 then (F_Mo_targetsEnd_42 size_m5 n_a_all_m5 b_a_all_m5 v2_9 v1_9 (F_Mo_targetsEnd_9 size_m5 n_a_all_m5 b_a_all_m5  k_9)  )
      else (Option.bind (F_Nm_at v1_9 size_m5 n_a_all_m5 b_a_all_m5) fun _ =>
        if (b_a_all_m5 (Int32.toNatClampNeg v1_9)) = 49 then (F_Mo_targetsEnd_42 size_m5 n_a_all_m5 b_a_all_m5 v2_9 v1_9 (F_Mo_targetsEnd_9 size_m5 n_a_all_m5 b_a_all_m5  k_9)  )
        else (some v1_9)))
def F_Mo_targetsEnd (known_h0 : Int32) (thrown_h0 : Int32) (wrong_h0 : Int32) (lastEnd_h0 : Int32) (at_h0 : Int32) (bad_h0 : Int32) (levels_h0 : Int32) (least_h0 : Int32) (found_h0 : Int32) (size_m5 : Int32) (n_a_all_m5 : Nat) (b_a_all_m5 : Nat → Int32) : Option (Int32) :=
  F_Mo_targetsEnd_9 size_m5 n_a_all_m5 b_a_all_m5  FU 1 (at_h0 + 1)
theorem d_Mo_targetsEnd_0 : decode prog_12_method_42_code 0 = .ok (.aload_n 0, 1) := by decide +kernel
theorem d_Mo_targetsEnd_1 : decode prog_12_method_42_code 1 = .ok (.getfield 270, 3) := by decide +kernel
theorem d_Mo_targetsEnd_4 : decode prog_12_method_42_code 4 = .ok (.iconst 1, 1) := by decide +kernel
theorem d_Mo_targetsEnd_5 : decode prog_12_method_42_code 5 = .ok (.iadd, 1) := by decide +kernel
theorem d_Mo_targetsEnd_6 : decode prog_12_method_42_code 6 = .ok (.istore_n 1, 1) := by decide +kernel
theorem d_Mo_targetsEnd_7 : decode prog_12_method_42_code 7 = .ok (.iconst 1, 1) := by decide +kernel
theorem d_Mo_targetsEnd_8 : decode prog_12_method_42_code 8 = .ok (.istore_n 2, 1) := by decide +kernel
theorem d_Mo_targetsEnd_9 : decode prog_12_method_42_code 9 = .ok (.iload_n 2, 1) := by decide +kernel
theorem d_Mo_targetsEnd_10 : decode prog_12_method_42_code 10 = .ok (.bipush 8, 2) := by decide +kernel
theorem d_Mo_targetsEnd_12 : decode prog_12_method_42_code 12 = .ok (.if_icmp .gt 99, 3) := by decide +kernel
theorem d_Mo_targetsEnd_15 : decode prog_12_method_42_code 15 = .ok (.aload_n 0, 1) := by decide +kernel
theorem d_Mo_targetsEnd_16 : decode prog_12_method_42_code 16 = .ok (.getfield 114, 3) := by decide +kernel
theorem d_Mo_targetsEnd_19 : decode prog_12_method_42_code 19 = .ok (.iload_n 1, 1) := by decide +kernel
theorem d_Mo_targetsEnd_20 : decode prog_12_method_42_code 20 = .ok (.invokevirtual 214, 3) := by decide +kernel
theorem d_Mo_targetsEnd_23 : decode prog_12_method_42_code 23 = .ok (.iconst 2, 1) := by decide +kernel
theorem d_Mo_targetsEnd_24 : decode prog_12_method_42_code 24 = .ok (.if_icmp .eq 18, 3) := by decide +kernel
theorem d_Mo_targetsEnd_27 : decode prog_12_method_42_code 27 = .ok (.aload_n 0, 1) := by decide +kernel
theorem d_Mo_targetsEnd_28 : decode prog_12_method_42_code 28 = .ok (.getfield 114, 3) := by decide +kernel
theorem d_Mo_targetsEnd_31 : decode prog_12_method_42_code 31 = .ok (.iload_n 1, 1) := by decide +kernel
theorem d_Mo_targetsEnd_32 : decode prog_12_method_42_code 32 = .ok (.invokevirtual 214, 3) := by decide +kernel
theorem d_Mo_targetsEnd_35 : decode prog_12_method_42_code 35 = .ok (.bipush 49, 2) := by decide +kernel
theorem d_Mo_targetsEnd_37 : decode prog_12_method_42_code 37 = .ok (.if_icmp .eq 5, 3) := by decide +kernel
theorem d_Mo_targetsEnd_40 : decode prog_12_method_42_code 40 = .ok (.iload_n 1, 1) := by decide +kernel
theorem d_Mo_targetsEnd_41 : decode prog_12_method_42_code 41 = .ok (.ireturn, 1) := by decide +kernel
theorem d_Mo_targetsEnd_42 : decode prog_12_method_42_code 42 = .ok (.iinc 1 1, 3) := by decide +kernel
theorem d_Mo_targetsEnd_45 : decode prog_12_method_42_code 45 = .ok (.aload_n 0, 1) := by decide +kernel
theorem d_Mo_targetsEnd_46 : decode prog_12_method_42_code 46 = .ok (.getfield 114, 3) := by decide +kernel
theorem d_Mo_targetsEnd_49 : decode prog_12_method_42_code 49 = .ok (.iload_n 1, 1) := by decide +kernel
theorem d_Mo_targetsEnd_50 : decode prog_12_method_42_code 50 = .ok (.invokevirtual 214, 3) := by decide +kernel
theorem d_Mo_targetsEnd_53 : decode prog_12_method_42_code 53 = .ok (.bipush 53, 2) := by decide +kernel
theorem d_Mo_targetsEnd_55 : decode prog_12_method_42_code 55 = .ok (.if_icmp .ne 26, 3) := by decide +kernel
theorem d_Mo_targetsEnd_58 : decode prog_12_method_42_code 58 = .ok (.aload_n 0, 1) := by decide +kernel
theorem d_Mo_targetsEnd_59 : decode prog_12_method_42_code 59 = .ok (.getfield 114, 3) := by decide +kernel
theorem d_Mo_targetsEnd_62 : decode prog_12_method_42_code 62 = .ok (.iload_n 1, 1) := by decide +kernel
theorem d_Mo_targetsEnd_63 : decode prog_12_method_42_code 63 = .ok (.iconst 1, 1) := by decide +kernel
theorem d_Mo_targetsEnd_64 : decode prog_12_method_42_code 64 = .ok (.iadd, 1) := by decide +kernel
theorem d_Mo_targetsEnd_65 : decode prog_12_method_42_code 65 = .ok (.invokevirtual 214, 3) := by decide +kernel
theorem d_Mo_targetsEnd_68 : decode prog_12_method_42_code 68 = .ok (.bipush 56, 2) := by decide +kernel
theorem d_Mo_targetsEnd_70 : decode prog_12_method_42_code 70 = .ok (.if_icmp .ne 7, 3) := by decide +kernel
theorem d_Mo_targetsEnd_73 : decode prog_12_method_42_code 73 = .ok (.iconst (-1), 1) := by decide +kernel
theorem d_Mo_targetsEnd_74 : decode prog_12_method_42_code 74 = .ok (.goto 6, 3) := by decide +kernel
theorem d_Mo_targetsEnd_77 : decode prog_12_method_42_code 77 = .ok (.iload_n 1, 1) := by decide +kernel
theorem d_Mo_targetsEnd_78 : decode prog_12_method_42_code 78 = .ok (.iconst 1, 1) := by decide +kernel
theorem d_Mo_targetsEnd_79 : decode prog_12_method_42_code 79 = .ok (.iadd, 1) := by decide +kernel
theorem d_Mo_targetsEnd_80 : decode prog_12_method_42_code 80 = .ok (.ireturn, 1) := by decide +kernel
theorem d_Mo_targetsEnd_81 : decode prog_12_method_42_code 81 = .ok (.aload_n 0, 1) := by decide +kernel
theorem d_Mo_targetsEnd_82 : decode prog_12_method_42_code 82 = .ok (.getfield 114, 3) := by decide +kernel
theorem d_Mo_targetsEnd_85 : decode prog_12_method_42_code 85 = .ok (.iload_n 1, 1) := by decide +kernel
theorem d_Mo_targetsEnd_86 : decode prog_12_method_42_code 86 = .ok (.invokevirtual 214, 3) := by decide +kernel
theorem d_Mo_targetsEnd_89 : decode prog_12_method_42_code 89 = .ok (.bipush 54, 2) := by decide +kernel
theorem d_Mo_targetsEnd_91 : decode prog_12_method_42_code 91 = .ok (.if_icmp .ne 9, 3) := by decide +kernel
theorem d_Mo_targetsEnd_94 : decode prog_12_method_42_code 94 = .ok (.iload_n 2, 1) := by decide +kernel
theorem d_Mo_targetsEnd_95 : decode prog_12_method_42_code 95 = .ok (.bipush 8, 2) := by decide +kernel
theorem d_Mo_targetsEnd_97 : decode prog_12_method_42_code 97 = .ok (.if_icmp .ne 5, 3) := by decide +kernel
theorem d_Mo_targetsEnd_100 : decode prog_12_method_42_code 100 = .ok (.iload_n 1, 1) := by decide +kernel
theorem d_Mo_targetsEnd_101 : decode prog_12_method_42_code 101 = .ok (.ireturn, 1) := by decide +kernel
theorem d_Mo_targetsEnd_102 : decode prog_12_method_42_code 102 = .ok (.iinc 1 1, 3) := by decide +kernel
theorem d_Mo_targetsEnd_105 : decode prog_12_method_42_code 105 = .ok (.iinc 2 1, 3) := by decide +kernel
theorem d_Mo_targetsEnd_108 : decode prog_12_method_42_code 108 = .ok (.goto (-99), 3) := by decide +kernel
theorem d_Mo_targetsEnd_111 : decode prog_12_method_42_code 111 = .ok (.iload_n 1, 1) := by decide +kernel
theorem d_Mo_targetsEnd_112 : decode prog_12_method_42_code 112 = .ok (.ireturn, 1) := by decide +kernel
set_option maxHeartbeats 4000000 in
set_option maxRecDepth 100000 in
theorem L_Mo_targetsEnd_9 (l : Launch) (D : va_G) (cI cB cJ cS : ClassId) (h0 : Nat) (am : Nat → Nat) (a_all_m5 : Nat) (known_h0 : Int32) (thrown_h0 : Int32) (wrong_h0 : Int32) (lastEnd_h0 : Int32) (at_h0 : Int32) (bad_h0 : Int32) (levels_h0 : Int32) (least_h0 : Int32) (found_h0 : Int32) (size_m5 : Int32) (n_a_all_m5 : Nat) (b_a_all_m5 : Nat → Int32) (ret : Int32) (p : Program) (e : Env) (s : State) (m : MethodId) (below : List Frame) (meth : Method) (c : Code) (hr : meth.sig.returnType = (Option.some Jvm.ClassFile.FieldType.int)) (hnm : meth.name = y_Mo_targetsEnd.name) : ∀ (k_9 : Nat) (v2_9 : Int32) (v1_9 : Int32), F_Mo_targetsEnd_9 size_m5 n_a_all_m5 b_a_all_m5  k_9 v2_9 v1_9 = some ret → J (KxOf p l e { frames := 1, cells := 0, slots := 0, locals := 21 } s m [.ref h0].toArray below meth c D (gT cI cB cJ cS) [(h0, .inr (9, moF am known_h0 thrown_h0 wrong_h0 lastEnd_h0 at_h0 bad_h0 levels_h0 least_h0 found_h0)), ((am 5), .inr (8, [.ref a_all_m5, .int size_m5])), (a_all_m5, .inl (cI, n_a_all_m5, .inl b_a_all_m5))] (fun v w => v = some (.int ret) ∧ w = [(h0, .inr (9, moF am known_h0 thrown_h0 wrong_h0 lastEnd_h0 at_h0 bad_h0 levels_h0 least_h0 found_h0)), ((am 5), .inr (8, [.ref a_all_m5, .int size_m5])), (a_all_m5, .inl (cI, n_a_all_m5, .inl b_a_all_m5))]) 0 0) prog_12_method_42_code 3 R_Mo 9 [(2, .int v2_9), (1, .int v1_9), (0, .ref h0)] [] [(h0, .inr (9, moF am known_h0 thrown_h0 wrong_h0 lastEnd_h0 at_h0 bad_h0 levels_h0 least_h0 found_h0)), ((am 5), .inr (8, [.ref a_all_m5, .int size_m5])), (a_all_m5, .inl (cI, n_a_all_m5, .inl b_a_all_m5))] 0 0 := by
  intro k_9
  induction k_9 with
  | zero => intro v2_9 v1_9 h; rw [F_Mo_targetsEnd_9] at h; cases h
  | succ k_9 ih_9 =>
    intro v2_9 v1_9 h
    rw [F_Mo_targetsEnd_9] at h
    have L_42 : F_Mo_targetsEnd_42 size_m5 n_a_all_m5 b_a_all_m5 v2_9 v1_9 (F_Mo_targetsEnd_9 size_m5 n_a_all_m5 b_a_all_m5  k_9)   = some ret → J (KxOf p l e { frames := 1, cells := 0, slots := 0, locals := 21 } s m [.ref h0].toArray below meth c D (gT cI cB cJ cS) [(h0, .inr (9, moF am known_h0 thrown_h0 wrong_h0 lastEnd_h0 at_h0 bad_h0 levels_h0 least_h0 found_h0)), ((am 5), .inr (8, [.ref a_all_m5, .int size_m5])), (a_all_m5, .inl (cI, n_a_all_m5, .inl b_a_all_m5))] (fun v w => v = some (.int ret) ∧ w = [(h0, .inr (9, moF am known_h0 thrown_h0 wrong_h0 lastEnd_h0 at_h0 bad_h0 levels_h0 least_h0 found_h0)), ((am 5), .inr (8, [.ref a_all_m5, .int size_m5])), (a_all_m5, .inl (cI, n_a_all_m5, .inl b_a_all_m5))]) 0 0) prog_12_method_42_code 3 R_Mo 42 [(2, .int v2_9), (1, .int v1_9), (0, .ref h0)] [] [(h0, .inr (9, moF am known_h0 thrown_h0 wrong_h0 lastEnd_h0 at_h0 bad_h0 levels_h0 least_h0 found_h0)), ((am 5), .inr (8, [.ref a_all_m5, .int size_m5])), (a_all_m5, .inl (cI, n_a_all_m5, .inl b_a_all_m5))] 0 0 := by
      clear h
      intro  h
      unfold F_Mo_targetsEnd_42 at h
      refine j_iinc (v := v1_9 + 1) (lv' := [(1, .int (v1_9 + 1)), (2, .int v2_9), (0, .ref h0)]) d_Mo_targetsEnd_42 1 rfl rfl (by decide) rfl ?_
      refine j_aload_n d_Mo_targetsEnd_45 rfl 2 rfl ?_
      refine j_get ig_Mo rfl 0 rfl 5 (by decide) rfl m_1118 rfl d_Mo_targetsEnd_46 ?_
      refine j_iload_n d_Mo_targetsEnd_49 rfl 0 rfl ?_
      replace h := bd_s h
      obtain ⟨_, k1, h⟩ := h
      refine j_callV (n := 1) (As := [.int (v1_9 + 1)]) (rest := []) (wr := [(h0, .inr (9, moF am known_h0 thrown_h0 wrong_h0 lastEnd_h0 at_h0 bad_h0 levels_h0 least_h0 found_h0))]) (c_Nm_at l D cI cB cJ cS (am 5) a_all_m5 (v1_9 + 1) size_m5 n_a_all_m5 b_a_all_m5  k1) k_Mo_214 (by decide) ⟨Nat.le_of_ble_eq_true rfl, Nat.le_of_ble_eq_true rfl⟩ rfl 0 rfl [1, 2] [0] rfl (by decide) rfl (by decide) (by decide) rfl rfl (Nat.le_of_ble_eq_true rfl) d_Mo_targetsEnd_50 ⟨Nat.le_of_ble_eq_true rfl, Nat.le_of_ble_eq_true rfl⟩ (fun v w hq => ?_)
      obtain ⟨rfl, rfl⟩ := hq
      refine j_norm (pc' := 53) (st' := [.int (b_a_all_m5 (Int32.toNatClampNeg (v1_9 + 1)))]) (ws' := [(h0, .inr (9, moF am known_h0 thrown_h0 wrong_h0 lastEnd_h0 at_h0 bad_h0 levels_h0 least_h0 found_h0)), ((am 5), .inr (8, [.ref a_all_m5, .int size_m5])), (a_all_m5, .inl (cI, n_a_all_m5, .inl b_a_all_m5))]) (cl' := 0) (sl' := 0) rfl rfl rfl rfl rfl rfl ?_
      refine j_bipush (v := 53) d_Mo_targetsEnd_53 (by decide) ?_
      refine j_icmp_ne (tgt := 81) d_Mo_targetsEnd_55 (by decide) (fun c2 => ?_) (fun c2 => ?_)
      · replace h := it_f c2 h
        refine j_aload_n d_Mo_targetsEnd_81 rfl 2 rfl ?_
        refine j_get ig_Mo rfl 0 rfl 5 (by decide) rfl m_1118 rfl d_Mo_targetsEnd_82 ?_
        refine j_iload_n d_Mo_targetsEnd_85 rfl 0 rfl ?_
        replace h := bd_s h
        obtain ⟨_, k3, h⟩ := h
        refine j_callV (n := 1) (As := [.int (v1_9 + 1)]) (rest := []) (wr := [(h0, .inr (9, moF am known_h0 thrown_h0 wrong_h0 lastEnd_h0 at_h0 bad_h0 levels_h0 least_h0 found_h0))]) (c_Nm_at l D cI cB cJ cS (am 5) a_all_m5 (v1_9 + 1) size_m5 n_a_all_m5 b_a_all_m5  k3) k_Mo_214 (by decide) ⟨Nat.le_of_ble_eq_true rfl, Nat.le_of_ble_eq_true rfl⟩ rfl 0 rfl [1, 2] [0] rfl (by decide) rfl (by decide) (by decide) rfl rfl (Nat.le_of_ble_eq_true rfl) d_Mo_targetsEnd_86 ⟨Nat.le_of_ble_eq_true rfl, Nat.le_of_ble_eq_true rfl⟩ (fun v w hq => ?_)
        obtain ⟨rfl, rfl⟩ := hq
        refine j_norm (pc' := 89) (st' := [.int (b_a_all_m5 (Int32.toNatClampNeg (v1_9 + 1)))]) (ws' := [(h0, .inr (9, moF am known_h0 thrown_h0 wrong_h0 lastEnd_h0 at_h0 bad_h0 levels_h0 least_h0 found_h0)), ((am 5), .inr (8, [.ref a_all_m5, .int size_m5])), (a_all_m5, .inl (cI, n_a_all_m5, .inl b_a_all_m5))]) (cl' := 0) (sl' := 0) rfl rfl rfl rfl rfl rfl ?_
        refine j_bipush (v := 54) d_Mo_targetsEnd_89 (by decide) ?_
        refine j_icmp_ne (tgt := 100) d_Mo_targetsEnd_91 (by decide) (fun c4 => ?_) (fun c4 => ?_)
        · replace h := it_f c4 h
          refine j_iload_n d_Mo_targetsEnd_100 rfl 0 rfl ?_
          replace h := Option.some.inj h
          subst h
          exact j_iret (w := [(h0, .inr (9, moF am known_h0 thrown_h0 wrong_h0 lastEnd_h0 at_h0 bad_h0 levels_h0 least_h0 found_h0)), ((am 5), .inr (8, [.ref a_all_m5, .int size_m5])), (a_all_m5, .inl (cI, n_a_all_m5, .inl b_a_all_m5))]) hr d_Mo_targetsEnd_101 [0, 1, 2] rfl (by decide) ⟨rfl, rfl⟩
        · replace h := it_t c4 h
          refine j_iload_n d_Mo_targetsEnd_94 rfl 1 rfl ?_
          refine j_bipush (v := 8) d_Mo_targetsEnd_95 (by decide) ?_
          refine j_icmp_ne (tgt := 102) d_Mo_targetsEnd_97 (by decide) (fun c5 => ?_) (fun c5 => ?_)
          · replace h := it_f c5 h
            refine j_iinc (v := (v1_9 + 1) + 1) (lv' := [(1, .int ((v1_9 + 1) + 1)), (2, .int v2_9), (0, .ref h0)]) d_Mo_targetsEnd_102 0 rfl rfl (by decide) rfl ?_
            refine j_iinc (v := v2_9 + 1) (lv' := [(2, .int (v2_9 + 1)), (1, .int ((v1_9 + 1) + 1)), (0, .ref h0)]) d_Mo_targetsEnd_105 1 rfl rfl (by decide) rfl ?_
            refine j_goto (tgt := 9) d_Mo_targetsEnd_108 (by decide) ?_
            refine j_sub (w := [(h0, .inr (9, moF am known_h0 thrown_h0 wrong_h0 lastEnd_h0 at_h0 bad_h0 levels_h0 least_h0 found_h0)), ((am 5), .inr (8, [.ref a_all_m5, .int size_m5])), (a_all_m5, .inl (cI, n_a_all_m5, .inl b_a_all_m5))]) (lv' := [(2, .int (v2_9 + 1)), (1, .int ((v1_9 + 1) + 1)), (0, .ref h0)]) [0, 1, 2] rfl (by decide) [0, 1, 2] rfl ?_
            exact ih_9 (v2_9 + 1) ((v1_9 + 1) + 1) h
          · replace h := it_t c5 h
            refine j_iload_n d_Mo_targetsEnd_100 rfl 0 rfl ?_
            replace h := Option.some.inj h
            subst h
            exact j_iret (w := [(h0, .inr (9, moF am known_h0 thrown_h0 wrong_h0 lastEnd_h0 at_h0 bad_h0 levels_h0 least_h0 found_h0)), ((am 5), .inr (8, [.ref a_all_m5, .int size_m5])), (a_all_m5, .inl (cI, n_a_all_m5, .inl b_a_all_m5))]) hr d_Mo_targetsEnd_101 [0, 1, 2] rfl (by decide) ⟨rfl, rfl⟩
      · replace h := it_t c2 h
        refine j_aload_n d_Mo_targetsEnd_58 rfl 2 rfl ?_
        refine j_get ig_Mo rfl 0 rfl 5 (by decide) rfl m_1118 rfl d_Mo_targetsEnd_59 ?_
        refine j_iload_n d_Mo_targetsEnd_62 rfl 0 rfl ?_
        refine j_iconst (v := 1) d_Mo_targetsEnd_63 (by decide) ?_
        refine j_iadd d_Mo_targetsEnd_64 ?_
        replace h := bd_s h
        obtain ⟨_, k6, h⟩ := h
        refine j_callV (n := 1) (As := [.int ((v1_9 + 1) + 1)]) (rest := []) (wr := [(h0, .inr (9, moF am known_h0 thrown_h0 wrong_h0 lastEnd_h0 at_h0 bad_h0 levels_h0 least_h0 found_h0))]) (c_Nm_at l D cI cB cJ cS (am 5) a_all_m5 ((v1_9 + 1) + 1) size_m5 n_a_all_m5 b_a_all_m5  k6) k_Mo_214 (by decide) ⟨Nat.le_of_ble_eq_true rfl, Nat.le_of_ble_eq_true rfl⟩ rfl 0 rfl [1, 2] [0] rfl (by decide) rfl (by decide) (by decide) rfl rfl (Nat.le_of_ble_eq_true rfl) d_Mo_targetsEnd_65 ⟨Nat.le_of_ble_eq_true rfl, Nat.le_of_ble_eq_true rfl⟩ (fun v w hq => ?_)
        obtain ⟨rfl, rfl⟩ := hq
        refine j_norm (pc' := 68) (st' := [.int (b_a_all_m5 (Int32.toNatClampNeg ((v1_9 + 1) + 1)))]) (ws' := [(h0, .inr (9, moF am known_h0 thrown_h0 wrong_h0 lastEnd_h0 at_h0 bad_h0 levels_h0 least_h0 found_h0)), ((am 5), .inr (8, [.ref a_all_m5, .int size_m5])), (a_all_m5, .inl (cI, n_a_all_m5, .inl b_a_all_m5))]) (cl' := 0) (sl' := 0) rfl rfl rfl rfl rfl rfl ?_
        refine j_bipush (v := 56) d_Mo_targetsEnd_68 (by decide) ?_
        refine j_icmp_ne (tgt := 77) d_Mo_targetsEnd_70 (by decide) (fun c7 => ?_) (fun c7 => ?_)
        · replace h := it_f c7 h
          refine j_iload_n d_Mo_targetsEnd_77 rfl 0 rfl ?_
          refine j_iconst (v := 1) d_Mo_targetsEnd_78 (by decide) ?_
          refine j_iadd d_Mo_targetsEnd_79 ?_
          replace h := Option.some.inj h
          subst h
          exact j_iret (w := [(h0, .inr (9, moF am known_h0 thrown_h0 wrong_h0 lastEnd_h0 at_h0 bad_h0 levels_h0 least_h0 found_h0)), ((am 5), .inr (8, [.ref a_all_m5, .int size_m5])), (a_all_m5, .inl (cI, n_a_all_m5, .inl b_a_all_m5))]) hr d_Mo_targetsEnd_80 [0, 1, 2] rfl (by decide) ⟨rfl, rfl⟩
        · replace h := it_t c7 h
          refine j_iconst (v := (-1)) d_Mo_targetsEnd_73 (by decide) ?_
          refine j_goto (tgt := 80) d_Mo_targetsEnd_74 (by decide) ?_
          replace h := Option.some.inj h
          subst h
          exact j_iret (w := [(h0, .inr (9, moF am known_h0 thrown_h0 wrong_h0 lastEnd_h0 at_h0 bad_h0 levels_h0 least_h0 found_h0)), ((am 5), .inr (8, [.ref a_all_m5, .int size_m5])), (a_all_m5, .inl (cI, n_a_all_m5, .inl b_a_all_m5))]) hr d_Mo_targetsEnd_80 [0, 1, 2] rfl (by decide) ⟨rfl, rfl⟩
    refine j_iload_n d_Mo_targetsEnd_9 rfl 0 rfl ?_
    refine j_bipush (v := 8) d_Mo_targetsEnd_10 (by decide) ?_
    refine j_icmp_gt (tgt := 111) d_Mo_targetsEnd_12 (by decide) (fun c8 => ?_) (fun c8 => ?_)
    · replace h := it_t c8 h
      refine j_iload_n d_Mo_targetsEnd_111 rfl 1 rfl ?_
      replace h := Option.some.inj h
      subst h
      exact j_iret (w := [(h0, .inr (9, moF am known_h0 thrown_h0 wrong_h0 lastEnd_h0 at_h0 bad_h0 levels_h0 least_h0 found_h0)), ((am 5), .inr (8, [.ref a_all_m5, .int size_m5])), (a_all_m5, .inl (cI, n_a_all_m5, .inl b_a_all_m5))]) hr d_Mo_targetsEnd_112 [0, 1, 2] rfl (by decide) ⟨rfl, rfl⟩
    · replace h := it_f c8 h
      refine j_aload_n d_Mo_targetsEnd_15 rfl 2 rfl ?_
      refine j_get ig_Mo rfl 0 rfl 5 (by decide) rfl m_1118 rfl d_Mo_targetsEnd_16 ?_
      refine j_iload_n d_Mo_targetsEnd_19 rfl 1 rfl ?_
      replace h := bd_s h
      obtain ⟨_, k9, h⟩ := h
      refine j_callV (n := 1) (As := [.int v1_9]) (rest := []) (wr := [(h0, .inr (9, moF am known_h0 thrown_h0 wrong_h0 lastEnd_h0 at_h0 bad_h0 levels_h0 least_h0 found_h0))]) (c_Nm_at l D cI cB cJ cS (am 5) a_all_m5 v1_9 size_m5 n_a_all_m5 b_a_all_m5  k9) k_Mo_214 (by decide) ⟨Nat.le_of_ble_eq_true rfl, Nat.le_of_ble_eq_true rfl⟩ rfl 0 rfl [1, 2] [0] rfl (by decide) rfl (by decide) (by decide) rfl rfl (Nat.le_of_ble_eq_true rfl) d_Mo_targetsEnd_20 ⟨Nat.le_of_ble_eq_true rfl, Nat.le_of_ble_eq_true rfl⟩ (fun v w hq => ?_)
      obtain ⟨rfl, rfl⟩ := hq
      refine j_norm (pc' := 23) (st' := [.int (b_a_all_m5 (Int32.toNatClampNeg v1_9))]) (ws' := [(h0, .inr (9, moF am known_h0 thrown_h0 wrong_h0 lastEnd_h0 at_h0 bad_h0 levels_h0 least_h0 found_h0)), ((am 5), .inr (8, [.ref a_all_m5, .int size_m5])), (a_all_m5, .inl (cI, n_a_all_m5, .inl b_a_all_m5))]) (cl' := 0) (sl' := 0) rfl rfl rfl rfl rfl rfl ?_
      refine j_iconst (v := 2) d_Mo_targetsEnd_23 (by decide) ?_
      refine j_icmp_eq (tgt := 42) d_Mo_targetsEnd_24 (by decide) (fun c10 => ?_) (fun c10 => ?_)
      · replace h := it_t c10 h
        refine j_sub (w := [(h0, .inr (9, moF am known_h0 thrown_h0 wrong_h0 lastEnd_h0 at_h0 bad_h0 levels_h0 least_h0 found_h0)), ((am 5), .inr (8, [.ref a_all_m5, .int size_m5])), (a_all_m5, .inl (cI, n_a_all_m5, .inl b_a_all_m5))]) (lv' := [(2, .int v2_9), (1, .int v1_9), (0, .ref h0)]) [0, 1, 2] rfl (by decide) [0, 1, 2] rfl ?_
        exact L_42  h
      · replace h := it_f c10 h
        refine j_aload_n d_Mo_targetsEnd_27 rfl 2 rfl ?_
        refine j_get ig_Mo rfl 0 rfl 5 (by decide) rfl m_1118 rfl d_Mo_targetsEnd_28 ?_
        refine j_iload_n d_Mo_targetsEnd_31 rfl 1 rfl ?_
        replace h := bd_s h
        obtain ⟨_, k11, h⟩ := h
        refine j_callV (n := 1) (As := [.int v1_9]) (rest := []) (wr := [(h0, .inr (9, moF am known_h0 thrown_h0 wrong_h0 lastEnd_h0 at_h0 bad_h0 levels_h0 least_h0 found_h0))]) (c_Nm_at l D cI cB cJ cS (am 5) a_all_m5 v1_9 size_m5 n_a_all_m5 b_a_all_m5  k11) k_Mo_214 (by decide) ⟨Nat.le_of_ble_eq_true rfl, Nat.le_of_ble_eq_true rfl⟩ rfl 0 rfl [1, 2] [0] rfl (by decide) rfl (by decide) (by decide) rfl rfl (Nat.le_of_ble_eq_true rfl) d_Mo_targetsEnd_32 ⟨Nat.le_of_ble_eq_true rfl, Nat.le_of_ble_eq_true rfl⟩ (fun v w hq => ?_)
        obtain ⟨rfl, rfl⟩ := hq
        refine j_norm (pc' := 35) (st' := [.int (b_a_all_m5 (Int32.toNatClampNeg v1_9))]) (ws' := [(h0, .inr (9, moF am known_h0 thrown_h0 wrong_h0 lastEnd_h0 at_h0 bad_h0 levels_h0 least_h0 found_h0)), ((am 5), .inr (8, [.ref a_all_m5, .int size_m5])), (a_all_m5, .inl (cI, n_a_all_m5, .inl b_a_all_m5))]) (cl' := 0) (sl' := 0) rfl rfl rfl rfl rfl rfl ?_
        refine j_bipush (v := 49) d_Mo_targetsEnd_35 (by decide) ?_
        refine j_icmp_eq (tgt := 42) d_Mo_targetsEnd_37 (by decide) (fun c12 => ?_) (fun c12 => ?_)
        · replace h := it_t c12 h
          refine j_sub (w := [(h0, .inr (9, moF am known_h0 thrown_h0 wrong_h0 lastEnd_h0 at_h0 bad_h0 levels_h0 least_h0 found_h0)), ((am 5), .inr (8, [.ref a_all_m5, .int size_m5])), (a_all_m5, .inl (cI, n_a_all_m5, .inl b_a_all_m5))]) (lv' := [(2, .int v2_9), (1, .int v1_9), (0, .ref h0)]) [0, 1, 2] rfl (by decide) [0, 1, 2] rfl ?_
          exact L_42  h
        · replace h := it_f c12 h
          refine j_iload_n d_Mo_targetsEnd_40 rfl 1 rfl ?_
          replace h := Option.some.inj h
          subst h
          exact j_iret (w := [(h0, .inr (9, moF am known_h0 thrown_h0 wrong_h0 lastEnd_h0 at_h0 bad_h0 levels_h0 least_h0 found_h0)), ((am 5), .inr (8, [.ref a_all_m5, .int size_m5])), (a_all_m5, .inl (cI, n_a_all_m5, .inl b_a_all_m5))]) hr d_Mo_targetsEnd_41 [0, 1, 2] rfl (by decide) ⟨rfl, rfl⟩
set_option maxHeartbeats 4000000 in
set_option maxRecDepth 100000 in
theorem c_Mo_targetsEnd (l : Launch) (D : va_G) (cI cB cJ cS : ClassId) (h0 : Nat) (am : Nat → Nat) (a_all_m5 : Nat) (known_h0 : Int32) (thrown_h0 : Int32) (wrong_h0 : Int32) (lastEnd_h0 : Int32) (at_h0 : Int32) (bad_h0 : Int32) (levels_h0 : Int32) (least_h0 : Int32) (found_h0 : Int32) (size_m5 : Int32) (n_a_all_m5 : Nat) (b_a_all_m5 : Nat → Int32) (ret : Int32) (h : F_Mo_targetsEnd known_h0 thrown_h0 wrong_h0 lastEnd_h0 at_h0 bad_h0 levels_h0 least_h0 found_h0 size_m5 n_a_all_m5 b_a_all_m5 = some ret) : Ct l D (gT cI cB cJ cS) y_Mo_targetsEnd prog_12_method_42_code 3 (Option.some Jvm.ClassFile.FieldType.int) 1 21 0 0 [.ref h0] [(h0, .inr (9, moF am known_h0 thrown_h0 wrong_h0 lastEnd_h0 at_h0 bad_h0 levels_h0 least_h0 found_h0)), ((am 5), .inr (8, [.ref a_all_m5, .int size_m5])), (a_all_m5, .inl (cI, n_a_all_m5, .inl b_a_all_m5))] (fun v w => v = some (.int ret) ∧ w = [(h0, .inr (9, moF am known_h0 thrown_h0 wrong_h0 lastEnd_h0 at_h0 bad_h0 levels_h0 least_h0 found_h0)), ((am 5), .inr (8, [.ref a_all_m5, .int size_m5])), (a_all_m5, .inl (cI, n_a_all_m5, .inl b_a_all_m5))]) := by
  refine Ct.mk (by decide) (Nat.le_of_ble_eq_true rfl) ?_
  intro p e s m below meth c hr hnm
  refine j_norm (pc' := 0) (lv' := [(0, .ref h0)]) (st' := []) (ws' := [(h0, .inr (9, moF am known_h0 thrown_h0 wrong_h0 lastEnd_h0 at_h0 bad_h0 levels_h0 least_h0 found_h0)), ((am 5), .inr (8, [.ref a_all_m5, .int size_m5])), (a_all_m5, .inl (cI, n_a_all_m5, .inl b_a_all_m5))]) (cl' := 0) (sl' := 0) rfl rfl rfl rfl rfl rfl ?_
  unfold F_Mo_targetsEnd at h
  refine j_aload_n d_Mo_targetsEnd_0 rfl 0 rfl ?_
  refine j_get ig_Mo rfl 0 rfl 17 (by decide) rfl m_1130 rfl d_Mo_targetsEnd_1 ?_
  refine j_iconst (v := 1) d_Mo_targetsEnd_4 (by decide) ?_
  refine j_iadd d_Mo_targetsEnd_5 ?_
  refine j_istore_n (lv' := [(1, .int (at_h0 + 1)), (0, .ref h0)]) d_Mo_targetsEnd_6 rfl (by decide) rfl ?_
  refine j_iconst (v := 1) d_Mo_targetsEnd_7 (by decide) ?_
  refine j_istore_n (lv' := [(2, .int 1), (1, .int (at_h0 + 1)), (0, .ref h0)]) d_Mo_targetsEnd_8 rfl (by decide) rfl ?_
  refine j_sub (w := [(h0, .inr (9, moF am known_h0 thrown_h0 wrong_h0 lastEnd_h0 at_h0 bad_h0 levels_h0 least_h0 found_h0)), ((am 5), .inr (8, [.ref a_all_m5, .int size_m5])), (a_all_m5, .inl (cI, n_a_all_m5, .inl b_a_all_m5))]) (lv' := [(2, .int 1), (1, .int (at_h0 + 1)), (0, .ref h0)]) [0, 1, 2] rfl (by decide) [0, 1, 2] rfl ?_
  exact L_Mo_targetsEnd_9 l D cI cB cJ cS h0 am a_all_m5 known_h0 thrown_h0 wrong_h0 lastEnd_h0 at_h0 bad_h0 levels_h0 least_h0 found_h0 size_m5 n_a_all_m5 b_a_all_m5 ret p e s m below meth c hr hnm FU 1 (at_h0 + 1) h
def F_Mo_closing_48 (v3_4 : Int32) (v2_4 : Int32) (K_4 : Int32 → Int32 → Option (Int32)) : Option (Int32) :=
    if 0 < (v2_4 - 1) then (K_4 (v3_4 + 1) (v2_4 - 1))
    else (some ((v3_4 + 1) - 1))
def F_Mo_closing_28 (v3_4 : Int32) (v2_4 : Int32) (K_4 : Int32 → Int32 → Option (Int32)) : Option (Int32) :=
    if 0 < (v2_4 + 1) then (K_4 (v3_4 + 1) (v2_4 + 1))
    else (some ((v3_4 + 1) - 1))
def F_Mo_closing_4 (size_m5 : Int32) (n_a_all_m5 : Nat) (b_a_all_m5 : Nat → Int32) : Nat → Int32 → Int32 → Option (Int32)
  | 0, _, _ => none
  | k_4 + 1, v3_4, v2_4 =>
    Option.bind (F_Nm_at v3_4 size_m5 n_a_all_m5 b_a_all_m5) fun _ =>
    if (b_a_all_m5 (Int32.toNatClampNeg v3_4)) = 50 then (F_Mo_closing_28 v3_4 v2_4 (F_Mo_closing_4 size_m5 n_a_all_m5 b_a_all_m5  k_4)  )
    else if (b_a_all_m5 (Int32.toNatClampNeg v3_4)) = 52 then (F_Mo_closing_28 v3_4 v2_4 (F_Mo_closing_4 size_m5 n_a_all_m5 b_a_all_m5  k_4)  )
    else if (b_a_all_m5 (Int32.toNatClampNeg v3_4)) = 51 then (F_Mo_closing_48 v3_4 v2_4 (F_Mo_closing_4 size_m5 n_a_all_m5 b_a_all_m5  k_4)  )
    else if (b_a_all_m5 (Int32.toNatClampNeg v3_4)) = 53 then (F_Mo_closing_48 v3_4 v2_4 (F_Mo_closing_4 size_m5 n_a_all_m5 b_a_all_m5  k_4)  )
    else if 0 < v2_4 then (F_Mo_closing_4 size_m5 n_a_all_m5 b_a_all_m5  k_4 (v3_4 + 1) v2_4)
    else (some ((v3_4 + 1) - 1))
def F_Mo_closing (p1 : Int32) (known_h0 : Int32) (thrown_h0 : Int32) (wrong_h0 : Int32) (lastEnd_h0 : Int32) (at_h0 : Int32) (bad_h0 : Int32) (levels_h0 : Int32) (least_h0 : Int32) (found_h0 : Int32) (size_m5 : Int32) (n_a_all_m5 : Nat) (b_a_all_m5 : Nat → Int32) : Option (Int32) :=
  F_Mo_closing_4 size_m5 n_a_all_m5 b_a_all_m5  FU p1 0
theorem d_Mo_closing_0 : decode prog_12_method_46_code 0 = .ok (.iconst 0, 1) := by decide +kernel
theorem d_Mo_closing_1 : decode prog_12_method_46_code 1 = .ok (.istore_n 2, 1) := by decide +kernel
theorem d_Mo_closing_2 : decode prog_12_method_46_code 2 = .ok (.iload_n 1, 1) := by decide +kernel
theorem d_Mo_closing_3 : decode prog_12_method_46_code 3 = .ok (.istore_n 3, 1) := by decide +kernel
theorem d_Mo_closing_4 : decode prog_12_method_46_code 4 = .ok (.aload_n 0, 1) := by decide +kernel
theorem d_Mo_closing_5 : decode prog_12_method_46_code 5 = .ok (.getfield 114, 3) := by decide +kernel
theorem d_Mo_closing_8 : decode prog_12_method_46_code 8 = .ok (.iload_n 3, 1) := by decide +kernel
theorem d_Mo_closing_9 : decode prog_12_method_46_code 9 = .ok (.invokevirtual 214, 3) := by decide +kernel
theorem d_Mo_closing_12 : decode prog_12_method_46_code 12 = .ok (.istore 4, 2) := by decide +kernel
theorem d_Mo_closing_14 : decode prog_12_method_46_code 14 = .ok (.iload 4, 2) := by decide +kernel
theorem d_Mo_closing_16 : decode prog_12_method_46_code 16 = .ok (.bipush 50, 2) := by decide +kernel
theorem d_Mo_closing_18 : decode prog_12_method_46_code 18 = .ok (.if_icmp .eq 10, 3) := by decide +kernel
theorem d_Mo_closing_21 : decode prog_12_method_46_code 21 = .ok (.iload 4, 2) := by decide +kernel
theorem d_Mo_closing_23 : decode prog_12_method_46_code 23 = .ok (.bipush 52, 2) := by decide +kernel
theorem d_Mo_closing_25 : decode prog_12_method_46_code 25 = .ok (.if_icmp .ne 9, 3) := by decide +kernel
theorem d_Mo_closing_28 : decode prog_12_method_46_code 28 = .ok (.iload_n 2, 1) := by decide +kernel
theorem d_Mo_closing_29 : decode prog_12_method_46_code 29 = .ok (.iconst 1, 1) := by decide +kernel
theorem d_Mo_closing_30 : decode prog_12_method_46_code 30 = .ok (.iadd, 1) := by decide +kernel
theorem d_Mo_closing_31 : decode prog_12_method_46_code 31 = .ok (.goto 24, 3) := by decide +kernel
theorem d_Mo_closing_34 : decode prog_12_method_46_code 34 = .ok (.iload 4, 2) := by decide +kernel
theorem d_Mo_closing_36 : decode prog_12_method_46_code 36 = .ok (.bipush 51, 2) := by decide +kernel
theorem d_Mo_closing_38 : decode prog_12_method_46_code 38 = .ok (.if_icmp .eq 10, 3) := by decide +kernel
theorem d_Mo_closing_41 : decode prog_12_method_46_code 41 = .ok (.iload 4, 2) := by decide +kernel
theorem d_Mo_closing_43 : decode prog_12_method_46_code 43 = .ok (.bipush 53, 2) := by decide +kernel
theorem d_Mo_closing_45 : decode prog_12_method_46_code 45 = .ok (.if_icmp .ne 9, 3) := by decide +kernel
theorem d_Mo_closing_48 : decode prog_12_method_46_code 48 = .ok (.iload_n 2, 1) := by decide +kernel
theorem d_Mo_closing_49 : decode prog_12_method_46_code 49 = .ok (.iconst 1, 1) := by decide +kernel
theorem d_Mo_closing_50 : decode prog_12_method_46_code 50 = .ok (.isub, 1) := by decide +kernel
theorem d_Mo_closing_51 : decode prog_12_method_46_code 51 = .ok (.goto 4, 3) := by decide +kernel
theorem d_Mo_closing_54 : decode prog_12_method_46_code 54 = .ok (.iload_n 2, 1) := by decide +kernel
theorem d_Mo_closing_55 : decode prog_12_method_46_code 55 = .ok (.istore_n 2, 1) := by decide +kernel
theorem d_Mo_closing_56 : decode prog_12_method_46_code 56 = .ok (.iinc 3 1, 3) := by decide +kernel
theorem d_Mo_closing_59 : decode prog_12_method_46_code 59 = .ok (.iload_n 2, 1) := by decide +kernel
theorem d_Mo_closing_60 : decode prog_12_method_46_code 60 = .ok (.ifCond .gt (-56), 3) := by decide +kernel
theorem d_Mo_closing_63 : decode prog_12_method_46_code 63 = .ok (.iload_n 3, 1) := by decide +kernel
theorem d_Mo_closing_64 : decode prog_12_method_46_code 64 = .ok (.iconst 1, 1) := by decide +kernel
theorem d_Mo_closing_65 : decode prog_12_method_46_code 65 = .ok (.isub, 1) := by decide +kernel
theorem d_Mo_closing_66 : decode prog_12_method_46_code 66 = .ok (.ireturn, 1) := by decide +kernel
set_option maxHeartbeats 4000000 in
set_option maxRecDepth 100000 in
theorem L_Mo_closing_4 (l : Launch) (D : va_G) (cI cB cJ cS : ClassId) (h0 : Nat) (am : Nat → Nat) (a_all_m5 : Nat) (p1 : Int32) (known_h0 : Int32) (thrown_h0 : Int32) (wrong_h0 : Int32) (lastEnd_h0 : Int32) (at_h0 : Int32) (bad_h0 : Int32) (levels_h0 : Int32) (least_h0 : Int32) (found_h0 : Int32) (size_m5 : Int32) (n_a_all_m5 : Nat) (b_a_all_m5 : Nat → Int32) (ret : Int32) (p : Program) (e : Env) (s : State) (m : MethodId) (below : List Frame) (meth : Method) (c : Code) (hr : meth.sig.returnType = (Option.some Jvm.ClassFile.FieldType.int)) (hnm : meth.name = y_Mo_closing.name) : ∀ (k_4 : Nat) (v3_4 : Int32) (v2_4 : Int32), F_Mo_closing_4 size_m5 n_a_all_m5 b_a_all_m5  k_4 v3_4 v2_4 = some ret → J (KxOf p l e { frames := 1, cells := 0, slots := 0, locals := 21 } s m [.ref h0, .int p1].toArray below meth c D (gT cI cB cJ cS) [(h0, .inr (9, moF am known_h0 thrown_h0 wrong_h0 lastEnd_h0 at_h0 bad_h0 levels_h0 least_h0 found_h0)), ((am 5), .inr (8, [.ref a_all_m5, .int size_m5])), (a_all_m5, .inl (cI, n_a_all_m5, .inl b_a_all_m5))] (fun v w => v = some (.int ret) ∧ w = [(h0, .inr (9, moF am known_h0 thrown_h0 wrong_h0 lastEnd_h0 at_h0 bad_h0 levels_h0 least_h0 found_h0)), ((am 5), .inr (8, [.ref a_all_m5, .int size_m5])), (a_all_m5, .inl (cI, n_a_all_m5, .inl b_a_all_m5))]) 0 0) prog_12_method_46_code 5 R_Mo 4 [(3, .int v3_4), (2, .int v2_4), (0, .ref h0), (1, .int p1)] [] [(h0, .inr (9, moF am known_h0 thrown_h0 wrong_h0 lastEnd_h0 at_h0 bad_h0 levels_h0 least_h0 found_h0)), ((am 5), .inr (8, [.ref a_all_m5, .int size_m5])), (a_all_m5, .inl (cI, n_a_all_m5, .inl b_a_all_m5))] 0 0 := by
  intro k_4
  induction k_4 with
  | zero => intro v3_4 v2_4 h; rw [F_Mo_closing_4] at h; cases h
  | succ k_4 ih_4 =>
    intro v3_4 v2_4 h
    rw [F_Mo_closing_4] at h
    have L_48 : F_Mo_closing_48 v3_4 v2_4 (F_Mo_closing_4 size_m5 n_a_all_m5 b_a_all_m5  k_4)   = some ret → J (KxOf p l e { frames := 1, cells := 0, slots := 0, locals := 21 } s m [.ref h0, .int p1].toArray below meth c D (gT cI cB cJ cS) [(h0, .inr (9, moF am known_h0 thrown_h0 wrong_h0 lastEnd_h0 at_h0 bad_h0 levels_h0 least_h0 found_h0)), ((am 5), .inr (8, [.ref a_all_m5, .int size_m5])), (a_all_m5, .inl (cI, n_a_all_m5, .inl b_a_all_m5))] (fun v w => v = some (.int ret) ∧ w = [(h0, .inr (9, moF am known_h0 thrown_h0 wrong_h0 lastEnd_h0 at_h0 bad_h0 levels_h0 least_h0 found_h0)), ((am 5), .inr (8, [.ref a_all_m5, .int size_m5])), (a_all_m5, .inl (cI, n_a_all_m5, .inl b_a_all_m5))]) 0 0) prog_12_method_46_code 5 R_Mo 48 [(4, .int (b_a_all_m5 (Int32.toNatClampNeg v3_4))), (3, .int v3_4), (2, .int v2_4), (0, .ref h0), (1, .int p1)] [] [(h0, .inr (9, moF am known_h0 thrown_h0 wrong_h0 lastEnd_h0 at_h0 bad_h0 levels_h0 least_h0 found_h0)), ((am 5), .inr (8, [.ref a_all_m5, .int size_m5])), (a_all_m5, .inl (cI, n_a_all_m5, .inl b_a_all_m5))] 0 0 := by
      clear h
      intro  h
      unfold F_Mo_closing_48 at h
      refine j_iload_n d_Mo_closing_48 rfl 2 rfl ?_
      refine j_iconst (v := 1) d_Mo_closing_49 (by decide) ?_
      refine j_isub d_Mo_closing_50 ?_
      refine j_goto (tgt := 55) d_Mo_closing_51 (by decide) ?_
      refine j_istore_n (lv' := [(2, .int (v2_4 - 1)), (4, .int (b_a_all_m5 (Int32.toNatClampNeg v3_4))), (3, .int v3_4), (0, .ref h0), (1, .int p1)]) d_Mo_closing_55 rfl (by decide) rfl ?_
      refine j_iinc (v := v3_4 + 1) (lv' := [(3, .int (v3_4 + 1)), (2, .int (v2_4 - 1)), (4, .int (b_a_all_m5 (Int32.toNatClampNeg v3_4))), (0, .ref h0), (1, .int p1)]) d_Mo_closing_56 2 rfl rfl (by decide) rfl ?_
      refine j_iload_n d_Mo_closing_59 rfl 1 rfl ?_
      refine j_if_gt (tgt := 4) d_Mo_closing_60 (by decide) (fun c1 => ?_) (fun c1 => ?_)
      · replace h := it_t c1 h
        refine j_sub (w := [(h0, .inr (9, moF am known_h0 thrown_h0 wrong_h0 lastEnd_h0 at_h0 bad_h0 levels_h0 least_h0 found_h0)), ((am 5), .inr (8, [.ref a_all_m5, .int size_m5])), (a_all_m5, .inl (cI, n_a_all_m5, .inl b_a_all_m5))]) (lv' := [(3, .int (v3_4 + 1)), (2, .int (v2_4 - 1)), (0, .ref h0), (1, .int p1)]) [0, 1, 2] rfl (by decide) [0, 1, 3, 4] rfl ?_
        exact ih_4 (v3_4 + 1) (v2_4 - 1) h
      · replace h := it_f c1 h
        refine j_iload_n d_Mo_closing_63 rfl 0 rfl ?_
        refine j_iconst (v := 1) d_Mo_closing_64 (by decide) ?_
        refine j_isub d_Mo_closing_65 ?_
        replace h := Option.some.inj h
        subst h
        exact j_iret (w := [(h0, .inr (9, moF am known_h0 thrown_h0 wrong_h0 lastEnd_h0 at_h0 bad_h0 levels_h0 least_h0 found_h0)), ((am 5), .inr (8, [.ref a_all_m5, .int size_m5])), (a_all_m5, .inl (cI, n_a_all_m5, .inl b_a_all_m5))]) hr d_Mo_closing_66 [0, 1, 2] rfl (by decide) ⟨rfl, rfl⟩
    have L_28 : F_Mo_closing_28 v3_4 v2_4 (F_Mo_closing_4 size_m5 n_a_all_m5 b_a_all_m5  k_4)   = some ret → J (KxOf p l e { frames := 1, cells := 0, slots := 0, locals := 21 } s m [.ref h0, .int p1].toArray below meth c D (gT cI cB cJ cS) [(h0, .inr (9, moF am known_h0 thrown_h0 wrong_h0 lastEnd_h0 at_h0 bad_h0 levels_h0 least_h0 found_h0)), ((am 5), .inr (8, [.ref a_all_m5, .int size_m5])), (a_all_m5, .inl (cI, n_a_all_m5, .inl b_a_all_m5))] (fun v w => v = some (.int ret) ∧ w = [(h0, .inr (9, moF am known_h0 thrown_h0 wrong_h0 lastEnd_h0 at_h0 bad_h0 levels_h0 least_h0 found_h0)), ((am 5), .inr (8, [.ref a_all_m5, .int size_m5])), (a_all_m5, .inl (cI, n_a_all_m5, .inl b_a_all_m5))]) 0 0) prog_12_method_46_code 5 R_Mo 28 [(4, .int (b_a_all_m5 (Int32.toNatClampNeg v3_4))), (3, .int v3_4), (2, .int v2_4), (0, .ref h0), (1, .int p1)] [] [(h0, .inr (9, moF am known_h0 thrown_h0 wrong_h0 lastEnd_h0 at_h0 bad_h0 levels_h0 least_h0 found_h0)), ((am 5), .inr (8, [.ref a_all_m5, .int size_m5])), (a_all_m5, .inl (cI, n_a_all_m5, .inl b_a_all_m5))] 0 0 := by
      clear h
      intro  h
      unfold F_Mo_closing_28 at h
      refine j_iload_n d_Mo_closing_28 rfl 2 rfl ?_
      refine j_iconst (v := 1) d_Mo_closing_29 (by decide) ?_
      refine j_iadd d_Mo_closing_30 ?_
      refine j_goto (tgt := 55) d_Mo_closing_31 (by decide) ?_
      refine j_istore_n (lv' := [(2, .int (v2_4 + 1)), (4, .int (b_a_all_m5 (Int32.toNatClampNeg v3_4))), (3, .int v3_4), (0, .ref h0), (1, .int p1)]) d_Mo_closing_55 rfl (by decide) rfl ?_
      refine j_iinc (v := v3_4 + 1) (lv' := [(3, .int (v3_4 + 1)), (2, .int (v2_4 + 1)), (4, .int (b_a_all_m5 (Int32.toNatClampNeg v3_4))), (0, .ref h0), (1, .int p1)]) d_Mo_closing_56 2 rfl rfl (by decide) rfl ?_
      refine j_iload_n d_Mo_closing_59 rfl 1 rfl ?_
      refine j_if_gt (tgt := 4) d_Mo_closing_60 (by decide) (fun c2 => ?_) (fun c2 => ?_)
      · replace h := it_t c2 h
        refine j_sub (w := [(h0, .inr (9, moF am known_h0 thrown_h0 wrong_h0 lastEnd_h0 at_h0 bad_h0 levels_h0 least_h0 found_h0)), ((am 5), .inr (8, [.ref a_all_m5, .int size_m5])), (a_all_m5, .inl (cI, n_a_all_m5, .inl b_a_all_m5))]) (lv' := [(3, .int (v3_4 + 1)), (2, .int (v2_4 + 1)), (0, .ref h0), (1, .int p1)]) [0, 1, 2] rfl (by decide) [0, 1, 3, 4] rfl ?_
        exact ih_4 (v3_4 + 1) (v2_4 + 1) h
      · replace h := it_f c2 h
        refine j_iload_n d_Mo_closing_63 rfl 0 rfl ?_
        refine j_iconst (v := 1) d_Mo_closing_64 (by decide) ?_
        refine j_isub d_Mo_closing_65 ?_
        replace h := Option.some.inj h
        subst h
        exact j_iret (w := [(h0, .inr (9, moF am known_h0 thrown_h0 wrong_h0 lastEnd_h0 at_h0 bad_h0 levels_h0 least_h0 found_h0)), ((am 5), .inr (8, [.ref a_all_m5, .int size_m5])), (a_all_m5, .inl (cI, n_a_all_m5, .inl b_a_all_m5))]) hr d_Mo_closing_66 [0, 1, 2] rfl (by decide) ⟨rfl, rfl⟩
    refine j_aload_n d_Mo_closing_4 rfl 2 rfl ?_
    refine j_get ig_Mo rfl 0 rfl 5 (by decide) rfl m_1118 rfl d_Mo_closing_5 ?_
    refine j_iload_n d_Mo_closing_8 rfl 0 rfl ?_
    replace h := bd_s h
    obtain ⟨_, k3, h⟩ := h
    refine j_callV (n := 1) (As := [.int v3_4]) (rest := []) (wr := [(h0, .inr (9, moF am known_h0 thrown_h0 wrong_h0 lastEnd_h0 at_h0 bad_h0 levels_h0 least_h0 found_h0))]) (c_Nm_at l D cI cB cJ cS (am 5) a_all_m5 v3_4 size_m5 n_a_all_m5 b_a_all_m5  k3) k_Mo_214 (by decide) ⟨Nat.le_of_ble_eq_true rfl, Nat.le_of_ble_eq_true rfl⟩ rfl 0 rfl [1, 2] [0] rfl (by decide) rfl (by decide) (by decide) rfl rfl (Nat.le_of_ble_eq_true rfl) d_Mo_closing_9 ⟨Nat.le_of_ble_eq_true rfl, Nat.le_of_ble_eq_true rfl⟩ (fun v w hq => ?_)
    obtain ⟨rfl, rfl⟩ := hq
    refine j_norm (pc' := 12) (st' := [.int (b_a_all_m5 (Int32.toNatClampNeg v3_4))]) (ws' := [(h0, .inr (9, moF am known_h0 thrown_h0 wrong_h0 lastEnd_h0 at_h0 bad_h0 levels_h0 least_h0 found_h0)), ((am 5), .inr (8, [.ref a_all_m5, .int size_m5])), (a_all_m5, .inl (cI, n_a_all_m5, .inl b_a_all_m5))]) (cl' := 0) (sl' := 0) rfl rfl rfl rfl rfl rfl ?_
    refine j_istore (lv' := [(4, .int (b_a_all_m5 (Int32.toNatClampNeg v3_4))), (3, .int v3_4), (2, .int v2_4), (0, .ref h0), (1, .int p1)]) d_Mo_closing_12 (by decide) rfl ?_
    refine j_iload d_Mo_closing_14 0 rfl ?_
    refine j_bipush (v := 50) d_Mo_closing_16 (by decide) ?_
    refine j_icmp_eq (tgt := 28) d_Mo_closing_18 (by decide) (fun c4 => ?_) (fun c4 => ?_)
    · replace h := it_t c4 h
      refine j_sub (w := [(h0, .inr (9, moF am known_h0 thrown_h0 wrong_h0 lastEnd_h0 at_h0 bad_h0 levels_h0 least_h0 found_h0)), ((am 5), .inr (8, [.ref a_all_m5, .int size_m5])), (a_all_m5, .inl (cI, n_a_all_m5, .inl b_a_all_m5))]) (lv' := [(4, .int (b_a_all_m5 (Int32.toNatClampNeg v3_4))), (3, .int v3_4), (2, .int v2_4), (0, .ref h0), (1, .int p1)]) [0, 1, 2] rfl (by decide) [0, 1, 2, 3, 4] rfl ?_
      exact L_28  h
    · replace h := it_f c4 h
      refine j_iload d_Mo_closing_21 0 rfl ?_
      refine j_bipush (v := 52) d_Mo_closing_23 (by decide) ?_
      refine j_icmp_ne (tgt := 34) d_Mo_closing_25 (by decide) (fun c5 => ?_) (fun c5 => ?_)
      · replace h := it_f c5 h
        refine j_iload d_Mo_closing_34 0 rfl ?_
        refine j_bipush (v := 51) d_Mo_closing_36 (by decide) ?_
        refine j_icmp_eq (tgt := 48) d_Mo_closing_38 (by decide) (fun c6 => ?_) (fun c6 => ?_)
        · replace h := it_t c6 h
          refine j_sub (w := [(h0, .inr (9, moF am known_h0 thrown_h0 wrong_h0 lastEnd_h0 at_h0 bad_h0 levels_h0 least_h0 found_h0)), ((am 5), .inr (8, [.ref a_all_m5, .int size_m5])), (a_all_m5, .inl (cI, n_a_all_m5, .inl b_a_all_m5))]) (lv' := [(4, .int (b_a_all_m5 (Int32.toNatClampNeg v3_4))), (3, .int v3_4), (2, .int v2_4), (0, .ref h0), (1, .int p1)]) [0, 1, 2] rfl (by decide) [0, 1, 2, 3, 4] rfl ?_
          exact L_48  h
        · replace h := it_f c6 h
          refine j_iload d_Mo_closing_41 0 rfl ?_
          refine j_bipush (v := 53) d_Mo_closing_43 (by decide) ?_
          refine j_icmp_ne (tgt := 54) d_Mo_closing_45 (by decide) (fun c7 => ?_) (fun c7 => ?_)
          · replace h := it_f c7 h
            refine j_iload_n d_Mo_closing_54 rfl 2 rfl ?_
            refine j_istore_n (lv' := [(2, .int v2_4), (4, .int (b_a_all_m5 (Int32.toNatClampNeg v3_4))), (3, .int v3_4), (0, .ref h0), (1, .int p1)]) d_Mo_closing_55 rfl (by decide) rfl ?_
            refine j_iinc (v := v3_4 + 1) (lv' := [(3, .int (v3_4 + 1)), (2, .int v2_4), (4, .int (b_a_all_m5 (Int32.toNatClampNeg v3_4))), (0, .ref h0), (1, .int p1)]) d_Mo_closing_56 2 rfl rfl (by decide) rfl ?_
            refine j_iload_n d_Mo_closing_59 rfl 1 rfl ?_
            refine j_if_gt (tgt := 4) d_Mo_closing_60 (by decide) (fun c8 => ?_) (fun c8 => ?_)
            · replace h := it_t c8 h
              refine j_sub (w := [(h0, .inr (9, moF am known_h0 thrown_h0 wrong_h0 lastEnd_h0 at_h0 bad_h0 levels_h0 least_h0 found_h0)), ((am 5), .inr (8, [.ref a_all_m5, .int size_m5])), (a_all_m5, .inl (cI, n_a_all_m5, .inl b_a_all_m5))]) (lv' := [(3, .int (v3_4 + 1)), (2, .int v2_4), (0, .ref h0), (1, .int p1)]) [0, 1, 2] rfl (by decide) [0, 1, 3, 4] rfl ?_
              exact ih_4 (v3_4 + 1) v2_4 h
            · replace h := it_f c8 h
              refine j_iload_n d_Mo_closing_63 rfl 0 rfl ?_
              refine j_iconst (v := 1) d_Mo_closing_64 (by decide) ?_
              refine j_isub d_Mo_closing_65 ?_
              replace h := Option.some.inj h
              subst h
              exact j_iret (w := [(h0, .inr (9, moF am known_h0 thrown_h0 wrong_h0 lastEnd_h0 at_h0 bad_h0 levels_h0 least_h0 found_h0)), ((am 5), .inr (8, [.ref a_all_m5, .int size_m5])), (a_all_m5, .inl (cI, n_a_all_m5, .inl b_a_all_m5))]) hr d_Mo_closing_66 [0, 1, 2] rfl (by decide) ⟨rfl, rfl⟩
          · replace h := it_t c7 h
            refine j_sub (w := [(h0, .inr (9, moF am known_h0 thrown_h0 wrong_h0 lastEnd_h0 at_h0 bad_h0 levels_h0 least_h0 found_h0)), ((am 5), .inr (8, [.ref a_all_m5, .int size_m5])), (a_all_m5, .inl (cI, n_a_all_m5, .inl b_a_all_m5))]) (lv' := [(4, .int (b_a_all_m5 (Int32.toNatClampNeg v3_4))), (3, .int v3_4), (2, .int v2_4), (0, .ref h0), (1, .int p1)]) [0, 1, 2] rfl (by decide) [0, 1, 2, 3, 4] rfl ?_
            exact L_48  h
      · replace h := it_t c5 h
        refine j_sub (w := [(h0, .inr (9, moF am known_h0 thrown_h0 wrong_h0 lastEnd_h0 at_h0 bad_h0 levels_h0 least_h0 found_h0)), ((am 5), .inr (8, [.ref a_all_m5, .int size_m5])), (a_all_m5, .inl (cI, n_a_all_m5, .inl b_a_all_m5))]) (lv' := [(4, .int (b_a_all_m5 (Int32.toNatClampNeg v3_4))), (3, .int v3_4), (2, .int v2_4), (0, .ref h0), (1, .int p1)]) [0, 1, 2] rfl (by decide) [0, 1, 2, 3, 4] rfl ?_
        exact L_28  h
set_option maxHeartbeats 4000000 in
set_option maxRecDepth 100000 in
theorem c_Mo_closing (l : Launch) (D : va_G) (cI cB cJ cS : ClassId) (h0 : Nat) (am : Nat → Nat) (a_all_m5 : Nat) (p1 : Int32) (known_h0 : Int32) (thrown_h0 : Int32) (wrong_h0 : Int32) (lastEnd_h0 : Int32) (at_h0 : Int32) (bad_h0 : Int32) (levels_h0 : Int32) (least_h0 : Int32) (found_h0 : Int32) (size_m5 : Int32) (n_a_all_m5 : Nat) (b_a_all_m5 : Nat → Int32) (ret : Int32) (h : F_Mo_closing p1 known_h0 thrown_h0 wrong_h0 lastEnd_h0 at_h0 bad_h0 levels_h0 least_h0 found_h0 size_m5 n_a_all_m5 b_a_all_m5 = some ret) : Ct l D (gT cI cB cJ cS) y_Mo_closing prog_12_method_46_code 5 (Option.some Jvm.ClassFile.FieldType.int) 1 21 0 0 [.ref h0, .int p1] [(h0, .inr (9, moF am known_h0 thrown_h0 wrong_h0 lastEnd_h0 at_h0 bad_h0 levels_h0 least_h0 found_h0)), ((am 5), .inr (8, [.ref a_all_m5, .int size_m5])), (a_all_m5, .inl (cI, n_a_all_m5, .inl b_a_all_m5))] (fun v w => v = some (.int ret) ∧ w = [(h0, .inr (9, moF am known_h0 thrown_h0 wrong_h0 lastEnd_h0 at_h0 bad_h0 levels_h0 least_h0 found_h0)), ((am 5), .inr (8, [.ref a_all_m5, .int size_m5])), (a_all_m5, .inl (cI, n_a_all_m5, .inl b_a_all_m5))]) := by
  refine Ct.mk (by decide) (Nat.le_of_ble_eq_true rfl) ?_
  intro p e s m below meth c hr hnm
  refine j_norm (pc' := 0) (lv' := [(0, .ref h0), (1, .int p1)]) (st' := []) (ws' := [(h0, .inr (9, moF am known_h0 thrown_h0 wrong_h0 lastEnd_h0 at_h0 bad_h0 levels_h0 least_h0 found_h0)), ((am 5), .inr (8, [.ref a_all_m5, .int size_m5])), (a_all_m5, .inl (cI, n_a_all_m5, .inl b_a_all_m5))]) (cl' := 0) (sl' := 0) rfl rfl rfl rfl rfl rfl ?_
  unfold F_Mo_closing at h
  refine j_iconst (v := 0) d_Mo_closing_0 (by decide) ?_
  refine j_istore_n (lv' := [(2, .int 0), (0, .ref h0), (1, .int p1)]) d_Mo_closing_1 rfl (by decide) rfl ?_
  refine j_iload_n d_Mo_closing_2 rfl 2 rfl ?_
  refine j_istore_n (lv' := [(3, .int p1), (2, .int 0), (0, .ref h0), (1, .int p1)]) d_Mo_closing_3 rfl (by decide) rfl ?_
  refine j_sub (w := [(h0, .inr (9, moF am known_h0 thrown_h0 wrong_h0 lastEnd_h0 at_h0 bad_h0 levels_h0 least_h0 found_h0)), ((am 5), .inr (8, [.ref a_all_m5, .int size_m5])), (a_all_m5, .inl (cI, n_a_all_m5, .inl b_a_all_m5))]) (lv' := [(3, .int p1), (2, .int 0), (0, .ref h0), (1, .int p1)]) [0, 1, 2] rfl (by decide) [0, 1, 2, 3] rfl ?_
  exact L_Mo_closing_4 l D cI cB cJ cS h0 am a_all_m5 p1 known_h0 thrown_h0 wrong_h0 lastEnd_h0 at_h0 bad_h0 levels_h0 least_h0 found_h0 size_m5 n_a_all_m5 b_a_all_m5 ret p e s m below meth c hr hnm FU p1 0 h
noncomputable def F_Mo_newNode (p1 : Int32) (p2 : Int32) (p3 : Int32) (p4 : Int32) (p5 : Int32) (known_h0 : Int32) (thrown_h0 : Int32) (wrong_h0 : Int32) (lastEnd_h0 : Int32) (at_h0 : Int32) (bad_h0 : Int32) (levels_h0 : Int32) (least_h0 : Int32) (found_h0 : Int32) (size_m24 : Int32) (n_a_all_m24 : Nat) (b_a_all_m24 : Nat → Int32) (size_m25 : Int32) (n_a_all_m25 : Nat) (b_a_all_m25 : Nat → Int32) (size_m26 : Int32) (n_a_all_m26 : Nat) (b_a_all_m26 : Nat → Int32) (size_m27 : Int32) (n_a_all_m27 : Nat) (b_a_all_m27 : Nat → Int32) (size_m28 : Int32) (n_a_all_m28 : Nat) (b_a_all_m28 : Nat → Int32) (size_m29 : Int32) (n_a_all_m29 : Nat) (b_a_all_m29 : Nat → Int32) (size_m30 : Int32) (n_a_all_m30 : Nat) (b_a_all_m30 : Nat → Int32) (size_m31 : Int32) (n_a_all_m31 : Nat) (b_a_all_m31 : Nat → Int32) : Option ((Int32 × Int32 × Int32 × Nat × (Nat → Int32) × Nat × (Nat → Int32) × Nat × (Nat → Int32) × Nat × (Nat → Int32) × Nat × (Nat → Int32) × Nat × (Nat → Int32) × Nat × (Nat → Int32) × Nat × (Nat → Int32)) × Nat × Nat) :=
  bw (F_Nm_add p2 size_m24 n_a_all_m24 b_a_all_m24) fun ⟨r1, r2⟩ =>
  bw (F_Nm_add p3 size_m25 n_a_all_m25 b_a_all_m25) fun ⟨r9, r10⟩ =>
  bw (F_Nm_add p4 size_m26 n_a_all_m26 b_a_all_m26) fun ⟨r17, r18⟩ =>
  bw (F_Nm_add p5 size_m27 n_a_all_m27 b_a_all_m27) fun ⟨r25, r26⟩ =>
  bw (F_Nm_add 0 size_m28 n_a_all_m28 b_a_all_m28) fun ⟨r33, r34⟩ =>
  bw (F_Nm_add (-1) size_m29 n_a_all_m29 b_a_all_m29) fun ⟨r41, r42⟩ =>
  bw (F_Nm_add (-1) size_m30 n_a_all_m30 b_a_all_m30) fun ⟨r49, r50⟩ =>
  bw (F_Nm_add (-1) size_m31 n_a_all_m31 b_a_all_m31) fun ⟨r57, r58⟩ =>
  if p1 < 0 then (some ((size_m28 + 1, size_m29 + 1, size_m30 + 1, r1, r2, r9, r10, r17, r18, r25, r26, r33, r34, r41, r42, r49, r50, r57, r58), 0, 0))
  else (Option.bind (F_Nm_at p1 (size_m28 + 1) r33 r34) fun _ =>
    inb p1 r33 (Option.bind (F_Nm_at p1 (size_m29 + 1) r41 r42) fun _ =>
    if 0 ≤ (r42 (Int32.toNatClampNeg p1)) then (Option.bind (F_Nm_at p1 (size_m30 + 1) r49 r50) fun _ =>
      inb (r50 (Int32.toNatClampNeg p1)) r57 (inb p1 r49 (some (((size_m28 + 1), (size_m29 + 1), (size_m30 + 1), r1, r2, r9, r10, r17, r18, r25, r26, r33, upd r34 (Int32.toNatClampNeg p1) ((r34 (Int32.toNatClampNeg p1)) + 1), r41, r42, r49, upd r50 (Int32.toNatClampNeg p1) size_m24, r57, upd r58 (Int32.toNatClampNeg (r50 (Int32.toNatClampNeg p1))) size_m24), 0, 0))))
    else (inb p1 r41 (inb p1 r49 (some (((size_m28 + 1), (size_m29 + 1), size_m30 + 1, r1, r2, r9, r10, r17, r18, r25, r26, r33, upd r34 (Int32.toNatClampNeg p1) ((r34 (Int32.toNatClampNeg p1)) + 1), r41, upd r42 (Int32.toNatClampNeg p1) size_m24, r49, upd r50 (Int32.toNatClampNeg p1) size_m24, r57, r58), 0, 0))))))
theorem d_Mo_newNode_0 : decode prog_12_method_50_code 0 = .ok (.aload_n 0, 1) := by decide +kernel
theorem d_Mo_newNode_1 : decode prog_12_method_50_code 1 = .ok (.getfield 151, 3) := by decide +kernel
theorem d_Mo_newNode_4 : decode prog_12_method_50_code 4 = .ok (.getfield 204, 3) := by decide +kernel
theorem d_Mo_newNode_7 : decode prog_12_method_50_code 7 = .ok (.istore 6, 2) := by decide +kernel
theorem d_Mo_newNode_9 : decode prog_12_method_50_code 9 = .ok (.aload_n 0, 1) := by decide +kernel
theorem d_Mo_newNode_10 : decode prog_12_method_50_code 10 = .ok (.getfield 151, 3) := by decide +kernel
theorem d_Mo_newNode_13 : decode prog_12_method_50_code 13 = .ok (.iload_n 2, 1) := by decide +kernel
theorem d_Mo_newNode_14 : decode prog_12_method_50_code 14 = .ok (.invokevirtual 200, 3) := by decide +kernel
theorem d_Mo_newNode_17 : decode prog_12_method_50_code 17 = .ok (.aload_n 0, 1) := by decide +kernel
theorem d_Mo_newNode_18 : decode prog_12_method_50_code 18 = .ok (.getfield 154, 3) := by decide +kernel
theorem d_Mo_newNode_21 : decode prog_12_method_50_code 21 = .ok (.iload_n 3, 1) := by decide +kernel
theorem d_Mo_newNode_22 : decode prog_12_method_50_code 22 = .ok (.invokevirtual 200, 3) := by decide +kernel
theorem d_Mo_newNode_25 : decode prog_12_method_50_code 25 = .ok (.aload_n 0, 1) := by decide +kernel
theorem d_Mo_newNode_26 : decode prog_12_method_50_code 26 = .ok (.getfield 157, 3) := by decide +kernel
theorem d_Mo_newNode_29 : decode prog_12_method_50_code 29 = .ok (.iload 4, 2) := by decide +kernel
theorem d_Mo_newNode_31 : decode prog_12_method_50_code 31 = .ok (.invokevirtual 200, 3) := by decide +kernel
theorem d_Mo_newNode_34 : decode prog_12_method_50_code 34 = .ok (.aload_n 0, 1) := by decide +kernel
theorem d_Mo_newNode_35 : decode prog_12_method_50_code 35 = .ok (.getfield 160, 3) := by decide +kernel
theorem d_Mo_newNode_38 : decode prog_12_method_50_code 38 = .ok (.iload 5, 2) := by decide +kernel
theorem d_Mo_newNode_40 : decode prog_12_method_50_code 40 = .ok (.invokevirtual 200, 3) := by decide +kernel
theorem d_Mo_newNode_43 : decode prog_12_method_50_code 43 = .ok (.aload_n 0, 1) := by decide +kernel
theorem d_Mo_newNode_44 : decode prog_12_method_50_code 44 = .ok (.getfield 163, 3) := by decide +kernel
theorem d_Mo_newNode_47 : decode prog_12_method_50_code 47 = .ok (.iconst 0, 1) := by decide +kernel
theorem d_Mo_newNode_48 : decode prog_12_method_50_code 48 = .ok (.invokevirtual 200, 3) := by decide +kernel
theorem d_Mo_newNode_51 : decode prog_12_method_50_code 51 = .ok (.aload_n 0, 1) := by decide +kernel
theorem d_Mo_newNode_52 : decode prog_12_method_50_code 52 = .ok (.getfield 166, 3) := by decide +kernel
theorem d_Mo_newNode_55 : decode prog_12_method_50_code 55 = .ok (.iconst (-1), 1) := by decide +kernel
theorem d_Mo_newNode_56 : decode prog_12_method_50_code 56 = .ok (.invokevirtual 200, 3) := by decide +kernel
theorem d_Mo_newNode_59 : decode prog_12_method_50_code 59 = .ok (.aload_n 0, 1) := by decide +kernel
theorem d_Mo_newNode_60 : decode prog_12_method_50_code 60 = .ok (.getfield 169, 3) := by decide +kernel
theorem d_Mo_newNode_63 : decode prog_12_method_50_code 63 = .ok (.iconst (-1), 1) := by decide +kernel
theorem d_Mo_newNode_64 : decode prog_12_method_50_code 64 = .ok (.invokevirtual 200, 3) := by decide +kernel
theorem d_Mo_newNode_67 : decode prog_12_method_50_code 67 = .ok (.aload_n 0, 1) := by decide +kernel
theorem d_Mo_newNode_68 : decode prog_12_method_50_code 68 = .ok (.getfield 172, 3) := by decide +kernel
theorem d_Mo_newNode_71 : decode prog_12_method_50_code 71 = .ok (.iconst (-1), 1) := by decide +kernel
theorem d_Mo_newNode_72 : decode prog_12_method_50_code 72 = .ok (.invokevirtual 200, 3) := by decide +kernel
theorem d_Mo_newNode_75 : decode prog_12_method_50_code 75 = .ok (.iload_n 1, 1) := by decide +kernel
theorem d_Mo_newNode_76 : decode prog_12_method_50_code 76 = .ok (.ifCond .lt 76, 3) := by decide +kernel
theorem d_Mo_newNode_79 : decode prog_12_method_50_code 79 = .ok (.aload_n 0, 1) := by decide +kernel
theorem d_Mo_newNode_80 : decode prog_12_method_50_code 80 = .ok (.getfield 163, 3) := by decide +kernel
theorem d_Mo_newNode_83 : decode prog_12_method_50_code 83 = .ok (.getfield 288, 3) := by decide +kernel
theorem d_Mo_newNode_86 : decode prog_12_method_50_code 86 = .ok (.iload_n 1, 1) := by decide +kernel
theorem d_Mo_newNode_87 : decode prog_12_method_50_code 87 = .ok (.aload_n 0, 1) := by decide +kernel
theorem d_Mo_newNode_88 : decode prog_12_method_50_code 88 = .ok (.getfield 163, 3) := by decide +kernel
theorem d_Mo_newNode_91 : decode prog_12_method_50_code 91 = .ok (.iload_n 1, 1) := by decide +kernel
theorem d_Mo_newNode_92 : decode prog_12_method_50_code 92 = .ok (.invokevirtual 214, 3) := by decide +kernel
theorem d_Mo_newNode_95 : decode prog_12_method_50_code 95 = .ok (.iconst 1, 1) := by decide +kernel
theorem d_Mo_newNode_96 : decode prog_12_method_50_code 96 = .ok (.iadd, 1) := by decide +kernel
theorem d_Mo_newNode_97 : decode prog_12_method_50_code 97 = .ok (.iastore, 1) := by decide +kernel
theorem d_Mo_newNode_98 : decode prog_12_method_50_code 98 = .ok (.aload_n 0, 1) := by decide +kernel
theorem d_Mo_newNode_99 : decode prog_12_method_50_code 99 = .ok (.getfield 166, 3) := by decide +kernel
theorem d_Mo_newNode_102 : decode prog_12_method_50_code 102 = .ok (.iload_n 1, 1) := by decide +kernel
theorem d_Mo_newNode_103 : decode prog_12_method_50_code 103 = .ok (.invokevirtual 214, 3) := by decide +kernel
theorem d_Mo_newNode_106 : decode prog_12_method_50_code 106 = .ok (.ifCond .ge 17, 3) := by decide +kernel
theorem d_Mo_newNode_109 : decode prog_12_method_50_code 109 = .ok (.aload_n 0, 1) := by decide +kernel
theorem d_Mo_newNode_110 : decode prog_12_method_50_code 110 = .ok (.getfield 166, 3) := by decide +kernel
theorem d_Mo_newNode_113 : decode prog_12_method_50_code 113 = .ok (.getfield 288, 3) := by decide +kernel
theorem d_Mo_newNode_116 : decode prog_12_method_50_code 116 = .ok (.iload_n 1, 1) := by decide +kernel
theorem d_Mo_newNode_117 : decode prog_12_method_50_code 117 = .ok (.iload 6, 2) := by decide +kernel
theorem d_Mo_newNode_119 : decode prog_12_method_50_code 119 = .ok (.iastore, 1) := by decide +kernel
theorem d_Mo_newNode_120 : decode prog_12_method_50_code 120 = .ok (.goto 21, 3) := by decide +kernel
theorem d_Mo_newNode_123 : decode prog_12_method_50_code 123 = .ok (.aload_n 0, 1) := by decide +kernel
theorem d_Mo_newNode_124 : decode prog_12_method_50_code 124 = .ok (.getfield 172, 3) := by decide +kernel
theorem d_Mo_newNode_127 : decode prog_12_method_50_code 127 = .ok (.getfield 288, 3) := by decide +kernel
theorem d_Mo_newNode_130 : decode prog_12_method_50_code 130 = .ok (.aload_n 0, 1) := by decide +kernel
theorem d_Mo_newNode_131 : decode prog_12_method_50_code 131 = .ok (.getfield 169, 3) := by decide +kernel
theorem d_Mo_newNode_134 : decode prog_12_method_50_code 134 = .ok (.iload_n 1, 1) := by decide +kernel
theorem d_Mo_newNode_135 : decode prog_12_method_50_code 135 = .ok (.invokevirtual 214, 3) := by decide +kernel
theorem d_Mo_newNode_138 : decode prog_12_method_50_code 138 = .ok (.iload 6, 2) := by decide +kernel
theorem d_Mo_newNode_140 : decode prog_12_method_50_code 140 = .ok (.iastore, 1) := by decide +kernel
theorem d_Mo_newNode_141 : decode prog_12_method_50_code 141 = .ok (.aload_n 0, 1) := by decide +kernel
theorem d_Mo_newNode_142 : decode prog_12_method_50_code 142 = .ok (.getfield 169, 3) := by decide +kernel
theorem d_Mo_newNode_145 : decode prog_12_method_50_code 145 = .ok (.getfield 288, 3) := by decide +kernel
theorem d_Mo_newNode_148 : decode prog_12_method_50_code 148 = .ok (.iload_n 1, 1) := by decide +kernel
theorem d_Mo_newNode_149 : decode prog_12_method_50_code 149 = .ok (.iload 6, 2) := by decide +kernel
theorem d_Mo_newNode_151 : decode prog_12_method_50_code 151 = .ok (.iastore, 1) := by decide +kernel
theorem d_Mo_newNode_152 : decode prog_12_method_50_code 152 = .ok (.iload 6, 2) := by decide +kernel
theorem d_Mo_newNode_154 : decode prog_12_method_50_code 154 = .ok (.ireturn, 1) := by decide +kernel
set_option maxHeartbeats 4000000 in
set_option maxRecDepth 100000 in
theorem c_Mo_newNode (l : Launch) (D : va_G) (cI cB cJ cS : ClassId) (h0 : Nat) (am : Nat → Nat) (a_all_m24 : Nat) (a_all_m25 : Nat) (a_all_m26 : Nat) (a_all_m27 : Nat) (a_all_m28 : Nat) (a_all_m29 : Nat) (a_all_m30 : Nat) (a_all_m31 : Nat) (p1 : Int32) (p2 : Int32) (p3 : Int32) (p4 : Int32) (p5 : Int32) (known_h0 : Int32) (thrown_h0 : Int32) (wrong_h0 : Int32) (lastEnd_h0 : Int32) (at_h0 : Int32) (bad_h0 : Int32) (levels_h0 : Int32) (least_h0 : Int32) (found_h0 : Int32) (size_m24 : Int32) (n_a_all_m24 : Nat) (b_a_all_m24 : Nat → Int32) (size_m25 : Int32) (n_a_all_m25 : Nat) (b_a_all_m25 : Nat → Int32) (size_m26 : Int32) (n_a_all_m26 : Nat) (b_a_all_m26 : Nat → Int32) (size_m27 : Int32) (n_a_all_m27 : Nat) (b_a_all_m27 : Nat → Int32) (size_m28 : Int32) (n_a_all_m28 : Nat) (b_a_all_m28 : Nat → Int32) (size_m29 : Int32) (n_a_all_m29 : Nat) (b_a_all_m29 : Nat → Int32) (size_m30 : Int32) (n_a_all_m30 : Nat) (b_a_all_m30 : Nat → Int32) (size_m31 : Int32) (n_a_all_m31 : Nat) (b_a_all_m31 : Nat → Int32) (o_9_1 : Int32) (o_11_1 : Int32) (o_13_1 : Int32) (on_nq_1_0 : Nat) (ob_nq_1_0 : Nat → Int32) (on_nq_3_0 : Nat) (ob_nq_3_0 : Nat → Int32) (on_nq_5_0 : Nat) (ob_nq_5_0 : Nat → Int32) (on_nq_7_0 : Nat) (ob_nq_7_0 : Nat → Int32) (on_nq_9_0 : Nat) (ob_nq_9_0 : Nat → Int32) (on_nq_11_0 : Nat) (ob_nq_11_0 : Nat → Int32) (on_nq_13_0 : Nat) (ob_nq_13_0 : Nat → Int32) (on_nq_15_0 : Nat) (ob_nq_15_0 : Nat → Int32) (mc ms : Nat) (h : F_Mo_newNode p1 p2 p3 p4 p5 known_h0 thrown_h0 wrong_h0 lastEnd_h0 at_h0 bad_h0 levels_h0 least_h0 found_h0 size_m24 n_a_all_m24 b_a_all_m24 size_m25 n_a_all_m25 b_a_all_m25 size_m26 n_a_all_m26 b_a_all_m26 size_m27 n_a_all_m27 b_a_all_m27 size_m28 n_a_all_m28 b_a_all_m28 size_m29 n_a_all_m29 b_a_all_m29 size_m30 n_a_all_m30 b_a_all_m30 size_m31 n_a_all_m31 b_a_all_m31 = some ((o_9_1, o_11_1, o_13_1, on_nq_1_0, ob_nq_1_0, on_nq_3_0, ob_nq_3_0, on_nq_5_0, ob_nq_5_0, on_nq_7_0, ob_nq_7_0, on_nq_9_0, ob_nq_9_0, on_nq_11_0, ob_nq_11_0, on_nq_13_0, ob_nq_13_0, on_nq_15_0, ob_nq_15_0), mc, ms)) : Ct l D (gT cI cB cJ cS) y_Mo_newNode prog_12_method_50_code 7 (Option.some Jvm.ClassFile.FieldType.int) 1 23 mc ms [.ref h0, .int p1, .int p2, .int p3, .int p4, .int p5] [(h0, .inr (9, moF am known_h0 thrown_h0 wrong_h0 lastEnd_h0 at_h0 bad_h0 levels_h0 least_h0 found_h0)), ((am 24), .inr (8, [.ref a_all_m24, .int size_m24])), (a_all_m24, .inl (cI, n_a_all_m24, .inl b_a_all_m24)), ((am 25), .inr (8, [.ref a_all_m25, .int size_m25])), (a_all_m25, .inl (cI, n_a_all_m25, .inl b_a_all_m25)), ((am 26), .inr (8, [.ref a_all_m26, .int size_m26])), (a_all_m26, .inl (cI, n_a_all_m26, .inl b_a_all_m26)), ((am 27), .inr (8, [.ref a_all_m27, .int size_m27])), (a_all_m27, .inl (cI, n_a_all_m27, .inl b_a_all_m27)), ((am 28), .inr (8, [.ref a_all_m28, .int size_m28])), (a_all_m28, .inl (cI, n_a_all_m28, .inl b_a_all_m28)), ((am 29), .inr (8, [.ref a_all_m29, .int size_m29])), (a_all_m29, .inl (cI, n_a_all_m29, .inl b_a_all_m29)), ((am 30), .inr (8, [.ref a_all_m30, .int size_m30])), (a_all_m30, .inl (cI, n_a_all_m30, .inl b_a_all_m30)), ((am 31), .inr (8, [.ref a_all_m31, .int size_m31])), (a_all_m31, .inl (cI, n_a_all_m31, .inl b_a_all_m31))] (fun v w => ∃ nq_1_0 : Nat, ∃ nq_3_0 : Nat, ∃ nq_5_0 : Nat, ∃ nq_7_0 : Nat, ∃ nq_9_0 : Nat, ∃ nq_11_0 : Nat, ∃ nq_13_0 : Nat, ∃ nq_15_0 : Nat, v = some (.int size_m24) ∧ w = [(h0, .inr (9, moF am known_h0 thrown_h0 wrong_h0 lastEnd_h0 at_h0 bad_h0 levels_h0 least_h0 found_h0)), ((am 24), .inr (8, [.ref nq_1_0, .int (size_m24 + 1)])), ((am 25), .inr (8, [.ref nq_3_0, .int (size_m25 + 1)])), ((am 26), .inr (8, [.ref nq_5_0, .int (size_m26 + 1)])), ((am 27), .inr (8, [.ref nq_7_0, .int (size_m27 + 1)])), ((am 28), .inr (8, [.ref nq_9_0, .int o_9_1])), ((am 29), .inr (8, [.ref nq_11_0, .int o_11_1])), ((am 30), .inr (8, [.ref nq_13_0, .int o_13_1])), ((am 31), .inr (8, [.ref nq_15_0, .int (size_m31 + 1)])), (nq_1_0, .inl (cI, on_nq_1_0, .inl ob_nq_1_0)), (nq_3_0, .inl (cI, on_nq_3_0, .inl ob_nq_3_0)), (nq_5_0, .inl (cI, on_nq_5_0, .inl ob_nq_5_0)), (nq_7_0, .inl (cI, on_nq_7_0, .inl ob_nq_7_0)), (nq_9_0, .inl (cI, on_nq_9_0, .inl ob_nq_9_0)), (nq_11_0, .inl (cI, on_nq_11_0, .inl ob_nq_11_0)), (nq_13_0, .inl (cI, on_nq_13_0, .inl ob_nq_13_0)), (nq_15_0, .inl (cI, on_nq_15_0, .inl ob_nq_15_0))]) := by
  refine Ct.mk (by decide) (Nat.le_of_ble_eq_true rfl) ?_
  intro p e s m below meth c hr hnm
  refine j_norm (pc' := 0) (lv' := [(0, .ref h0), (1, .int p1), (2, .int p2), (3, .int p3), (4, .int p4), (5, .int p5)]) (st' := []) (ws' := [(h0, .inr (9, moF am known_h0 thrown_h0 wrong_h0 lastEnd_h0 at_h0 bad_h0 levels_h0 least_h0 found_h0)), ((am 24), .inr (8, [.ref a_all_m24, .int size_m24])), (a_all_m24, .inl (cI, n_a_all_m24, .inl b_a_all_m24)), ((am 25), .inr (8, [.ref a_all_m25, .int size_m25])), (a_all_m25, .inl (cI, n_a_all_m25, .inl b_a_all_m25)), ((am 26), .inr (8, [.ref a_all_m26, .int size_m26])), (a_all_m26, .inl (cI, n_a_all_m26, .inl b_a_all_m26)), ((am 27), .inr (8, [.ref a_all_m27, .int size_m27])), (a_all_m27, .inl (cI, n_a_all_m27, .inl b_a_all_m27)), ((am 28), .inr (8, [.ref a_all_m28, .int size_m28])), (a_all_m28, .inl (cI, n_a_all_m28, .inl b_a_all_m28)), ((am 29), .inr (8, [.ref a_all_m29, .int size_m29])), (a_all_m29, .inl (cI, n_a_all_m29, .inl b_a_all_m29)), ((am 30), .inr (8, [.ref a_all_m30, .int size_m30])), (a_all_m30, .inl (cI, n_a_all_m30, .inl b_a_all_m30)), ((am 31), .inr (8, [.ref a_all_m31, .int size_m31])), (a_all_m31, .inl (cI, n_a_all_m31, .inl b_a_all_m31))]) (cl' := 0) (sl' := 0) rfl rfl rfl rfl rfl rfl ?_
  unfold F_Mo_newNode at h
  have hC : 0 + mc ≤ mc := by omega
  have hS : 0 + ms ≤ ms := by omega
  refine j_aload_n d_Mo_newNode_0 rfl 0 rfl ?_
  refine j_get ig_Mo rfl 0 rfl 24 (by decide) rfl m_1137 rfl d_Mo_newNode_1 ?_
  refine j_getN ig_Nm rfl 1 rfl 1 (by decide) rfl mn_13 rfl d_Mo_newNode_4 ?_
  refine j_istore (lv' := [(6, .int size_m24), (0, .ref h0), (1, .int p1), (2, .int p2), (3, .int p3), (4, .int p4), (5, .int p5)]) d_Mo_newNode_7 (by decide) rfl ?_
  refine j_aload_n d_Mo_newNode_9 rfl 1 rfl ?_
  refine j_get ig_Mo rfl 0 rfl 24 (by decide) rfl m_1137 rfl d_Mo_newNode_10 ?_
  refine j_iload_n d_Mo_newNode_13 rfl 3 rfl ?_
  replace h := bw_s h
  obtain ⟨⟨r1, r2⟩, C4, S5, C6, S7, k8, h, e1, e2⟩ := h
  replace hC : 0 + C4 + C6 ≤ mc := by omega
  replace hS : 0 + S5 + S7 ≤ ms := by omega
  clear e1 e2
  refine j_callV (n := 1) (As := [.int p2]) (rest := []) (wr := [(h0, .inr (9, moF am known_h0 thrown_h0 wrong_h0 lastEnd_h0 at_h0 bad_h0 levels_h0 least_h0 found_h0)), ((am 25), .inr (8, [.ref a_all_m25, .int size_m25])), (a_all_m25, .inl (cI, n_a_all_m25, .inl b_a_all_m25)), ((am 26), .inr (8, [.ref a_all_m26, .int size_m26])), (a_all_m26, .inl (cI, n_a_all_m26, .inl b_a_all_m26)), ((am 27), .inr (8, [.ref a_all_m27, .int size_m27])), (a_all_m27, .inl (cI, n_a_all_m27, .inl b_a_all_m27)), ((am 28), .inr (8, [.ref a_all_m28, .int size_m28])), (a_all_m28, .inl (cI, n_a_all_m28, .inl b_a_all_m28)), ((am 29), .inr (8, [.ref a_all_m29, .int size_m29])), (a_all_m29, .inl (cI, n_a_all_m29, .inl b_a_all_m29)), ((am 30), .inr (8, [.ref a_all_m30, .int size_m30])), (a_all_m30, .inl (cI, n_a_all_m30, .inl b_a_all_m30)), ((am 31), .inr (8, [.ref a_all_m31, .int size_m31])), (a_all_m31, .inl (cI, n_a_all_m31, .inl b_a_all_m31))]) (c_Nm_add l D cI cB cJ cS (am 24) a_all_m24 p2 size_m24 n_a_all_m24 b_a_all_m24  r1 r2 C4 S5 k8) k_Mo_200 (by decide) ⟨Nat.le_of_ble_eq_true rfl, Nat.le_of_ble_eq_true rfl⟩ rfl 0 rfl [1, 2] [0, 3, 4, 5, 6, 7, 8, 9, 10, 11, 12, 13, 14, 15, 16] rfl (by decide +kernel) rfl (by decide +kernel) (by decide +kernel) rfl rfl (Nat.le_of_ble_eq_true rfl) d_Mo_newNode_14 ⟨show 0 + C4 ≤ mc by omega, show 0 + S5 ≤ ms by omega⟩ (fun v w hq => ?_)
  obtain ⟨q3, rfl, rfl⟩ := hq
  refine j_norm (pc' := 17) (st' := []) (ws' := [(h0, .inr (9, moF am known_h0 thrown_h0 wrong_h0 lastEnd_h0 at_h0 bad_h0 levels_h0 least_h0 found_h0)), ((am 25), .inr (8, [.ref a_all_m25, .int size_m25])), (a_all_m25, .inl (cI, n_a_all_m25, .inl b_a_all_m25)), ((am 26), .inr (8, [.ref a_all_m26, .int size_m26])), (a_all_m26, .inl (cI, n_a_all_m26, .inl b_a_all_m26)), ((am 27), .inr (8, [.ref a_all_m27, .int size_m27])), (a_all_m27, .inl (cI, n_a_all_m27, .inl b_a_all_m27)), ((am 28), .inr (8, [.ref a_all_m28, .int size_m28])), (a_all_m28, .inl (cI, n_a_all_m28, .inl b_a_all_m28)), ((am 29), .inr (8, [.ref a_all_m29, .int size_m29])), (a_all_m29, .inl (cI, n_a_all_m29, .inl b_a_all_m29)), ((am 30), .inr (8, [.ref a_all_m30, .int size_m30])), (a_all_m30, .inl (cI, n_a_all_m30, .inl b_a_all_m30)), ((am 31), .inr (8, [.ref a_all_m31, .int size_m31])), (a_all_m31, .inl (cI, n_a_all_m31, .inl b_a_all_m31)), ((am 24), .inr (8, [.ref q3, .int (size_m24 + 1)])), (q3, .inl (cI, r1, .inl r2))]) (cl' := 0 + C4) (sl' := 0 + S5) rfl rfl rfl rfl rfl rfl ?_
  refine j_aload_n d_Mo_newNode_17 rfl 1 rfl ?_
  refine j_get ig_Mo rfl 0 rfl 25 (by decide) rfl m_1138 rfl d_Mo_newNode_18 ?_
  refine j_iload_n d_Mo_newNode_21 rfl 4 rfl ?_
  replace h := bw_s h
  obtain ⟨⟨r9, r10⟩, C12, S13, C14, S15, k16, h, e1, e2⟩ := h
  replace hC : 0 + C4 + C12 + C14 ≤ mc := by omega
  replace hS : 0 + S5 + S13 + S15 ≤ ms := by omega
  clear e1 e2
  refine j_callV (n := 1) (As := [.int p3]) (rest := []) (wr := [(h0, .inr (9, moF am known_h0 thrown_h0 wrong_h0 lastEnd_h0 at_h0 bad_h0 levels_h0 least_h0 found_h0)), ((am 26), .inr (8, [.ref a_all_m26, .int size_m26])), (a_all_m26, .inl (cI, n_a_all_m26, .inl b_a_all_m26)), ((am 27), .inr (8, [.ref a_all_m27, .int size_m27])), (a_all_m27, .inl (cI, n_a_all_m27, .inl b_a_all_m27)), ((am 28), .inr (8, [.ref a_all_m28, .int size_m28])), (a_all_m28, .inl (cI, n_a_all_m28, .inl b_a_all_m28)), ((am 29), .inr (8, [.ref a_all_m29, .int size_m29])), (a_all_m29, .inl (cI, n_a_all_m29, .inl b_a_all_m29)), ((am 30), .inr (8, [.ref a_all_m30, .int size_m30])), (a_all_m30, .inl (cI, n_a_all_m30, .inl b_a_all_m30)), ((am 31), .inr (8, [.ref a_all_m31, .int size_m31])), (a_all_m31, .inl (cI, n_a_all_m31, .inl b_a_all_m31)), ((am 24), .inr (8, [.ref q3, .int (size_m24 + 1)])), (q3, .inl (cI, r1, .inl r2))]) (c_Nm_add l D cI cB cJ cS (am 25) a_all_m25 p3 size_m25 n_a_all_m25 b_a_all_m25  r9 r10 C12 S13 k16) k_Mo_200 (by decide) ⟨Nat.le_of_ble_eq_true rfl, Nat.le_of_ble_eq_true rfl⟩ rfl 0 rfl [1, 2] [0, 3, 4, 5, 6, 7, 8, 9, 10, 11, 12, 13, 14, 15, 16] rfl (by decide +kernel) rfl (by decide +kernel) (by decide +kernel) rfl rfl (Nat.le_of_ble_eq_true rfl) d_Mo_newNode_22 ⟨show 0 + C4 + C12 ≤ mc by omega, show 0 + S5 + S13 ≤ ms by omega⟩ (fun v w hq => ?_)
  obtain ⟨q11, rfl, rfl⟩ := hq
  refine j_norm (pc' := 25) (st' := []) (ws' := [(h0, .inr (9, moF am known_h0 thrown_h0 wrong_h0 lastEnd_h0 at_h0 bad_h0 levels_h0 least_h0 found_h0)), ((am 26), .inr (8, [.ref a_all_m26, .int size_m26])), (a_all_m26, .inl (cI, n_a_all_m26, .inl b_a_all_m26)), ((am 27), .inr (8, [.ref a_all_m27, .int size_m27])), (a_all_m27, .inl (cI, n_a_all_m27, .inl b_a_all_m27)), ((am 28), .inr (8, [.ref a_all_m28, .int size_m28])), (a_all_m28, .inl (cI, n_a_all_m28, .inl b_a_all_m28)), ((am 29), .inr (8, [.ref a_all_m29, .int size_m29])), (a_all_m29, .inl (cI, n_a_all_m29, .inl b_a_all_m29)), ((am 30), .inr (8, [.ref a_all_m30, .int size_m30])), (a_all_m30, .inl (cI, n_a_all_m30, .inl b_a_all_m30)), ((am 31), .inr (8, [.ref a_all_m31, .int size_m31])), (a_all_m31, .inl (cI, n_a_all_m31, .inl b_a_all_m31)), ((am 24), .inr (8, [.ref q3, .int (size_m24 + 1)])), (q3, .inl (cI, r1, .inl r2)), ((am 25), .inr (8, [.ref q11, .int (size_m25 + 1)])), (q11, .inl (cI, r9, .inl r10))]) (cl' := 0 + C4 + C12) (sl' := 0 + S5 + S13) rfl rfl rfl rfl rfl rfl ?_
  refine j_aload_n d_Mo_newNode_25 rfl 1 rfl ?_
  refine j_get ig_Mo rfl 0 rfl 26 (by decide) rfl m_1139 rfl d_Mo_newNode_26 ?_
  refine j_iload d_Mo_newNode_29 5 rfl ?_
  replace h := bw_s h
  obtain ⟨⟨r17, r18⟩, C20, S21, C22, S23, k24, h, e1, e2⟩ := h
  replace hC : 0 + C4 + C12 + C20 + C22 ≤ mc := by omega
  replace hS : 0 + S5 + S13 + S21 + S23 ≤ ms := by omega
  clear e1 e2
  refine j_callV (n := 1) (As := [.int p4]) (rest := []) (wr := [(h0, .inr (9, moF am known_h0 thrown_h0 wrong_h0 lastEnd_h0 at_h0 bad_h0 levels_h0 least_h0 found_h0)), ((am 27), .inr (8, [.ref a_all_m27, .int size_m27])), (a_all_m27, .inl (cI, n_a_all_m27, .inl b_a_all_m27)), ((am 28), .inr (8, [.ref a_all_m28, .int size_m28])), (a_all_m28, .inl (cI, n_a_all_m28, .inl b_a_all_m28)), ((am 29), .inr (8, [.ref a_all_m29, .int size_m29])), (a_all_m29, .inl (cI, n_a_all_m29, .inl b_a_all_m29)), ((am 30), .inr (8, [.ref a_all_m30, .int size_m30])), (a_all_m30, .inl (cI, n_a_all_m30, .inl b_a_all_m30)), ((am 31), .inr (8, [.ref a_all_m31, .int size_m31])), (a_all_m31, .inl (cI, n_a_all_m31, .inl b_a_all_m31)), ((am 24), .inr (8, [.ref q3, .int (size_m24 + 1)])), (q3, .inl (cI, r1, .inl r2)), ((am 25), .inr (8, [.ref q11, .int (size_m25 + 1)])), (q11, .inl (cI, r9, .inl r10))]) (c_Nm_add l D cI cB cJ cS (am 26) a_all_m26 p4 size_m26 n_a_all_m26 b_a_all_m26  r17 r18 C20 S21 k24) k_Mo_200 (by decide) ⟨Nat.le_of_ble_eq_true rfl, Nat.le_of_ble_eq_true rfl⟩ rfl 0 rfl [1, 2] [0, 3, 4, 5, 6, 7, 8, 9, 10, 11, 12, 13, 14, 15, 16] rfl (by decide +kernel) rfl (by decide +kernel) (by decide +kernel) rfl rfl (Nat.le_of_ble_eq_true rfl) d_Mo_newNode_31 ⟨show 0 + C4 + C12 + C20 ≤ mc by omega, show 0 + S5 + S13 + S21 ≤ ms by omega⟩ (fun v w hq => ?_)
  obtain ⟨q19, rfl, rfl⟩ := hq
  refine j_norm (pc' := 34) (st' := []) (ws' := [(h0, .inr (9, moF am known_h0 thrown_h0 wrong_h0 lastEnd_h0 at_h0 bad_h0 levels_h0 least_h0 found_h0)), ((am 27), .inr (8, [.ref a_all_m27, .int size_m27])), (a_all_m27, .inl (cI, n_a_all_m27, .inl b_a_all_m27)), ((am 28), .inr (8, [.ref a_all_m28, .int size_m28])), (a_all_m28, .inl (cI, n_a_all_m28, .inl b_a_all_m28)), ((am 29), .inr (8, [.ref a_all_m29, .int size_m29])), (a_all_m29, .inl (cI, n_a_all_m29, .inl b_a_all_m29)), ((am 30), .inr (8, [.ref a_all_m30, .int size_m30])), (a_all_m30, .inl (cI, n_a_all_m30, .inl b_a_all_m30)), ((am 31), .inr (8, [.ref a_all_m31, .int size_m31])), (a_all_m31, .inl (cI, n_a_all_m31, .inl b_a_all_m31)), ((am 24), .inr (8, [.ref q3, .int (size_m24 + 1)])), (q3, .inl (cI, r1, .inl r2)), ((am 25), .inr (8, [.ref q11, .int (size_m25 + 1)])), (q11, .inl (cI, r9, .inl r10)), ((am 26), .inr (8, [.ref q19, .int (size_m26 + 1)])), (q19, .inl (cI, r17, .inl r18))]) (cl' := 0 + C4 + C12 + C20) (sl' := 0 + S5 + S13 + S21) rfl rfl rfl rfl rfl rfl ?_
  refine j_aload_n d_Mo_newNode_34 rfl 1 rfl ?_
  refine j_get ig_Mo rfl 0 rfl 27 (by decide) rfl m_1140 rfl d_Mo_newNode_35 ?_
  refine j_iload d_Mo_newNode_38 6 rfl ?_
  replace h := bw_s h
  obtain ⟨⟨r25, r26⟩, C28, S29, C30, S31, k32, h, e1, e2⟩ := h
  replace hC : 0 + C4 + C12 + C20 + C28 + C30 ≤ mc := by omega
  replace hS : 0 + S5 + S13 + S21 + S29 + S31 ≤ ms := by omega
  clear e1 e2
  refine j_callV (n := 1) (As := [.int p5]) (rest := []) (wr := [(h0, .inr (9, moF am known_h0 thrown_h0 wrong_h0 lastEnd_h0 at_h0 bad_h0 levels_h0 least_h0 found_h0)), ((am 28), .inr (8, [.ref a_all_m28, .int size_m28])), (a_all_m28, .inl (cI, n_a_all_m28, .inl b_a_all_m28)), ((am 29), .inr (8, [.ref a_all_m29, .int size_m29])), (a_all_m29, .inl (cI, n_a_all_m29, .inl b_a_all_m29)), ((am 30), .inr (8, [.ref a_all_m30, .int size_m30])), (a_all_m30, .inl (cI, n_a_all_m30, .inl b_a_all_m30)), ((am 31), .inr (8, [.ref a_all_m31, .int size_m31])), (a_all_m31, .inl (cI, n_a_all_m31, .inl b_a_all_m31)), ((am 24), .inr (8, [.ref q3, .int (size_m24 + 1)])), (q3, .inl (cI, r1, .inl r2)), ((am 25), .inr (8, [.ref q11, .int (size_m25 + 1)])), (q11, .inl (cI, r9, .inl r10)), ((am 26), .inr (8, [.ref q19, .int (size_m26 + 1)])), (q19, .inl (cI, r17, .inl r18))]) (c_Nm_add l D cI cB cJ cS (am 27) a_all_m27 p5 size_m27 n_a_all_m27 b_a_all_m27  r25 r26 C28 S29 k32) k_Mo_200 (by decide) ⟨Nat.le_of_ble_eq_true rfl, Nat.le_of_ble_eq_true rfl⟩ rfl 0 rfl [1, 2] [0, 3, 4, 5, 6, 7, 8, 9, 10, 11, 12, 13, 14, 15, 16] rfl (by decide +kernel) rfl (by decide +kernel) (by decide +kernel) rfl rfl (Nat.le_of_ble_eq_true rfl) d_Mo_newNode_40 ⟨show 0 + C4 + C12 + C20 + C28 ≤ mc by omega, show 0 + S5 + S13 + S21 + S29 ≤ ms by omega⟩ (fun v w hq => ?_)
  obtain ⟨q27, rfl, rfl⟩ := hq
  refine j_norm (pc' := 43) (st' := []) (ws' := [(h0, .inr (9, moF am known_h0 thrown_h0 wrong_h0 lastEnd_h0 at_h0 bad_h0 levels_h0 least_h0 found_h0)), ((am 28), .inr (8, [.ref a_all_m28, .int size_m28])), (a_all_m28, .inl (cI, n_a_all_m28, .inl b_a_all_m28)), ((am 29), .inr (8, [.ref a_all_m29, .int size_m29])), (a_all_m29, .inl (cI, n_a_all_m29, .inl b_a_all_m29)), ((am 30), .inr (8, [.ref a_all_m30, .int size_m30])), (a_all_m30, .inl (cI, n_a_all_m30, .inl b_a_all_m30)), ((am 31), .inr (8, [.ref a_all_m31, .int size_m31])), (a_all_m31, .inl (cI, n_a_all_m31, .inl b_a_all_m31)), ((am 24), .inr (8, [.ref q3, .int (size_m24 + 1)])), (q3, .inl (cI, r1, .inl r2)), ((am 25), .inr (8, [.ref q11, .int (size_m25 + 1)])), (q11, .inl (cI, r9, .inl r10)), ((am 26), .inr (8, [.ref q19, .int (size_m26 + 1)])), (q19, .inl (cI, r17, .inl r18)), ((am 27), .inr (8, [.ref q27, .int (size_m27 + 1)])), (q27, .inl (cI, r25, .inl r26))]) (cl' := 0 + C4 + C12 + C20 + C28) (sl' := 0 + S5 + S13 + S21 + S29) rfl rfl rfl rfl rfl rfl ?_
  refine j_aload_n d_Mo_newNode_43 rfl 1 rfl ?_
  refine j_get ig_Mo rfl 0 rfl 28 (by decide) rfl m_1141 rfl d_Mo_newNode_44 ?_
  refine j_iconst (v := 0) d_Mo_newNode_47 (by decide) ?_
  replace h := bw_s h
  obtain ⟨⟨r33, r34⟩, C36, S37, C38, S39, k40, h, e1, e2⟩ := h
  replace hC : 0 + C4 + C12 + C20 + C28 + C36 + C38 ≤ mc := by omega
  replace hS : 0 + S5 + S13 + S21 + S29 + S37 + S39 ≤ ms := by omega
  clear e1 e2
  refine j_callV (n := 1) (As := [.int 0]) (rest := []) (wr := [(h0, .inr (9, moF am known_h0 thrown_h0 wrong_h0 lastEnd_h0 at_h0 bad_h0 levels_h0 least_h0 found_h0)), ((am 29), .inr (8, [.ref a_all_m29, .int size_m29])), (a_all_m29, .inl (cI, n_a_all_m29, .inl b_a_all_m29)), ((am 30), .inr (8, [.ref a_all_m30, .int size_m30])), (a_all_m30, .inl (cI, n_a_all_m30, .inl b_a_all_m30)), ((am 31), .inr (8, [.ref a_all_m31, .int size_m31])), (a_all_m31, .inl (cI, n_a_all_m31, .inl b_a_all_m31)), ((am 24), .inr (8, [.ref q3, .int (size_m24 + 1)])), (q3, .inl (cI, r1, .inl r2)), ((am 25), .inr (8, [.ref q11, .int (size_m25 + 1)])), (q11, .inl (cI, r9, .inl r10)), ((am 26), .inr (8, [.ref q19, .int (size_m26 + 1)])), (q19, .inl (cI, r17, .inl r18)), ((am 27), .inr (8, [.ref q27, .int (size_m27 + 1)])), (q27, .inl (cI, r25, .inl r26))]) (c_Nm_add l D cI cB cJ cS (am 28) a_all_m28 0 size_m28 n_a_all_m28 b_a_all_m28  r33 r34 C36 S37 k40) k_Mo_200 (by decide) ⟨Nat.le_of_ble_eq_true rfl, Nat.le_of_ble_eq_true rfl⟩ rfl 0 rfl [1, 2] [0, 3, 4, 5, 6, 7, 8, 9, 10, 11, 12, 13, 14, 15, 16] rfl (by decide +kernel) rfl (by decide +kernel) (by decide +kernel) rfl rfl (Nat.le_of_ble_eq_true rfl) d_Mo_newNode_48 ⟨show 0 + C4 + C12 + C20 + C28 + C36 ≤ mc by omega, show 0 + S5 + S13 + S21 + S29 + S37 ≤ ms by omega⟩ (fun v w hq => ?_)
  obtain ⟨q35, rfl, rfl⟩ := hq
  refine j_norm (pc' := 51) (st' := []) (ws' := [(h0, .inr (9, moF am known_h0 thrown_h0 wrong_h0 lastEnd_h0 at_h0 bad_h0 levels_h0 least_h0 found_h0)), ((am 29), .inr (8, [.ref a_all_m29, .int size_m29])), (a_all_m29, .inl (cI, n_a_all_m29, .inl b_a_all_m29)), ((am 30), .inr (8, [.ref a_all_m30, .int size_m30])), (a_all_m30, .inl (cI, n_a_all_m30, .inl b_a_all_m30)), ((am 31), .inr (8, [.ref a_all_m31, .int size_m31])), (a_all_m31, .inl (cI, n_a_all_m31, .inl b_a_all_m31)), ((am 24), .inr (8, [.ref q3, .int (size_m24 + 1)])), (q3, .inl (cI, r1, .inl r2)), ((am 25), .inr (8, [.ref q11, .int (size_m25 + 1)])), (q11, .inl (cI, r9, .inl r10)), ((am 26), .inr (8, [.ref q19, .int (size_m26 + 1)])), (q19, .inl (cI, r17, .inl r18)), ((am 27), .inr (8, [.ref q27, .int (size_m27 + 1)])), (q27, .inl (cI, r25, .inl r26)), ((am 28), .inr (8, [.ref q35, .int (size_m28 + 1)])), (q35, .inl (cI, r33, .inl r34))]) (cl' := 0 + C4 + C12 + C20 + C28 + C36) (sl' := 0 + S5 + S13 + S21 + S29 + S37) rfl rfl rfl rfl rfl rfl ?_
  refine j_aload_n d_Mo_newNode_51 rfl 1 rfl ?_
  refine j_get ig_Mo rfl 0 rfl 29 (by decide) rfl m_1142 rfl d_Mo_newNode_52 ?_
  refine j_iconst (v := (-1)) d_Mo_newNode_55 (by decide) ?_
  replace h := bw_s h
  obtain ⟨⟨r41, r42⟩, C44, S45, C46, S47, k48, h, e1, e2⟩ := h
  replace hC : 0 + C4 + C12 + C20 + C28 + C36 + C44 + C46 ≤ mc := by omega
  replace hS : 0 + S5 + S13 + S21 + S29 + S37 + S45 + S47 ≤ ms := by omega
  clear e1 e2
  refine j_callV (n := 1) (As := [.int (-1)]) (rest := []) (wr := [(h0, .inr (9, moF am known_h0 thrown_h0 wrong_h0 lastEnd_h0 at_h0 bad_h0 levels_h0 least_h0 found_h0)), ((am 30), .inr (8, [.ref a_all_m30, .int size_m30])), (a_all_m30, .inl (cI, n_a_all_m30, .inl b_a_all_m30)), ((am 31), .inr (8, [.ref a_all_m31, .int size_m31])), (a_all_m31, .inl (cI, n_a_all_m31, .inl b_a_all_m31)), ((am 24), .inr (8, [.ref q3, .int (size_m24 + 1)])), (q3, .inl (cI, r1, .inl r2)), ((am 25), .inr (8, [.ref q11, .int (size_m25 + 1)])), (q11, .inl (cI, r9, .inl r10)), ((am 26), .inr (8, [.ref q19, .int (size_m26 + 1)])), (q19, .inl (cI, r17, .inl r18)), ((am 27), .inr (8, [.ref q27, .int (size_m27 + 1)])), (q27, .inl (cI, r25, .inl r26)), ((am 28), .inr (8, [.ref q35, .int (size_m28 + 1)])), (q35, .inl (cI, r33, .inl r34))]) (c_Nm_add l D cI cB cJ cS (am 29) a_all_m29 (-1) size_m29 n_a_all_m29 b_a_all_m29  r41 r42 C44 S45 k48) k_Mo_200 (by decide) ⟨Nat.le_of_ble_eq_true rfl, Nat.le_of_ble_eq_true rfl⟩ rfl 0 rfl [1, 2] [0, 3, 4, 5, 6, 7, 8, 9, 10, 11, 12, 13, 14, 15, 16] rfl (by decide +kernel) rfl (by decide +kernel) (by decide +kernel) rfl rfl (Nat.le_of_ble_eq_true rfl) d_Mo_newNode_56 ⟨show 0 + C4 + C12 + C20 + C28 + C36 + C44 ≤ mc by omega, show 0 + S5 + S13 + S21 + S29 + S37 + S45 ≤ ms by omega⟩ (fun v w hq => ?_)
  obtain ⟨q43, rfl, rfl⟩ := hq
  refine j_norm (pc' := 59) (st' := []) (ws' := [(h0, .inr (9, moF am known_h0 thrown_h0 wrong_h0 lastEnd_h0 at_h0 bad_h0 levels_h0 least_h0 found_h0)), ((am 30), .inr (8, [.ref a_all_m30, .int size_m30])), (a_all_m30, .inl (cI, n_a_all_m30, .inl b_a_all_m30)), ((am 31), .inr (8, [.ref a_all_m31, .int size_m31])), (a_all_m31, .inl (cI, n_a_all_m31, .inl b_a_all_m31)), ((am 24), .inr (8, [.ref q3, .int (size_m24 + 1)])), (q3, .inl (cI, r1, .inl r2)), ((am 25), .inr (8, [.ref q11, .int (size_m25 + 1)])), (q11, .inl (cI, r9, .inl r10)), ((am 26), .inr (8, [.ref q19, .int (size_m26 + 1)])), (q19, .inl (cI, r17, .inl r18)), ((am 27), .inr (8, [.ref q27, .int (size_m27 + 1)])), (q27, .inl (cI, r25, .inl r26)), ((am 28), .inr (8, [.ref q35, .int (size_m28 + 1)])), (q35, .inl (cI, r33, .inl r34)), ((am 29), .inr (8, [.ref q43, .int (size_m29 + 1)])), (q43, .inl (cI, r41, .inl r42))]) (cl' := 0 + C4 + C12 + C20 + C28 + C36 + C44) (sl' := 0 + S5 + S13 + S21 + S29 + S37 + S45) rfl rfl rfl rfl rfl rfl ?_
  refine j_aload_n d_Mo_newNode_59 rfl 1 rfl ?_
  refine j_get ig_Mo rfl 0 rfl 30 (by decide) rfl m_1143 rfl d_Mo_newNode_60 ?_
  refine j_iconst (v := (-1)) d_Mo_newNode_63 (by decide) ?_
  replace h := bw_s h
  obtain ⟨⟨r49, r50⟩, C52, S53, C54, S55, k56, h, e1, e2⟩ := h
  replace hC : 0 + C4 + C12 + C20 + C28 + C36 + C44 + C52 + C54 ≤ mc := by omega
  replace hS : 0 + S5 + S13 + S21 + S29 + S37 + S45 + S53 + S55 ≤ ms := by omega
  clear e1 e2
  refine j_callV (n := 1) (As := [.int (-1)]) (rest := []) (wr := [(h0, .inr (9, moF am known_h0 thrown_h0 wrong_h0 lastEnd_h0 at_h0 bad_h0 levels_h0 least_h0 found_h0)), ((am 31), .inr (8, [.ref a_all_m31, .int size_m31])), (a_all_m31, .inl (cI, n_a_all_m31, .inl b_a_all_m31)), ((am 24), .inr (8, [.ref q3, .int (size_m24 + 1)])), (q3, .inl (cI, r1, .inl r2)), ((am 25), .inr (8, [.ref q11, .int (size_m25 + 1)])), (q11, .inl (cI, r9, .inl r10)), ((am 26), .inr (8, [.ref q19, .int (size_m26 + 1)])), (q19, .inl (cI, r17, .inl r18)), ((am 27), .inr (8, [.ref q27, .int (size_m27 + 1)])), (q27, .inl (cI, r25, .inl r26)), ((am 28), .inr (8, [.ref q35, .int (size_m28 + 1)])), (q35, .inl (cI, r33, .inl r34)), ((am 29), .inr (8, [.ref q43, .int (size_m29 + 1)])), (q43, .inl (cI, r41, .inl r42))]) (c_Nm_add l D cI cB cJ cS (am 30) a_all_m30 (-1) size_m30 n_a_all_m30 b_a_all_m30  r49 r50 C52 S53 k56) k_Mo_200 (by decide) ⟨Nat.le_of_ble_eq_true rfl, Nat.le_of_ble_eq_true rfl⟩ rfl 0 rfl [1, 2] [0, 3, 4, 5, 6, 7, 8, 9, 10, 11, 12, 13, 14, 15, 16] rfl (by decide +kernel) rfl (by decide +kernel) (by decide +kernel) rfl rfl (Nat.le_of_ble_eq_true rfl) d_Mo_newNode_64 ⟨show 0 + C4 + C12 + C20 + C28 + C36 + C44 + C52 ≤ mc by omega, show 0 + S5 + S13 + S21 + S29 + S37 + S45 + S53 ≤ ms by omega⟩ (fun v w hq => ?_)
  obtain ⟨q51, rfl, rfl⟩ := hq
  refine j_norm (pc' := 67) (st' := []) (ws' := [(h0, .inr (9, moF am known_h0 thrown_h0 wrong_h0 lastEnd_h0 at_h0 bad_h0 levels_h0 least_h0 found_h0)), ((am 31), .inr (8, [.ref a_all_m31, .int size_m31])), (a_all_m31, .inl (cI, n_a_all_m31, .inl b_a_all_m31)), ((am 24), .inr (8, [.ref q3, .int (size_m24 + 1)])), (q3, .inl (cI, r1, .inl r2)), ((am 25), .inr (8, [.ref q11, .int (size_m25 + 1)])), (q11, .inl (cI, r9, .inl r10)), ((am 26), .inr (8, [.ref q19, .int (size_m26 + 1)])), (q19, .inl (cI, r17, .inl r18)), ((am 27), .inr (8, [.ref q27, .int (size_m27 + 1)])), (q27, .inl (cI, r25, .inl r26)), ((am 28), .inr (8, [.ref q35, .int (size_m28 + 1)])), (q35, .inl (cI, r33, .inl r34)), ((am 29), .inr (8, [.ref q43, .int (size_m29 + 1)])), (q43, .inl (cI, r41, .inl r42)), ((am 30), .inr (8, [.ref q51, .int (size_m30 + 1)])), (q51, .inl (cI, r49, .inl r50))]) (cl' := 0 + C4 + C12 + C20 + C28 + C36 + C44 + C52) (sl' := 0 + S5 + S13 + S21 + S29 + S37 + S45 + S53) rfl rfl rfl rfl rfl rfl ?_
  refine j_aload_n d_Mo_newNode_67 rfl 1 rfl ?_
  refine j_get ig_Mo rfl 0 rfl 31 (by decide) rfl m_1144 rfl d_Mo_newNode_68 ?_
  refine j_iconst (v := (-1)) d_Mo_newNode_71 (by decide) ?_
  replace h := bw_s h
  obtain ⟨⟨r57, r58⟩, C60, S61, C62, S63, k64, h, e1, e2⟩ := h
  replace hC : 0 + C4 + C12 + C20 + C28 + C36 + C44 + C52 + C60 + C62 ≤ mc := by omega
  replace hS : 0 + S5 + S13 + S21 + S29 + S37 + S45 + S53 + S61 + S63 ≤ ms := by omega
  clear e1 e2
  refine j_callV (n := 1) (As := [.int (-1)]) (rest := []) (wr := [(h0, .inr (9, moF am known_h0 thrown_h0 wrong_h0 lastEnd_h0 at_h0 bad_h0 levels_h0 least_h0 found_h0)), ((am 24), .inr (8, [.ref q3, .int (size_m24 + 1)])), (q3, .inl (cI, r1, .inl r2)), ((am 25), .inr (8, [.ref q11, .int (size_m25 + 1)])), (q11, .inl (cI, r9, .inl r10)), ((am 26), .inr (8, [.ref q19, .int (size_m26 + 1)])), (q19, .inl (cI, r17, .inl r18)), ((am 27), .inr (8, [.ref q27, .int (size_m27 + 1)])), (q27, .inl (cI, r25, .inl r26)), ((am 28), .inr (8, [.ref q35, .int (size_m28 + 1)])), (q35, .inl (cI, r33, .inl r34)), ((am 29), .inr (8, [.ref q43, .int (size_m29 + 1)])), (q43, .inl (cI, r41, .inl r42)), ((am 30), .inr (8, [.ref q51, .int (size_m30 + 1)])), (q51, .inl (cI, r49, .inl r50))]) (c_Nm_add l D cI cB cJ cS (am 31) a_all_m31 (-1) size_m31 n_a_all_m31 b_a_all_m31  r57 r58 C60 S61 k64) k_Mo_200 (by decide) ⟨Nat.le_of_ble_eq_true rfl, Nat.le_of_ble_eq_true rfl⟩ rfl 0 rfl [1, 2] [0, 3, 4, 5, 6, 7, 8, 9, 10, 11, 12, 13, 14, 15, 16] rfl (by decide +kernel) rfl (by decide +kernel) (by decide +kernel) rfl rfl (Nat.le_of_ble_eq_true rfl) d_Mo_newNode_72 ⟨show 0 + C4 + C12 + C20 + C28 + C36 + C44 + C52 + C60 ≤ mc by omega, show 0 + S5 + S13 + S21 + S29 + S37 + S45 + S53 + S61 ≤ ms by omega⟩ (fun v w hq => ?_)
  obtain ⟨q59, rfl, rfl⟩ := hq
  refine j_norm (pc' := 75) (st' := []) (ws' := [(h0, .inr (9, moF am known_h0 thrown_h0 wrong_h0 lastEnd_h0 at_h0 bad_h0 levels_h0 least_h0 found_h0)), ((am 24), .inr (8, [.ref q3, .int (size_m24 + 1)])), (q3, .inl (cI, r1, .inl r2)), ((am 25), .inr (8, [.ref q11, .int (size_m25 + 1)])), (q11, .inl (cI, r9, .inl r10)), ((am 26), .inr (8, [.ref q19, .int (size_m26 + 1)])), (q19, .inl (cI, r17, .inl r18)), ((am 27), .inr (8, [.ref q27, .int (size_m27 + 1)])), (q27, .inl (cI, r25, .inl r26)), ((am 28), .inr (8, [.ref q35, .int (size_m28 + 1)])), (q35, .inl (cI, r33, .inl r34)), ((am 29), .inr (8, [.ref q43, .int (size_m29 + 1)])), (q43, .inl (cI, r41, .inl r42)), ((am 30), .inr (8, [.ref q51, .int (size_m30 + 1)])), (q51, .inl (cI, r49, .inl r50)), ((am 31), .inr (8, [.ref q59, .int (size_m31 + 1)])), (q59, .inl (cI, r57, .inl r58))]) (cl' := 0 + C4 + C12 + C20 + C28 + C36 + C44 + C52 + C60) (sl' := 0 + S5 + S13 + S21 + S29 + S37 + S45 + S53 + S61) rfl rfl rfl rfl rfl rfl ?_
  refine j_iload_n d_Mo_newNode_75 rfl 2 rfl ?_
  refine j_if_lt (tgt := 152) d_Mo_newNode_76 (by decide) (fun c65 => ?_) (fun c65 => ?_)
  · replace h := it_t c65 h
    refine j_iload d_Mo_newNode_152 0 rfl ?_
    replace h := lf_s h
    obtain ⟨h, e1, e2⟩ := h
    replace h := Prod.mk.inj h
    obtain ⟨h9, h⟩ := h
    subst h9
    replace h := Prod.mk.inj h
    obtain ⟨h9, h⟩ := h
    subst h9
    replace h := Prod.mk.inj h
    obtain ⟨h9, h⟩ := h
    subst h9
    replace h := Prod.mk.inj h
    obtain ⟨h9, h⟩ := h
    subst h9
    replace h := Prod.mk.inj h
    obtain ⟨h9, h⟩ := h
    subst h9
    replace h := Prod.mk.inj h
    obtain ⟨h9, h⟩ := h
    subst h9
    replace h := Prod.mk.inj h
    obtain ⟨h9, h⟩ := h
    subst h9
    replace h := Prod.mk.inj h
    obtain ⟨h9, h⟩ := h
    subst h9
    replace h := Prod.mk.inj h
    obtain ⟨h9, h⟩ := h
    subst h9
    replace h := Prod.mk.inj h
    obtain ⟨h9, h⟩ := h
    subst h9
    replace h := Prod.mk.inj h
    obtain ⟨h9, h⟩ := h
    subst h9
    replace h := Prod.mk.inj h
    obtain ⟨h9, h⟩ := h
    subst h9
    replace h := Prod.mk.inj h
    obtain ⟨h9, h⟩ := h
    subst h9
    replace h := Prod.mk.inj h
    obtain ⟨h9, h⟩ := h
    subst h9
    replace h := Prod.mk.inj h
    obtain ⟨h9, h⟩ := h
    subst h9
    replace h := Prod.mk.inj h
    obtain ⟨h9, h⟩ := h
    subst h9
    replace h := Prod.mk.inj h
    obtain ⟨h9, h⟩ := h
    subst h9
    replace h := Prod.mk.inj h
    obtain ⟨h9, h⟩ := h
    subst h9
    subst h
    refine j_widen (cl' := mc) (sl' := ms) (by omega) (by omega) ?_
    exact j_iret (w := [(h0, .inr (9, moF am known_h0 thrown_h0 wrong_h0 lastEnd_h0 at_h0 bad_h0 levels_h0 least_h0 found_h0)), ((am 24), .inr (8, [.ref q3, .int (size_m24 + 1)])), ((am 25), .inr (8, [.ref q11, .int (size_m25 + 1)])), ((am 26), .inr (8, [.ref q19, .int (size_m26 + 1)])), ((am 27), .inr (8, [.ref q27, .int (size_m27 + 1)])), ((am 28), .inr (8, [.ref q35, .int (size_m28 + 1)])), ((am 29), .inr (8, [.ref q43, .int (size_m29 + 1)])), ((am 30), .inr (8, [.ref q51, .int (size_m30 + 1)])), ((am 31), .inr (8, [.ref q59, .int (size_m31 + 1)])), (q3, .inl (cI, r1, .inl r2)), (q11, .inl (cI, r9, .inl r10)), (q19, .inl (cI, r17, .inl r18)), (q27, .inl (cI, r25, .inl r26)), (q35, .inl (cI, r33, .inl r34)), (q43, .inl (cI, r41, .inl r42)), (q51, .inl (cI, r49, .inl r50)), (q59, .inl (cI, r57, .inl r58))]) hr d_Mo_newNode_154 [0, 1, 3, 5, 7, 9, 11, 13, 15, 2, 4, 6, 8, 10, 12, 14, 16] rfl (by decide) ⟨q3, q11, q19, q27, q35, q43, q51, q59, rfl, rfl⟩
  · replace h := it_f c65 h
    refine j_aload_n d_Mo_newNode_79 rfl 1 rfl ?_
    refine j_get ig_Mo rfl 0 rfl 28 (by decide) rfl m_1141 rfl d_Mo_newNode_80 ?_
    refine j_getN ig_Nm rfl 9 rfl 0 (by decide) rfl mn_12 rfl d_Mo_newNode_83 ?_
    refine j_iload_n d_Mo_newNode_86 rfl 2 rfl ?_
    refine j_aload_n d_Mo_newNode_87 rfl 1 rfl ?_
    refine j_get ig_Mo rfl 0 rfl 28 (by decide) rfl m_1141 rfl d_Mo_newNode_88 ?_
    refine j_iload_n d_Mo_newNode_91 rfl 2 rfl ?_
    replace h := bd_s h
    obtain ⟨_, k66, h⟩ := h
    refine j_callV (n := 1) (As := [.int p1]) (rest := [.int p1, .ref q35]) (wr := [(h0, .inr (9, moF am known_h0 thrown_h0 wrong_h0 lastEnd_h0 at_h0 bad_h0 levels_h0 least_h0 found_h0)), ((am 24), .inr (8, [.ref q3, .int (size_m24 + 1)])), (q3, .inl (cI, r1, .inl r2)), ((am 25), .inr (8, [.ref q11, .int (size_m25 + 1)])), (q11, .inl (cI, r9, .inl r10)), ((am 26), .inr (8, [.ref q19, .int (size_m26 + 1)])), (q19, .inl (cI, r17, .inl r18)), ((am 27), .inr (8, [.ref q27, .int (size_m27 + 1)])), (q27, .inl (cI, r25, .inl r26)), ((am 29), .inr (8, [.ref q43, .int (size_m29 + 1)])), (q43, .inl (cI, r41, .inl r42)), ((am 30), .inr (8, [.ref q51, .int (size_m30 + 1)])), (q51, .inl (cI, r49, .inl r50)), ((am 31), .inr (8, [.ref q59, .int (size_m31 + 1)])), (q59, .inl (cI, r57, .inl r58))]) (c_Nm_at l D cI cB cJ cS (am 28) q35 p1 (size_m28 + 1) r33 r34  k66) k_Mo_214 (by decide) ⟨Nat.le_of_ble_eq_true rfl, Nat.le_of_ble_eq_true rfl⟩ rfl 0 rfl [9, 10] [0, 1, 2, 3, 4, 5, 6, 7, 8, 11, 12, 13, 14, 15, 16] rfl (by decide +kernel) rfl (by decide +kernel) (by decide +kernel) rfl rfl (Nat.le_of_ble_eq_true rfl) d_Mo_newNode_92 ⟨show 0 + C4 + C12 + C20 + C28 + C36 + C44 + C52 + C60 + 0 ≤ mc by omega, show 0 + S5 + S13 + S21 + S29 + S37 + S45 + S53 + S61 + 0 ≤ ms by omega⟩ (fun v w hq => ?_)
    obtain ⟨rfl, rfl⟩ := hq
    refine j_norm (pc' := 95) (st' := [.int (r34 (Int32.toNatClampNeg p1)), .int p1, .ref q35]) (ws' := [(h0, .inr (9, moF am known_h0 thrown_h0 wrong_h0 lastEnd_h0 at_h0 bad_h0 levels_h0 least_h0 found_h0)), ((am 24), .inr (8, [.ref q3, .int (size_m24 + 1)])), (q3, .inl (cI, r1, .inl r2)), ((am 25), .inr (8, [.ref q11, .int (size_m25 + 1)])), (q11, .inl (cI, r9, .inl r10)), ((am 26), .inr (8, [.ref q19, .int (size_m26 + 1)])), (q19, .inl (cI, r17, .inl r18)), ((am 27), .inr (8, [.ref q27, .int (size_m27 + 1)])), (q27, .inl (cI, r25, .inl r26)), ((am 29), .inr (8, [.ref q43, .int (size_m29 + 1)])), (q43, .inl (cI, r41, .inl r42)), ((am 30), .inr (8, [.ref q51, .int (size_m30 + 1)])), (q51, .inl (cI, r49, .inl r50)), ((am 31), .inr (8, [.ref q59, .int (size_m31 + 1)])), (q59, .inl (cI, r57, .inl r58)), ((am 28), .inr (8, [.ref q35, .int (size_m28 + 1)])), (q35, .inl (cI, r33, .inl r34))]) (cl' := 0 + C4 + C12 + C20 + C28 + C36 + C44 + C52 + C60) (sl' := 0 + S5 + S13 + S21 + S29 + S37 + S45 + S53 + S61) rfl rfl rfl rfl rfl rfl ?_
    refine j_iconst (v := 1) d_Mo_newNode_95 (by decide) ?_
    refine j_iadd d_Mo_newNode_96 ?_
    replace h := inb_s h
    obtain ⟨i67, h⟩ := h
    refine j_iast (t0 := 0) (ws' := [(h0, .inr (9, moF am known_h0 thrown_h0 wrong_h0 lastEnd_h0 at_h0 bad_h0 levels_h0 least_h0 found_h0)), ((am 24), .inr (8, [.ref q3, .int (size_m24 + 1)])), (q3, .inl (cI, r1, .inl r2)), ((am 25), .inr (8, [.ref q11, .int (size_m25 + 1)])), (q11, .inl (cI, r9, .inl r10)), ((am 26), .inr (8, [.ref q19, .int (size_m26 + 1)])), (q19, .inl (cI, r17, .inl r18)), ((am 27), .inr (8, [.ref q27, .int (size_m27 + 1)])), (q27, .inl (cI, r25, .inl r26)), ((am 29), .inr (8, [.ref q43, .int (size_m29 + 1)])), (q43, .inl (cI, r41, .inl r42)), ((am 30), .inr (8, [.ref q51, .int (size_m30 + 1)])), (q51, .inl (cI, r49, .inl r50)), ((am 31), .inr (8, [.ref q59, .int (size_m31 + 1)])), (q59, .inl (cI, r57, .inl r58)), ((am 28), .inr (8, [.ref q35, .int (size_m28 + 1)])), (q35, .inl (cI, r33, .inl (upd r34 (Int32.toNatClampNeg p1) ((r34 (Int32.toNatClampNeg p1)) + 1))))]) 16 rfl rfl i67 d_Mo_newNode_97 rfl ?_
    refine j_aload_n d_Mo_newNode_98 rfl 1 rfl ?_
    refine j_get ig_Mo rfl 0 rfl 29 (by decide) rfl m_1142 rfl d_Mo_newNode_99 ?_
    refine j_iload_n d_Mo_newNode_102 rfl 2 rfl ?_
    replace h := bd_s h
    obtain ⟨_, k68, h⟩ := h
    refine j_callV (n := 1) (As := [.int p1]) (rest := []) (wr := [(h0, .inr (9, moF am known_h0 thrown_h0 wrong_h0 lastEnd_h0 at_h0 bad_h0 levels_h0 least_h0 found_h0)), ((am 24), .inr (8, [.ref q3, .int (size_m24 + 1)])), (q3, .inl (cI, r1, .inl r2)), ((am 25), .inr (8, [.ref q11, .int (size_m25 + 1)])), (q11, .inl (cI, r9, .inl r10)), ((am 26), .inr (8, [.ref q19, .int (size_m26 + 1)])), (q19, .inl (cI, r17, .inl r18)), ((am 27), .inr (8, [.ref q27, .int (size_m27 + 1)])), (q27, .inl (cI, r25, .inl r26)), ((am 30), .inr (8, [.ref q51, .int (size_m30 + 1)])), (q51, .inl (cI, r49, .inl r50)), ((am 31), .inr (8, [.ref q59, .int (size_m31 + 1)])), (q59, .inl (cI, r57, .inl r58)), ((am 28), .inr (8, [.ref q35, .int (size_m28 + 1)])), (q35, .inl (cI, r33, .inl (upd r34 (Int32.toNatClampNeg p1) ((r34 (Int32.toNatClampNeg p1)) + 1))))]) (c_Nm_at l D cI cB cJ cS (am 29) q43 p1 (size_m29 + 1) r41 r42  k68) k_Mo_214 (by decide) ⟨Nat.le_of_ble_eq_true rfl, Nat.le_of_ble_eq_true rfl⟩ rfl 0 rfl [9, 10] [0, 1, 2, 3, 4, 5, 6, 7, 8, 11, 12, 13, 14, 15, 16] rfl (by decide +kernel) rfl (by decide +kernel) (by decide +kernel) rfl rfl (Nat.le_of_ble_eq_true rfl) d_Mo_newNode_103 ⟨show 0 + C4 + C12 + C20 + C28 + C36 + C44 + C52 + C60 + 0 ≤ mc by omega, show 0 + S5 + S13 + S21 + S29 + S37 + S45 + S53 + S61 + 0 ≤ ms by omega⟩ (fun v w hq => ?_)
    obtain ⟨rfl, rfl⟩ := hq
    refine j_norm (pc' := 106) (st' := [.int (r42 (Int32.toNatClampNeg p1))]) (ws' := [(h0, .inr (9, moF am known_h0 thrown_h0 wrong_h0 lastEnd_h0 at_h0 bad_h0 levels_h0 least_h0 found_h0)), ((am 24), .inr (8, [.ref q3, .int (size_m24 + 1)])), (q3, .inl (cI, r1, .inl r2)), ((am 25), .inr (8, [.ref q11, .int (size_m25 + 1)])), (q11, .inl (cI, r9, .inl r10)), ((am 26), .inr (8, [.ref q19, .int (size_m26 + 1)])), (q19, .inl (cI, r17, .inl r18)), ((am 27), .inr (8, [.ref q27, .int (size_m27 + 1)])), (q27, .inl (cI, r25, .inl r26)), ((am 30), .inr (8, [.ref q51, .int (size_m30 + 1)])), (q51, .inl (cI, r49, .inl r50)), ((am 31), .inr (8, [.ref q59, .int (size_m31 + 1)])), (q59, .inl (cI, r57, .inl r58)), ((am 28), .inr (8, [.ref q35, .int (size_m28 + 1)])), (q35, .inl (cI, r33, .inl (upd r34 (Int32.toNatClampNeg p1) ((r34 (Int32.toNatClampNeg p1)) + 1)))), ((am 29), .inr (8, [.ref q43, .int (size_m29 + 1)])), (q43, .inl (cI, r41, .inl r42))]) (cl' := 0 + C4 + C12 + C20 + C28 + C36 + C44 + C52 + C60) (sl' := 0 + S5 + S13 + S21 + S29 + S37 + S45 + S53 + S61) rfl rfl rfl rfl rfl rfl ?_
    refine j_if_ge (tgt := 123) d_Mo_newNode_106 (by decide) (fun c69 => ?_) (fun c69 => ?_)
    · replace h := it_t c69 h
      refine j_aload_n d_Mo_newNode_123 rfl 1 rfl ?_
      refine j_get ig_Mo rfl 0 rfl 31 (by decide) rfl m_1144 rfl d_Mo_newNode_124 ?_
      refine j_getN ig_Nm rfl 11 rfl 0 (by decide) rfl mn_12 rfl d_Mo_newNode_127 ?_
      refine j_aload_n d_Mo_newNode_130 rfl 1 rfl ?_
      refine j_get ig_Mo rfl 0 rfl 30 (by decide) rfl m_1143 rfl d_Mo_newNode_131 ?_
      refine j_iload_n d_Mo_newNode_134 rfl 2 rfl ?_
      replace h := bd_s h
      obtain ⟨_, k70, h⟩ := h
      refine j_callV (n := 1) (As := [.int p1]) (rest := [.ref q59]) (wr := [(h0, .inr (9, moF am known_h0 thrown_h0 wrong_h0 lastEnd_h0 at_h0 bad_h0 levels_h0 least_h0 found_h0)), ((am 24), .inr (8, [.ref q3, .int (size_m24 + 1)])), (q3, .inl (cI, r1, .inl r2)), ((am 25), .inr (8, [.ref q11, .int (size_m25 + 1)])), (q11, .inl (cI, r9, .inl r10)), ((am 26), .inr (8, [.ref q19, .int (size_m26 + 1)])), (q19, .inl (cI, r17, .inl r18)), ((am 27), .inr (8, [.ref q27, .int (size_m27 + 1)])), (q27, .inl (cI, r25, .inl r26)), ((am 31), .inr (8, [.ref q59, .int (size_m31 + 1)])), (q59, .inl (cI, r57, .inl r58)), ((am 28), .inr (8, [.ref q35, .int (size_m28 + 1)])), (q35, .inl (cI, r33, .inl (upd r34 (Int32.toNatClampNeg p1) ((r34 (Int32.toNatClampNeg p1)) + 1)))), ((am 29), .inr (8, [.ref q43, .int (size_m29 + 1)])), (q43, .inl (cI, r41, .inl r42))]) (c_Nm_at l D cI cB cJ cS (am 30) q51 p1 (size_m30 + 1) r49 r50  k70) k_Mo_214 (by decide) ⟨Nat.le_of_ble_eq_true rfl, Nat.le_of_ble_eq_true rfl⟩ rfl 0 rfl [9, 10] [0, 1, 2, 3, 4, 5, 6, 7, 8, 11, 12, 13, 14, 15, 16] rfl (by decide +kernel) rfl (by decide +kernel) (by decide +kernel) rfl rfl (Nat.le_of_ble_eq_true rfl) d_Mo_newNode_135 ⟨show 0 + C4 + C12 + C20 + C28 + C36 + C44 + C52 + C60 + 0 ≤ mc by omega, show 0 + S5 + S13 + S21 + S29 + S37 + S45 + S53 + S61 + 0 ≤ ms by omega⟩ (fun v w hq => ?_)
      obtain ⟨rfl, rfl⟩ := hq
      refine j_norm (pc' := 138) (st' := [.int (r50 (Int32.toNatClampNeg p1)), .ref q59]) (ws' := [(h0, .inr (9, moF am known_h0 thrown_h0 wrong_h0 lastEnd_h0 at_h0 bad_h0 levels_h0 least_h0 found_h0)), ((am 24), .inr (8, [.ref q3, .int (size_m24 + 1)])), (q3, .inl (cI, r1, .inl r2)), ((am 25), .inr (8, [.ref q11, .int (size_m25 + 1)])), (q11, .inl (cI, r9, .inl r10)), ((am 26), .inr (8, [.ref q19, .int (size_m26 + 1)])), (q19, .inl (cI, r17, .inl r18)), ((am 27), .inr (8, [.ref q27, .int (size_m27 + 1)])), (q27, .inl (cI, r25, .inl r26)), ((am 31), .inr (8, [.ref q59, .int (size_m31 + 1)])), (q59, .inl (cI, r57, .inl r58)), ((am 28), .inr (8, [.ref q35, .int (size_m28 + 1)])), (q35, .inl (cI, r33, .inl (upd r34 (Int32.toNatClampNeg p1) ((r34 (Int32.toNatClampNeg p1)) + 1)))), ((am 29), .inr (8, [.ref q43, .int (size_m29 + 1)])), (q43, .inl (cI, r41, .inl r42)), ((am 30), .inr (8, [.ref q51, .int (size_m30 + 1)])), (q51, .inl (cI, r49, .inl r50))]) (cl' := 0 + C4 + C12 + C20 + C28 + C36 + C44 + C52 + C60) (sl' := 0 + S5 + S13 + S21 + S29 + S37 + S45 + S53 + S61) rfl rfl rfl rfl rfl rfl ?_
      refine j_iload d_Mo_newNode_138 0 rfl ?_
      replace h := inb_s h
      obtain ⟨i71, h⟩ := h
      refine j_iast (t0 := 0) (ws' := [(h0, .inr (9, moF am known_h0 thrown_h0 wrong_h0 lastEnd_h0 at_h0 bad_h0 levels_h0 least_h0 found_h0)), ((am 24), .inr (8, [.ref q3, .int (size_m24 + 1)])), (q3, .inl (cI, r1, .inl r2)), ((am 25), .inr (8, [.ref q11, .int (size_m25 + 1)])), (q11, .inl (cI, r9, .inl r10)), ((am 26), .inr (8, [.ref q19, .int (size_m26 + 1)])), (q19, .inl (cI, r17, .inl r18)), ((am 27), .inr (8, [.ref q27, .int (size_m27 + 1)])), (q27, .inl (cI, r25, .inl r26)), ((am 31), .inr (8, [.ref q59, .int (size_m31 + 1)])), (q59, .inl (cI, r57, .inl (upd r58 (Int32.toNatClampNeg (r50 (Int32.toNatClampNeg p1))) size_m24))), ((am 28), .inr (8, [.ref q35, .int (size_m28 + 1)])), (q35, .inl (cI, r33, .inl (upd r34 (Int32.toNatClampNeg p1) ((r34 (Int32.toNatClampNeg p1)) + 1)))), ((am 29), .inr (8, [.ref q43, .int (size_m29 + 1)])), (q43, .inl (cI, r41, .inl r42)), ((am 30), .inr (8, [.ref q51, .int (size_m30 + 1)])), (q51, .inl (cI, r49, .inl r50))]) 10 rfl rfl i71 d_Mo_newNode_140 rfl ?_
      refine j_aload_n d_Mo_newNode_141 rfl 1 rfl ?_
      refine j_get ig_Mo rfl 0 rfl 30 (by decide) rfl m_1143 rfl d_Mo_newNode_142 ?_
      refine j_getN ig_Nm rfl 15 rfl 0 (by decide) rfl mn_12 rfl d_Mo_newNode_145 ?_
      refine j_iload_n d_Mo_newNode_148 rfl 2 rfl ?_
      refine j_iload d_Mo_newNode_149 0 rfl ?_
      replace h := inb_s h
      obtain ⟨i72, h⟩ := h
      refine j_iast (t0 := 0) (ws' := [(h0, .inr (9, moF am known_h0 thrown_h0 wrong_h0 lastEnd_h0 at_h0 bad_h0 levels_h0 least_h0 found_h0)), ((am 24), .inr (8, [.ref q3, .int (size_m24 + 1)])), (q3, .inl (cI, r1, .inl r2)), ((am 25), .inr (8, [.ref q11, .int (size_m25 + 1)])), (q11, .inl (cI, r9, .inl r10)), ((am 26), .inr (8, [.ref q19, .int (size_m26 + 1)])), (q19, .inl (cI, r17, .inl r18)), ((am 27), .inr (8, [.ref q27, .int (size_m27 + 1)])), (q27, .inl (cI, r25, .inl r26)), ((am 31), .inr (8, [.ref q59, .int (size_m31 + 1)])), (q59, .inl (cI, r57, .inl (upd r58 (Int32.toNatClampNeg (r50 (Int32.toNatClampNeg p1))) size_m24))), ((am 28), .inr (8, [.ref q35, .int (size_m28 + 1)])), (q35, .inl (cI, r33, .inl (upd r34 (Int32.toNatClampNeg p1) ((r34 (Int32.toNatClampNeg p1)) + 1)))), ((am 29), .inr (8, [.ref q43, .int (size_m29 + 1)])), (q43, .inl (cI, r41, .inl r42)), ((am 30), .inr (8, [.ref q51, .int (size_m30 + 1)])), (q51, .inl (cI, r49, .inl (upd r50 (Int32.toNatClampNeg p1) size_m24)))]) 16 rfl rfl i72 d_Mo_newNode_151 rfl ?_
      refine j_iload d_Mo_newNode_152 0 rfl ?_
      replace h := lf_s h
      obtain ⟨h, e1, e2⟩ := h
      replace h := Prod.mk.inj h
      obtain ⟨h9, h⟩ := h
      subst h9
      replace h := Prod.mk.inj h
      obtain ⟨h9, h⟩ := h
      subst h9
      replace h := Prod.mk.inj h
      obtain ⟨h9, h⟩ := h
      subst h9
      replace h := Prod.mk.inj h
      obtain ⟨h9, h⟩ := h
      subst h9
      replace h := Prod.mk.inj h
      obtain ⟨h9, h⟩ := h
      subst h9
      replace h := Prod.mk.inj h
      obtain ⟨h9, h⟩ := h
      subst h9
      replace h := Prod.mk.inj h
      obtain ⟨h9, h⟩ := h
      subst h9
      replace h := Prod.mk.inj h
      obtain ⟨h9, h⟩ := h
      subst h9
      replace h := Prod.mk.inj h
      obtain ⟨h9, h⟩ := h
      subst h9
      replace h := Prod.mk.inj h
      obtain ⟨h9, h⟩ := h
      subst h9
      replace h := Prod.mk.inj h
      obtain ⟨h9, h⟩ := h
      subst h9
      replace h := Prod.mk.inj h
      obtain ⟨h9, h⟩ := h
      subst h9
      replace h := Prod.mk.inj h
      obtain ⟨h9, h⟩ := h
      subst h9
      replace h := Prod.mk.inj h
      obtain ⟨h9, h⟩ := h
      subst h9
      replace h := Prod.mk.inj h
      obtain ⟨h9, h⟩ := h
      subst h9
      replace h := Prod.mk.inj h
      obtain ⟨h9, h⟩ := h
      subst h9
      replace h := Prod.mk.inj h
      obtain ⟨h9, h⟩ := h
      subst h9
      replace h := Prod.mk.inj h
      obtain ⟨h9, h⟩ := h
      subst h9
      subst h
      refine j_widen (cl' := mc) (sl' := ms) (by omega) (by omega) ?_
      exact j_iret (w := [(h0, .inr (9, moF am known_h0 thrown_h0 wrong_h0 lastEnd_h0 at_h0 bad_h0 levels_h0 least_h0 found_h0)), ((am 24), .inr (8, [.ref q3, .int (size_m24 + 1)])), ((am 25), .inr (8, [.ref q11, .int (size_m25 + 1)])), ((am 26), .inr (8, [.ref q19, .int (size_m26 + 1)])), ((am 27), .inr (8, [.ref q27, .int (size_m27 + 1)])), ((am 28), .inr (8, [.ref q35, .int (size_m28 + 1)])), ((am 29), .inr (8, [.ref q43, .int (size_m29 + 1)])), ((am 30), .inr (8, [.ref q51, .int (size_m30 + 1)])), ((am 31), .inr (8, [.ref q59, .int (size_m31 + 1)])), (q3, .inl (cI, r1, .inl r2)), (q11, .inl (cI, r9, .inl r10)), (q19, .inl (cI, r17, .inl r18)), (q27, .inl (cI, r25, .inl r26)), (q35, .inl (cI, r33, .inl (upd r34 (Int32.toNatClampNeg p1) ((r34 (Int32.toNatClampNeg p1)) + 1)))), (q43, .inl (cI, r41, .inl r42)), (q51, .inl (cI, r49, .inl (upd r50 (Int32.toNatClampNeg p1) size_m24))), (q59, .inl (cI, r57, .inl (upd r58 (Int32.toNatClampNeg (r50 (Int32.toNatClampNeg p1))) size_m24)))]) hr d_Mo_newNode_154 [0, 1, 3, 5, 7, 11, 13, 15, 9, 2, 4, 6, 8, 12, 14, 16, 10] rfl (by decide) ⟨q3, q11, q19, q27, q35, q43, q51, q59, rfl, rfl⟩
    · replace h := it_f c69 h
      refine j_aload_n d_Mo_newNode_109 rfl 1 rfl ?_
      refine j_get ig_Mo rfl 0 rfl 29 (by decide) rfl m_1142 rfl d_Mo_newNode_110 ?_
      refine j_getN ig_Nm rfl 15 rfl 0 (by decide) rfl mn_12 rfl d_Mo_newNode_113 ?_
      refine j_iload_n d_Mo_newNode_116 rfl 2 rfl ?_
      refine j_iload d_Mo_newNode_117 0 rfl ?_
      replace h := inb_s h
      obtain ⟨i73, h⟩ := h
      refine j_iast (t0 := 0) (ws' := [(h0, .inr (9, moF am known_h0 thrown_h0 wrong_h0 lastEnd_h0 at_h0 bad_h0 levels_h0 least_h0 found_h0)), ((am 24), .inr (8, [.ref q3, .int (size_m24 + 1)])), (q3, .inl (cI, r1, .inl r2)), ((am 25), .inr (8, [.ref q11, .int (size_m25 + 1)])), (q11, .inl (cI, r9, .inl r10)), ((am 26), .inr (8, [.ref q19, .int (size_m26 + 1)])), (q19, .inl (cI, r17, .inl r18)), ((am 27), .inr (8, [.ref q27, .int (size_m27 + 1)])), (q27, .inl (cI, r25, .inl r26)), ((am 30), .inr (8, [.ref q51, .int (size_m30 + 1)])), (q51, .inl (cI, r49, .inl r50)), ((am 31), .inr (8, [.ref q59, .int (size_m31 + 1)])), (q59, .inl (cI, r57, .inl r58)), ((am 28), .inr (8, [.ref q35, .int (size_m28 + 1)])), (q35, .inl (cI, r33, .inl (upd r34 (Int32.toNatClampNeg p1) ((r34 (Int32.toNatClampNeg p1)) + 1)))), ((am 29), .inr (8, [.ref q43, .int (size_m29 + 1)])), (q43, .inl (cI, r41, .inl (upd r42 (Int32.toNatClampNeg p1) size_m24)))]) 16 rfl rfl i73 d_Mo_newNode_119 rfl ?_
      refine j_goto (tgt := 141) d_Mo_newNode_120 (by decide) ?_
      refine j_aload_n d_Mo_newNode_141 rfl 1 rfl ?_
      refine j_get ig_Mo rfl 0 rfl 30 (by decide) rfl m_1143 rfl d_Mo_newNode_142 ?_
      refine j_getN ig_Nm rfl 9 rfl 0 (by decide) rfl mn_12 rfl d_Mo_newNode_145 ?_
      refine j_iload_n d_Mo_newNode_148 rfl 2 rfl ?_
      refine j_iload d_Mo_newNode_149 0 rfl ?_
      replace h := inb_s h
      obtain ⟨i74, h⟩ := h
      refine j_iast (t0 := 0) (ws' := [(h0, .inr (9, moF am known_h0 thrown_h0 wrong_h0 lastEnd_h0 at_h0 bad_h0 levels_h0 least_h0 found_h0)), ((am 24), .inr (8, [.ref q3, .int (size_m24 + 1)])), (q3, .inl (cI, r1, .inl r2)), ((am 25), .inr (8, [.ref q11, .int (size_m25 + 1)])), (q11, .inl (cI, r9, .inl r10)), ((am 26), .inr (8, [.ref q19, .int (size_m26 + 1)])), (q19, .inl (cI, r17, .inl r18)), ((am 27), .inr (8, [.ref q27, .int (size_m27 + 1)])), (q27, .inl (cI, r25, .inl r26)), ((am 30), .inr (8, [.ref q51, .int (size_m30 + 1)])), (q51, .inl (cI, r49, .inl (upd r50 (Int32.toNatClampNeg p1) size_m24))), ((am 31), .inr (8, [.ref q59, .int (size_m31 + 1)])), (q59, .inl (cI, r57, .inl r58)), ((am 28), .inr (8, [.ref q35, .int (size_m28 + 1)])), (q35, .inl (cI, r33, .inl (upd r34 (Int32.toNatClampNeg p1) ((r34 (Int32.toNatClampNeg p1)) + 1)))), ((am 29), .inr (8, [.ref q43, .int (size_m29 + 1)])), (q43, .inl (cI, r41, .inl (upd r42 (Int32.toNatClampNeg p1) size_m24)))]) 10 rfl rfl i74 d_Mo_newNode_151 rfl ?_
      refine j_iload d_Mo_newNode_152 0 rfl ?_
      replace h := lf_s h
      obtain ⟨h, e1, e2⟩ := h
      replace h := Prod.mk.inj h
      obtain ⟨h9, h⟩ := h
      subst h9
      replace h := Prod.mk.inj h
      obtain ⟨h9, h⟩ := h
      subst h9
      replace h := Prod.mk.inj h
      obtain ⟨h9, h⟩ := h
      subst h9
      replace h := Prod.mk.inj h
      obtain ⟨h9, h⟩ := h
      subst h9
      replace h := Prod.mk.inj h
      obtain ⟨h9, h⟩ := h
      subst h9
      replace h := Prod.mk.inj h
      obtain ⟨h9, h⟩ := h
      subst h9
      replace h := Prod.mk.inj h
      obtain ⟨h9, h⟩ := h
      subst h9
      replace h := Prod.mk.inj h
      obtain ⟨h9, h⟩ := h
      subst h9
      replace h := Prod.mk.inj h
      obtain ⟨h9, h⟩ := h
      subst h9
      replace h := Prod.mk.inj h
      obtain ⟨h9, h⟩ := h
      subst h9
      replace h := Prod.mk.inj h
      obtain ⟨h9, h⟩ := h
      subst h9
      replace h := Prod.mk.inj h
      obtain ⟨h9, h⟩ := h
      subst h9
      replace h := Prod.mk.inj h
      obtain ⟨h9, h⟩ := h
      subst h9
      replace h := Prod.mk.inj h
      obtain ⟨h9, h⟩ := h
      subst h9
      replace h := Prod.mk.inj h
      obtain ⟨h9, h⟩ := h
      subst h9
      replace h := Prod.mk.inj h
      obtain ⟨h9, h⟩ := h
      subst h9
      replace h := Prod.mk.inj h
      obtain ⟨h9, h⟩ := h
      subst h9
      replace h := Prod.mk.inj h
      obtain ⟨h9, h⟩ := h
      subst h9
      subst h
      refine j_widen (cl' := mc) (sl' := ms) (by omega) (by omega) ?_
      exact j_iret (w := [(h0, .inr (9, moF am known_h0 thrown_h0 wrong_h0 lastEnd_h0 at_h0 bad_h0 levels_h0 least_h0 found_h0)), ((am 24), .inr (8, [.ref q3, .int (size_m24 + 1)])), ((am 25), .inr (8, [.ref q11, .int (size_m25 + 1)])), ((am 26), .inr (8, [.ref q19, .int (size_m26 + 1)])), ((am 27), .inr (8, [.ref q27, .int (size_m27 + 1)])), ((am 28), .inr (8, [.ref q35, .int (size_m28 + 1)])), ((am 29), .inr (8, [.ref q43, .int (size_m29 + 1)])), ((am 30), .inr (8, [.ref q51, .int (size_m30 + 1)])), ((am 31), .inr (8, [.ref q59, .int (size_m31 + 1)])), (q3, .inl (cI, r1, .inl r2)), (q11, .inl (cI, r9, .inl r10)), (q19, .inl (cI, r17, .inl r18)), (q27, .inl (cI, r25, .inl r26)), (q35, .inl (cI, r33, .inl (upd r34 (Int32.toNatClampNeg p1) ((r34 (Int32.toNatClampNeg p1)) + 1)))), (q43, .inl (cI, r41, .inl (upd r42 (Int32.toNatClampNeg p1) size_m24))), (q51, .inl (cI, r49, .inl (upd r50 (Int32.toNatClampNeg p1) size_m24))), (q59, .inl (cI, r57, .inl r58))]) hr d_Mo_newNode_154 [0, 1, 3, 5, 7, 13, 15, 9, 11, 2, 4, 6, 8, 14, 16, 10, 12] rfl (by decide) ⟨q3, q11, q19, q27, q35, q43, q51, q59, rfl, rfl⟩
def F_Mo_placeOf (p1 : Int32) (known_h0 : Int32) (thrown_h0 : Int32) (wrong_h0 : Int32) (lastEnd_h0 : Int32) (at_h0 : Int32) (bad_h0 : Int32) (levels_h0 : Int32) (least_h0 : Int32) (found_h0 : Int32) (size_m6 : Int32) (n_a_all_m6 : Nat) (b_a_all_m6 : Nat → Int32) : Option (Unit) :=
  Option.bind (F_Nm_at p1 size_m6 n_a_all_m6 b_a_all_m6) fun _ =>
  (some ())
theorem d_Mo_placeOf_0 : decode prog_12_method_51_code 0 = .ok (.aload_n 0, 1) := by decide +kernel
theorem d_Mo_placeOf_1 : decode prog_12_method_51_code 1 = .ok (.getfield 117, 3) := by decide +kernel
theorem d_Mo_placeOf_4 : decode prog_12_method_51_code 4 = .ok (.iload_n 1, 1) := by decide +kernel
theorem d_Mo_placeOf_5 : decode prog_12_method_51_code 5 = .ok (.invokevirtual 214, 3) := by decide +kernel
theorem d_Mo_placeOf_8 : decode prog_12_method_51_code 8 = .ok (.ireturn, 1) := by decide +kernel
set_option maxHeartbeats 4000000 in
set_option maxRecDepth 100000 in
theorem c_Mo_placeOf (l : Launch) (D : va_G) (cI cB cJ cS : ClassId) (h0 : Nat) (am : Nat → Nat) (a_all_m6 : Nat) (p1 : Int32) (known_h0 : Int32) (thrown_h0 : Int32) (wrong_h0 : Int32) (lastEnd_h0 : Int32) (at_h0 : Int32) (bad_h0 : Int32) (levels_h0 : Int32) (least_h0 : Int32) (found_h0 : Int32) (size_m6 : Int32) (n_a_all_m6 : Nat) (b_a_all_m6 : Nat → Int32) (h : F_Mo_placeOf p1 known_h0 thrown_h0 wrong_h0 lastEnd_h0 at_h0 bad_h0 levels_h0 least_h0 found_h0 size_m6 n_a_all_m6 b_a_all_m6 = some ()) : Ct l D (gT cI cB cJ cS) y_Mo_placeOf prog_12_method_51_code 2 (Option.some Jvm.ClassFile.FieldType.int) 1 21 0 0 [.ref h0, .int p1] [(h0, .inr (9, moF am known_h0 thrown_h0 wrong_h0 lastEnd_h0 at_h0 bad_h0 levels_h0 least_h0 found_h0)), ((am 6), .inr (8, [.ref a_all_m6, .int size_m6])), (a_all_m6, .inl (cI, n_a_all_m6, .inl b_a_all_m6))] (fun v w => v = some (.int (b_a_all_m6 (Int32.toNatClampNeg p1))) ∧ w = [(h0, .inr (9, moF am known_h0 thrown_h0 wrong_h0 lastEnd_h0 at_h0 bad_h0 levels_h0 least_h0 found_h0)), ((am 6), .inr (8, [.ref a_all_m6, .int size_m6])), (a_all_m6, .inl (cI, n_a_all_m6, .inl b_a_all_m6))]) := by
  refine Ct.mk (by decide) (Nat.le_of_ble_eq_true rfl) ?_
  intro p e s m below meth c hr hnm
  refine j_norm (pc' := 0) (lv' := [(0, .ref h0), (1, .int p1)]) (st' := []) (ws' := [(h0, .inr (9, moF am known_h0 thrown_h0 wrong_h0 lastEnd_h0 at_h0 bad_h0 levels_h0 least_h0 found_h0)), ((am 6), .inr (8, [.ref a_all_m6, .int size_m6])), (a_all_m6, .inl (cI, n_a_all_m6, .inl b_a_all_m6))]) (cl' := 0) (sl' := 0) rfl rfl rfl rfl rfl rfl ?_
  unfold F_Mo_placeOf at h
  refine j_aload_n d_Mo_placeOf_0 rfl 0 rfl ?_
  refine j_get ig_Mo rfl 0 rfl 6 (by decide) rfl m_1119 rfl d_Mo_placeOf_1 ?_
  refine j_iload_n d_Mo_placeOf_4 rfl 1 rfl ?_
  replace h := bd_s h
  obtain ⟨_, k1, h⟩ := h
  refine j_callV (n := 1) (As := [.int p1]) (rest := []) (wr := [(h0, .inr (9, moF am known_h0 thrown_h0 wrong_h0 lastEnd_h0 at_h0 bad_h0 levels_h0 least_h0 found_h0))]) (c_Nm_at l D cI cB cJ cS (am 6) a_all_m6 p1 size_m6 n_a_all_m6 b_a_all_m6  k1) k_Mo_214 (by decide) ⟨Nat.le_of_ble_eq_true rfl, Nat.le_of_ble_eq_true rfl⟩ rfl 0 rfl [1, 2] [0] rfl (by decide) rfl (by decide) (by decide) rfl rfl (Nat.le_of_ble_eq_true rfl) d_Mo_placeOf_5 ⟨Nat.le_of_ble_eq_true rfl, Nat.le_of_ble_eq_true rfl⟩ (fun v w hq => ?_)
  obtain ⟨rfl, rfl⟩ := hq
  refine j_norm (pc' := 8) (st' := [.int (b_a_all_m6 (Int32.toNatClampNeg p1))]) (ws' := [(h0, .inr (9, moF am known_h0 thrown_h0 wrong_h0 lastEnd_h0 at_h0 bad_h0 levels_h0 least_h0 found_h0)), ((am 6), .inr (8, [.ref a_all_m6, .int size_m6])), (a_all_m6, .inl (cI, n_a_all_m6, .inl b_a_all_m6))]) (cl' := 0) (sl' := 0) rfl rfl rfl rfl rfl rfl ?_
  replace h := Option.some.inj h
  exact j_iret (w := [(h0, .inr (9, moF am known_h0 thrown_h0 wrong_h0 lastEnd_h0 at_h0 bad_h0 levels_h0 least_h0 found_h0)), ((am 6), .inr (8, [.ref a_all_m6, .int size_m6])), (a_all_m6, .inl (cI, n_a_all_m6, .inl b_a_all_m6))]) hr d_Mo_placeOf_8 [0, 1, 2] rfl (by decide) ⟨rfl, rfl⟩
noncomputable def F_Mo_task (p1 : Int32) (p2 : Int32) (p3 : Int32) (p4 : Int32) (p5 : Int32) (known_h0 : Int32) (thrown_h0 : Int32) (wrong_h0 : Int32) (lastEnd_h0 : Int32) (at_h0 : Int32) (bad_h0 : Int32) (levels_h0 : Int32) (least_h0 : Int32) (found_h0 : Int32) (size_m33 : Int32) (n_a_all_m33 : Nat) (b_a_all_m33 : Nat → Int32) : Option ((Nat × (Nat → Int32)) × Nat × Nat) :=
  bw (F_Nm_add p1 size_m33 n_a_all_m33 b_a_all_m33) fun ⟨r1, r2⟩ =>
  bw (F_Nm_add p2 (size_m33 + 1) r1 r2) fun ⟨r9, r10⟩ =>
  bw (F_Nm_add p3 ((size_m33 + 1) + 1) r9 r10) fun ⟨r17, r18⟩ =>
  bw (F_Nm_add p4 (((size_m33 + 1) + 1) + 1) r17 r18) fun ⟨r25, r26⟩ =>
  bw (F_Nm_add p5 ((((size_m33 + 1) + 1) + 1) + 1) r25 r26) fun ⟨r33, r34⟩ =>
  (some ((r33, r34), 0, 0))
theorem d_Mo_task_0 : decode prog_12_method_52_code 0 = .ok (.aload_n 0, 1) := by decide +kernel
theorem d_Mo_task_1 : decode prog_12_method_52_code 1 = .ok (.getfield 178, 3) := by decide +kernel
theorem d_Mo_task_4 : decode prog_12_method_52_code 4 = .ok (.iload_n 1, 1) := by decide +kernel
theorem d_Mo_task_5 : decode prog_12_method_52_code 5 = .ok (.invokevirtual 200, 3) := by decide +kernel
theorem d_Mo_task_8 : decode prog_12_method_52_code 8 = .ok (.aload_n 0, 1) := by decide +kernel
theorem d_Mo_task_9 : decode prog_12_method_52_code 9 = .ok (.getfield 178, 3) := by decide +kernel
theorem d_Mo_task_12 : decode prog_12_method_52_code 12 = .ok (.iload_n 2, 1) := by decide +kernel
theorem d_Mo_task_13 : decode prog_12_method_52_code 13 = .ok (.invokevirtual 200, 3) := by decide +kernel
theorem d_Mo_task_16 : decode prog_12_method_52_code 16 = .ok (.aload_n 0, 1) := by decide +kernel
theorem d_Mo_task_17 : decode prog_12_method_52_code 17 = .ok (.getfield 178, 3) := by decide +kernel
theorem d_Mo_task_20 : decode prog_12_method_52_code 20 = .ok (.iload_n 3, 1) := by decide +kernel
theorem d_Mo_task_21 : decode prog_12_method_52_code 21 = .ok (.invokevirtual 200, 3) := by decide +kernel
theorem d_Mo_task_24 : decode prog_12_method_52_code 24 = .ok (.aload_n 0, 1) := by decide +kernel
theorem d_Mo_task_25 : decode prog_12_method_52_code 25 = .ok (.getfield 178, 3) := by decide +kernel
theorem d_Mo_task_28 : decode prog_12_method_52_code 28 = .ok (.iload 4, 2) := by decide +kernel
theorem d_Mo_task_30 : decode prog_12_method_52_code 30 = .ok (.invokevirtual 200, 3) := by decide +kernel
theorem d_Mo_task_33 : decode prog_12_method_52_code 33 = .ok (.aload_n 0, 1) := by decide +kernel
theorem d_Mo_task_34 : decode prog_12_method_52_code 34 = .ok (.getfield 178, 3) := by decide +kernel
theorem d_Mo_task_37 : decode prog_12_method_52_code 37 = .ok (.iload 5, 2) := by decide +kernel
theorem d_Mo_task_39 : decode prog_12_method_52_code 39 = .ok (.invokevirtual 200, 3) := by decide +kernel
theorem d_Mo_task_42 : decode prog_12_method_52_code 42 = .ok (.return_, 1) := by decide +kernel
set_option maxHeartbeats 4000000 in
set_option maxRecDepth 100000 in
theorem c_Mo_task (l : Launch) (D : va_G) (cI cB cJ cS : ClassId) (h0 : Nat) (am : Nat → Nat) (a_all_m33 : Nat) (p1 : Int32) (p2 : Int32) (p3 : Int32) (p4 : Int32) (p5 : Int32) (known_h0 : Int32) (thrown_h0 : Int32) (wrong_h0 : Int32) (lastEnd_h0 : Int32) (at_h0 : Int32) (bad_h0 : Int32) (levels_h0 : Int32) (least_h0 : Int32) (found_h0 : Int32) (size_m33 : Int32) (n_a_all_m33 : Nat) (b_a_all_m33 : Nat → Int32) (on_nq_1_0 : Nat) (ob_nq_1_0 : Nat → Int32) (mc ms : Nat) (h : F_Mo_task p1 p2 p3 p4 p5 known_h0 thrown_h0 wrong_h0 lastEnd_h0 at_h0 bad_h0 levels_h0 least_h0 found_h0 size_m33 n_a_all_m33 b_a_all_m33 = some ((on_nq_1_0, ob_nq_1_0), mc, ms)) : Ct l D (gT cI cB cJ cS) y_Mo_task prog_12_method_52_code 6 (Option.none : Option Jvm.ClassFile.FieldType) 1 23 mc ms [.ref h0, .int p1, .int p2, .int p3, .int p4, .int p5] [(h0, .inr (9, moF am known_h0 thrown_h0 wrong_h0 lastEnd_h0 at_h0 bad_h0 levels_h0 least_h0 found_h0)), ((am 33), .inr (8, [.ref a_all_m33, .int size_m33])), (a_all_m33, .inl (cI, n_a_all_m33, .inl b_a_all_m33))] (fun v w => ∃ nq_1_0 : Nat, v = none ∧ w = [(h0, .inr (9, moF am known_h0 thrown_h0 wrong_h0 lastEnd_h0 at_h0 bad_h0 levels_h0 least_h0 found_h0)), ((am 33), .inr (8, [.ref nq_1_0, .int (((((size_m33 + 1) + 1) + 1) + 1) + 1)])), (nq_1_0, .inl (cI, on_nq_1_0, .inl ob_nq_1_0))]) := by
  refine Ct.mk (by decide) (Nat.le_of_ble_eq_true rfl) ?_
  intro p e s m below meth c hr hnm
  refine j_norm (pc' := 0) (lv' := [(0, .ref h0), (1, .int p1), (2, .int p2), (3, .int p3), (4, .int p4), (5, .int p5)]) (st' := []) (ws' := [(h0, .inr (9, moF am known_h0 thrown_h0 wrong_h0 lastEnd_h0 at_h0 bad_h0 levels_h0 least_h0 found_h0)), ((am 33), .inr (8, [.ref a_all_m33, .int size_m33])), (a_all_m33, .inl (cI, n_a_all_m33, .inl b_a_all_m33))]) (cl' := 0) (sl' := 0) rfl rfl rfl rfl rfl rfl ?_
  unfold F_Mo_task at h
  have hC : 0 + mc ≤ mc := by omega
  have hS : 0 + ms ≤ ms := by omega
  refine j_aload_n d_Mo_task_0 rfl 0 rfl ?_
  refine j_get ig_Mo rfl 0 rfl 33 (by decide) rfl m_1146 rfl d_Mo_task_1 ?_
  refine j_iload_n d_Mo_task_4 rfl 1 rfl ?_
  replace h := bw_s h
  obtain ⟨⟨r1, r2⟩, C4, S5, C6, S7, k8, h, e1, e2⟩ := h
  replace hC : 0 + C4 + C6 ≤ mc := by omega
  replace hS : 0 + S5 + S7 ≤ ms := by omega
  clear e1 e2
  refine j_callV (n := 1) (As := [.int p1]) (rest := []) (wr := [(h0, .inr (9, moF am known_h0 thrown_h0 wrong_h0 lastEnd_h0 at_h0 bad_h0 levels_h0 least_h0 found_h0))]) (c_Nm_add l D cI cB cJ cS (am 33) a_all_m33 p1 size_m33 n_a_all_m33 b_a_all_m33  r1 r2 C4 S5 k8) k_Mo_200 (by decide) ⟨Nat.le_of_ble_eq_true rfl, Nat.le_of_ble_eq_true rfl⟩ rfl 0 rfl [1, 2] [0] rfl (by decide) rfl (by decide) (by decide) rfl rfl (Nat.le_of_ble_eq_true rfl) d_Mo_task_5 ⟨show 0 + C4 ≤ mc by omega, show 0 + S5 ≤ ms by omega⟩ (fun v w hq => ?_)
  obtain ⟨q3, rfl, rfl⟩ := hq
  refine j_norm (pc' := 8) (st' := []) (ws' := [(h0, .inr (9, moF am known_h0 thrown_h0 wrong_h0 lastEnd_h0 at_h0 bad_h0 levels_h0 least_h0 found_h0)), ((am 33), .inr (8, [.ref q3, .int (size_m33 + 1)])), (q3, .inl (cI, r1, .inl r2))]) (cl' := 0 + C4) (sl' := 0 + S5) rfl rfl rfl rfl rfl rfl ?_
  refine j_aload_n d_Mo_task_8 rfl 0 rfl ?_
  refine j_get ig_Mo rfl 0 rfl 33 (by decide) rfl m_1146 rfl d_Mo_task_9 ?_
  refine j_iload_n d_Mo_task_12 rfl 2 rfl ?_
  replace h := bw_s h
  obtain ⟨⟨r9, r10⟩, C12, S13, C14, S15, k16, h, e1, e2⟩ := h
  replace hC : 0 + C4 + C12 + C14 ≤ mc := by omega
  replace hS : 0 + S5 + S13 + S15 ≤ ms := by omega
  clear e1 e2
  refine j_callV (n := 1) (As := [.int p2]) (rest := []) (wr := [(h0, .inr (9, moF am known_h0 thrown_h0 wrong_h0 lastEnd_h0 at_h0 bad_h0 levels_h0 least_h0 found_h0))]) (c_Nm_add l D cI cB cJ cS (am 33) q3 p2 (size_m33 + 1) r1 r2  r9 r10 C12 S13 k16) k_Mo_200 (by decide) ⟨Nat.le_of_ble_eq_true rfl, Nat.le_of_ble_eq_true rfl⟩ rfl 0 rfl [1, 2] [0] rfl (by decide) rfl (by decide) (by decide) rfl rfl (Nat.le_of_ble_eq_true rfl) d_Mo_task_13 ⟨show 0 + C4 + C12 ≤ mc by omega, show 0 + S5 + S13 ≤ ms by omega⟩ (fun v w hq => ?_)
  obtain ⟨q11, rfl, rfl⟩ := hq
  refine j_norm (pc' := 16) (st' := []) (ws' := [(h0, .inr (9, moF am known_h0 thrown_h0 wrong_h0 lastEnd_h0 at_h0 bad_h0 levels_h0 least_h0 found_h0)), ((am 33), .inr (8, [.ref q11, .int ((size_m33 + 1) + 1)])), (q11, .inl (cI, r9, .inl r10))]) (cl' := 0 + C4 + C12) (sl' := 0 + S5 + S13) rfl rfl rfl rfl rfl rfl ?_
  refine j_aload_n d_Mo_task_16 rfl 0 rfl ?_
  refine j_get ig_Mo rfl 0 rfl 33 (by decide) rfl m_1146 rfl d_Mo_task_17 ?_
  refine j_iload_n d_Mo_task_20 rfl 3 rfl ?_
  replace h := bw_s h
  obtain ⟨⟨r17, r18⟩, C20, S21, C22, S23, k24, h, e1, e2⟩ := h
  replace hC : 0 + C4 + C12 + C20 + C22 ≤ mc := by omega
  replace hS : 0 + S5 + S13 + S21 + S23 ≤ ms := by omega
  clear e1 e2
  refine j_callV (n := 1) (As := [.int p3]) (rest := []) (wr := [(h0, .inr (9, moF am known_h0 thrown_h0 wrong_h0 lastEnd_h0 at_h0 bad_h0 levels_h0 least_h0 found_h0))]) (c_Nm_add l D cI cB cJ cS (am 33) q11 p3 ((size_m33 + 1) + 1) r9 r10  r17 r18 C20 S21 k24) k_Mo_200 (by decide) ⟨Nat.le_of_ble_eq_true rfl, Nat.le_of_ble_eq_true rfl⟩ rfl 0 rfl [1, 2] [0] rfl (by decide) rfl (by decide) (by decide) rfl rfl (Nat.le_of_ble_eq_true rfl) d_Mo_task_21 ⟨show 0 + C4 + C12 + C20 ≤ mc by omega, show 0 + S5 + S13 + S21 ≤ ms by omega⟩ (fun v w hq => ?_)
  obtain ⟨q19, rfl, rfl⟩ := hq
  refine j_norm (pc' := 24) (st' := []) (ws' := [(h0, .inr (9, moF am known_h0 thrown_h0 wrong_h0 lastEnd_h0 at_h0 bad_h0 levels_h0 least_h0 found_h0)), ((am 33), .inr (8, [.ref q19, .int (((size_m33 + 1) + 1) + 1)])), (q19, .inl (cI, r17, .inl r18))]) (cl' := 0 + C4 + C12 + C20) (sl' := 0 + S5 + S13 + S21) rfl rfl rfl rfl rfl rfl ?_
  refine j_aload_n d_Mo_task_24 rfl 0 rfl ?_
  refine j_get ig_Mo rfl 0 rfl 33 (by decide) rfl m_1146 rfl d_Mo_task_25 ?_
  refine j_iload d_Mo_task_28 4 rfl ?_
  replace h := bw_s h
  obtain ⟨⟨r25, r26⟩, C28, S29, C30, S31, k32, h, e1, e2⟩ := h
  replace hC : 0 + C4 + C12 + C20 + C28 + C30 ≤ mc := by omega
  replace hS : 0 + S5 + S13 + S21 + S29 + S31 ≤ ms := by omega
  clear e1 e2
  refine j_callV (n := 1) (As := [.int p4]) (rest := []) (wr := [(h0, .inr (9, moF am known_h0 thrown_h0 wrong_h0 lastEnd_h0 at_h0 bad_h0 levels_h0 least_h0 found_h0))]) (c_Nm_add l D cI cB cJ cS (am 33) q19 p4 (((size_m33 + 1) + 1) + 1) r17 r18  r25 r26 C28 S29 k32) k_Mo_200 (by decide) ⟨Nat.le_of_ble_eq_true rfl, Nat.le_of_ble_eq_true rfl⟩ rfl 0 rfl [1, 2] [0] rfl (by decide) rfl (by decide) (by decide) rfl rfl (Nat.le_of_ble_eq_true rfl) d_Mo_task_30 ⟨show 0 + C4 + C12 + C20 + C28 ≤ mc by omega, show 0 + S5 + S13 + S21 + S29 ≤ ms by omega⟩ (fun v w hq => ?_)
  obtain ⟨q27, rfl, rfl⟩ := hq
  refine j_norm (pc' := 33) (st' := []) (ws' := [(h0, .inr (9, moF am known_h0 thrown_h0 wrong_h0 lastEnd_h0 at_h0 bad_h0 levels_h0 least_h0 found_h0)), ((am 33), .inr (8, [.ref q27, .int ((((size_m33 + 1) + 1) + 1) + 1)])), (q27, .inl (cI, r25, .inl r26))]) (cl' := 0 + C4 + C12 + C20 + C28) (sl' := 0 + S5 + S13 + S21 + S29) rfl rfl rfl rfl rfl rfl ?_
  refine j_aload_n d_Mo_task_33 rfl 0 rfl ?_
  refine j_get ig_Mo rfl 0 rfl 33 (by decide) rfl m_1146 rfl d_Mo_task_34 ?_
  refine j_iload d_Mo_task_37 5 rfl ?_
  replace h := bw_s h
  obtain ⟨⟨r33, r34⟩, C36, S37, C38, S39, k40, h, e1, e2⟩ := h
  replace hC : 0 + C4 + C12 + C20 + C28 + C36 + C38 ≤ mc := by omega
  replace hS : 0 + S5 + S13 + S21 + S29 + S37 + S39 ≤ ms := by omega
  clear e1 e2
  refine j_callV (n := 1) (As := [.int p5]) (rest := []) (wr := [(h0, .inr (9, moF am known_h0 thrown_h0 wrong_h0 lastEnd_h0 at_h0 bad_h0 levels_h0 least_h0 found_h0))]) (c_Nm_add l D cI cB cJ cS (am 33) q27 p5 ((((size_m33 + 1) + 1) + 1) + 1) r25 r26  r33 r34 C36 S37 k40) k_Mo_200 (by decide) ⟨Nat.le_of_ble_eq_true rfl, Nat.le_of_ble_eq_true rfl⟩ rfl 0 rfl [1, 2] [0] rfl (by decide) rfl (by decide) (by decide) rfl rfl (Nat.le_of_ble_eq_true rfl) d_Mo_task_39 ⟨show 0 + C4 + C12 + C20 + C28 + C36 ≤ mc by omega, show 0 + S5 + S13 + S21 + S29 + S37 ≤ ms by omega⟩ (fun v w hq => ?_)
  obtain ⟨q35, rfl, rfl⟩ := hq
  refine j_norm (pc' := 42) (st' := []) (ws' := [(h0, .inr (9, moF am known_h0 thrown_h0 wrong_h0 lastEnd_h0 at_h0 bad_h0 levels_h0 least_h0 found_h0)), ((am 33), .inr (8, [.ref q35, .int (((((size_m33 + 1) + 1) + 1) + 1) + 1)])), (q35, .inl (cI, r33, .inl r34))]) (cl' := 0 + C4 + C12 + C20 + C28 + C36) (sl' := 0 + S5 + S13 + S21 + S29 + S37) rfl rfl rfl rfl rfl rfl ?_
  replace h := lf_s h
  obtain ⟨h, e1, e2⟩ := h
  replace h := Prod.mk.inj h
  obtain ⟨h9, h⟩ := h
  subst h9
  subst h
  refine j_widen (cl' := mc) (sl' := ms) (by omega) (by omega) ?_
  exact j_vret (w := [(h0, .inr (9, moF am known_h0 thrown_h0 wrong_h0 lastEnd_h0 at_h0 bad_h0 levels_h0 least_h0 found_h0)), ((am 33), .inr (8, [.ref q35, .int (((((size_m33 + 1) + 1) + 1) + 1) + 1)])), (q35, .inl (cI, r33, .inl r34))]) hr d_Mo_task_42 [0, 1, 2] rfl (by decide) ⟨q35, rfl, rfl⟩
noncomputable def F_Mo_pushTasks_16 (size_m33 : Int32) (n_a_all_m33 : Nat) (b_a_all_m33 : Nat → Int32) (v1_10 : Int32) (K_10 : Int32 → Int32 → Nat → (Nat → Int32) → Option ((Int32 × Nat × (Nat → Int32)) × Nat × Nat)) : Nat → Int32 → Int32 → Nat → (Nat → Int32) → Option ((Int32 × Nat × (Nat → Int32)) × Nat × Nat)
  | 0, _, _, _, _ => none
  | k_16 + 1, v2_16, f3_1_16, n4_16, b4_16 =>
    if 5 ≤ v2_16 then (K_10 (v1_10 - 5) f3_1_16 n4_16 b4_16)
    else (Option.bind (F_Nm_at (v1_10 + v2_16) size_m33 n_a_all_m33 b_a_all_m33) fun _ =>
      bw (F_Nm_add (b_a_all_m33 (Int32.toNatClampNeg (v1_10 + v2_16))) f3_1_16 n4_16 b4_16) fun ⟨r3, r4⟩ =>
      F_Mo_pushTasks_16 size_m33 n_a_all_m33 b_a_all_m33 v1_10 K_10 k_16 (v2_16 + 1) (f3_1_16 + 1) r3 r4)
noncomputable def F_Mo_pushTasks_10 (size_m33 : Int32) (n_a_all_m33 : Nat) (b_a_all_m33 : Nat → Int32) : Nat → Int32 → Int32 → Nat → (Nat → Int32) → Option ((Int32 × Nat × (Nat → Int32)) × Nat × Nat)
  | 0, _, _, _, _ => none
  | k_10 + 1, v1_10, f3_1_10, n4_10, b4_10 =>
    if v1_10 < 0 then (some ((f3_1_10, n4_10, b4_10), 0, 0))
    else (F_Mo_pushTasks_16 size_m33 n_a_all_m33 b_a_all_m33 v1_10 (F_Mo_pushTasks_10 size_m33 n_a_all_m33 b_a_all_m33  k_10) FU 0 f3_1_10 n4_10 b4_10)
noncomputable def F_Mo_pushTasks (known_h0 : Int32) (thrown_h0 : Int32) (wrong_h0 : Int32) (lastEnd_h0 : Int32) (at_h0 : Int32) (bad_h0 : Int32) (levels_h0 : Int32) (least_h0 : Int32) (found_h0 : Int32) (size_m33 : Int32) (n_a_all_m33 : Nat) (b_a_all_m33 : Nat → Int32) (size_m32 : Int32) (n_a_all_m32 : Nat) (b_a_all_m32 : Nat → Int32) : Option ((Int32 × Nat × (Nat → Int32)) × Nat × Nat) :=
  F_Mo_pushTasks_10 size_m33 n_a_all_m33 b_a_all_m33  FU (size_m33 - 5) size_m32 n_a_all_m32 b_a_all_m32
theorem d_Mo_pushTasks_0 : decode prog_12_method_53_code 0 = .ok (.aload_n 0, 1) := by decide +kernel
theorem d_Mo_pushTasks_1 : decode prog_12_method_53_code 1 = .ok (.getfield 178, 3) := by decide +kernel
theorem d_Mo_pushTasks_4 : decode prog_12_method_53_code 4 = .ok (.getfield 204, 3) := by decide +kernel
theorem d_Mo_pushTasks_7 : decode prog_12_method_53_code 7 = .ok (.iconst 5, 1) := by decide +kernel
theorem d_Mo_pushTasks_8 : decode prog_12_method_53_code 8 = .ok (.isub, 1) := by decide +kernel
theorem d_Mo_pushTasks_9 : decode prog_12_method_53_code 9 = .ok (.istore_n 1, 1) := by decide +kernel
theorem d_Mo_pushTasks_10 : decode prog_12_method_53_code 10 = .ok (.iload_n 1, 1) := by decide +kernel
theorem d_Mo_pushTasks_11 : decode prog_12_method_53_code 11 = .ok (.ifCond .lt 40, 3) := by decide +kernel
theorem d_Mo_pushTasks_14 : decode prog_12_method_53_code 14 = .ok (.iconst 0, 1) := by decide +kernel
theorem d_Mo_pushTasks_15 : decode prog_12_method_53_code 15 = .ok (.istore_n 2, 1) := by decide +kernel
theorem d_Mo_pushTasks_16 : decode prog_12_method_53_code 16 = .ok (.iload_n 2, 1) := by decide +kernel
theorem d_Mo_pushTasks_17 : decode prog_12_method_53_code 17 = .ok (.iconst 5, 1) := by decide +kernel
theorem d_Mo_pushTasks_18 : decode prog_12_method_53_code 18 = .ok (.if_icmp .ge 26, 3) := by decide +kernel
theorem d_Mo_pushTasks_21 : decode prog_12_method_53_code 21 = .ok (.aload_n 0, 1) := by decide +kernel
theorem d_Mo_pushTasks_22 : decode prog_12_method_53_code 22 = .ok (.getfield 175, 3) := by decide +kernel
theorem d_Mo_pushTasks_25 : decode prog_12_method_53_code 25 = .ok (.aload_n 0, 1) := by decide +kernel
theorem d_Mo_pushTasks_26 : decode prog_12_method_53_code 26 = .ok (.getfield 178, 3) := by decide +kernel
theorem d_Mo_pushTasks_29 : decode prog_12_method_53_code 29 = .ok (.iload_n 1, 1) := by decide +kernel
theorem d_Mo_pushTasks_30 : decode prog_12_method_53_code 30 = .ok (.iload_n 2, 1) := by decide +kernel
theorem d_Mo_pushTasks_31 : decode prog_12_method_53_code 31 = .ok (.iadd, 1) := by decide +kernel
theorem d_Mo_pushTasks_32 : decode prog_12_method_53_code 32 = .ok (.invokevirtual 214, 3) := by decide +kernel
theorem d_Mo_pushTasks_35 : decode prog_12_method_53_code 35 = .ok (.invokevirtual 200, 3) := by decide +kernel
theorem d_Mo_pushTasks_38 : decode prog_12_method_53_code 38 = .ok (.iinc 2 1, 3) := by decide +kernel
theorem d_Mo_pushTasks_41 : decode prog_12_method_53_code 41 = .ok (.goto (-25), 3) := by decide +kernel
theorem d_Mo_pushTasks_44 : decode prog_12_method_53_code 44 = .ok (.iload_n 1, 1) := by decide +kernel
theorem d_Mo_pushTasks_45 : decode prog_12_method_53_code 45 = .ok (.iconst 5, 1) := by decide +kernel
theorem d_Mo_pushTasks_46 : decode prog_12_method_53_code 46 = .ok (.isub, 1) := by decide +kernel
theorem d_Mo_pushTasks_47 : decode prog_12_method_53_code 47 = .ok (.istore_n 1, 1) := by decide +kernel
theorem d_Mo_pushTasks_48 : decode prog_12_method_53_code 48 = .ok (.goto (-38), 3) := by decide +kernel
theorem d_Mo_pushTasks_51 : decode prog_12_method_53_code 51 = .ok (.aload_n 0, 1) := by decide +kernel
theorem d_Mo_pushTasks_52 : decode prog_12_method_53_code 52 = .ok (.getfield 178, 3) := by decide +kernel
theorem d_Mo_pushTasks_55 : decode prog_12_method_53_code 55 = .ok (.iconst 0, 1) := by decide +kernel
theorem d_Mo_pushTasks_56 : decode prog_12_method_53_code 56 = .ok (.putfield 204, 3) := by decide +kernel
theorem d_Mo_pushTasks_59 : decode prog_12_method_53_code 59 = .ok (.return_, 1) := by decide +kernel
set_option maxHeartbeats 4000000 in
set_option maxRecDepth 100000 in
theorem L_Mo_pushTasks_10 (l : Launch) (D : va_G) (cI cB cJ cS : ClassId) (h0 : Nat) (am : Nat → Nat) (a_all_m33 : Nat) (a_all_m32 : Nat) (known_h0 : Int32) (thrown_h0 : Int32) (wrong_h0 : Int32) (lastEnd_h0 : Int32) (at_h0 : Int32) (bad_h0 : Int32) (levels_h0 : Int32) (least_h0 : Int32) (found_h0 : Int32) (size_m33 : Int32) (n_a_all_m33 : Nat) (b_a_all_m33 : Nat → Int32) (size_m32 : Int32) (n_a_all_m32 : Nat) (b_a_all_m32 : Nat → Int32) (o_3_1 : Int32) (on_nq_3_0 : Nat) (ob_nq_3_0 : Nat → Int32) (mc ms : Nat) (p : Program) (e : Env) (s : State) (m : MethodId) (below : List Frame) (meth : Method) (c : Code) (hr : meth.sig.returnType = (Option.none : Option Jvm.ClassFile.FieldType)) (hnm : meth.name = y_Mo_pushTasks.name) : ∀ (k_10 : Nat) (q3_0_10 : Nat) (v1_10 : Int32) (f3_1_10 : Int32) (n4_10 : Nat) (b4_10 : Nat → Int32) (cl_10 sl_10 C_10 S_10 : Nat), F_Mo_pushTasks_10 size_m33 n_a_all_m33 b_a_all_m33  k_10 v1_10 f3_1_10 n4_10 b4_10 = some ((o_3_1, on_nq_3_0, ob_nq_3_0), C_10, S_10) → cl_10 + C_10 ≤ mc → sl_10 + S_10 ≤ ms → J (KxOf p l e { frames := 1, cells := mc, slots := ms, locals := 23 } s m [.ref h0].toArray below meth c D (gT cI cB cJ cS) [(h0, .inr (9, moF am known_h0 thrown_h0 wrong_h0 lastEnd_h0 at_h0 bad_h0 levels_h0 least_h0 found_h0)), ((am 33), .inr (8, [.ref a_all_m33, .int size_m33])), (a_all_m33, .inl (cI, n_a_all_m33, .inl b_a_all_m33)), ((am 32), .inr (8, [.ref a_all_m32, .int size_m32])), (a_all_m32, .inl (cI, n_a_all_m32, .inl b_a_all_m32))] (fun v w => ∃ nq_3_0 : Nat, v = none ∧ w = [(h0, .inr (9, moF am known_h0 thrown_h0 wrong_h0 lastEnd_h0 at_h0 bad_h0 levels_h0 least_h0 found_h0)), ((am 33), .inr (8, [.ref a_all_m33, .int 0])), (a_all_m33, .inl (cI, n_a_all_m33, .inl b_a_all_m33)), ((am 32), .inr (8, [.ref nq_3_0, .int o_3_1])), (nq_3_0, .inl (cI, on_nq_3_0, .inl ob_nq_3_0))]) mc ms) prog_12_method_53_code 3 R_Mo 10 [(1, .int v1_10), (0, .ref h0)] [] [(h0, .inr (9, moF am known_h0 thrown_h0 wrong_h0 lastEnd_h0 at_h0 bad_h0 levels_h0 least_h0 found_h0)), ((am 33), .inr (8, [.ref a_all_m33, .int size_m33])), (a_all_m33, .inl (cI, n_a_all_m33, .inl b_a_all_m33)), ((am 32), .inr (8, [.ref q3_0_10, .int f3_1_10])), (q3_0_10, .inl (cI, n4_10, .inl b4_10))] cl_10 sl_10 := by
  intro k_10
  induction k_10 with
  | zero => intro q3_0_10 v1_10 f3_1_10 n4_10 b4_10 cl_10 sl_10 C_10 S_10 h; rw [F_Mo_pushTasks_10] at h; cases h
  | succ k_10 ih_10 =>
    intro q3_0_10 v1_10 f3_1_10 n4_10 b4_10 cl_10 sl_10 C_10 S_10 h hC hS
    rw [F_Mo_pushTasks_10] at h
    have L_16 : ∀ (k_16 : Nat) (q3_0_16 : Nat) (v2_16 : Int32) (f3_1_16 : Int32) (n4_16 : Nat) (b4_16 : Nat → Int32) (cl_16 sl_16 C_16 S_16 : Nat), F_Mo_pushTasks_16 size_m33 n_a_all_m33 b_a_all_m33 v1_10 (F_Mo_pushTasks_10 size_m33 n_a_all_m33 b_a_all_m33  k_10) k_16 v2_16 f3_1_16 n4_16 b4_16 = some ((o_3_1, on_nq_3_0, ob_nq_3_0), C_16, S_16) → cl_16 + C_16 ≤ mc → sl_16 + S_16 ≤ ms → J (KxOf p l e { frames := 1, cells := mc, slots := ms, locals := 23 } s m [.ref h0].toArray below meth c D (gT cI cB cJ cS) [(h0, .inr (9, moF am known_h0 thrown_h0 wrong_h0 lastEnd_h0 at_h0 bad_h0 levels_h0 least_h0 found_h0)), ((am 33), .inr (8, [.ref a_all_m33, .int size_m33])), (a_all_m33, .inl (cI, n_a_all_m33, .inl b_a_all_m33)), ((am 32), .inr (8, [.ref a_all_m32, .int size_m32])), (a_all_m32, .inl (cI, n_a_all_m32, .inl b_a_all_m32))] (fun v w => ∃ nq_3_0 : Nat, v = none ∧ w = [(h0, .inr (9, moF am known_h0 thrown_h0 wrong_h0 lastEnd_h0 at_h0 bad_h0 levels_h0 least_h0 found_h0)), ((am 33), .inr (8, [.ref a_all_m33, .int 0])), (a_all_m33, .inl (cI, n_a_all_m33, .inl b_a_all_m33)), ((am 32), .inr (8, [.ref nq_3_0, .int o_3_1])), (nq_3_0, .inl (cI, on_nq_3_0, .inl ob_nq_3_0))]) mc ms) prog_12_method_53_code 3 R_Mo 16 [(2, .int v2_16), (1, .int v1_10), (0, .ref h0)] [] [(h0, .inr (9, moF am known_h0 thrown_h0 wrong_h0 lastEnd_h0 at_h0 bad_h0 levels_h0 least_h0 found_h0)), ((am 33), .inr (8, [.ref a_all_m33, .int size_m33])), (a_all_m33, .inl (cI, n_a_all_m33, .inl b_a_all_m33)), ((am 32), .inr (8, [.ref q3_0_16, .int f3_1_16])), (q3_0_16, .inl (cI, n4_16, .inl b4_16))] cl_16 sl_16 := by
      clear h
      intro k_16
      induction k_16 with
      | zero => intro q3_0_16 v2_16 f3_1_16 n4_16 b4_16 cl_16 sl_16 C_16 S_16 h; rw [F_Mo_pushTasks_16] at h; cases h
      | succ k_16 ih_16 =>
        intro q3_0_16 v2_16 f3_1_16 n4_16 b4_16 cl_16 sl_16 C_16 S_16 h hC hS
        rw [F_Mo_pushTasks_16] at h
        refine j_iload_n d_Mo_pushTasks_16 rfl 0 rfl ?_
        refine j_iconst (v := 5) d_Mo_pushTasks_17 (by decide) ?_
        refine j_icmp_ge (tgt := 44) d_Mo_pushTasks_18 (by decide) (fun c1 => ?_) (fun c1 => ?_)
        · replace h := it_t c1 h
          refine j_iload_n d_Mo_pushTasks_44 rfl 1 rfl ?_
          refine j_iconst (v := 5) d_Mo_pushTasks_45 (by decide) ?_
          refine j_isub d_Mo_pushTasks_46 ?_
          refine j_istore_n (lv' := [(1, .int (v1_10 - 5)), (2, .int v2_16), (0, .ref h0)]) d_Mo_pushTasks_47 rfl (by decide) rfl ?_
          refine j_goto (tgt := 10) d_Mo_pushTasks_48 (by decide) ?_
          refine j_sub (w := [(h0, .inr (9, moF am known_h0 thrown_h0 wrong_h0 lastEnd_h0 at_h0 bad_h0 levels_h0 least_h0 found_h0)), ((am 33), .inr (8, [.ref a_all_m33, .int size_m33])), (a_all_m33, .inl (cI, n_a_all_m33, .inl b_a_all_m33)), ((am 32), .inr (8, [.ref q3_0_16, .int f3_1_16])), (q3_0_16, .inl (cI, n4_16, .inl b4_16))]) (lv' := [(1, .int (v1_10 - 5)), (0, .ref h0)]) [0, 1, 2, 3, 4] rfl (by decide) [0, 2] rfl ?_
          exact ih_10 q3_0_16 (v1_10 - 5) f3_1_16 n4_16 b4_16 cl_16 sl_16 C_16 S_16 h hC hS
        · replace h := it_f c1 h
          refine j_aload_n d_Mo_pushTasks_21 rfl 2 rfl ?_
          refine j_get ig_Mo rfl 0 rfl 32 (by decide) rfl m_1145 rfl d_Mo_pushTasks_22 ?_
          refine j_aload_n d_Mo_pushTasks_25 rfl 2 rfl ?_
          refine j_get ig_Mo rfl 0 rfl 33 (by decide) rfl m_1146 rfl d_Mo_pushTasks_26 ?_
          refine j_iload_n d_Mo_pushTasks_29 rfl 1 rfl ?_
          refine j_iload_n d_Mo_pushTasks_30 rfl 0 rfl ?_
          refine j_iadd d_Mo_pushTasks_31 ?_
          replace h := bd_s h
          obtain ⟨_, k2, h⟩ := h
          refine j_callV (n := 1) (As := [.int (v1_10 + v2_16)]) (rest := [.ref (am 32)]) (wr := [(h0, .inr (9, moF am known_h0 thrown_h0 wrong_h0 lastEnd_h0 at_h0 bad_h0 levels_h0 least_h0 found_h0)), ((am 32), .inr (8, [.ref q3_0_16, .int f3_1_16])), (q3_0_16, .inl (cI, n4_16, .inl b4_16))]) (c_Nm_at l D cI cB cJ cS (am 33) a_all_m33 (v1_10 + v2_16) size_m33 n_a_all_m33 b_a_all_m33  k2) k_Mo_214 (by decide) ⟨Nat.le_of_ble_eq_true rfl, Nat.le_of_ble_eq_true rfl⟩ rfl 0 rfl [1, 2] [0, 3, 4] rfl (by decide) rfl (by decide) (by decide) rfl rfl (Nat.le_of_ble_eq_true rfl) d_Mo_pushTasks_32 ⟨show cl_16 + 0 ≤ mc by omega, show sl_16 + 0 ≤ ms by omega⟩ (fun v w hq => ?_)
          obtain ⟨rfl, rfl⟩ := hq
          refine j_norm (pc' := 35) (st' := [.int (b_a_all_m33 (Int32.toNatClampNeg (v1_10 + v2_16))), .ref (am 32)]) (ws' := [(h0, .inr (9, moF am known_h0 thrown_h0 wrong_h0 lastEnd_h0 at_h0 bad_h0 levels_h0 least_h0 found_h0)), ((am 32), .inr (8, [.ref q3_0_16, .int f3_1_16])), (q3_0_16, .inl (cI, n4_16, .inl b4_16)), ((am 33), .inr (8, [.ref a_all_m33, .int size_m33])), (a_all_m33, .inl (cI, n_a_all_m33, .inl b_a_all_m33))]) (cl' := cl_16) (sl' := sl_16) rfl rfl rfl rfl rfl rfl ?_
          replace h := bw_s h
          obtain ⟨⟨r3, r4⟩, C6, S7, C8, S9, k10, h, e1, e2⟩ := h
          replace hC : cl_16 + C6 + C8 ≤ mc := by omega
          replace hS : sl_16 + S7 + S9 ≤ ms := by omega
          clear e1 e2
          refine j_callV (n := 1) (As := [.int (b_a_all_m33 (Int32.toNatClampNeg (v1_10 + v2_16)))]) (rest := []) (wr := [(h0, .inr (9, moF am known_h0 thrown_h0 wrong_h0 lastEnd_h0 at_h0 bad_h0 levels_h0 least_h0 found_h0)), ((am 33), .inr (8, [.ref a_all_m33, .int size_m33])), (a_all_m33, .inl (cI, n_a_all_m33, .inl b_a_all_m33))]) (c_Nm_add l D cI cB cJ cS (am 32) q3_0_16 (b_a_all_m33 (Int32.toNatClampNeg (v1_10 + v2_16))) f3_1_16 n4_16 b4_16  r3 r4 C6 S7 k10) k_Mo_200 (by decide) ⟨Nat.le_of_ble_eq_true rfl, Nat.le_of_ble_eq_true rfl⟩ rfl 0 rfl [1, 2] [0, 3, 4] rfl (by decide) rfl (by decide) (by decide) rfl rfl (Nat.le_of_ble_eq_true rfl) d_Mo_pushTasks_35 ⟨show cl_16 + C6 ≤ mc by omega, show sl_16 + S7 ≤ ms by omega⟩ (fun v w hq => ?_)
          obtain ⟨q5, rfl, rfl⟩ := hq
          refine j_norm (pc' := 38) (st' := []) (ws' := [(h0, .inr (9, moF am known_h0 thrown_h0 wrong_h0 lastEnd_h0 at_h0 bad_h0 levels_h0 least_h0 found_h0)), ((am 33), .inr (8, [.ref a_all_m33, .int size_m33])), (a_all_m33, .inl (cI, n_a_all_m33, .inl b_a_all_m33)), ((am 32), .inr (8, [.ref q5, .int (f3_1_16 + 1)])), (q5, .inl (cI, r3, .inl r4))]) (cl' := cl_16 + C6) (sl' := sl_16 + S7) rfl rfl rfl rfl rfl rfl ?_
          refine j_iinc (v := v2_16 + 1) (lv' := [(2, .int (v2_16 + 1)), (1, .int v1_10), (0, .ref h0)]) d_Mo_pushTasks_38 0 rfl rfl (by decide) rfl ?_
          refine j_goto (tgt := 16) d_Mo_pushTasks_41 (by decide) ?_
          refine j_sub (w := [(h0, .inr (9, moF am known_h0 thrown_h0 wrong_h0 lastEnd_h0 at_h0 bad_h0 levels_h0 least_h0 found_h0)), ((am 33), .inr (8, [.ref a_all_m33, .int size_m33])), (a_all_m33, .inl (cI, n_a_all_m33, .inl b_a_all_m33)), ((am 32), .inr (8, [.ref q5, .int (f3_1_16 + 1)])), (q5, .inl (cI, r3, .inl r4))]) (lv' := [(2, .int (v2_16 + 1)), (1, .int v1_10), (0, .ref h0)]) [0, 1, 2, 3, 4] rfl (by decide) [0, 1, 2] rfl ?_
          exact ih_16 q5 (v2_16 + 1) (f3_1_16 + 1) r3 r4 (cl_16 + C6) (sl_16 + S7) C8 S9 h hC hS
    refine j_iload_n d_Mo_pushTasks_10 rfl 0 rfl ?_
    refine j_if_lt (tgt := 51) d_Mo_pushTasks_11 (by decide) (fun c11 => ?_) (fun c11 => ?_)
    · replace h := it_t c11 h
      refine j_aload_n d_Mo_pushTasks_51 rfl 1 rfl ?_
      refine j_get ig_Mo rfl 0 rfl 33 (by decide) rfl m_1146 rfl d_Mo_pushTasks_52 ?_
      refine j_iconst (v := 0) d_Mo_pushTasks_55 (by decide) ?_
      refine j_putN (ws' := [(h0, .inr (9, moF am known_h0 thrown_h0 wrong_h0 lastEnd_h0 at_h0 bad_h0 levels_h0 least_h0 found_h0)), ((am 33), .inr (8, [.ref a_all_m33, .int 0])), (a_all_m33, .inl (cI, n_a_all_m33, .inl b_a_all_m33)), ((am 32), .inr (8, [.ref q3_0_10, .int f3_1_10])), (q3_0_10, .inl (cI, n4_10, .inl b4_10))]) ig_Nm tk_Nm nm_Nm rfl 1 rfl 1 (by decide) rfl mn_13 rfl (tk_Nm 1 (by decide)) rfl rfl (Nat.le_of_ble_eq_true rfl) d_Mo_pushTasks_56 rfl ?_
      replace h := lf_s h
      obtain ⟨h, e1, e2⟩ := h
      replace h := Prod.mk.inj h
      obtain ⟨h9, h⟩ := h
      subst h9
      replace h := Prod.mk.inj h
      obtain ⟨h9, h⟩ := h
      subst h9
      subst h
      refine j_widen (cl' := mc) (sl' := ms) (by omega) (by omega) ?_
      exact j_vret (w := [(h0, .inr (9, moF am known_h0 thrown_h0 wrong_h0 lastEnd_h0 at_h0 bad_h0 levels_h0 least_h0 found_h0)), ((am 33), .inr (8, [.ref a_all_m33, .int 0])), (a_all_m33, .inl (cI, n_a_all_m33, .inl b_a_all_m33)), ((am 32), .inr (8, [.ref q3_0_10, .int f3_1_10])), (q3_0_10, .inl (cI, n4_10, .inl b4_10))]) hr d_Mo_pushTasks_59 [0, 1, 2, 3, 4] rfl (by decide) ⟨q3_0_10, rfl, rfl⟩
    · replace h := it_f c11 h
      refine j_iconst (v := 0) d_Mo_pushTasks_14 (by decide) ?_
      refine j_istore_n (lv' := [(2, .int 0), (1, .int v1_10), (0, .ref h0)]) d_Mo_pushTasks_15 rfl (by decide) rfl ?_
      refine j_sub (w := [(h0, .inr (9, moF am known_h0 thrown_h0 wrong_h0 lastEnd_h0 at_h0 bad_h0 levels_h0 least_h0 found_h0)), ((am 33), .inr (8, [.ref a_all_m33, .int size_m33])), (a_all_m33, .inl (cI, n_a_all_m33, .inl b_a_all_m33)), ((am 32), .inr (8, [.ref q3_0_10, .int f3_1_10])), (q3_0_10, .inl (cI, n4_10, .inl b4_10))]) (lv' := [(2, .int 0), (1, .int v1_10), (0, .ref h0)]) [0, 1, 2, 3, 4] rfl (by decide) [0, 1, 2] rfl ?_
      exact L_16 FU q3_0_10 0 f3_1_10 n4_10 b4_10 cl_10 sl_10 C_10 S_10 h hC hS
set_option maxHeartbeats 4000000 in
set_option maxRecDepth 100000 in
theorem c_Mo_pushTasks (l : Launch) (D : va_G) (cI cB cJ cS : ClassId) (h0 : Nat) (am : Nat → Nat) (a_all_m33 : Nat) (a_all_m32 : Nat) (known_h0 : Int32) (thrown_h0 : Int32) (wrong_h0 : Int32) (lastEnd_h0 : Int32) (at_h0 : Int32) (bad_h0 : Int32) (levels_h0 : Int32) (least_h0 : Int32) (found_h0 : Int32) (size_m33 : Int32) (n_a_all_m33 : Nat) (b_a_all_m33 : Nat → Int32) (size_m32 : Int32) (n_a_all_m32 : Nat) (b_a_all_m32 : Nat → Int32) (o_3_1 : Int32) (on_nq_3_0 : Nat) (ob_nq_3_0 : Nat → Int32) (mc ms : Nat) (h : F_Mo_pushTasks known_h0 thrown_h0 wrong_h0 lastEnd_h0 at_h0 bad_h0 levels_h0 least_h0 found_h0 size_m33 n_a_all_m33 b_a_all_m33 size_m32 n_a_all_m32 b_a_all_m32 = some ((o_3_1, on_nq_3_0, ob_nq_3_0), mc, ms)) : Ct l D (gT cI cB cJ cS) y_Mo_pushTasks prog_12_method_53_code 3 (Option.none : Option Jvm.ClassFile.FieldType) 1 23 mc ms [.ref h0] [(h0, .inr (9, moF am known_h0 thrown_h0 wrong_h0 lastEnd_h0 at_h0 bad_h0 levels_h0 least_h0 found_h0)), ((am 33), .inr (8, [.ref a_all_m33, .int size_m33])), (a_all_m33, .inl (cI, n_a_all_m33, .inl b_a_all_m33)), ((am 32), .inr (8, [.ref a_all_m32, .int size_m32])), (a_all_m32, .inl (cI, n_a_all_m32, .inl b_a_all_m32))] (fun v w => ∃ nq_3_0 : Nat, v = none ∧ w = [(h0, .inr (9, moF am known_h0 thrown_h0 wrong_h0 lastEnd_h0 at_h0 bad_h0 levels_h0 least_h0 found_h0)), ((am 33), .inr (8, [.ref a_all_m33, .int 0])), (a_all_m33, .inl (cI, n_a_all_m33, .inl b_a_all_m33)), ((am 32), .inr (8, [.ref nq_3_0, .int o_3_1])), (nq_3_0, .inl (cI, on_nq_3_0, .inl ob_nq_3_0))]) := by
  refine Ct.mk (by decide) (Nat.le_of_ble_eq_true rfl) ?_
  intro p e s m below meth c hr hnm
  refine j_norm (pc' := 0) (lv' := [(0, .ref h0)]) (st' := []) (ws' := [(h0, .inr (9, moF am known_h0 thrown_h0 wrong_h0 lastEnd_h0 at_h0 bad_h0 levels_h0 least_h0 found_h0)), ((am 33), .inr (8, [.ref a_all_m33, .int size_m33])), (a_all_m33, .inl (cI, n_a_all_m33, .inl b_a_all_m33)), ((am 32), .inr (8, [.ref a_all_m32, .int size_m32])), (a_all_m32, .inl (cI, n_a_all_m32, .inl b_a_all_m32))]) (cl' := 0) (sl' := 0) rfl rfl rfl rfl rfl rfl ?_
  unfold F_Mo_pushTasks at h
  have hC : 0 + mc ≤ mc := by omega
  have hS : 0 + ms ≤ ms := by omega
  refine j_aload_n d_Mo_pushTasks_0 rfl 0 rfl ?_
  refine j_get ig_Mo rfl 0 rfl 33 (by decide) rfl m_1146 rfl d_Mo_pushTasks_1 ?_
  refine j_getN ig_Nm rfl 1 rfl 1 (by decide) rfl mn_13 rfl d_Mo_pushTasks_4 ?_
  refine j_iconst (v := 5) d_Mo_pushTasks_7 (by decide) ?_
  refine j_isub d_Mo_pushTasks_8 ?_
  refine j_istore_n (lv' := [(1, .int (size_m33 - 5)), (0, .ref h0)]) d_Mo_pushTasks_9 rfl (by decide) rfl ?_
  refine j_sub (w := [(h0, .inr (9, moF am known_h0 thrown_h0 wrong_h0 lastEnd_h0 at_h0 bad_h0 levels_h0 least_h0 found_h0)), ((am 33), .inr (8, [.ref a_all_m33, .int size_m33])), (a_all_m33, .inl (cI, n_a_all_m33, .inl b_a_all_m33)), ((am 32), .inr (8, [.ref a_all_m32, .int size_m32])), (a_all_m32, .inl (cI, n_a_all_m32, .inl b_a_all_m32))]) (lv' := [(1, .int (size_m33 - 5)), (0, .ref h0)]) [0, 1, 2, 3, 4] rfl (by decide) [0, 1] rfl ?_
  exact L_Mo_pushTasks_10 l D cI cB cJ cS h0 am a_all_m33 a_all_m32 known_h0 thrown_h0 wrong_h0 lastEnd_h0 at_h0 bad_h0 levels_h0 least_h0 found_h0 size_m33 n_a_all_m33 b_a_all_m33 size_m32 n_a_all_m32 b_a_all_m32 o_3_1 on_nq_3_0 ob_nq_3_0 mc ms p e s m below meth c hr hnm FU a_all_m32 (size_m33 - 5) size_m32 n_a_all_m32 b_a_all_m32 0 0 mc ms h hC hS
