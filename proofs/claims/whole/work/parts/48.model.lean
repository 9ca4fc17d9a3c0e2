def F_Mo_around_2 (p1 : Int32) (p2 : Int32) (known_h0 : Int32) (thrown_h0 : Int32) (wrong_h0 : Int32) (lastEnd_h0 : Int32) (at_h0 : Int32) (bad_h0 : Int32) (levels_h0 : Int32) (least_h0 : Int32) (found_h0 : Int32) (size_m5 : Int32) (n_a_all_m5 : Nat) (b_a_all_m5 : Nat → Int32) : Nat → Int32 → Option (Int32)
  | 0, _ => none
  | k_2 + 1, v3_2 =>
    Option.bind (F_Nm_at (p1 + v3_2) size_m5 n_a_all_m5 b_a_all_m5) fun _ =>
    if (b_a_all_m5 (Int32.toNatClampNeg (p1 + v3_2))) = 50 then (Option.bind (F_Mo_closing (p1 + v3_2) known_h0 thrown_h0 wrong_h0 lastEnd_h0 at_h0 bad_h0 levels_h0 least_h0 found_h0 size_m5 n_a_all_m5 b_a_all_m5) fun r3 =>
      if r3 = ((p2 - 1) - v3_2) then (F_Mo_around_2 p1 p2 known_h0 thrown_h0 wrong_h0 lastEnd_h0 at_h0 bad_h0 levels_h0 least_h0 found_h0 size_m5 n_a_all_m5 b_a_all_m5  k_2 (v3_2 + 1))
      else (some v3_2))
    else (some v3_2)
def F_Mo_around (p1 : Int32) (p2 : Int32) (known_h0 : Int32) (thrown_h0 : Int32) (wrong_h0 : Int32) (lastEnd_h0 : Int32) (at_h0 : Int32) (bad_h0 : Int32) (levels_h0 : Int32) (least_h0 : Int32) (found_h0 : Int32) (size_m5 : Int32) (n_a_all_m5 : Nat) (b_a_all_m5 : Nat → Int32) : Option (Int32) :=
  F_Mo_around_2 p1 p2 known_h0 thrown_h0 wrong_h0 lastEnd_h0 at_h0 bad_h0 levels_h0 least_h0 found_h0 size_m5 n_a_all_m5 b_a_all_m5  FU 0
theorem d_Mo_around_0 : decode prog_12_method_72_code 0 = .ok (.iconst 0, 1) := by decide +kernel
theorem d_Mo_around_1 : decode prog_12_method_72_code 1 = .ok (.istore_n 3, 1) := by decide +kernel
theorem d_Mo_around_2 : decode prog_12_method_72_code 2 = .ok (.aload_n 0, 1) := by decide +kernel
theorem d_Mo_around_3 : decode prog_12_method_72_code 3 = .ok (.getfield 114, 3) := by decide +kernel
theorem d_Mo_around_6 : decode prog_12_method_72_code 6 = .ok (.iload_n 1, 1) := by decide +kernel
theorem d_Mo_around_7 : decode prog_12_method_72_code 7 = .ok (.iload_n 3, 1) := by decide +kernel
theorem d_Mo_around_8 : decode prog_12_method_72_code 8 = .ok (.iadd, 1) := by decide +kernel
theorem d_Mo_around_9 : decode prog_12_method_72_code 9 = .ok (.invokevirtual 214, 3) := by decide +kernel
theorem d_Mo_around_12 : decode prog_12_method_72_code 12 = .ok (.bipush 50, 2) := by decide +kernel
theorem d_Mo_around_14 : decode prog_12_method_72_code 14 = .ok (.if_icmp .ne 24, 3) := by decide +kernel
theorem d_Mo_around_17 : decode prog_12_method_72_code 17 = .ok (.aload_n 0, 1) := by decide +kernel
theorem d_Mo_around_18 : decode prog_12_method_72_code 18 = .ok (.iload_n 1, 1) := by decide +kernel
theorem d_Mo_around_19 : decode prog_12_method_72_code 19 = .ok (.iload_n 3, 1) := by decide +kernel
theorem d_Mo_around_20 : decode prog_12_method_72_code 20 = .ok (.iadd, 1) := by decide +kernel
theorem d_Mo_around_21 : decode prog_12_method_72_code 21 = .ok (.invokevirtual 350, 3) := by decide +kernel
theorem d_Mo_around_24 : decode prog_12_method_72_code 24 = .ok (.iload_n 2, 1) := by decide +kernel
theorem d_Mo_around_25 : decode prog_12_method_72_code 25 = .ok (.iconst 1, 1) := by decide +kernel
theorem d_Mo_around_26 : decode prog_12_method_72_code 26 = .ok (.isub, 1) := by decide +kernel
theorem d_Mo_around_27 : decode prog_12_method_72_code 27 = .ok (.iload_n 3, 1) := by decide +kernel
theorem d_Mo_around_28 : decode prog_12_method_72_code 28 = .ok (.isub, 1) := by decide +kernel
theorem d_Mo_around_29 : decode prog_12_method_72_code 29 = .ok (.if_icmp .ne 9, 3) := by decide +kernel
theorem d_Mo_around_32 : decode prog_12_method_72_code 32 = .ok (.iinc 3 1, 3) := by decide +kernel
theorem d_Mo_around_35 : decode prog_12_method_72_code 35 = .ok (.goto (-33), 3) := by decide +kernel
theorem d_Mo_around_38 : decode prog_12_method_72_code 38 = .ok (.iload_n 3, 1) := by decide +kernel
theorem d_Mo_around_39 : decode prog_12_method_72_code 39 = .ok (.ireturn, 1) := by decide +kernel
set_option maxHeartbeats 4000000 in
set_option maxRecDepth 100000 in
theorem L_Mo_around_2 (l : Launch) (D : va_G) (cI cB cJ cS : ClassId) (h0 : Nat) (am : Nat → Nat) (a_all_m5 : Nat) (p1 : Int32) (p2 : Int32) (known_h0 : Int32) (thrown_h0 : Int32) (wrong_h0 : Int32) (lastEnd_h0 : Int32) (at_h0 : Int32) (bad_h0 : Int32) (levels_h0 : Int32) (least_h0 : Int32) (found_h0 : Int32) (size_m5 : Int32) (n_a_all_m5 : Nat) (b_a_all_m5 : Nat → Int32) (ret : Int32) (p : Program) (e : Env) (s : State) (m : MethodId) (below : List Frame) (meth : Method) (c : Code) (hr : meth.sig.returnType = (Option.some Jvm.ClassFile.FieldType.int)) (hnm : meth.name = y_Mo_around.name) : ∀ (k_2 : Nat) (v3_2 : Int32), F_Mo_around_2 p1 p2 known_h0 thrown_h0 wrong_h0 lastEnd_h0 at_h0 bad_h0 levels_h0 least_h0 found_h0 size_m5 n_a_all_m5 b_a_all_m5  k_2 v3_2 = some ret → J (KxOf p l e { frames := 2, cells := 0, slots := 0, locals := 45 } s m [.ref h0, .int p1, .int p2].toArray below meth c D (gT cI cB cJ cS) [(h0, .inr (9, moF am known_h0 thrown_h0 wrong_h0 lastEnd_h0 at_h0 bad_h0 levels_h0 least_h0 found_h0)), ((am 5), .inr (8, [.ref a_all_m5, .int size_m5])), (a_all_m5, .inl (cI, n_a_all_m5, .inl b_a_all_m5))] (fun v w => v = some (.int ret) ∧ w = [(h0, .inr (9, moF am known_h0 thrown_h0 wrong_h0 lastEnd_h0 at_h0 bad_h0 levels_h0 least_h0 found_h0)), ((am 5), .inr (8, [.ref a_all_m5, .int size_m5])), (a_all_m5, .inl (cI, n_a_all_m5, .inl b_a_all_m5))]) 0 0) prog_12_method_72_code 4 R_Mo 2 [(3, .int v3_2), (0, .ref h0), (1, .int p1), (2, .int p2)] [] [(h0, .inr (9, moF am known_h0 thrown_h0 wrong_h0 lastEnd_h0 at_h0 bad_h0 levels_h0 least_h0 found_h0)), ((am 5), .inr (8, [.ref a_all_m5, .int size_m5])), (a_all_m5, .inl (cI, n_a_all_m5, .inl b_a_all_m5))] 0 0 := by
  intro k_2
  induction k_2 with
  | zero => intro v3_2 h; rw [F_Mo_around_2] at h; cases h
  | succ k_2 ih_2 =>
    intro v3_2 h
    rw [F_Mo_around_2] at h
    refine j_aload_n d_Mo_around_2 rfl 1 rfl ?_
    refine j_get ig_Mo rfl 0 rfl 5 (by decide) rfl m_1118 rfl d_Mo_around_3 ?_
    refine j_iload_n d_Mo_around_6 rfl 2 rfl ?_
    refine j_iload_n d_Mo_around_7 rfl 0 rfl ?_
    refine j_iadd d_Mo_around_8 ?_
    replace h := bd_s h
    obtain ⟨_, k1, h⟩ := h
    refine j_callV (n := 1) (As := [.int (p1 + v3_2)]) (rest := []) (wr := [(h0, .inr (9, moF am known_h0 thrown_h0 wrong_h0 lastEnd_h0 at_h0 bad_h0 levels_h0 least_h0 found_h0))]) (c_Nm_at l D cI cB cJ cS (am 5) a_all_m5 (p1 + v3_2) size_m5 n_a_all_m5 b_a_all_m5  k1) k_Mo_214 (by decide) ⟨Nat.le_of_ble_eq_true rfl, Nat.le_of_ble_eq_true rfl⟩ rfl 0 rfl [1, 2] [0] rfl (by decide) rfl (by decide) (by decide) rfl rfl (Nat.le_of_ble_eq_true rfl) d_Mo_around_9 ⟨Nat.le_of_ble_eq_true rfl, Nat.le_of_ble_eq_true rfl⟩ (fun v w hq => ?_)
    obtain ⟨rfl, rfl⟩ := hq
    refine j_norm (pc' := 12) (st' := [.int (b_a_all_m5 (Int32.toNatClampNeg (p1 + v3_2)))]) (ws' := [(h0, .inr (9, moF am known_h0 thrown_h0 wrong_h0 lastEnd_h0 at_h0 bad_h0 levels_h0 least_h0 found_h0)), ((am 5), .inr (8, [.ref a_all_m5, .int size_m5])), (a_all_m5, .inl (cI, n_a_all_m5, .inl b_a_all_m5))]) (cl' := 0) (sl' := 0) rfl rfl rfl rfl rfl rfl ?_
    refine j_bipush (v := 50) d_Mo_around_12 (by decide) ?_
    refine j_icmp_ne (tgt := 38) d_Mo_around_14 (by decide) (fun c2 => ?_) (fun c2 => ?_)
    · replace h := it_f c2 h
      refine j_iload_n d_Mo_around_38 rfl 0 rfl ?_
      replace h := Option.some.inj h
      subst h
      exact j_iret (w := [(h0, .inr (9, moF am known_h0 thrown_h0 wrong_h0 lastEnd_h0 at_h0 bad_h0 levels_h0 least_h0 found_h0)), ((am 5), .inr (8, [.ref a_all_m5, .int size_m5])), (a_all_m5, .inl (cI, n_a_all_m5, .inl b_a_all_m5))]) hr d_Mo_around_39 [0, 1, 2] rfl (by decide) ⟨rfl, rfl⟩
    · replace h := it_t c2 h
      refine j_aload_n d_Mo_around_17 rfl 1 rfl ?_
      refine j_iload_n d_Mo_around_18 rfl 2 rfl ?_
      refine j_iload_n d_Mo_around_19 rfl 0 rfl ?_
      refine j_iadd d_Mo_around_20 ?_
      replace h := bd_s h
      obtain ⟨r3, k4, h⟩ := h
      refine j_callV (n := 1) (As := [.int (p1 + v3_2)]) (rest := []) (wr := []) (c_Mo_closing l D cI cB cJ cS h0 am a_all_m5 (p1 + v3_2) known_h0 thrown_h0 wrong_h0 lastEnd_h0 at_h0 bad_h0 levels_h0 least_h0 found_h0 size_m5 n_a_all_m5 b_a_all_m5  r3 k4) k_Mo_350 (by decide) ⟨Nat.le_of_ble_eq_true rfl, Nat.le_of_ble_eq_true rfl⟩ rfl 0 rfl [0, 1, 2] [] rfl (by decide) rfl (by decide) (by decide) rfl rfl (Nat.le_of_ble_eq_true rfl) d_Mo_around_21 ⟨Nat.le_of_ble_eq_true rfl, Nat.le_of_ble_eq_true rfl⟩ (fun v w hq => ?_)
      obtain ⟨rfl, rfl⟩ := hq
      refine j_norm (pc' := 24) (st' := [.int r3]) (ws' := [(h0, .inr (9, moF am known_h0 thrown_h0 wrong_h0 lastEnd_h0 at_h0 bad_h0 levels_h0 least_h0 found_h0)), ((am 5), .inr (8, [.ref a_all_m5, .int size_m5])), (a_all_m5, .inl (cI, n_a_all_m5, .inl b_a_all_m5))]) (cl' := 0) (sl' := 0) rfl rfl rfl rfl rfl rfl ?_
      refine j_iload_n d_Mo_around_24 rfl 3 rfl ?_
      refine j_iconst (v := 1) d_Mo_around_25 (by decide) ?_
      refine j_isub d_Mo_around_26 ?_
      refine j_iload_n d_Mo_around_27 rfl 0 rfl ?_
      refine j_isub d_Mo_around_28 ?_
      refine j_icmp_ne (tgt := 38) d_Mo_around_29 (by decide) (fun c5 => ?_) (fun c5 => ?_)
      · replace h := it_f c5 h
        refine j_iload_n d_Mo_around_38 rfl 0 rfl ?_
        replace h := Option.some.inj h
        subst h
        exact j_iret (w := [(h0, .inr (9, moF am known_h0 thrown_h0 wrong_h0 lastEnd_h0 at_h0 bad_h0 levels_h0 least_h0 found_h0)), ((am 5), .inr (8, [.ref a_all_m5, .int size_m5])), (a_all_m5, .inl (cI, n_a_all_m5, .inl b_a_all_m5))]) hr d_Mo_around_39 [0, 1, 2] rfl (by decide) ⟨rfl, rfl⟩
      · replace h := it_t c5 h
        refine j_iinc (v := v3_2 + 1) (lv' := [(3, .int (v3_2 + 1)), (0, .ref h0), (1, .int p1), (2, .int p2)]) d_Mo_around_32 0 rfl rfl (by decide) rfl ?_
        refine j_goto (tgt := 2) d_Mo_around_35 (by decide) ?_
        refine j_sub (w := [(h0, .inr (9, moF am known_h0 thrown_h0 wrong_h0 lastEnd_h0 at_h0 bad_h0 levels_h0 least_h0 found_h0)), ((am 5), .inr (8, [.ref a_all_m5, .int size_m5])), (a_all_m5, .inl (cI, n_a_all_m5, .inl b_a_all_m5))]) (lv' := [(3, .int (v3_2 + 1)), (0, .ref h0), (1, .int p1), (2, .int p2)]) [0, 1, 2] rfl (by decide) [0, 1, 2, 3] rfl ?_
        exact ih_2 (v3_2 + 1) h
set_option maxHeartbeats 4000000 in
set_option maxRecDepth 100000 in
theorem c_Mo_around (l : Launch) (D : va_G) (cI cB cJ cS : ClassId) (h0 : Nat) (am : Nat → Nat) (a_all_m5 : Nat) (p1 : Int32) (p2 : Int32) (known_h0 : Int32) (thrown_h0 : Int32) (wrong_h0 : Int32) (lastEnd_h0 : Int32) (at_h0 : Int32) (bad_h0 : Int32) (levels_h0 : Int32) (least_h0 : Int32) (found_h0 : Int32) (size_m5 : Int32) (n_a_all_m5 : Nat) (b_a_all_m5 : Nat → Int32) (ret : Int32) (h : F_Mo_around p1 p2 known_h0 thrown_h0 wrong_h0 lastEnd_h0 at_h0 bad_h0 levels_h0 least_h0 found_h0 size_m5 n_a_all_m5 b_a_all_m5 = some ret) : Ct l D (gT cI cB cJ cS) y_Mo_around prog_12_method_72_code 4 (Option.some Jvm.ClassFile.FieldType.int) 2 45 0 0 [.ref h0, .int p1, .int p2] [(h0, .inr (9, moF am known_h0 thrown_h0 wrong_h0 lastEnd_h0 at_h0 bad_h0 levels_h0 least_h0 found_h0)), ((am 5), .inr (8, [.ref a_all_m5, .int size_m5])), (a_all_m5, .inl (cI, n_a_all_m5, .inl b_a_all_m5))] (fun v w => v = some (.int ret) ∧ w = [(h0, .inr (9, moF am known_h0 thrown_h0 wrong_h0 lastEnd_h0 at_h0 bad_h0 levels_h0 least_h0 found_h0)), ((am 5), .inr (8, [.ref a_all_m5, .int size_m5])), (a_all_m5, .inl (cI, n_a_all_m5, .inl b_a_all_m5))]) := by
  refine Ct.mk (by decide) (Nat.le_of_ble_eq_true rfl) ?_
  intro p e s m below meth c hr hnm
  refine j_norm (pc' := 0) (lv' := [(0, .ref h0), (1, .int p1), (2, .int p2)]) (st' := []) (ws' := [(h0, .inr (9, moF am known_h0 thrown_h0 wrong_h0 lastEnd_h0 at_h0 bad_h0 levels_h0 least_h0 found_h0)), ((am 5), .inr (8, [.ref a_all_m5, .int size_m5])), (a_all_m5, .inl (cI, n_a_all_m5, .inl b_a_all_m5))]) (cl' := 0) (sl' := 0) rfl rfl rfl rfl rfl rfl ?_
  unfold F_Mo_around at h
  refine j_iconst (v := 0) d_Mo_around_0 (by decide) ?_
  refine j_istore_n (lv' := [(3, .int 0), (0, .ref h0), (1, .int p1), (2, .int p2)]) d_Mo_around_1 rfl (by decide) rfl ?_
  refine j_sub (w := [(h0, .inr (9, moF am known_h0 thrown_h0 wrong_h0 lastEnd_h0 at_h0 bad_h0 levels_h0 least_h0 found_h0)), ((am 5), .inr (8, [.ref a_all_m5, .int size_m5])), (a_all_m5, .inl (cI, n_a_all_m5, .inl b_a_all_m5))]) (lv' := [(3, .int 0), (0, .ref h0), (1, .int p1), (2, .int p2)]) [0, 1, 2] rfl (by decide) [0, 1, 2, 3] rfl ?_
  exact L_Mo_around_2 l D cI cB cJ cS h0 am a_all_m5 p1 p2 known_h0 thrown_h0 wrong_h0 lastEnd_h0 at_h0 bad_h0 levels_h0 least_h0 found_h0 size_m5 n_a_all_m5 b_a_all_m5 ret p e s m below meth c hr hnm FU 0 h
def F_Mo_isTight (p1 : Int32) (p2 : Int32) (known_h0 : Int32) (thrown_h0 : Int32) (wrong_h0 : Int32) (lastEnd_h0 : Int32) (at_h0 : Int32) (bad_h0 : Int32) (levels_h0 : Int32) (least_h0 : Int32) (found_h0 : Int32) (size_m5 : Int32) (n_a_all_m5 : Nat) (b_a_all_m5 : Nat → Int32) (n_m2 : Nat) (b_m2 : Nat → Int32) : Option (Int32 × Int32) :=
  Option.bind (F_Mo_around p1 p2 known_h0 thrown_h0 wrong_h0 lastEnd_h0 at_h0 bad_h0 levels_h0 least_h0 found_h0 size_m5 n_a_all_m5 b_a_all_m5) fun r1 =>
  Option.bind (F_Mo_rankBetween (p1 + r1) (p2 - r1) known_h0 thrown_h0 wrong_h0 lastEnd_h0 at_h0 bad_h0 levels_h0 least_h0 found_h0 size_m5 n_a_all_m5 b_a_all_m5 n_m2 b_m2) fun ⟨r3, r4⟩ =>
  if r3 = 7 then (Option.bind (F_Nm_at (p1 + r1) size_m5 n_a_all_m5 b_a_all_m5) fun _ =>
    if (b_a_all_m5 (Int32.toNatClampNeg (p1 + r1))) = 40 then (Option.bind (F_Mo_around ((p1 + r1) + 1) (p2 - r1) known_h0 thrown_h0 wrong_h0 lastEnd_h0 at_h0 bad_h0 levels_h0 least_h0 r4 size_m5 n_a_all_m5 b_a_all_m5) fun r9 =>
      Option.bind (F_Mo_rankBetween (((p1 + r1) + 1) + r9) ((p2 - r1) - r9) known_h0 thrown_h0 wrong_h0 lastEnd_h0 at_h0 bad_h0 levels_h0 least_h0 r4 size_m5 n_a_all_m5 b_a_all_m5 n_m2 b_m2) fun ⟨r11, r12⟩ =>
      if r11 ≤ 8 then (some (0, r12))
      else (some (1, r12)))
    else (some (0, r4)))
  else (some (0, r4))
theorem d_Mo_isTight_0 : decode prog_12_method_73_code 0 = .ok (.aload_n 0, 1) := by decide +kernel
theorem d_Mo_isTight_1 : decode prog_12_method_73_code 1 = .ok (.iload_n 1, 1) := by decide +kernel
theorem d_Mo_isTight_2 : decode prog_12_method_73_code 2 = .ok (.iload_n 2, 1) := by decide +kernel
theorem d_Mo_isTight_3 : decode prog_12_method_73_code 3 = .ok (.invokevirtual 460, 3) := by decide +kernel
theorem d_Mo_isTight_6 : decode prog_12_method_73_code 6 = .ok (.istore_n 3, 1) := by decide +kernel
theorem d_Mo_isTight_7 : decode prog_12_method_73_code 7 = .ok (.iload_n 1, 1) := by decide +kernel
theorem d_Mo_isTight_8 : decode prog_12_method_73_code 8 = .ok (.iload_n 3, 1) := by decide +kernel
theorem d_Mo_isTight_9 : decode prog_12_method_73_code 9 = .ok (.iadd, 1) := by decide +kernel
theorem d_Mo_isTight_10 : decode prog_12_method_73_code 10 = .ok (.istore 4, 2) := by decide +kernel
theorem d_Mo_isTight_12 : decode prog_12_method_73_code 12 = .ok (.iload_n 2, 1) := by decide +kernel
theorem d_Mo_isTight_13 : decode prog_12_method_73_code 13 = .ok (.iload_n 3, 1) := by decide +kernel
theorem d_Mo_isTight_14 : decode prog_12_method_73_code 14 = .ok (.isub, 1) := by decide +kernel
theorem d_Mo_isTight_15 : decode prog_12_method_73_code 15 = .ok (.istore 5, 2) := by decide +kernel
theorem d_Mo_isTight_17 : decode prog_12_method_73_code 17 = .ok (.aload_n 0, 1) := by decide +kernel
theorem d_Mo_isTight_18 : decode prog_12_method_73_code 18 = .ok (.iload 4, 2) := by decide +kernel
theorem d_Mo_isTight_20 : decode prog_12_method_73_code 20 = .ok (.iload 5, 2) := by decide +kernel
theorem d_Mo_isTight_22 : decode prog_12_method_73_code 22 = .ok (.invokevirtual 463, 3) := by decide +kernel
theorem d_Mo_isTight_25 : decode prog_12_method_73_code 25 = .ok (.bipush 7, 2) := by decide +kernel
theorem d_Mo_isTight_27 : decode prog_12_method_73_code 27 = .ok (.if_icmp .ne 17, 3) := by decide +kernel
theorem d_Mo_isTight_30 : decode prog_12_method_73_code 30 = .ok (.aload_n 0, 1) := by decide +kernel
theorem d_Mo_isTight_31 : decode prog_12_method_73_code 31 = .ok (.getfield 114, 3) := by decide +kernel
theorem d_Mo_isTight_34 : decode prog_12_method_73_code 34 = .ok (.iload 4, 2) := by decide +kernel
theorem d_Mo_isTight_36 : decode prog_12_method_73_code 36 = .ok (.invokevirtual 214, 3) := by decide +kernel
theorem d_Mo_isTight_39 : decode prog_12_method_73_code 39 = .ok (.bipush 40, 2) := by decide +kernel
theorem d_Mo_isTight_41 : decode prog_12_method_73_code 41 = .ok (.if_icmp .eq 5, 3) := by decide +kernel
theorem d_Mo_isTight_44 : decode prog_12_method_73_code 44 = .ok (.iconst 0, 1) := by decide +kernel
theorem d_Mo_isTight_45 : decode prog_12_method_73_code 45 = .ok (.ireturn, 1) := by decide +kernel
theorem d_Mo_isTight_46 : decode prog_12_method_73_code 46 = .ok (.aload_n 0, 1) := by decide +kernel
theorem d_Mo_isTight_47 : decode prog_12_method_73_code 47 = .ok (.iload 4, 2) := by decide +kernel
theorem d_Mo_isTight_49 : decode prog_12_method_73_code 49 = .ok (.iconst 1, 1) := by decide +kernel
theorem d_Mo_isTight_50 : decode prog_12_method_73_code 50 = .ok (.iadd, 1) := by decide +kernel
theorem d_Mo_isTight_51 : decode prog_12_method_73_code 51 = .ok (.iload 5, 2) := by decide +kernel
theorem d_Mo_isTight_53 : decode prog_12_method_73_code 53 = .ok (.invokevirtual 460, 3) := by decide +kernel
theorem d_Mo_isTight_56 : decode prog_12_method_73_code 56 = .ok (.istore 6, 2) := by decide +kernel
theorem d_Mo_isTight_58 : decode prog_12_method_73_code 58 = .ok (.aload_n 0, 1) := by decide +kernel
theorem d_Mo_isTight_59 : decode prog_12_method_73_code 59 = .ok (.iload 4, 2) := by decide +kernel
theorem d_Mo_isTight_61 : decode prog_12_method_73_code 61 = .ok (.iconst 1, 1) := by decide +kernel
theorem d_Mo_isTight_62 : decode prog_12_method_73_code 62 = .ok (.iadd, 1) := by decide +kernel
theorem d_Mo_isTight_63 : decode prog_12_method_73_code 63 = .ok (.iload 6, 2) := by decide +kernel
theorem d_Mo_isTight_65 : decode prog_12_method_73_code 65 = .ok (.iadd, 1) := by decide +kernel
theorem d_Mo_isTight_66 : decode prog_12_method_73_code 66 = .ok (.iload 5, 2) := by decide +kernel
theorem d_Mo_isTight_68 : decode prog_12_method_73_code 68 = .ok (.iload 6, 2) := by decide +kernel
theorem d_Mo_isTight_70 : decode prog_12_method_73_code 70 = .ok (.isub, 1) := by decide +kernel
theorem d_Mo_isTight_71 : decode prog_12_method_73_code 71 = .ok (.invokevirtual 463, 3) := by decide +kernel
theorem d_Mo_isTight_74 : decode prog_12_method_73_code 74 = .ok (.bipush 8, 2) := by decide +kernel
theorem d_Mo_isTight_76 : decode prog_12_method_73_code 76 = .ok (.if_icmp .le 7, 3) := by decide +kernel
theorem d_Mo_isTight_79 : decode prog_12_method_73_code 79 = .ok (.iconst 1, 1) := by decide +kernel
theorem d_Mo_isTight_80 : decode prog_12_method_73_code 80 = .ok (.goto 4, 3) := by decide +kernel
theorem d_Mo_isTight_83 : decode prog_12_method_73_code 83 = .ok (.iconst 0, 1) := by decide +kernel
theorem d_Mo_isTight_84 : decode prog_12_method_73_code 84 = .ok (.ireturn, 1) := by decide +kernel
set_option maxHeartbeats 4000000 in
set_option maxRecDepth 100000 in
theorem c_Mo_isTight (l : Launch) (D : va_G) (cI cB cJ cS : ClassId) (h0 : Nat) (am : Nat → Nat) (a_all_m5 : Nat) (p1 : Int32) (p2 : Int32) (known_h0 : Int32) (thrown_h0 : Int32) (wrong_h0 : Int32) (lastEnd_h0 : Int32) (at_h0 : Int32) (bad_h0 : Int32) (levels_h0 : Int32) (least_h0 : Int32) (found_h0 : Int32) (size_m5 : Int32) (n_a_all_m5 : Nat) (b_a_all_m5 : Nat → Int32) (n_m2 : Nat) (b_m2 : Nat → Int32) (ret : Int32) (o_0_36 : Int32) (h : F_Mo_isTight p1 p2 known_h0 thrown_h0 wrong_h0 lastEnd_h0 at_h0 bad_h0 levels_h0 least_h0 found_h0 size_m5 n_a_all_m5 b_a_all_m5 n_m2 b_m2 = some (ret, o_0_36)) : Ct l D (gT cI cB cJ cS) y_Mo_isTight prog_12_method_73_code 7 (Option.some Jvm.ClassFile.FieldType.boolean) 4 92 0 0 [.ref h0, .int p1, .int p2] [(h0, .inr (9, moF am known_h0 thrown_h0 wrong_h0 lastEnd_h0 at_h0 bad_h0 levels_h0 least_h0 found_h0)), ((am 5), .inr (8, [.ref a_all_m5, .int size_m5])), (a_all_m5, .inl (cI, n_a_all_m5, .inl b_a_all_m5)), ((am 2), .inl (cI, n_m2, .inl b_m2))] (fun v w => v = some (.int ret) ∧ zb ret ∧ w = [(h0, .inr (9, moF am known_h0 thrown_h0 wrong_h0 lastEnd_h0 at_h0 bad_h0 levels_h0 least_h0 o_0_36)), ((am 5), .inr (8, [.ref a_all_m5, .int size_m5])), (a_all_m5, .inl (cI, n_a_all_m5, .inl b_a_all_m5)), ((am 2), .inl (cI, n_m2, .inl b_m2))]) := by
  refine Ct.mk (by decide) (Nat.le_of_ble_eq_true rfl) ?_
  intro p e s m below meth c hr hnm
  refine j_norm (pc' := 0) (lv' := [(0, .ref h0), (1, .int p1), (2, .int p2)]) (st' := []) (ws' := [(h0, .inr (9, moF am known_h0 thrown_h0 wrong_h0 lastEnd_h0 at_h0 bad_h0 levels_h0 least_h0 found_h0)), ((am 5), .inr (8, [.ref a_all_m5, .int size_m5])), (a_all_m5, .inl (cI, n_a_all_m5, .inl b_a_all_m5)), ((am 2), .inl (cI, n_m2, .inl b_m2))]) (cl' := 0) (sl' := 0) rfl rfl rfl rfl rfl rfl ?_
  unfold F_Mo_isTight at h
  refine j_aload_n d_Mo_isTight_0 rfl 0 rfl ?_
  refine j_iload_n d_Mo_isTight_1 rfl 1 rfl ?_
  refine j_iload_n d_Mo_isTight_2 rfl 2 rfl ?_
  replace h := bd_s h
  obtain ⟨r1, k2, h⟩ := h
  refine j_callV (n := 2) (As := [.int p1, .int p2]) (rest := []) (wr := [((am 2), .inl (cI, n_m2, .inl b_m2))]) (c_Mo_around l D cI cB cJ cS h0 am a_all_m5 p1 p2 known_h0 thrown_h0 wrong_h0 lastEnd_h0 at_h0 bad_h0 levels_h0 least_h0 found_h0 size_m5 n_a_all_m5 b_a_all_m5  r1 k2) k_Mo_460 (by decide) ⟨Nat.le_of_ble_eq_true rfl, Nat.le_of_ble_eq_true rfl⟩ rfl 0 rfl [0, 1, 2] [3] rfl (by decide) rfl (by decide) (by decide) rfl rfl (Nat.le_of_ble_eq_true rfl) d_Mo_isTight_3 ⟨Nat.le_of_ble_eq_true rfl, Nat.le_of_ble_eq_true rfl⟩ (fun v w hq => ?_)
  obtain ⟨rfl, rfl⟩ := hq
  refine j_norm (pc' := 6) (st' := [.int r1]) (ws' := [((am 2), .inl (cI, n_m2, .inl b_m2)), (h0, .inr (9, moF am known_h0 thrown_h0 wrong_h0 lastEnd_h0 at_h0 bad_h0 levels_h0 least_h0 found_h0)), ((am 5), .inr (8, [.ref a_all_m5, .int size_m5])), (a_all_m5, .inl (cI, n_a_all_m5, .inl b_a_all_m5))]) (cl' := 0) (sl' := 0) rfl rfl rfl rfl rfl rfl ?_
  refine j_istore_n (lv' := [(3, .int r1), (0, .ref h0), (1, .int p1), (2, .int p2)]) d_Mo_isTight_6 rfl (by decide) rfl ?_
  refine j_iload_n d_Mo_isTight_7 rfl 2 rfl ?_
  refine j_iload_n d_Mo_isTight_8 rfl 0 rfl ?_
  refine j_iadd d_Mo_isTight_9 ?_
  refine j_istore (lv' := [(4, .int (p1 + r1)), (3, .int r1), (0, .ref h0), (1, .int p1), (2, .int p2)]) d_Mo_isTight_10 (by decide) rfl ?_
  refine j_iload_n d_Mo_isTight_12 rfl 4 rfl ?_
  refine j_iload_n d_Mo_isTight_13 rfl 1 rfl ?_
  refine j_isub d_Mo_isTight_14 ?_
  refine j_istore (lv' := [(5, .int (p2 - r1)), (4, .int (p1 + r1)), (3, .int r1), (0, .ref h0), (1, .int p1), (2, .int p2)]) d_Mo_isTight_15 (by decide) rfl ?_
  refine j_aload_n d_Mo_isTight_17 rfl 3 rfl ?_
  refine j_iload d_Mo_isTight_18 1 rfl ?_
  refine j_iload d_Mo_isTight_20 0 rfl ?_
  replace h := bd_s h
  obtain ⟨⟨r3, r4⟩, k5, h⟩ := h
  refine j_callV (n := 2) (As := [.int (p1 + r1), .int (p2 - r1)]) (rest := []) (wr := []) (c_Mo_rankBetween l D cI cB cJ cS h0 am a_all_m5 (p1 + r1) (p2 - r1) known_h0 thrown_h0 wrong_h0 lastEnd_h0 at_h0 bad_h0 levels_h0 least_h0 found_h0 size_m5 n_a_all_m5 b_a_all_m5 n_m2 b_m2  r3 r4 k5) k_Mo_463 (by decide) ⟨Nat.le_of_ble_eq_true rfl, Nat.le_of_ble_eq_true rfl⟩ rfl 0 rfl [1, 2, 3, 0] [] rfl (by decide) rfl (by decide) (by decide) rfl rfl (Nat.le_of_ble_eq_true rfl) d_Mo_isTight_22 ⟨Nat.le_of_ble_eq_true rfl, Nat.le_of_ble_eq_true rfl⟩ (fun v w hq => ?_)
  obtain ⟨rfl, rfl⟩ := hq
  refine j_norm (pc' := 25) (st' := [.int r3]) (ws' := [(h0, .inr (9, moF am known_h0 thrown_h0 wrong_h0 lastEnd_h0 at_h0 bad_h0 levels_h0 least_h0 r4)), ((am 5), .inr (8, [.ref a_all_m5, .int size_m5])), (a_all_m5, .inl (cI, n_a_all_m5, .inl b_a_all_m5)), ((am 2), .inl (cI, n_m2, .inl b_m2))]) (cl' := 0) (sl' := 0) rfl rfl rfl rfl rfl rfl ?_
  refine j_bipush (v := 7) d_Mo_isTight_25 (by decide) ?_
  refine j_icmp_ne (tgt := 44) d_Mo_isTight_27 (by decide) (fun c6 => ?_) (fun c6 => ?_)
  · replace h := it_f c6 h
    refine j_iconst (v := 0) d_Mo_isTight_44 (by decide) ?_
    replace h := Option.some.inj h
    replace h := Prod.mk.inj h
    obtain ⟨h9, h⟩ := h
    subst h9
    subst h
    exact j_zret (w := [(h0, .inr (9, moF am known_h0 thrown_h0 wrong_h0 lastEnd_h0 at_h0 bad_h0 levels_h0 least_h0 r4)), ((am 5), .inr (8, [.ref a_all_m5, .int size_m5])), (a_all_m5, .inl (cI, n_a_all_m5, .inl b_a_all_m5)), ((am 2), .inl (cI, n_m2, .inl b_m2))]) hr (zb_n zb0) d_Mo_isTight_45 [0, 1, 2, 3] rfl (by decide) ⟨rfl, zb0, rfl⟩
  · replace h := it_t c6 h
    refine j_aload_n d_Mo_isTight_30 rfl 3 rfl ?_
    refine j_get ig_Mo rfl 0 rfl 5 (by decide) rfl m_1118 rfl d_Mo_isTight_31 ?_
    refine j_iload d_Mo_isTight_34 1 rfl ?_
    replace h := bd_s h
    obtain ⟨_, k7, h⟩ := h
    refine j_callV (n := 1) (As := [.int (p1 + r1)]) (rest := []) (wr := [(h0, .inr (9, moF am known_h0 thrown_h0 wrong_h0 lastEnd_h0 at_h0 bad_h0 levels_h0 least_h0 r4)), ((am 2), .inl (cI, n_m2, .inl b_m2))]) (c_Nm_at l D cI cB cJ cS (am 5) a_all_m5 (p1 + r1) size_m5 n_a_all_m5 b_a_all_m5  k7) k_Mo_214 (by decide) ⟨Nat.le_of_ble_eq_true rfl, Nat.le_of_ble_eq_true rfl⟩ rfl 0 rfl [1, 2] [0, 3] rfl (by decide) rfl (by decide) (by decide) rfl rfl (Nat.le_of_ble_eq_true rfl) d_Mo_isTight_36 ⟨Nat.le_of_ble_eq_true rfl, Nat.le_of_ble_eq_true rfl⟩ (fun v w hq => ?_)
    obtain ⟨rfl, rfl⟩ := hq
    refine j_norm (pc' := 39) (st' := [.int (b_a_all_m5 (Int32.toNatClampNeg (p1 + r1)))]) (ws' := [(h0, .inr (9, moF am known_h0 thrown_h0 wrong_h0 lastEnd_h0 at_h0 bad_h0 levels_h0 least_h0 r4)), ((am 2), .inl (cI, n_m2, .inl b_m2)), ((am 5), .inr (8, [.ref a_all_m5, .int size_m5])), (a_all_m5, .inl (cI, n_a_all_m5, .inl b_a_all_m5))]) (cl' := 0) (sl' := 0) rfl rfl rfl rfl rfl rfl ?_
    refine j_bipush (v := 40) d_Mo_isTight_39 (by decide) ?_
    refine j_icmp_eq (tgt := 46) d_Mo_isTight_41 (by decide) (fun c8 => ?_) (fun c8 => ?_)
    · replace h := it_t c8 h
      refine j_aload_n d_Mo_isTight_46 rfl 3 rfl ?_
      refine j_iload d_Mo_isTight_47 1 rfl ?_
      refine j_iconst (v := 1) d_Mo_isTight_49 (by decide) ?_
      refine j_iadd d_Mo_isTight_50 ?_
      refine j_iload d_Mo_isTight_51 0 rfl ?_
      replace h := bd_s h
      obtain ⟨r9, k10, h⟩ := h
      refine j_callV (n := 2) (As := [.int ((p1 + r1) + 1), .int (p2 - r1)]) (rest := []) (wr := [((am 2), .inl (cI, n_m2, .inl b_m2))]) (c_Mo_around l D cI cB cJ cS h0 am a_all_m5 ((p1 + r1) + 1) (p2 - r1) known_h0 thrown_h0 wrong_h0 lastEnd_h0 at_h0 bad_h0 levels_h0 least_h0 r4 size_m5 n_a_all_m5 b_a_all_m5  r9 k10) k_Mo_460 (by decide) ⟨Nat.le_of_ble_eq_true rfl, Nat.le_of_ble_eq_true rfl⟩ rfl 0 rfl [0, 2, 3] [1] rfl (by decide) rfl (by decide) (by decide) rfl rfl (Nat.le_of_ble_eq_true rfl) d_Mo_isTight_53 ⟨Nat.le_of_ble_eq_true rfl, Nat.le_of_ble_eq_true rfl⟩ (fun v w hq => ?_)
      obtain ⟨rfl, rfl⟩ := hq
      refine j_norm (pc' := 56) (st' := [.int r9]) (ws' := [((am 2), .inl (cI, n_m2, .inl b_m2)), (h0, .inr (9, moF am known_h0 thrown_h0 wrong_h0 lastEnd_h0 at_h0 bad_h0 levels_h0 least_h0 r4)), ((am 5), .inr (8, [.ref a_all_m5, .int size_m5])), (a_all_m5, .inl (cI, n_a_all_m5, .inl b_a_all_m5))]) (cl' := 0) (sl' := 0) rfl rfl rfl rfl rfl rfl ?_
      refine j_istore (lv' := [(6, .int r9), (5, .int (p2 - r1)), (4, .int (p1 + r1)), (3, .int r1), (0, .ref h0), (1, .int p1), (2, .int p2)]) d_Mo_isTight_56 (by decide) rfl ?_
      refine j_aload_n d_Mo_isTight_58 rfl 4 rfl ?_
      refine j_iload d_Mo_isTight_59 2 rfl ?_
      refine j_iconst (v := 1) d_Mo_isTight_61 (by decide) ?_
      refine j_iadd d_Mo_isTight_62 ?_
      refine j_iload d_Mo_isTight_63 0 rfl ?_
      refine j_iadd d_Mo_isTight_65 ?_
      refine j_iload d_Mo_isTight_66 1 rfl ?_
      refine j_iload d_Mo_isTight_68 0 rfl ?_
      refine j_isub d_Mo_isTight_70 ?_
      replace h := bd_s h
      obtain ⟨⟨r11, r12⟩, k13, h⟩ := h
      refine j_callV (n := 2) (As := [.int (((p1 + r1) + 1) + r9), .int ((p2 - r1) - r9)]) (rest := []) (wr := []) (c_Mo_rankBetween l D cI cB cJ cS h0 am a_all_m5 (((p1 + r1) + 1) + r9) ((p2 - r1) - r9) known_h0 thrown_h0 wrong_h0 lastEnd_h0 at_h0 bad_h0 levels_h0 least_h0 r4 size_m5 n_a_all_m5 b_a_all_m5 n_m2 b_m2  r11 r12 k13) k_Mo_463 (by decide) ⟨Nat.le_of_ble_eq_true rfl, Nat.le_of_ble_eq_true rfl⟩ rfl 0 rfl [1, 2, 3, 0] [] rfl (by decide) rfl (by decide) (by decide) rfl rfl (Nat.le_of_ble_eq_true rfl) d_Mo_isTight_71 ⟨Nat.le_of_ble_eq_true rfl, Nat.le_of_ble_eq_true rfl⟩ (fun v w hq => ?_)
      obtain ⟨rfl, rfl⟩ := hq
      refine j_norm (pc' := 74) (st' := [.int r11]) (ws' := [(h0, .inr (9, moF am known_h0 thrown_h0 wrong_h0 lastEnd_h0 at_h0 bad_h0 levels_h0 least_h0 r12)), ((am 5), .inr (8, [.ref a_all_m5, .int size_m5])), (a_all_m5, .inl (cI, n_a_all_m5, .inl b_a_all_m5)), ((am 2), .inl (cI, n_m2, .inl b_m2))]) (cl' := 0) (sl' := 0) rfl rfl rfl rfl rfl rfl ?_
      refine j_bipush (v := 8) d_Mo_isTight_74 (by decide) ?_
      refine j_icmp_le (tgt := 83) d_Mo_isTight_76 (by decide) (fun c14 => ?_) (fun c14 => ?_)
      · replace h := it_t c14 h
        refine j_iconst (v := 0) d_Mo_isTight_83 (by decide) ?_
        replace h := Option.some.inj h
        replace h := Prod.mk.inj h
        obtain ⟨h9, h⟩ := h
        subst h9
        subst h
        exact j_zret (w := [(h0, .inr (9, moF am known_h0 thrown_h0 wrong_h0 lastEnd_h0 at_h0 bad_h0 levels_h0 least_h0 r12)), ((am 5), .inr (8, [.ref a_all_m5, .int size_m5])), (a_all_m5, .inl (cI, n_a_all_m5, .inl b_a_all_m5)), ((am 2), .inl (cI, n_m2, .inl b_m2))]) hr (zb_n zb0) d_Mo_isTight_84 [0, 1, 2, 3] rfl (by decide) ⟨rfl, zb0, rfl⟩
      · replace h := it_f c14 h
        refine j_iconst (v := 1) d_Mo_isTight_79 (by decide) ?_
        refine j_goto (tgt := 84) d_Mo_isTight_80 (by decide) ?_
        replace h := Option.some.inj h
        replace h := Prod.mk.inj h
        obtain ⟨h9, h⟩ := h
        subst h9
        subst h
        exact j_zret (w := [(h0, .inr (9, moF am known_h0 thrown_h0 wrong_h0 lastEnd_h0 at_h0 bad_h0 levels_h0 least_h0 r12)), ((am 5), .inr (8, [.ref a_all_m5, .int size_m5])), (a_all_m5, .inl (cI, n_a_all_m5, .inl b_a_all_m5)), ((am 2), .inl (cI, n_m2, .inl b_m2))]) hr (zb_n zb1) d_Mo_isTight_84 [0, 1, 2, 3] rfl (by decide) ⟨rfl, zb1, rfl⟩
    · replace h := it_f c8 h
      refine j_iconst (v := 0) d_Mo_isTight_44 (by decide) ?_
      replace h := Option.some.inj h
      replace h := Prod.mk.inj h
      obtain ⟨h9, h⟩ := h
      subst h9
      subst h
      exact j_zret (w := [(h0, .inr (9, moF am known_h0 thrown_h0 wrong_h0 lastEnd_h0 at_h0 bad_h0 levels_h0 least_h0 r4)), ((am 5), .inr (8, [.ref a_all_m5, .int size_m5])), (a_all_m5, .inl (cI, n_a_all_m5, .inl b_a_all_m5)), ((am 2), .inl (cI, n_m2, .inl b_m2))]) hr (zb_n zb0) d_Mo_isTight_45 [0, 2, 3, 1] rfl (by decide) ⟨rfl, zb0, rfl⟩
noncomputable def F_Mo_buildItem_76 (known_h0 : Int32) (thrown_h0 : Int32) (wrong_h0 : Int32) (lastEnd_h0 : Int32) (at_h0 : Int32) (bad_h0 : Int32) (levels_h0 : Int32) (least_h0 : Int32) (found_h0 : Int32) (size_m5 : Int32) (n_a_all_m5 : Nat) (b_a_all_m5 : Nat → Int32) (v7_36 : Int32) (f11_1_36 : Int32) (f12_1_36 : Int32) (f13_1_36 : Int32) (n15_36 : Nat) (b15_36 : Nat → Int32) (n16_36 : Nat) (b16_36 : Nat → Int32) (n17_36 : Nat) (b17_36 : Nat → Int32) (n18_36 : Nat) (b18_36 : Nat → Int32) (n19_36 : Nat) (b19_36 : Nat → Int32) (n20_36 : Nat) (b20_36 : Nat → Int32) (n21_36 : Nat) (b21_36 : Nat → Int32) (n22_36 : Nat) (b22_36 : Nat → Int32) (K_36 : Int32 → Int32 → Int32 → Nat → (Nat → Int32) → Int32 → Int32 → Int32 → Nat → (Nat → Int32) → Nat → (Nat → Int32) → Nat → (Nat → Int32) → Nat → (Nat → Int32) → Nat → (Nat → Int32) → Nat → (Nat → Int32) → Nat → (Nat → Int32) → Nat → (Nat → Int32) → Option ((Int32 × Int32 × Int32 × Int32 × Nat × (Nat → Int32) × Nat × (Nat → Int32) × Nat × (Nat → Int32) × Nat × (Nat → Int32) × Nat × (Nat → Int32) × Nat × (Nat → Int32) × Nat × (Nat → Int32) × Nat × (Nat → Int32) × Nat × (Nat → Int32)) × Nat × Nat)) (v6_76 : Int32) (f0_1_76 : Int32) (n1_76 : Nat) (b1_76 : Nat → Int32) : Option ((Int32 × Int32 × Int32 × Int32 × Nat × (Nat → Int32) × Nat × (Nat → Int32) × Nat × (Nat → Int32) × Nat × (Nat → Int32) × Nat × (Nat → Int32) × Nat × (Nat → Int32) × Nat × (Nat → Int32) × Nat × (Nat → Int32) × Nat × (Nat → Int32)) × Nat × Nat) :=
    Option.bind (F_Nm_at v7_36 size_m5 n_a_all_m5 b_a_all_m5) fun _ =>
    if (b_a_all_m5 (Int32.toNatClampNeg v7_36)) = 50 then (Option.bind (F_Mo_closing v7_36 known_h0 thrown_h0 wrong_h0 lastEnd_h0 at_h0 bad_h0 levels_h0 least_h0 found_h0 size_m5 n_a_all_m5 b_a_all_m5) fun r3 =>
      K_36 (r3 + 1) v6_76 f0_1_76 n1_76 b1_76 f11_1_36 f12_1_36 f13_1_36 n15_36 b15_36 n16_36 b16_36 n17_36 b17_36 n18_36 b18_36 n19_36 b19_36 n20_36 b20_36 n21_36 b21_36 n22_36 b22_36)
    else (Option.bind (F_Nm_at v7_36 size_m5 n_a_all_m5 b_a_all_m5) fun _ =>
      if (b_a_all_m5 (Int32.toNatClampNeg v7_36)) = 52 then (Option.bind (F_Mo_closing v7_36 known_h0 thrown_h0 wrong_h0 lastEnd_h0 at_h0 bad_h0 levels_h0 least_h0 found_h0 size_m5 n_a_all_m5 b_a_all_m5) fun r7 =>
        K_36 (r7 + 1) v6_76 f0_1_76 n1_76 b1_76 f11_1_36 f12_1_36 f13_1_36 n15_36 b15_36 n16_36 b16_36 n17_36 b17_36 n18_36 b18_36 n19_36 b19_36 n20_36 b20_36 n21_36 b21_36 n22_36 b22_36)
      else (K_36 (v7_36 + 1) v6_76 f0_1_76 n1_76 b1_76 f11_1_36 f12_1_36 f13_1_36 n15_36 b15_36 n16_36 b16_36 n17_36 b17_36 n18_36 b18_36 n19_36 b19_36 n20_36 b20_36 n21_36 b21_36 n22_36 b22_36))
noncomputable def F_Mo_buildItem_36 (p3 : Int32) (known_h0 : Int32) (thrown_h0 : Int32) (wrong_h0 : Int32) (lastEnd_h0 : Int32) (at_h0 : Int32) (bad_h0 : Int32) (levels_h0 : Int32) (least_h0 : Int32) (found_h0 : Int32) (size_m5 : Int32) (n_a_all_m5 : Nat) (b_a_all_m5 : Nat → Int32) (size_m24 : Int32) : Nat → Int32 → Int32 → Int32 → Nat → (Nat → Int32) → Int32 → Int32 → Int32 → Nat → (Nat → Int32) → Nat → (Nat → Int32) → Nat → (Nat → Int32) → Nat → (Nat → Int32) → Nat → (Nat → Int32) → Nat → (Nat → Int32) → Nat → (Nat → Int32) → Nat → (Nat → Int32) → Option ((Int32 × Int32 × Int32 × Int32 × Nat × (Nat → Int32) × Nat × (Nat → Int32) × Nat × (Nat → Int32) × Nat × (Nat → Int32) × Nat × (Nat → Int32) × Nat × (Nat → Int32) × Nat × (Nat → Int32) × Nat × (Nat → Int32) × Nat × (Nat → Int32)) × Nat × Nat)
  | 0, _, _, _, _, _, _, _, _, _, _, _, _, _, _, _, _, _, _, _, _, _, _, _, _ => none
  | k_36 + 1, v7_36, v6_36, f0_1_36, n1_36, b1_36, f11_1_36, f12_1_36, f13_1_36, n15_36, b15_36, n16_36, b16_36, n17_36, b17_36, n18_36, b18_36, n19_36, b19_36, n20_36, b20_36, n21_36, b21_36, n22_36, b22_36 =>
    if (p3 - 1) ≤ v7_36 then (if (p3 - 1) ≤ v6_36 then (some ((f11_1_36, f12_1_36, f13_1_36, f0_1_36, n15_36, b15_36, n16_36, b16_36, n17_36, b17_36, n18_36, b18_36, n19_36, b19_36, n20_36, b20_36, n21_36, b21_36, n22_36, b22_36, n1_36, b1_36), 0, 0))
      else (bw (F_Mo_task 3 size_m24 v6_36 (p3 - 1) 0 known_h0 thrown_h0 wrong_h0 lastEnd_h0 at_h0 bad_h0 levels_h0 least_h0 found_h0 f0_1_36 n1_36 b1_36) fun ⟨r11, r12⟩ =>
        (some ((f11_1_36, f12_1_36, f13_1_36, ((((f0_1_36 + 1) + 1) + 1) + 1) + 1, n15_36, b15_36, n16_36, b16_36, n17_36, b17_36, n18_36, b18_36, n19_36, b19_36, n20_36, b20_36, n21_36, b21_36, n22_36, b22_36, r11, r12), 0, 0))))
    else (Option.bind (F_Nm_at v7_36 size_m5 n_a_all_m5 b_a_all_m5) fun _ =>
      if (b_a_all_m5 (Int32.toNatClampNeg v7_36)) = 55 then (bw (F_Mo_task 3 size_m24 v6_36 v7_36 0 known_h0 thrown_h0 wrong_h0 lastEnd_h0 at_h0 bad_h0 levels_h0 least_h0 found_h0 f0_1_36 n1_36 b1_36) fun ⟨r21, r22⟩ =>
        F_Mo_buildItem_76 known_h0 thrown_h0 wrong_h0 lastEnd_h0 at_h0 bad_h0 levels_h0 least_h0 found_h0 size_m5 n_a_all_m5 b_a_all_m5 v7_36 f11_1_36 f12_1_36 f13_1_36 n15_36 b15_36 n16_36 b16_36 n17_36 b17_36 n18_36 b18_36 n19_36 b19_36 n20_36 b20_36 n21_36 b21_36 n22_36 b22_36 (F_Mo_buildItem_36 p3 known_h0 thrown_h0 wrong_h0 lastEnd_h0 at_h0 bad_h0 levels_h0 least_h0 found_h0 size_m5 n_a_all_m5 b_a_all_m5 size_m24  k_36)  (v7_36 + 1) (((((f0_1_36 + 1) + 1) + 1) + 1) + 1) r21 r22)
      else (F_Mo_buildItem_76 known_h0 thrown_h0 wrong_h0 lastEnd_h0 at_h0 bad_h0 levels_h0 least_h0 found_h0 size_m5 n_a_all_m5 b_a_all_m5 v7_36 f11_1_36 f12_1_36 f13_1_36 n15_36 b15_36 n16_36 b16_36 n17_36 b17_36 n18_36 b18_36 n19_36 b19_36 n20_36 b20_36 n21_36 b21_36 n22_36 b22_36 (F_Mo_buildItem_36 p3 known_h0 thrown_h0 wrong_h0 lastEnd_h0 at_h0 bad_h0 levels_h0 least_h0 found_h0 size_m5 n_a_all_m5 b_a_all_m5 size_m24  k_36)  v6_36 f0_1_36 n1_36 b1_36))
noncomputable def F_Mo_buildItem (p1 : Int32) (p2 : Int32) (p3 : Int32) (known_h0 : Int32) (thrown_h0 : Int32) (wrong_h0 : Int32) (lastEnd_h0 : Int32) (at_h0 : Int32) (bad_h0 : Int32) (levels_h0 : Int32) (least_h0 : Int32) (found_h0 : Int32) (size_m5 : Int32) (n_a_all_m5 : Nat) (b_a_all_m5 : Nat → Int32) (size_m6 : Int32) (n_a_all_m6 : Nat) (b_a_all_m6 : Nat → Int32) (size_m24 : Int32) (n_a_all_m24 : Nat) (b_a_all_m24 : Nat → Int32) (size_m25 : Int32) (n_a_all_m25 : Nat) (b_a_all_m25 : Nat → Int32) (size_m26 : Int32) (n_a_all_m26 : Nat) (b_a_all_m26 : Nat → Int32) (size_m27 : Int32) (n_a_all_m27 : Nat) (b_a_all_m27 : Nat → Int32) (size_m28 : Int32) (n_a_all_m28 : Nat) (b_a_all_m28 : Nat → Int32) (size_m29 : Int32) (n_a_all_m29 : Nat) (b_a_all_m29 : Nat → Int32) (size_m30 : Int32) (n_a_all_m30 : Nat) (b_a_all_m30 : Nat → Int32) (size_m31 : Int32) (n_a_all_m31 : Nat) (b_a_all_m31 : Nat → Int32) (size_m33 : Int32) (n_a_all_m33 : Nat) (b_a_all_m33 : Nat → Int32) : Option ((Int32 × Int32 × Int32 × Int32 × Nat × (Nat → Int32) × Nat × (Nat → Int32) × Nat × (Nat → Int32) × Nat × (Nat → Int32) × Nat × (Nat → Int32) × Nat × (Nat → Int32) × Nat × (Nat → Int32) × Nat × (Nat → Int32) × Nat × (Nat → Int32)) × Nat × Nat) :=
  Option.bind (F_Nm_at p2 size_m5 n_a_all_m5 b_a_all_m5) fun _ =>
  if (b_a_all_m5 (Int32.toNatClampNeg p2)) = 52 then (bw (F_Mo_leafNode p1 36 p2 known_h0 thrown_h0 wrong_h0 lastEnd_h0 at_h0 bad_h0 levels_h0 least_h0 found_h0 size_m6 n_a_all_m6 b_a_all_m6 size_m24 n_a_all_m24 b_a_all_m24 size_m25 n_a_all_m25 b_a_all_m25 size_m26 n_a_all_m26 b_a_all_m26 size_m27 n_a_all_m27 b_a_all_m27 size_m28 n_a_all_m28 b_a_all_m28 size_m29 n_a_all_m29 b_a_all_m29 size_m30 n_a_all_m30 b_a_all_m30 size_m31 n_a_all_m31 b_a_all_m31) fun ⟨r206, r207, r208, r209, r210, r211, r212, r213, r214, r215, r216, r217, r218, r219, r220, r221, r222, r223, r224⟩ =>
    F_Mo_buildItem_36 p3 known_h0 thrown_h0 wrong_h0 lastEnd_h0 at_h0 bad_h0 levels_h0 least_h0 found_h0 size_m5 n_a_all_m5 b_a_all_m5 size_m24  FU (p2 + 1) (p2 + 1) size_m33 n_a_all_m33 b_a_all_m33 r206 r207 r208 r209 r210 r211 r212 r213 r214 r215 r216 r217 r218 r219 r220 r221 r222 r223 r224)
  else if p3 ≤ (p2 + 1) then (if (b_a_all_m5 (Int32.toNatClampNeg p2)) = 3 then (bw (F_Mo_leafNode p1 30 p2 known_h0 thrown_h0 wrong_h0 lastEnd_h0 at_h0 bad_h0 levels_h0 least_h0 found_h0 size_m6 n_a_all_m6 b_a_all_m6 size_m24 n_a_all_m24 b_a_all_m24 size_m25 n_a_all_m25 b_a_all_m25 size_m26 n_a_all_m26 b_a_all_m26 size_m27 n_a_all_m27 b_a_all_m27 size_m28 n_a_all_m28 b_a_all_m28 size_m29 n_a_all_m29 b_a_all_m29 size_m30 n_a_all_m30 b_a_all_m30 size_m31 n_a_all_m31 b_a_all_m31) fun ⟨r131, r132, r133, r134, r135, r136, r137, r138, r139, r140, r141, r142, r143, r144, r145, r146, r147, r148, r149⟩ =>
      (some ((r131, r132, r133, size_m33, r134, r135, r136, r137, r138, r139, r140, r141, r142, r143, r144, r145, r146, r147, r148, r149, n_a_all_m33, b_a_all_m33), 0, 0)))
    else if (b_a_all_m5 (Int32.toNatClampNeg p2)) = 4 then (bw (F_Mo_leafNode p1 31 p2 known_h0 thrown_h0 wrong_h0 lastEnd_h0 at_h0 bad_h0 levels_h0 least_h0 found_h0 size_m6 n_a_all_m6 b_a_all_m6 size_m24 n_a_all_m24 b_a_all_m24 size_m25 n_a_all_m25 b_a_all_m25 size_m26 n_a_all_m26 b_a_all_m26 size_m27 n_a_all_m27 b_a_all_m27 size_m28 n_a_all_m28 b_a_all_m28 size_m29 n_a_all_m29 b_a_all_m29 size_m30 n_a_all_m30 b_a_all_m30 size_m31 n_a_all_m31 b_a_all_m31) fun ⟨r99, r100, r101, r102, r103, r104, r105, r106, r107, r108, r109, r110, r111, r112, r113, r114, r115, r116, r117⟩ =>
      (some ((r99, r100, r101, size_m33, r102, r103, r104, r105, r106, r107, r108, r109, r110, r111, r112, r113, r114, r115, r116, r117, n_a_all_m33, b_a_all_m33), 0, 0)))
    else if (b_a_all_m5 (Int32.toNatClampNeg p2)) = 13 then (bw (F_Mo_leafNode p1 35 p2 known_h0 thrown_h0 wrong_h0 lastEnd_h0 at_h0 bad_h0 levels_h0 least_h0 found_h0 size_m6 n_a_all_m6 b_a_all_m6 size_m24 n_a_all_m24 b_a_all_m24 size_m25 n_a_all_m25 b_a_all_m25 size_m26 n_a_all_m26 b_a_all_m26 size_m27 n_a_all_m27 b_a_all_m27 size_m28 n_a_all_m28 b_a_all_m28 size_m29 n_a_all_m29 b_a_all_m29 size_m30 n_a_all_m30 b_a_all_m30 size_m31 n_a_all_m31 b_a_all_m31) fun ⟨r67, r68, r69, r70, r71, r72, r73, r74, r75, r76, r77, r78, r79, r80, r81, r82, r83, r84, r85⟩ =>
      (some ((r67, r68, r69, size_m33, r70, r71, r72, r73, r74, r75, r76, r77, r78, r79, r80, r81, r82, r83, r84, r85, n_a_all_m33, b_a_all_m33), 0, 0)))
    else (bw (F_Mo_leafNode p1 32 p2 known_h0 thrown_h0 wrong_h0 lastEnd_h0 at_h0 bad_h0 levels_h0 least_h0 found_h0 size_m6 n_a_all_m6 b_a_all_m6 size_m24 n_a_all_m24 b_a_all_m24 size_m25 n_a_all_m25 b_a_all_m25 size_m26 n_a_all_m26 b_a_all_m26 size_m27 n_a_all_m27 b_a_all_m27 size_m28 n_a_all_m28 b_a_all_m28 size_m29 n_a_all_m29 b_a_all_m29 size_m30 n_a_all_m30 b_a_all_m30 size_m31 n_a_all_m31 b_a_all_m31) fun ⟨r35, r36, r37, r38, r39, r40, r41, r42, r43, r44, r45, r46, r47, r48, r49, r50, r51, r52, r53⟩ =>
      (some ((r35, r36, r37, size_m33, r38, r39, r40, r41, r42, r43, r44, r45, r46, r47, r48, r49, r50, r51, r52, r53, n_a_all_m33, b_a_all_m33), 0, 0))))
  else (Option.bind (F_Mo_placeOf p2 known_h0 thrown_h0 wrong_h0 lastEnd_h0 at_h0 bad_h0 levels_h0 least_h0 found_h0 size_m6 n_a_all_m6 b_a_all_m6) fun _ =>
    Option.bind (F_Mo_placeOf (p2 + 1) known_h0 thrown_h0 wrong_h0 lastEnd_h0 at_h0 bad_h0 levels_h0 least_h0 found_h0 size_m6 n_a_all_m6 b_a_all_m6) fun _ =>
    bw (F_Mo_newNode p1 33 (b_a_all_m6 (Int32.toNatClampNeg p2)) (b_a_all_m6 (Int32.toNatClampNeg (p2 + 1))) p2 known_h0 thrown_h0 wrong_h0 lastEnd_h0 at_h0 bad_h0 levels_h0 least_h0 found_h0 size_m24 n_a_all_m24 b_a_all_m24 size_m25 n_a_all_m25 b_a_all_m25 size_m26 n_a_all_m26 b_a_all_m26 size_m27 n_a_all_m27 b_a_all_m27 size_m28 n_a_all_m28 b_a_all_m28 size_m29 n_a_all_m29 b_a_all_m29 size_m30 n_a_all_m30 b_a_all_m30 size_m31 n_a_all_m31 b_a_all_m31) fun ⟨r165, r166, r167, r168, r169, r170, r171, r172, r173, r174, r175, r176, r177, r178, r179, r180, r181, r182, r183⟩ =>
    bw (F_Mo_expressions size_m24 (p2 + 2) (p3 - 1) known_h0 thrown_h0 wrong_h0 lastEnd_h0 at_h0 bad_h0 levels_h0 least_h0 found_h0 size_m33 n_a_all_m33 b_a_all_m33 size_m5 n_a_all_m5 b_a_all_m5) fun ⟨r197, r198, r199⟩ =>
    (some ((r165, r166, r167, r197, r168, r169, r170, r171, r172, r173, r174, r175, r176, r177, r178, r179, r180, r181, r182, r183, r198, r199), 0, 0)))
theorem d_Mo_buildItem_0 : decode prog_12_method_75_code 0 = .ok (.aload_n 0, 1) := by decide +kernel
theorem d_Mo_buildItem_1 : decode prog_12_method_75_code 1 = .ok (.getfield 114, 3) := by decide +kernel
theorem d_Mo_buildItem_4 : decode prog_12_method_75_code 4 = .ok (.iload_n 2, 1) := by decide +kernel
theorem d_Mo_buildItem_5 : decode prog_12_method_75_code 5 = .ok (.invokevirtual 214, 3) := by decide +kernel
theorem d_Mo_buildItem_8 : decode prog_12_method_75_code 8 = .ok (.istore 4, 2) := by decide +kernel
theorem d_Mo_buildItem_10 : decode prog_12_method_75_code 10 = .ok (.iload 4, 2) := by decide +kernel
theorem d_Mo_buildItem_12 : decode prog_12_method_75_code 12 = .ok (.bipush 52, 2) := by decide +kernel
theorem d_Mo_buildItem_14 : decode prog_12_method_75_code 14 = .ok (.if_icmp .ne 134, 3) := by decide +kernel
theorem d_Mo_buildItem_17 : decode prog_12_method_75_code 17 = .ok (.aload_n 0, 1) := by decide +kernel
theorem d_Mo_buildItem_18 : decode prog_12_method_75_code 18 = .ok (.iload_n 1, 1) := by decide +kernel
theorem d_Mo_buildItem_19 : decode prog_12_method_75_code 19 = .ok (.bipush 36, 2) := by decide +kernel
theorem d_Mo_buildItem_21 : decode prog_12_method_75_code 21 = .ok (.iload_n 2, 1) := by decide +kernel
theorem d_Mo_buildItem_22 : decode prog_12_method_75_code 22 = .ok (.invokevirtual 426, 3) := by decide +kernel
theorem d_Mo_buildItem_25 : decode prog_12_method_75_code 25 = .ok (.istore 5, 2) := by decide +kernel
theorem d_Mo_buildItem_27 : decode prog_12_method_75_code 27 = .ok (.iload_n 2, 1) := by decide +kernel
theorem d_Mo_buildItem_28 : decode prog_12_method_75_code 28 = .ok (.iconst 1, 1) := by decide +kernel
theorem d_Mo_buildItem_29 : decode prog_12_method_75_code 29 = .ok (.iadd, 1) := by decide +kernel
theorem d_Mo_buildItem_30 : decode prog_12_method_75_code 30 = .ok (.istore 6, 2) := by decide +kernel
theorem d_Mo_buildItem_32 : decode prog_12_method_75_code 32 = .ok (.iload 6, 2) := by decide +kernel
theorem d_Mo_buildItem_34 : decode prog_12_method_75_code 34 = .ok (.istore 7, 2) := by decide +kernel
theorem d_Mo_buildItem_36 : decode prog_12_method_75_code 36 = .ok (.iload 7, 2) := by decide +kernel
theorem d_Mo_buildItem_38 : decode prog_12_method_75_code 38 = .ok (.iload_n 3, 1) := by decide +kernel
theorem d_Mo_buildItem_39 : decode prog_12_method_75_code 39 = .ok (.iconst 1, 1) := by decide +kernel
theorem d_Mo_buildItem_40 : decode prog_12_method_75_code 40 = .ok (.isub, 1) := by decide +kernel
theorem d_Mo_buildItem_41 : decode prog_12_method_75_code 41 = .ok (.if_icmp .ge 83, 3) := by decide +kernel
theorem d_Mo_buildItem_44 : decode prog_12_method_75_code 44 = .ok (.aload_n 0, 1) := by decide +kernel
theorem d_Mo_buildItem_45 : decode prog_12_method_75_code 45 = .ok (.getfield 114, 3) := by decide +kernel
theorem d_Mo_buildItem_48 : decode prog_12_method_75_code 48 = .ok (.iload 7, 2) := by decide +kernel
theorem d_Mo_buildItem_50 : decode prog_12_method_75_code 50 = .ok (.invokevirtual 214, 3) := by decide +kernel
theorem d_Mo_buildItem_53 : decode prog_12_method_75_code 53 = .ok (.bipush 55, 2) := by decide +kernel
theorem d_Mo_buildItem_55 : decode prog_12_method_75_code 55 = .ok (.if_icmp .ne 21, 3) := by decide +kernel
theorem d_Mo_buildItem_58 : decode prog_12_method_75_code 58 = .ok (.aload_n 0, 1) := by decide +kernel
theorem d_Mo_buildItem_59 : decode prog_12_method_75_code 59 = .ok (.iconst 3, 1) := by decide +kernel
theorem d_Mo_buildItem_60 : decode prog_12_method_75_code 60 = .ok (.iload 5, 2) := by decide +kernel
theorem d_Mo_buildItem_62 : decode prog_12_method_75_code 62 = .ok (.iload 6, 2) := by decide +kernel
theorem d_Mo_buildItem_64 : decode prog_12_method_75_code 64 = .ok (.iload 7, 2) := by decide +kernel
theorem d_Mo_buildItem_66 : decode prog_12_method_75_code 66 = .ok (.iconst 0, 1) := by decide +kernel
theorem d_Mo_buildItem_67 : decode prog_12_method_75_code 67 = .ok (.invokevirtual 390, 3) := by decide +kernel
theorem d_Mo_buildItem_70 : decode prog_12_method_75_code 70 = .ok (.iload 7, 2) := by decide +kernel
theorem d_Mo_buildItem_72 : decode prog_12_method_75_code 72 = .ok (.iconst 1, 1) := by decide +kernel
theorem d_Mo_buildItem_73 : decode prog_12_method_75_code 73 = .ok (.iadd, 1) := by decide +kernel
theorem d_Mo_buildItem_74 : decode prog_12_method_75_code 74 = .ok (.istore 6, 2) := by decide +kernel
theorem d_Mo_buildItem_76 : decode prog_12_method_75_code 76 = .ok (.aload_n 0, 1) := by decide +kernel
theorem d_Mo_buildItem_77 : decode prog_12_method_75_code 77 = .ok (.getfield 114, 3) := by decide +kernel
theorem d_Mo_buildItem_80 : decode prog_12_method_75_code 80 = .ok (.iload 7, 2) := by decide +kernel
theorem d_Mo_buildItem_82 : decode prog_12_method_75_code 82 = .ok (.invokevirtual 214, 3) := by decide +kernel
theorem d_Mo_buildItem_85 : decode prog_12_method_75_code 85 = .ok (.bipush 50, 2) := by decide +kernel
theorem d_Mo_buildItem_87 : decode prog_12_method_75_code 87 = .ok (.if_icmp .eq 17, 3) := by decide +kernel
theorem d_Mo_buildItem_90 : decode prog_12_method_75_code 90 = .ok (.aload_n 0, 1) := by decide +kernel
theorem d_Mo_buildItem_91 : decode prog_12_method_75_code 91 = .ok (.getfield 114, 3) := by decide +kernel
theorem d_Mo_buildItem_94 : decode prog_12_method_75_code 94 = .ok (.iload 7, 2) := by decide +kernel
theorem d_Mo_buildItem_96 : decode prog_12_method_75_code 96 = .ok (.invokevirtual 214, 3) := by decide +kernel
theorem d_Mo_buildItem_99 : decode prog_12_method_75_code 99 = .ok (.bipush 52, 2) := by decide +kernel
theorem d_Mo_buildItem_101 : decode prog_12_method_75_code 101 = .ok (.if_icmp .ne 14, 3) := by decide +kernel
theorem d_Mo_buildItem_104 : decode prog_12_method_75_code 104 = .ok (.aload_n 0, 1) := by decide +kernel
theorem d_Mo_buildItem_105 : decode prog_12_method_75_code 105 = .ok (.iload 7, 2) := by decide +kernel
theorem d_Mo_buildItem_107 : decode prog_12_method_75_code 107 = .ok (.invokevirtual 350, 3) := by decide +kernel
theorem d_Mo_buildItem_110 : decode prog_12_method_75_code 110 = .ok (.iconst 1, 1) := by decide +kernel
theorem d_Mo_buildItem_111 : decode prog_12_method_75_code 111 = .ok (.iadd, 1) := by decide +kernel
theorem d_Mo_buildItem_112 : decode prog_12_method_75_code 112 = .ok (.goto 7, 3) := by decide +kernel
theorem d_Mo_buildItem_115 : decode prog_12_method_75_code 115 = .ok (.iload 7, 2) := by decide +kernel
theorem d_Mo_buildItem_117 : decode prog_12_method_75_code 117 = .ok (.iconst 1, 1) := by decide +kernel
theorem d_Mo_buildItem_118 : decode prog_12_method_75_code 118 = .ok (.iadd, 1) := by decide +kernel
theorem d_Mo_buildItem_119 : decode prog_12_method_75_code 119 = .ok (.istore 7, 2) := by decide +kernel
theorem d_Mo_buildItem_121 : decode prog_12_method_75_code 121 = .ok (.goto (-85), 3) := by decide +kernel
theorem d_Mo_buildItem_124 : decode prog_12_method_75_code 124 = .ok (.iload 6, 2) := by decide +kernel
theorem d_Mo_buildItem_126 : decode prog_12_method_75_code 126 = .ok (.iload_n 3, 1) := by decide +kernel
theorem d_Mo_buildItem_127 : decode prog_12_method_75_code 127 = .ok (.iconst 1, 1) := by decide +kernel
theorem d_Mo_buildItem_128 : decode prog_12_method_75_code 128 = .ok (.isub, 1) := by decide +kernel
theorem d_Mo_buildItem_129 : decode prog_12_method_75_code 129 = .ok (.if_icmp .ge 16, 3) := by decide +kernel
theorem d_Mo_buildItem_132 : decode prog_12_method_75_code 132 = .ok (.aload_n 0, 1) := by decide +kernel
theorem d_Mo_buildItem_133 : decode prog_12_method_75_code 133 = .ok (.iconst 3, 1) := by decide +kernel
theorem d_Mo_buildItem_134 : decode prog_12_method_75_code 134 = .ok (.iload 5, 2) := by decide +kernel
theorem d_Mo_buildItem_136 : decode prog_12_method_75_code 136 = .ok (.iload 6, 2) := by decide +kernel
theorem d_Mo_buildItem_138 : decode prog_12_method_75_code 138 = .ok (.iload_n 3, 1) := by decide +kernel
theorem d_Mo_buildItem_139 : decode prog_12_method_75_code 139 = .ok (.iconst 1, 1) := by decide +kernel
theorem d_Mo_buildItem_140 : decode prog_12_method_75_code 140 = .ok (.isub, 1) := by decide +kernel
theorem d_Mo_buildItem_141 : decode prog_12_method_75_code 141 = .ok (.iconst 0, 1) := by decide +kernel
theorem d_Mo_buildItem_142 : decode prog_12_method_75_code 142 = .ok (.invokevirtual 390, 3) := by decide +kernel
theorem d_Mo_buildItem_145 : decode prog_12_method_75_code 145 = .ok (.goto 91, 3) := by decide +kernel
theorem d_Mo_buildItem_148 : decode prog_12_method_75_code 148 = .ok (.iload_n 3, 1) := by decide +kernel
theorem d_Mo_buildItem_149 : decode prog_12_method_75_code 149 = .ok (.iload_n 2, 1) := by decide +kernel
theorem d_Mo_buildItem_150 : decode prog_12_method_75_code 150 = .ok (.iconst 1, 1) := by decide +kernel
theorem d_Mo_buildItem_151 : decode prog_12_method_75_code 151 = .ok (.iadd, 1) := by decide +kernel
theorem d_Mo_buildItem_152 : decode prog_12_method_75_code 152 = .ok (.if_icmp .le 40, 3) := by decide +kernel
theorem d_Mo_buildItem_155 : decode prog_12_method_75_code 155 = .ok (.aload_n 0, 1) := by decide +kernel
theorem d_Mo_buildItem_156 : decode prog_12_method_75_code 156 = .ok (.iload_n 1, 1) := by decide +kernel
theorem d_Mo_buildItem_157 : decode prog_12_method_75_code 157 = .ok (.bipush 33, 2) := by decide +kernel
theorem d_Mo_buildItem_159 : decode prog_12_method_75_code 159 = .ok (.aload_n 0, 1) := by decide +kernel
theorem d_Mo_buildItem_160 : decode prog_12_method_75_code 160 = .ok (.iload_n 2, 1) := by decide +kernel
theorem d_Mo_buildItem_161 : decode prog_12_method_75_code 161 = .ok (.invokevirtual 411, 3) := by decide +kernel
theorem d_Mo_buildItem_164 : decode prog_12_method_75_code 164 = .ok (.aload_n 0, 1) := by decide +kernel
theorem d_Mo_buildItem_165 : decode prog_12_method_75_code 165 = .ok (.iload_n 2, 1) := by decide +kernel
theorem d_Mo_buildItem_166 : decode prog_12_method_75_code 166 = .ok (.iconst 1, 1) := by decide +kernel
theorem d_Mo_buildItem_167 : decode prog_12_method_75_code 167 = .ok (.iadd, 1) := by decide +kernel
theorem d_Mo_buildItem_168 : decode prog_12_method_75_code 168 = .ok (.invokevirtual 411, 3) := by decide +kernel
theorem d_Mo_buildItem_171 : decode prog_12_method_75_code 171 = .ok (.iload_n 2, 1) := by decide +kernel
theorem d_Mo_buildItem_172 : decode prog_12_method_75_code 172 = .ok (.invokevirtual 386, 3) := by decide +kernel
theorem d_Mo_buildItem_175 : decode prog_12_method_75_code 175 = .ok (.istore 5, 2) := by decide +kernel
theorem d_Mo_buildItem_177 : decode prog_12_method_75_code 177 = .ok (.aload_n 0, 1) := by decide +kernel
theorem d_Mo_buildItem_178 : decode prog_12_method_75_code 178 = .ok (.iload 5, 2) := by decide +kernel
theorem d_Mo_buildItem_180 : decode prog_12_method_75_code 180 = .ok (.iload_n 2, 1) := by decide +kernel
theorem d_Mo_buildItem_181 : decode prog_12_method_75_code 181 = .ok (.iconst 2, 1) := by decide +kernel
theorem d_Mo_buildItem_182 : decode prog_12_method_75_code 182 = .ok (.iadd, 1) := by decide +kernel
theorem d_Mo_buildItem_183 : decode prog_12_method_75_code 183 = .ok (.iload_n 3, 1) := by decide +kernel
theorem d_Mo_buildItem_184 : decode prog_12_method_75_code 184 = .ok (.iconst 1, 1) := by decide +kernel
theorem d_Mo_buildItem_185 : decode prog_12_method_75_code 185 = .ok (.isub, 1) := by decide +kernel
theorem d_Mo_buildItem_186 : decode prog_12_method_75_code 186 = .ok (.invokevirtual 439, 3) := by decide +kernel
theorem d_Mo_buildItem_189 : decode prog_12_method_75_code 189 = .ok (.goto 47, 3) := by decide +kernel
theorem d_Mo_buildItem_192 : decode prog_12_method_75_code 192 = .ok (.aload_n 0, 1) := by decide +kernel
theorem d_Mo_buildItem_193 : decode prog_12_method_75_code 193 = .ok (.iload_n 1, 1) := by decide +kernel
theorem d_Mo_buildItem_194 : decode prog_12_method_75_code 194 = .ok (.iload 4, 2) := by decide +kernel
theorem d_Mo_buildItem_196 : decode prog_12_method_75_code 196 = .ok (.iconst 3, 1) := by decide +kernel
theorem d_Mo_buildItem_197 : decode prog_12_method_75_code 197 = .ok (.if_icmp .ne 8, 3) := by decide +kernel
theorem d_Mo_buildItem_200 : decode prog_12_method_75_code 200 = .ok (.bipush 30, 2) := by decide +kernel
theorem d_Mo_buildItem_202 : decode prog_12_method_75_code 202 = .ok (.goto 28, 3) := by decide +kernel
theorem d_Mo_buildItem_205 : decode prog_12_method_75_code 205 = .ok (.iload 4, 2) := by decide +kernel
theorem d_Mo_buildItem_207 : decode prog_12_method_75_code 207 = .ok (.iconst 4, 1) := by decide +kernel
theorem d_Mo_buildItem_208 : decode prog_12_method_75_code 208 = .ok (.if_icmp .ne 8, 3) := by decide +kernel
theorem d_Mo_buildItem_211 : decode prog_12_method_75_code 211 = .ok (.bipush 31, 2) := by decide +kernel
theorem d_Mo_buildItem_213 : decode prog_12_method_75_code 213 = .ok (.goto 17, 3) := by decide +kernel
theorem d_Mo_buildItem_216 : decode prog_12_method_75_code 216 = .ok (.iload 4, 2) := by decide +kernel
theorem d_Mo_buildItem_218 : decode prog_12_method_75_code 218 = .ok (.bipush 13, 2) := by decide +kernel
theorem d_Mo_buildItem_220 : decode prog_12_method_75_code 220 = .ok (.if_icmp .ne 8, 3) := by decide +kernel
theorem d_Mo_buildItem_223 : decode prog_12_method_75_code 223 = .ok (.bipush 35, 2) := by decide +kernel
theorem d_Mo_buildItem_225 : decode prog_12_method_75_code 225 = .ok (.goto 5, 3) := by decide +kernel
theorem d_Mo_buildItem_228 : decode prog_12_method_75_code 228 = .ok (.bipush 32, 2) := by decide +kernel
theorem d_Mo_buildItem_230 : decode prog_12_method_75_code 230 = .ok (.iload_n 2, 1) := by decide +kernel
theorem d_Mo_buildItem_231 : decode prog_12_method_75_code 231 = .ok (.invokevirtual 426, 3) := by decide +kernel
theorem d_Mo_buildItem_234 : decode prog_12_method_75_code 234 = .ok (.istore 5, 2) := by decide +kernel
theorem d_Mo_buildItem_236 : decode prog_12_method_75_code 236 = .ok (.return_, 1) := by decide +kernel
set_option maxHeartbeats 4000000 in
set_option maxRecDepth 100000 in
theorem L_Mo_buildItem_36 (l : Launch) (D : va_G) (cI cB cJ cS : ClassId) (h0 : Nat) (am : Nat → Nat) (a_all_m5 : Nat) (a_all_m6 : Nat) (a_all_m24 : Nat) (a_all_m25 : Nat) (a_all_m26 : Nat) (a_all_m27 : Nat) (a_all_m28 : Nat) (a_all_m29 : Nat) (a_all_m30 : Nat) (a_all_m31 : Nat) (a_all_m33 : Nat) (p1 : Int32) (p2 : Int32) (p3 : Int32) (known_h0 : Int32) (thrown_h0 : Int32) (wrong_h0 : Int32) (lastEnd_h0 : Int32) (at_h0 : Int32) (bad_h0 : Int32) (levels_h0 : Int32) (least_h0 : Int32) (found_h0 : Int32) (size_m5 : Int32) (n_a_all_m5 : Nat) (b_a_all_m5 : Nat → Int32) (size_m6 : Int32) (n_a_all_m6 : Nat) (b_a_all_m6 : Nat → Int32) (size_m24 : Int32) (n_a_all_m24 : Nat) (b_a_all_m24 : Nat → Int32) (size_m25 : Int32) (n_a_all_m25 : Nat) (b_a_all_m25 : Nat → Int32) (size_m26 : Int32) (n_a_all_m26 : Nat) (b_a_all_m26 : Nat → Int32) (size_m27 : Int32) (n_a_all_m27 : Nat) (b_a_all_m27 : Nat → Int32) (size_m28 : Int32) (n_a_all_m28 : Nat) (b_a_all_m28 : Nat → Int32) (size_m29 : Int32) (n_a_all_m29 : Nat) (b_a_all_m29 : Nat → Int32) (size_m30 : Int32) (n_a_all_m30 : Nat) (b_a_all_m30 : Nat → Int32) (size_m31 : Int32) (n_a_all_m31 : Nat) (b_a_all_m31 : Nat → Int32) (size_m33 : Int32) (n_a_all_m33 : Nat) (b_a_all_m33 : Nat → Int32) (o_13_1 : Int32) (o_15_1 : Int32) (o_17_1 : Int32) (o_21_1 : Int32) (on_nq_5_0 : Nat) (ob_nq_5_0 : Nat → Int32) (on_nq_7_0 : Nat) (ob_nq_7_0 : Nat → Int32) (on_nq_9_0 : Nat) (ob_nq_9_0 : Nat → Int32) (on_nq_11_0 : Nat) (ob_nq_11_0 : Nat → Int32) (on_nq_13_0 : Nat) (ob_nq_13_0 : Nat → Int32) (on_nq_15_0 : Nat) (ob_nq_15_0 : Nat → Int32) (on_nq_17_0 : Nat) (ob_nq_17_0 : Nat → Int32) (on_nq_19_0 : Nat) (ob_nq_19_0 : Nat → Int32) (on_nq_21_0 : Nat) (ob_nq_21_0 : Nat → Int32) (mc ms : Nat) (p : Program) (e : Env) (s : State) (m : MethodId) (below : List Frame) (meth : Method) (c : Code) (hr : meth.sig.returnType = (Option.none : Option Jvm.ClassFile.FieldType)) (hnm : meth.name = y_Mo_buildItem.name) : ∀ (k_36 : Nat) (q0_0_36 : Nat) (q7_0_36 : Nat) (q8_0_36 : Nat) (q9_0_36 : Nat) (q10_0_36 : Nat) (q11_0_36 : Nat) (q12_0_36 : Nat) (q13_0_36 : Nat) (q14_0_36 : Nat) (v7_36 : Int32) (v6_36 : Int32) (f0_1_36 : Int32) (n1_36 : Nat) (b1_36 : Nat → Int32) (f11_1_36 : Int32) (f12_1_36 : Int32) (f13_1_36 : Int32) (n15_36 : Nat) (b15_36 : Nat → Int32) (n16_36 : Nat) (b16_36 : Nat → Int32) (n17_36 : Nat) (b17_36 : Nat → Int32) (n18_36 : Nat) (b18_36 : Nat → Int32) (n19_36 : Nat) (b19_36 : Nat → Int32) (n20_36 : Nat) (b20_36 : Nat → Int32) (n21_36 : Nat) (b21_36 : Nat → Int32) (n22_36 : Nat) (b22_36 : Nat → Int32) (cl_36 sl_36 C_36 S_36 : Nat), F_Mo_buildItem_36 p3 known_h0 thrown_h0 wrong_h0 lastEnd_h0 at_h0 bad_h0 levels_h0 least_h0 found_h0 size_m5 n_a_all_m5 b_a_all_m5 size_m24  k_36 v7_36 v6_36 f0_1_36 n1_36 b1_36 f11_1_36 f12_1_36 f13_1_36 n15_36 b15_36 n16_36 b16_36 n17_36 b17_36 n18_36 b18_36 n19_36 b19_36 n20_36 b20_36 n21_36 b21_36 n22_36 b22_36 = some ((o_13_1, o_15_1, o_17_1, o_21_1, on_nq_5_0, ob_nq_5_0, on_nq_7_0, ob_nq_7_0, on_nq_9_0, ob_nq_9_0, on_nq_11_0, ob_nq_11_0, on_nq_13_0, ob_nq_13_0, on_nq_15_0, ob_nq_15_0, on_nq_17_0, ob_nq_17_0, on_nq_19_0, ob_nq_19_0, on_nq_21_0, ob_nq_21_0), C_36, S_36) → cl_36 + C_36 ≤ mc → sl_36 + S_36 ≤ ms → J (KxOf p l e { frames := 3, cells := mc, slots := ms, locals := 74 } s m [.ref h0, .int p1, .int p2, .int p3].toArray below meth c D (gT cI cB cJ cS) [(h0, .inr (9, moF am known_h0 thrown_h0 wrong_h0 lastEnd_h0 at_h0 bad_h0 levels_h0 least_h0 found_h0)), ((am 5), .inr (8, [.ref a_all_m5, .int size_m5])), (a_all_m5, .inl (cI, n_a_all_m5, .inl b_a_all_m5)), ((am 6), .inr (8, [.ref a_all_m6, .int size_m6])), (a_all_m6, .inl (cI, n_a_all_m6, .inl b_a_all_m6)), ((am 24), .inr (8, [.ref a_all_m24, .int size_m24])), (a_all_m24, .inl (cI, n_a_all_m24, .inl b_a_all_m24)), ((am 25), .inr (8, [.ref a_all_m25, .int size_m25])), (a_all_m25, .inl (cI, n_a_all_m25, .inl b_a_all_m25)), ((am 26), .inr (8, [.ref a_all_m26, .int size_m26])), (a_all_m26, .inl (cI, n_a_all_m26, .inl b_a_all_m26)), ((am 27), .inr (8, [.ref a_all_m27, .int size_m27])), (a_all_m27, .inl (cI, n_a_all_m27, .inl b_a_all_m27)), ((am 28), .inr (8, [.ref a_all_m28, .int size_m28])), (a_all_m28, .inl (cI, n_a_all_m28, .inl b_a_all_m28)), ((am 29), .inr (8, [.ref a_all_m29, .int size_m29])), (a_all_m29, .inl (cI, n_a_all_m29, .inl b_a_all_m29)), ((am 30), .inr (8, [.ref a_all_m30, .int size_m30])), (a_all_m30, .inl (cI, n_a_all_m30, .inl b_a_all_m30)), ((am 31), .inr (8, [.ref a_all_m31, .int size_m31])), (a_all_m31, .inl (cI, n_a_all_m31, .inl b_a_all_m31)), ((am 33), .inr (8, [.ref a_all_m33, .int size_m33])), (a_all_m33, .inl (cI, n_a_all_m33, .inl b_a_all_m33))] (fun v w => ∃ nq_5_0 : Nat, ∃ nq_7_0 : Nat, ∃ nq_9_0 : Nat, ∃ nq_11_0 : Nat, ∃ nq_13_0 : Nat, ∃ nq_15_0 : Nat, ∃ nq_17_0 : Nat, ∃ nq_19_0 : Nat, ∃ nq_21_0 : Nat, v = none ∧ w = [(h0, .inr (9, moF am known_h0 thrown_h0 wrong_h0 lastEnd_h0 at_h0 bad_h0 levels_h0 least_h0 found_h0)), ((am 5), .inr (8, [.ref a_all_m5, .int size_m5])), (a_all_m5, .inl (cI, n_a_all_m5, .inl b_a_all_m5)), ((am 6), .inr (8, [.ref a_all_m6, .int size_m6])), (a_all_m6, .inl (cI, n_a_all_m6, .inl b_a_all_m6)), ((am 24), .inr (8, [.ref nq_5_0, .int (size_m24 + 1)])), ((am 25), .inr (8, [.ref nq_7_0, .int (size_m25 + 1)])), ((am 26), .inr (8, [.ref nq_9_0, .int (size_m26 + 1)])), ((am 27), .inr (8, [.ref nq_11_0, .int (size_m27 + 1)])), ((am 28), .inr (8, [.ref nq_13_0, .int o_13_1])), ((am 29), .inr (8, [.ref nq_15_0, .int o_15_1])), ((am 30), .inr (8, [.ref nq_17_0, .int o_17_1])), ((am 31), .inr (8, [.ref nq_19_0, .int (size_m31 + 1)])), ((am 33), .inr (8, [.ref nq_21_0, .int o_21_1])), (nq_5_0, .inl (cI, on_nq_5_0, .inl ob_nq_5_0)), (nq_7_0, .inl (cI, on_nq_7_0, .inl ob_nq_7_0)), (nq_9_0, .inl (cI, on_nq_9_0, .inl ob_nq_9_0)), (nq_11_0, .inl (cI, on_nq_11_0, .inl ob_nq_11_0)), (nq_13_0, .inl (cI, on_nq_13_0, .inl ob_nq_13_0)), (nq_15_0, .inl (cI, on_nq_15_0, .inl ob_nq_15_0)), (nq_17_0, .inl (cI, on_nq_17_0, .inl ob_nq_17_0)), (nq_19_0, .inl (cI, on_nq_19_0, .inl ob_nq_19_0)), (nq_21_0, .inl (cI, on_nq_21_0, .inl ob_nq_21_0))]) mc ms) prog_12_method_75_code 8 R_Mo 36 [(7, .int v7_36), (6, .int v6_36), (5, .int size_m24), (4, .int (b_a_all_m5 (Int32.toNatClampNeg p2))), (0, .ref h0), (1, .int p1), (2, .int p2), (3, .int p3)] [] [((am 33), .inr (8, [.ref q0_0_36, .int f0_1_36])), (q0_0_36, .inl (cI, n1_36, .inl b1_36)), ((am 5), .inr (8, [.ref a_all_m5, .int size_m5])), (a_all_m5, .inl (cI, n_a_all_m5, .inl b_a_all_m5)), (h0, .inr (9, moF am known_h0 thrown_h0 wrong_h0 lastEnd_h0 at_h0 bad_h0 levels_h0 least_h0 found_h0)), ((am 6), .inr (8, [.ref a_all_m6, .int size_m6])), (a_all_m6, .inl (cI, n_a_all_m6, .inl b_a_all_m6)), ((am 24), .inr (8, [.ref q7_0_36, .int (size_m24 + 1)])), ((am 25), .inr (8, [.ref q8_0_36, .int (size_m25 + 1)])), ((am 26), .inr (8, [.ref q9_0_36, .int (size_m26 + 1)])), ((am 27), .inr (8, [.ref q10_0_36, .int (size_m27 + 1)])), ((am 28), .inr (8, [.ref q11_0_36, .int f11_1_36])), ((am 29), .inr (8, [.ref q12_0_36, .int f12_1_36])), ((am 30), .inr (8, [.ref q13_0_36, .int f13_1_36])), ((am 31), .inr (8, [.ref q14_0_36, .int (size_m31 + 1)])), (q7_0_36, .inl (cI, n15_36, .inl b15_36)), (q8_0_36, .inl (cI, n16_36, .inl b16_36)), (q9_0_36, .inl (cI, n17_36, .inl b17_36)), (q10_0_36, .inl (cI, n18_36, .inl b18_36)), (q11_0_36, .inl (cI, n19_36, .inl b19_36)), (q12_0_36, .inl (cI, n20_36, .inl b20_36)), (q13_0_36, .inl (cI, n21_36, .inl b21_36)), (q14_0_36, .inl (cI, n22_36, .inl b22_36))] cl_36 sl_36 := by
  intro k_36
  induction k_36 with
  | zero => intro q0_0_36 q7_0_36 q8_0_36 q9_0_36 q10_0_36 q11_0_36 q12_0_36 q13_0_36 q14_0_36 v7_36 v6_36 f0_1_36 n1_36 b1_36 f11_1_36 f12_1_36 f13_1_36 n15_36 b15_36 n16_36 b16_36 n17_36 b17_36 n18_36 b18_36 n19_36 b19_36 n20_36 b20_36 n21_36 b21_36 n22_36 b22_36 cl_36 sl_36 C_36 S_36 h; rw [F_Mo_buildItem_36] at h; cases h
  | succ k_36 ih_36 =>
    intro q0_0_36 q7_0_36 q8_0_36 q9_0_36 q10_0_36 q11_0_36 q12_0_36 q13_0_36 q14_0_36 v7_36 v6_36 f0_1_36 n1_36 b1_36 f11_1_36 f12_1_36 f13_1_36 n15_36 b15_36 n16_36 b16_36 n17_36 b17_36 n18_36 b18_36 n19_36 b19_36 n20_36 b20_36 n21_36 b21_36 n22_36 b22_36 cl_36 sl_36 C_36 S_36 h hC hS
    rw [F_Mo_buildItem_36] at h
    have L_76 : ∀ (q0_0_76 : Nat) (v6_76 : Int32) (f0_1_76 : Int32) (n1_76 : Nat) (b1_76 : Nat → Int32) (cl_76 sl_76 C_76 S_76 : Nat), F_Mo_buildItem_76 known_h0 thrown_h0 wrong_h0 lastEnd_h0 at_h0 bad_h0 levels_h0 least_h0 found_h0 size_m5 n_a_all_m5 b_a_all_m5 v7_36 f11_1_36 f12_1_36 f13_1_36 n15_36 b15_36 n16_36 b16_36 n17_36 b17_36 n18_36 b18_36 n19_36 b19_36 n20_36 b20_36 n21_36 b21_36 n22_36 b22_36 (F_Mo_buildItem_36 p3 known_h0 thrown_h0 wrong_h0 lastEnd_h0 at_h0 bad_h0 levels_h0 least_h0 found_h0 size_m5 n_a_all_m5 b_a_all_m5 size_m24  k_36)  v6_76 f0_1_76 n1_76 b1_76 = some ((o_13_1, o_15_1, o_17_1, o_21_1, on_nq_5_0, ob_nq_5_0, on_nq_7_0, ob_nq_7_0, on_nq_9_0, ob_nq_9_0, on_nq_11_0, ob_nq_11_0, on_nq_13_0, ob_nq_13_0, on_nq_15_0, ob_nq_15_0, on_nq_17_0, ob_nq_17_0, on_nq_19_0, ob_nq_19_0, on_nq_21_0, ob_nq_21_0), C_76, S_76) → cl_76 + C_76 ≤ mc → sl_76 + S_76 ≤ ms → J (KxOf p l e { frames := 3, cells := mc, slots := ms, locals := 74 } s m [.ref h0, .int p1, .int p2, .int p3].toArray below meth c D (gT cI cB cJ cS) [(h0, .inr (9, moF am known_h0 thrown_h0 wrong_h0 lastEnd_h0 at_h0 bad_h0 levels_h0 least_h0 found_h0)), ((am 5), .inr (8, [.ref a_all_m5, .int size_m5])), (a_all_m5, .inl (cI, n_a_all_m5, .inl b_a_all_m5)), ((am 6), .inr (8, [.ref a_all_m6, .int size_m6])), (a_all_m6, .inl (cI, n_a_all_m6, .inl b_a_all_m6)), ((am 24), .inr (8, [.ref a_all_m24, .int size_m24])), (a_all_m24, .inl (cI, n_a_all_m24, .inl b_a_all_m24)), ((am 25), .inr (8, [.ref a_all_m25, .int size_m25])), (a_all_m25, .inl (cI, n_a_all_m25, .inl b_a_all_m25)), ((am 26), .inr (8, [.ref a_all_m26, .int size_m26])), (a_all_m26, .inl (cI, n_a_all_m26, .inl b_a_all_m26)), ((am 27), .inr (8, [.ref a_all_m27, .int size_m27])), (a_all_m27, .inl (cI, n_a_all_m27, .inl b_a_all_m27)), ((am 28), .inr (8, [.ref a_all_m28, .int size_m28])), (a_all_m28, .inl (cI, n_a_all_m28, .inl b_a_all_m28)), ((am 29), .inr (8, [.ref a_all_m29, .int size_m29])), (a_all_m29, .inl (cI, n_a_all_m29, .inl b_a_all_m29)), ((am 30), .inr (8, [.ref a_all_m30, .int size_m30])), (a_all_m30, .inl (cI, n_a_all_m30, .inl b_a_all_m30)), ((am 31), .inr (8, [.ref a_all_m31, .int size_m31])), (a_all_m31, .inl (cI, n_a_all_m31, .inl b_a_all_m31)), ((am 33), .inr (8, [.ref a_all_m33, .int size_m33])), (a_all_m33, .inl (cI, n_a_all_m33, .inl b_a_all_m33))] (fun v w => ∃ nq_5_0 : Nat, ∃ nq_7_0 : Nat, ∃ nq_9_0 : Nat, ∃ nq_11_0 : Nat, ∃ nq_13_0 : Nat, ∃ nq_15_0 : Nat, ∃ nq_17_0 : Nat, ∃ nq_19_0 : Nat, ∃ nq_21_0 : Nat, v = none ∧ w = [(h0, .inr (9, moF am known_h0 thrown_h0 wrong_h0 lastEnd_h0 at_h0 bad_h0 levels_h0 least_h0 found_h0)), ((am 5), .inr (8, [.ref a_all_m5, .int size_m5])), (a_all_m5, .inl (cI, n_a_all_m5, .inl b_a_all_m5)), ((am 6), .inr (8, [.ref a_all_m6, .int size_m6])), (a_all_m6, .inl (cI, n_a_all_m6, .inl b_a_all_m6)), ((am 24), .inr (8, [.ref nq_5_0, .int (size_m24 + 1)])), ((am 25), .inr (8, [.ref nq_7_0, .int (size_m25 + 1)])), ((am 26), .inr (8, [.ref nq_9_0, .int (size_m26 + 1)])), ((am 27), .inr (8, [.ref nq_11_0, .int (size_m27 + 1)])), ((am 28), .inr (8, [.ref nq_13_0, .int o_13_1])), ((am 29), .inr (8, [.ref nq_15_0, .int o_15_1])), ((am 30), .inr (8, [.ref nq_17_0, .int o_17_1])), ((am 31), .inr (8, [.ref nq_19_0, .int (size_m31 + 1)])), ((am 33), .inr (8, [.ref nq_21_0, .int o_21_1])), (nq_5_0, .inl (cI, on_nq_5_0, .inl ob_nq_5_0)), (nq_7_0, .inl (cI, on_nq_7_0, .inl ob_nq_7_0)), (nq_9_0, .inl (cI, on_nq_9_0, .inl ob_nq_9_0)), (nq_11_0, .inl (cI, on_nq_11_0, .inl ob_nq_11_0)), (nq_13_0, .inl (cI, on_nq_13_0, .inl ob_nq_13_0)), (nq_15_0, .inl (cI, on_nq_15_0, .inl ob_nq_15_0)), (nq_17_0, .inl (cI, on_nq_17_0, .inl ob_nq_17_0)), (nq_19_0, .inl (cI, on_nq_19_0, .inl ob_nq_19_0)), (nq_21_0, .inl (cI, on_nq_21_0, .inl ob_nq_21_0))]) mc ms) prog_12_method_75_code 8 R_Mo 76 [(7, .int v7_36), (6, .int v6_76), (5, .int size_m24), (4, .int (b_a_all_m5 (Int32.toNatClampNeg p2))), (0, .ref h0), (1, .int p1), (2, .int p2), (3, .int p3)] [] [((am 33), .inr (8, [.ref q0_0_76, .int f0_1_76])), (q0_0_76, .inl (cI, n1_76, .inl b1_76)), (h0, .inr (9, moF am known_h0 thrown_h0 wrong_h0 lastEnd_h0 at_h0 bad_h0 levels_h0 least_h0 found_h0)), ((am 6), .inr (8, [.ref a_all_m6, .int size_m6])), (a_all_m6, .inl (cI, n_a_all_m6, .inl b_a_all_m6)), ((am 24), .inr (8, [.ref q7_0_36, .int (size_m24 + 1)])), ((am 25), .inr (8, [.ref q8_0_36, .int (size_m25 + 1)])), ((am 26), .inr (8, [.ref q9_0_36, .int (size_m26 + 1)])), ((am 27), .inr (8, [.ref q10_0_36, .int (size_m27 + 1)])), ((am 28), .inr (8, [.ref q11_0_36, .int f11_1_36])), ((am 29), .inr (8, [.ref q12_0_36, .int f12_1_36])), ((am 30), .inr (8, [.ref q13_0_36, .int f13_1_36])), ((am 31), .inr (8, [.ref q14_0_36, .int (size_m31 + 1)])), (q7_0_36, .inl (cI, n15_36, .inl b15_36)), (q8_0_36, .inl (cI, n16_36, .inl b16_36)), (q9_0_36, .inl (cI, n17_36, .inl b17_36)), (q10_0_36, .inl (cI, n18_36, .inl b18_36)), (q11_0_36, .inl (cI, n19_36, .inl b19_36)), (q12_0_36, .inl (cI, n20_36, .inl b20_36)), (q13_0_36, .inl (cI, n21_36, .inl b21_36)), (q14_0_36, .inl (cI, n22_36, .inl b22_36)), ((am 5), .inr (8, [.ref a_all_m5, .int size_m5])), (a_all_m5, .inl (cI, n_a_all_m5, .inl b_a_all_m5))] cl_76 sl_76 := by
      clear h
      intro q0_0_76 v6_76 f0_1_76 n1_76 b1_76 cl_76 sl_76 C_76 S_76 h hC hS
      unfold F_Mo_buildItem_76 at h
      refine j_aload_n d_Mo_buildItem_76 rfl 4 rfl ?_
      refine j_get ig_Mo rfl 2 rfl 5 (by decide) rfl m_1118 rfl d_Mo_buildItem_77 ?_
      refine j_iload d_Mo_buildItem_80 0 rfl ?_
      replace h := bd_s h
      obtain ⟨_, k1, h⟩ := h
      refine j_callV (n := 1) (As := [.int v7_36]) (rest := []) (wr := [((am 33), .inr (8, [.ref q0_0_76, .int f0_1_76])), (q0_0_76, .inl (cI, n1_76, .inl b1_76)), (h0, .inr (9, moF am known_h0 thrown_h0 wrong_h0 lastEnd_h0 at_h0 bad_h0 levels_h0 least_h0 found_h0)), ((am 6), .inr (8, [.ref a_all_m6, .int size_m6])), (a_all_m6, .inl (cI, n_a_all_m6, .inl b_a_all_m6)), ((am 24), .inr (8, [.ref q7_0_36, .int (size_m24 + 1)])), ((am 25), .inr (8, [.ref q8_0_36, .int (size_m25 + 1)])), ((am 26), .inr (8, [.ref q9_0_36, .int (size_m26 + 1)])), ((am 27), .inr (8, [.ref q10_0_36, .int (size_m27 + 1)])), ((am 28), .inr (8, [.ref q11_0_36, .int f11_1_36])), ((am 29), .inr (8, [.ref q12_0_36, .int f12_1_36])), ((am 30), .inr (8, [.ref q13_0_36, .int f13_1_36])), ((am 31), .inr (8, [.ref q14_0_36, .int (size_m31 + 1)])), (q7_0_36, .inl (cI, n15_36, .inl b15_36)), (q8_0_36, .inl (cI, n16_36, .inl b16_36)), (q9_0_36, .inl (cI, n17_36, .inl b17_36)), (q10_0_36, .inl (cI, n18_36, .inl b18_36)), (q11_0_36, .inl (cI, n19_36, .inl b19_36)), (q12_0_36, .inl (cI, n20_36, .inl b20_36)), (q13_0_36, .inl (cI, n21_36, .inl b21_36)), (q14_0_36, .inl (cI, n22_36, .inl b22_36))]) (c_Nm_at l D cI cB cJ cS (am 5) a_all_m5 v7_36 size_m5 n_a_all_m5 b_a_all_m5  k1) k_Mo_214 (by decide) ⟨Nat.le_of_ble_eq_true rfl, Nat.le_of_ble_eq_true rfl⟩ rfl 0 rfl [21, 22] [0, 1, 2, 3, 4, 5, 6, 7, 8, 9, 10, 11, 12, 13, 14, 15, 16, 17, 18, 19, 20] rfl (by decide +kernel) rfl (by decide +kernel) (by decide +kernel) rfl rfl (Nat.le_of_ble_eq_true rfl) d_Mo_buildItem_82 ⟨show cl_76 + 0 ≤ mc by omega, show sl_76 + 0 ≤ ms by omega⟩ (fun v w hq => ?_)
      obtain ⟨rfl, rfl⟩ := hq
      refine j_norm (pc' := 85) (st' := [.int (b_a_all_m5 (Int32.toNatClampNeg v7_36))]) (ws' := [((am 33), .inr (8, [.ref q0_0_76, .int f0_1_76])), (q0_0_76, .inl (cI, n1_76, .inl b1_76)), (h0, .inr (9, moF am known_h0 thrown_h0 wrong_h0 lastEnd_h0 at_h0 bad_h0 levels_h0 least_h0 found_h0)), ((am 6), .inr (8, [.ref a_all_m6, .int size_m6])), (a_all_m6, .inl (cI, n_a_all_m6, .inl b_a_all_m6)), ((am 24), .inr (8, [.ref q7_0_36, .int (size_m24 + 1)])), ((am 25), .inr (8, [.ref q8_0_36, .int (size_m25 + 1)])), ((am 26), .inr (8, [.ref q9_0_36, .int (size_m26 + 1)])), ((am 27), .inr (8, [.ref q10_0_36, .int (size_m27 + 1)])), ((am 28), .inr (8, [.ref q11_0_36, .int f11_1_36])), ((am 29), .inr (8, [.ref q12_0_36, .int f12_1_36])), ((am 30), .inr (8, [.ref q13_0_36, .int f13_1_36])), ((am 31), .inr (8, [.ref q14_0_36, .int (size_m31 + 1)])), (q7_0_36, .inl (cI, n15_36, .inl b15_36)), (q8_0_36, .inl (cI, n16_36, .inl b16_36)), (q9_0_36, .inl (cI, n17_36, .inl b17_36)), (q10_0_36, .inl (cI, n18_36, .inl b18_36)), (q11_0_36, .inl (cI, n19_36, .inl b19_36)), (q12_0_36, .inl (cI, n20_36, .inl b20_36)), (q13_0_36, .inl (cI, n21_36, .inl b21_36)), (q14_0_36, .inl (cI, n22_36, .inl b22_36)), ((am 5), .inr (8, [.ref a_all_m5, .int size_m5])), (a_all_m5, .inl (cI, n_a_all_m5, .inl b_a_all_m5))]) (cl' := cl_76) (sl' := sl_76) rfl rfl rfl rfl rfl rfl ?_
      refine j_bipush (v := 50) d_Mo_buildItem_85 (by decide) ?_
      refine j_icmp_eq (tgt := 104) d_Mo_buildItem_87 (by decide) (fun c2 => ?_) (fun c2 => ?_)
      · replace h := it_t c2 h
        refine j_aload_n d_Mo_buildItem_104 rfl 4 rfl ?_
        refine j_iload d_Mo_buildItem_105 0 rfl ?_
        replace h := bd_s h
        obtain ⟨r3, k4, h⟩ := h
        refine j_callV (n := 1) (As := [.int v7_36]) (rest := []) (wr := [((am 33), .inr (8, [.ref q0_0_76, .int f0_1_76])), (q0_0_76, .inl (cI, n1_76, .inl b1_76)), ((am 6), .inr (8, [.ref a_all_m6, .int size_m6])), (a_all_m6, .inl (cI, n_a_all_m6, .inl b_a_all_m6)), ((am 24), .inr (8, [.ref q7_0_36, .int (size_m24 + 1)])), ((am 25), .inr (8, [.ref q8_0_36, .int (size_m25 + 1)])), ((am 26), .inr (8, [.ref q9_0_36, .int (size_m26 + 1)])), ((am 27), .inr (8, [.ref q10_0_36, .int (size_m27 + 1)])), ((am 28), .inr (8, [.ref q11_0_36, .int f11_1_36])), ((am 29), .inr (8, [.ref q12_0_36, .int f12_1_36])), ((am 30), .inr (8, [.ref q13_0_36, .int f13_1_36])), ((am 31), .inr (8, [.ref q14_0_36, .int (size_m31 + 1)])), (q7_0_36, .inl (cI, n15_36, .inl b15_36)), (q8_0_36, .inl (cI, n16_36, .inl b16_36)), (q9_0_36, .inl (cI, n17_36, .inl b17_36)), (q10_0_36, .inl (cI, n18_36, .inl b18_36)), (q11_0_36, .inl (cI, n19_36, .inl b19_36)), (q12_0_36, .inl (cI, n20_36, .inl b20_36)), (q13_0_36, .inl (cI, n21_36, .inl b21_36)), (q14_0_36, .inl (cI, n22_36, .inl b22_36))]) (c_Mo_closing l D cI cB cJ cS h0 am a_all_m5 v7_36 known_h0 thrown_h0 wrong_h0 lastEnd_h0 at_h0 bad_h0 levels_h0 least_h0 found_h0 size_m5 n_a_all_m5 b_a_all_m5  r3 k4) k_Mo_350 (by decide) ⟨Nat.le_of_ble_eq_true rfl, Nat.le_of_ble_eq_true rfl⟩ rfl 0 rfl [2, 21, 22] [0, 1, 3, 4, 5, 6, 7, 8, 9, 10, 11, 12, 13, 14, 15, 16, 17, 18, 19, 20] rfl (by decide +kernel) rfl (by decide +kernel) (by decide +kernel) rfl rfl (Nat.le_of_ble_eq_true rfl) d_Mo_buildItem_107 ⟨show cl_76 + 0 ≤ mc by omega, show sl_76 + 0 ≤ ms by omega⟩ (fun v w hq => ?_)
        obtain ⟨rfl, rfl⟩ := hq
        refine j_norm (pc' := 110) (st' := [.int r3]) (ws' := [((am 33), .inr (8, [.ref q0_0_76, .int f0_1_76])), (q0_0_76, .inl (cI, n1_76, .inl b1_76)), ((am 6), .inr (8, [.ref a_all_m6, .int size_m6])), (a_all_m6, .inl (cI, n_a_all_m6, .inl b_a_all_m6)), ((am 24), .inr (8, [.ref q7_0_36, .int (size_m24 + 1)])), ((am 25), .inr (8, [.ref q8_0_36, .int (size_m25 + 1)])), ((am 26), .inr (8, [.ref q9_0_36, .int (size_m26 + 1)])), ((am 27), .inr (8, [.ref q10_0_36, .int (size_m27 + 1)])), ((am 28), .inr (8, [.ref q11_0_36, .int f11_1_36])), ((am 29), .inr (8, [.ref q12_0_36, .int f12_1_36])), ((am 30), .inr (8, [.ref q13_0_36, .int f13_1_36])), ((am 31), .inr (8, [.ref q14_0_36, .int (size_m31 + 1)])), (q7_0_36, .inl (cI, n15_36, .inl b15_36)), (q8_0_36, .inl (cI, n16_36, .inl b16_36)), (q9_0_36, .inl (cI, n17_36, .inl b17_36)), (q10_0_36, .inl (cI, n18_36, .inl b18_36)), (q11_0_36, .inl (cI, n19_36, .inl b19_36)), (q12_0_36, .inl (cI, n20_36, .inl b20_36)), (q13_0_36, .inl (cI, n21_36, .inl b21_36)), (q14_0_36, .inl (cI, n22_36, .inl b22_36)), (h0, .inr (9, moF am known_h0 thrown_h0 wrong_h0 lastEnd_h0 at_h0 bad_h0 levels_h0 least_h0 found_h0)), ((am 5), .inr (8, [.ref a_all_m5, .int size_m5])), (a_all_m5, .inl (cI, n_a_all_m5, .inl b_a_all_m5))]) (cl' := cl_76) (sl' := sl_76) rfl rfl rfl rfl rfl rfl ?_
        refine j_iconst (v := 1) d_Mo_buildItem_110 (by decide) ?_
        refine j_iadd d_Mo_buildItem_111 ?_
        refine j_goto (tgt := 119) d_Mo_buildItem_112 (by decide) ?_
        refine j_istore (lv' := [(7, .int (r3 + 1)), (6, .int v6_76), (5, .int size_m24), (4, .int (b_a_all_m5 (Int32.toNatClampNeg p2))), (0, .ref h0), (1, .int p1), (2, .int p2), (3, .int p3)]) d_Mo_buildItem_119 (by decide) rfl ?_
        refine j_goto (tgt := 36) d_Mo_buildItem_121 (by decide) ?_
        refine j_sub (w := [((am 33), .inr (8, [.ref q0_0_76, .int f0_1_76])), (q0_0_76, .inl (cI, n1_76, .inl b1_76)), ((am 5), .inr (8, [.ref a_all_m5, .int size_m5])), (a_all_m5, .inl (cI, n_a_all_m5, .inl b_a_all_m5)), (h0, .inr (9, moF am known_h0 thrown_h0 wrong_h0 lastEnd_h0 at_h0 bad_h0 levels_h0 least_h0 found_h0)), ((am 6), .inr (8, [.ref a_all_m6, .int size_m6])), (a_all_m6, .inl (cI, n_a_all_m6, .inl b_a_all_m6)), ((am 24), .inr (8, [.ref q7_0_36, .int (size_m24 + 1)])), ((am 25), .inr (8, [.ref q8_0_36, .int (size_m25 + 1)])), ((am 26), .inr (8, [.ref q9_0_36, .int (size_m26 + 1)])), ((am 27), .inr (8, [.ref q10_0_36, .int (size_m27 + 1)])), ((am 28), .inr (8, [.ref q11_0_36, .int f11_1_36])), ((am 29), .inr (8, [.ref q12_0_36, .int f12_1_36])), ((am 30), .inr (8, [.ref q13_0_36, .int f13_1_36])), ((am 31), .inr (8, [.ref q14_0_36, .int (size_m31 + 1)])), (q7_0_36, .inl (cI, n15_36, .inl b15_36)), (q8_0_36, .inl (cI, n16_36, .inl b16_36)), (q9_0_36, .inl (cI, n17_36, .inl b17_36)), (q10_0_36, .inl (cI, n18_36, .inl b18_36)), (q11_0_36, .inl (cI, n19_36, .inl b19_36)), (q12_0_36, .inl (cI, n20_36, .inl b20_36)), (q13_0_36, .inl (cI, n21_36, .inl b21_36)), (q14_0_36, .inl (cI, n22_36, .inl b22_36))]) (lv' := [(7, .int (r3 + 1)), (6, .int v6_76), (5, .int size_m24), (4, .int (b_a_all_m5 (Int32.toNatClampNeg p2))), (0, .ref h0), (1, .int p1), (2, .int p2), (3, .int p3)]) [0, 1, 21, 22, 20, 2, 3, 4, 5, 6, 7, 8, 9, 10, 11, 12, 13, 14, 15, 16, 17, 18, 19] rfl (by decide +kernel) [0, 1, 2, 3, 4, 5, 6, 7] rfl ?_
        exact ih_36 q0_0_76 q7_0_36 q8_0_36 q9_0_36 q10_0_36 q11_0_36 q12_0_36 q13_0_36 q14_0_36 (r3 + 1) v6_76 f0_1_76 n1_76 b1_76 f11_1_36 f12_1_36 f13_1_36 n15_36 b15_36 n16_36 b16_36 n17_36 b17_36 n18_36 b18_36 n19_36 b19_36 n20_36 b20_36 n21_36 b21_36 n22_36 b22_36 cl_76 sl_76 C_76 S_76 h hC hS
      · replace h := it_f c2 h
        refine j_aload_n d_Mo_buildItem_90 rfl 4 rfl ?_
        refine j_get ig_Mo rfl 2 rfl 5 (by decide) rfl m_1118 rfl d_Mo_buildItem_91 ?_
        refine j_iload d_Mo_buildItem_94 0 rfl ?_
        replace h := bd_s h
        obtain ⟨_, k5, h⟩ := h
        refine j_callV (n := 1) (As := [.int v7_36]) (rest := []) (wr := [((am 33), .inr (8, [.ref q0_0_76, .int f0_1_76])), (q0_0_76, .inl (cI, n1_76, .inl b1_76)), (h0, .inr (9, moF am known_h0 thrown_h0 wrong_h0 lastEnd_h0 at_h0 bad_h0 levels_h0 least_h0 found_h0)), ((am 6), .inr (8, [.ref a_all_m6, .int size_m6])), (a_all_m6, .inl (cI, n_a_all_m6, .inl b_a_all_m6)), ((am 24), .inr (8, [.ref q7_0_36, .int (size_m24 + 1)])), ((am 25), .inr (8, [.ref q8_0_36, .int (size_m25 + 1)])), ((am 26), .inr (8, [.ref q9_0_36, .int (size_m26 + 1)])), ((am 27), .inr (8, [.ref q10_0_36, .int (size_m27 + 1)])), ((am 28), .inr (8, [.ref q11_0_36, .int f11_1_36])), ((am 29), .inr (8, [.ref q12_0_36, .int f12_1_36])), ((am 30), .inr (8, [.ref q13_0_36, .int f13_1_36])), ((am 31), .inr (8, [.ref q14_0_36, .int (size_m31 + 1)])), (q7_0_36, .inl (cI, n15_36, .inl b15_36)), (q8_0_36, .inl (cI, n16_36, .inl b16_36)), (q9_0_36, .inl (cI, n17_36, .inl b17_36)), (q10_0_36, .inl (cI, n18_36, .inl b18_36)), (q11_0_36, .inl (cI, n19_36, .inl b19_36)), (q12_0_36, .inl (cI, n20_36, .inl b20_36)), (q13_0_36, .inl (cI, n21_36, .inl b21_36)), (q14_0_36, .inl (cI, n22_36, .inl b22_36))]) (c_Nm_at l D cI cB cJ cS (am 5) a_all_m5 v7_36 size_m5 n_a_all_m5 b_a_all_m5  k5) k_Mo_214 (by decide) ⟨Nat.le_of_ble_eq_true rfl, Nat.le_of_ble_eq_true rfl⟩ rfl 0 rfl [21, 22] [0, 1, 2, 3, 4, 5, 6, 7, 8, 9, 10, 11, 12, 13, 14, 15, 16, 17, 18, 19, 20] rfl (by decide +kernel) rfl (by decide +kernel) (by decide +kernel) rfl rfl (Nat.le_of_ble_eq_true rfl) d_Mo_buildItem_96 ⟨show cl_76 + 0 ≤ mc by omega, show sl_76 + 0 ≤ ms by omega⟩ (fun v w hq => ?_)
        obtain ⟨rfl, rfl⟩ := hq
        refine j_norm (pc' := 99) (st' := [.int (b_a_all_m5 (Int32.toNatClampNeg v7_36))]) (ws' := [((am 33), .inr (8, [.ref q0_0_76, .int f0_1_76])), (q0_0_76, .inl (cI, n1_76, .inl b1_76)), (h0, .inr (9, moF am known_h0 thrown_h0 wrong_h0 lastEnd_h0 at_h0 bad_h0 levels_h0 least_h0 found_h0)), ((am 6), .inr (8, [.ref a_all_m6, .int size_m6])), (a_all_m6, .inl (cI, n_a_all_m6, .inl b_a_all_m6)), ((am 24), .inr (8, [.ref q7_0_36, .int (size_m24 + 1)])), ((am 25), .inr (8, [.ref q8_0_36, .int (size_m25 + 1)])), ((am 26), .inr (8, [.ref q9_0_36, .int (size_m26 + 1)])), ((am 27), .inr (8, [.ref q10_0_36, .int (size_m27 + 1)])), ((am 28), .inr (8, [.ref q11_0_36, .int f11_1_36])), ((am 29), .inr (8, [.ref q12_0_36, .int f12_1_36])), ((am 30), .inr (8, [.ref q13_0_36, .int f13_1_36])), ((am 31), .inr (8, [.ref q14_0_36, .int (size_m31 + 1)])), (q7_0_36, .inl (cI, n15_36, .inl b15_36)), (q8_0_36, .inl (cI, n16_36, .inl b16_36)), (q9_0_36, .inl (cI, n17_36, .inl b17_36)), (q10_0_36, .inl (cI, n18_36, .inl b18_36)), (q11_0_36, .inl (cI, n19_36, .inl b19_36)), (q12_0_36, .inl (cI, n20_36, .inl b20_36)), (q13_0_36, .inl (cI, n21_36, .inl b21_36)), (q14_0_36, .inl (cI, n22_36, .inl b22_36)), ((am 5), .inr (8, [.ref a_all_m5, .int size_m5])), (a_all_m5, .inl (cI, n_a_all_m5, .inl b_a_all_m5))]) (cl' := cl_76) (sl' := sl_76) rfl rfl rfl rfl rfl rfl ?_
        refine j_bipush (v := 52) d_Mo_buildItem_99 (by decide) ?_
        refine j_icmp_ne (tgt := 115) d_Mo_buildItem_101 (by decide) (fun c6 => ?_) (fun c6 => ?_)
        · replace h := it_f c6 h
          refine j_iload d_Mo_buildItem_115 0 rfl ?_
          refine j_iconst (v := 1) d_Mo_buildItem_117 (by decide) ?_
          refine j_iadd d_Mo_buildItem_118 ?_
          refine j_istore (lv' := [(7, .int (v7_36 + 1)), (6, .int v6_76), (5, .int size_m24), (4, .int (b_a_all_m5 (Int32.toNatClampNeg p2))), (0, .ref h0), (1, .int p1), (2, .int p2), (3, .int p3)]) d_Mo_buildItem_119 (by decide) rfl ?_
          refine j_goto (tgt := 36) d_Mo_buildItem_121 (by decide) ?_
          refine j_sub (w := [((am 33), .inr (8, [.ref q0_0_76, .int f0_1_76])), (q0_0_76, .inl (cI, n1_76, .inl b1_76)), ((am 5), .inr (8, [.ref a_all_m5, .int size_m5])), (a_all_m5, .inl (cI, n_a_all_m5, .inl b_a_all_m5)), (h0, .inr (9, moF am known_h0 thrown_h0 wrong_h0 lastEnd_h0 at_h0 bad_h0 levels_h0 least_h0 found_h0)), ((am 6), .inr (8, [.ref a_all_m6, .int size_m6])), (a_all_m6, .inl (cI, n_a_all_m6, .inl b_a_all_m6)), ((am 24), .inr (8, [.ref q7_0_36, .int (size_m24 + 1)])), ((am 25), .inr (8, [.ref q8_0_36, .int (size_m25 + 1)])), ((am 26), .inr (8, [.ref q9_0_36, .int (size_m26 + 1)])), ((am 27), .inr (8, [.ref q10_0_36, .int (size_m27 + 1)])), ((am 28), .inr (8, [.ref q11_0_36, .int f11_1_36])), ((am 29), .inr (8, [.ref q12_0_36, .int f12_1_36])), ((am 30), .inr (8, [.ref q13_0_36, .int f13_1_36])), ((am 31), .inr (8, [.ref q14_0_36, .int (size_m31 + 1)])), (q7_0_36, .inl (cI, n15_36, .inl b15_36)), (q8_0_36, .inl (cI, n16_36, .inl b16_36)), (q9_0_36, .inl (cI, n17_36, .inl b17_36)), (q10_0_36, .inl (cI, n18_36, .inl b18_36)), (q11_0_36, .inl (cI, n19_36, .inl b19_36)), (q12_0_36, .inl (cI, n20_36, .inl b20_36)), (q13_0_36, .inl (cI, n21_36, .inl b21_36)), (q14_0_36, .inl (cI, n22_36, .inl b22_36))]) (lv' := [(7, .int (v7_36 + 1)), (6, .int v6_76), (5, .int size_m24), (4, .int (b_a_all_m5 (Int32.toNatClampNeg p2))), (0, .ref h0), (1, .int p1), (2, .int p2), (3, .int p3)]) [0, 1, 21, 22, 2, 3, 4, 5, 6, 7, 8, 9, 10, 11, 12, 13, 14, 15, 16, 17, 18, 19, 20] rfl (by decide +kernel) [0, 1, 2, 3, 4, 5, 6, 7] rfl ?_
          exact ih_36 q0_0_76 q7_0_36 q8_0_36 q9_0_36 q10_0_36 q11_0_36 q12_0_36 q13_0_36 q14_0_36 (v7_36 + 1) v6_76 f0_1_76 n1_76 b1_76 f11_1_36 f12_1_36 f13_1_36 n15_36 b15_36 n16_36 b16_36 n17_36 b17_36 n18_36 b18_36 n19_36 b19_36 n20_36 b20_36 n21_36 b21_36 n22_36 b22_36 cl_76 sl_76 C_76 S_76 h hC hS
        · replace h := it_t c6 h
          refine j_aload_n d_Mo_buildItem_104 rfl 4 rfl ?_
          refine j_iload d_Mo_buildItem_105 0 rfl ?_
          replace h := bd_s h
          obtain ⟨r7, k8, h⟩ := h
          refine j_callV (n := 1) (As := [.int v7_36]) (rest := []) (wr := [((am 33), .inr (8, [.ref q0_0_76, .int f0_1_76])), (q0_0_76, .inl (cI, n1_76, .inl b1_76)), ((am 6), .inr (8, [.ref a_all_m6, .int size_m6])), (a_all_m6, .inl (cI, n_a_all_m6, .inl b_a_all_m6)), ((am 24), .inr (8, [.ref q7_0_36, .int (size_m24 + 1)])), ((am 25), .inr (8, [.ref q8_0_36, .int (size_m25 + 1)])), ((am 26), .inr (8, [.ref q9_0_36, .int (size_m26 + 1)])), ((am 27), .inr (8, [.ref q10_0_36, .int (size_m27 + 1)])), ((am 28), .inr (8, [.ref q11_0_36, .int f11_1_36])), ((am 29), .inr (8, [.ref q12_0_36, .int f12_1_36])), ((am 30), .inr (8, [.ref q13_0_36, .int f13_1_36])), ((am 31), .inr (8, [.ref q14_0_36, .int (size_m31 + 1)])), (q7_0_36, .inl (cI, n15_36, .inl b15_36)), (q8_0_36, .inl (cI, n16_36, .inl b16_36)), (q9_0_36, .inl (cI, n17_36, .inl b17_36)), (q10_0_36, .inl (cI, n18_36, .inl b18_36)), (q11_0_36, .inl (cI, n19_36, .inl b19_36)), (q12_0_36, .inl (cI, n20_36, .inl b20_36)), (q13_0_36, .inl (cI, n21_36, .inl b21_36)), (q14_0_36, .inl (cI, n22_36, .inl b22_36))]) (c_Mo_closing l D cI cB cJ cS h0 am a_all_m5 v7_36 known_h0 thrown_h0 wrong_h0 lastEnd_h0 at_h0 bad_h0 levels_h0 least_h0 found_h0 size_m5 n_a_all_m5 b_a_all_m5  r7 k8) k_Mo_350 (by decide) ⟨Nat.le_of_ble_eq_true rfl, Nat.le_of_ble_eq_true rfl⟩ rfl 0 rfl [2, 21, 22] [0, 1, 3, 4, 5, 6, 7, 8, 9, 10, 11, 12, 13, 14, 15, 16, 17, 18, 19, 20] rfl (by decide +kernel) rfl (by decide +kernel) (by decide +kernel) rfl rfl (Nat.le_of_ble_eq_true rfl) d_Mo_buildItem_107 ⟨show cl_76 + 0 ≤ mc by omega, show sl_76 + 0 ≤ ms by omega⟩ (fun v w hq => ?_)
          obtain ⟨rfl, rfl⟩ := hq
          refine j_norm (pc' := 110) (st' := [.int r7]) (ws' := [((am 33), .inr (8, [.ref q0_0_76, .int f0_1_76])), (q0_0_76, .inl (cI, n1_76, .inl b1_76)), ((am 6), .inr (8, [.ref a_all_m6, .int size_m6])), (a_all_m6, .inl (cI, n_a_all_m6, .inl b_a_all_m6)), ((am 24), .inr (8, [.ref q7_0_36, .int (size_m24 + 1)])), ((am 25), .inr (8, [.ref q8_0_36, .int (size_m25 + 1)])), ((am 26), .inr (8, [.ref q9_0_36, .int (size_m26 + 1)])), ((am 27), .inr (8, [.ref q10_0_36, .int (size_m27 + 1)])), ((am 28), .inr (8, [.ref q11_0_36, .int f11_1_36])), ((am 29), .inr (8, [.ref q12_0_36, .int f12_1_36])), ((am 30), .inr (8, [.ref q13_0_36, .int f13_1_36])), ((am 31), .inr (8, [.ref q14_0_36, .int (size_m31 + 1)])), (q7_0_36, .inl (cI, n15_36, .inl b15_36)), (q8_0_36, .inl (cI, n16_36, .inl b16_36)), (q9_0_36, .inl (cI, n17_36, .inl b17_36)), (q10_0_36, .inl (cI, n18_36, .inl b18_36)), (q11_0_36, .inl (cI, n19_36, .inl b19_36)), (q12_0_36, .inl (cI, n20_36, .inl b20_36)), (q13_0_36, .inl (cI, n21_36, .inl b21_36)), (q14_0_36, .inl (cI, n22_36, .inl b22_36)), (h0, .inr (9, moF am known_h0 thrown_h0 wrong_h0 lastEnd_h0 at_h0 bad_h0 levels_h0 least_h0 found_h0)), ((am 5), .inr (8, [.ref a_all_m5, .int size_m5])), (a_all_m5, .inl (cI, n_a_all_m5, .inl b_a_all_m5))]) (cl' := cl_76) (sl' := sl_76) rfl rfl rfl rfl rfl rfl ?_
          refine j_iconst (v := 1) d_Mo_buildItem_110 (by decide) ?_
          refine j_iadd d_Mo_buildItem_111 ?_
          refine j_goto (tgt := 119) d_Mo_buildItem_112 (by decide) ?_
          refine j_istore (lv' := [(7, .int (r7 + 1)), (6, .int v6_76), (5, .int size_m24), (4, .int (b_a_all_m5 (Int32.toNatClampNeg p2))), (0, .ref h0), (1, .int p1), (2, .int p2), (3, .int p3)]) d_Mo_buildItem_119 (by decide) rfl ?_
          refine j_goto (tgt := 36) d_Mo_buildItem_121 (by decide) ?_
          refine j_sub (w := [((am 33), .inr (8, [.ref q0_0_76, .int f0_1_76])), (q0_0_76, .inl (cI, n1_76, .inl b1_76)), ((am 5), .inr (8, [.ref a_all_m5, .int size_m5])), (a_all_m5, .inl (cI, n_a_all_m5, .inl b_a_all_m5)), (h0, .inr (9, moF am known_h0 thrown_h0 wrong_h0 lastEnd_h0 at_h0 bad_h0 levels_h0 least_h0 found_h0)), ((am 6), .inr (8, [.ref a_all_m6, .int size_m6])), (a_all_m6, .inl (cI, n_a_all_m6, .inl b_a_all_m6)), ((am 24), .inr (8, [.ref q7_0_36, .int (size_m24 + 1)])), ((am 25), .inr (8, [.ref q8_0_36, .int (size_m25 + 1)])), ((am 26), .inr (8, [.ref q9_0_36, .int (size_m26 + 1)])), ((am 27), .inr (8, [.ref q10_0_36, .int (size_m27 + 1)])), ((am 28), .inr (8, [.ref q11_0_36, .int f11_1_36])), ((am 29), .inr (8, [.ref q12_0_36, .int f12_1_36])), ((am 30), .inr (8, [.ref q13_0_36, .int f13_1_36])), ((am 31), .inr (8, [.ref q14_0_36, .int (size_m31 + 1)])), (q7_0_36, .inl (cI, n15_36, .inl b15_36)), (q8_0_36, .inl (cI, n16_36, .inl b16_36)), (q9_0_36, .inl (cI, n17_36, .inl b17_36)), (q10_0_36, .inl (cI, n18_36, .inl b18_36)), (q11_0_36, .inl (cI, n19_36, .inl b19_36)), (q12_0_36, .inl (cI, n20_36, .inl b20_36)), (q13_0_36, .inl (cI, n21_36, .inl b21_36)), (q14_0_36, .inl (cI, n22_36, .inl b22_36))]) (lv' := [(7, .int (r7 + 1)), (6, .int v6_76), (5, .int size_m24), (4, .int (b_a_all_m5 (Int32.toNatClampNeg p2))), (0, .ref h0), (1, .int p1), (2, .int p2), (3, .int p3)]) [0, 1, 21, 22, 20, 2, 3, 4, 5, 6, 7, 8, 9, 10, 11, 12, 13, 14, 15, 16, 17, 18, 19] rfl (by decide +kernel) [0, 1, 2, 3, 4, 5, 6, 7] rfl ?_
          exact ih_36 q0_0_76 q7_0_36 q8_0_36 q9_0_36 q10_0_36 q11_0_36 q12_0_36 q13_0_36 q14_0_36 (r7 + 1) v6_76 f0_1_76 n1_76 b1_76 f11_1_36 f12_1_36 f13_1_36 n15_36 b15_36 n16_36 b16_36 n17_36 b17_36 n18_36 b18_36 n19_36 b19_36 n20_36 b20_36 n21_36 b21_36 n22_36 b22_36 cl_76 sl_76 C_76 S_76 h hC hS
    refine j_iload d_Mo_buildItem_36 0 rfl ?_
    refine j_iload_n d_Mo_buildItem_38 rfl 7 rfl ?_
    refine j_iconst (v := 1) d_Mo_buildItem_39 (by decide) ?_
    refine j_isub d_Mo_buildItem_40 ?_
    refine j_icmp_ge (tgt := 124) d_Mo_buildItem_41 (by decide) (fun c9 => ?_) (fun c9 => ?_)
    · replace h := it_t c9 h
      refine j_iload d_Mo_buildItem_124 1 rfl ?_
      refine j_iload_n d_Mo_buildItem_126 rfl 7 rfl ?_
      refine j_iconst (v := 1) d_Mo_buildItem_127 (by decide) ?_
      refine j_isub d_Mo_buildItem_128 ?_
      refine j_icmp_ge (tgt := 145) d_Mo_buildItem_129 (by decide) (fun c10 => ?_) (fun c10 => ?_)
      · replace h := it_t c10 h
        refine j_goto (tgt := 236) d_Mo_buildItem_145 (by decide) ?_
        replace h := lf_s h
        obtain ⟨h, e1, e2⟩ := h
        replace h := Prod.mk.inj h
        obtain ⟨h9, h⟩ := h
        subst h9
        replace h := Prod.mk.inj h
        obtain ⟨h9, h⟩ := h
        subst h9
        replace h := Prod.mk.inj h
        obtain ⟨h9, h⟩ := h
        subst h9
        replace h := Prod.mk.inj h
        obtain ⟨h9, h⟩ := h
        subst h9
        replace h := Prod.mk.inj h
        obtain ⟨h9, h⟩ := h
        subst h9
        replace h := Prod.mk.inj h
        obtain ⟨h9, h⟩ := h
        subst h9
        replace h := Prod.mk.inj h
        obtain ⟨h9, h⟩ := h
        subst h9
        replace h := Prod.mk.inj h
        obtain ⟨h9, h⟩ := h
        subst h9
        replace h := Prod.mk.inj h
        obtain ⟨h9, h⟩ := h
        subst h9
        replace h := Prod.mk.inj h
        obtain ⟨h9, h⟩ := h
        subst h9
        replace h := Prod.mk.inj h
        obtain ⟨h9, h⟩ := h
        subst h9
        replace h := Prod.mk.inj h
        obtain ⟨h9, h⟩ := h
        subst h9
        replace h := Prod.mk.inj h
        obtain ⟨h9, h⟩ := h
        subst h9
        replace h := Prod.mk.inj h
        obtain ⟨h9, h⟩ := h
        subst h9
        replace h := Prod.mk.inj h
        obtain ⟨h9, h⟩ := h
        subst h9
        replace h := Prod.mk.inj h
        obtain ⟨h9, h⟩ := h
        subst h9
        replace h := Prod.mk.inj h
        obtain ⟨h9, h⟩ := h
        subst h9
        replace h := Prod.mk.inj h
        obtain ⟨h9, h⟩ := h
        subst h9
        replace h := Prod.mk.inj h
        obtain ⟨h9, h⟩ := h
        subst h9
        replace h := Prod.mk.inj h
        obtain ⟨h9, h⟩ := h
        subst h9
        replace h := Prod.mk.inj h
        obtain ⟨h9, h⟩ := h
        subst h9
        subst h
        refine j_widen (cl' := mc) (sl' := ms) (by omega) (by omega) ?_
        exact j_vret (w := [(h0, .inr (9, moF am known_h0 thrown_h0 wrong_h0 lastEnd_h0 at_h0 bad_h0 levels_h0 least_h0 found_h0)), ((am 5), .inr (8, [.ref a_all_m5, .int size_m5])), (a_all_m5, .inl (cI, n_a_all_m5, .inl b_a_all_m5)), ((am 6), .inr (8, [.ref a_all_m6, .int size_m6])), (a_all_m6, .inl (cI, n_a_all_m6, .inl b_a_all_m6)), ((am 24), .inr (8, [.ref q7_0_36, .int (size_m24 + 1)])), ((am 25), .inr (8, [.ref q8_0_36, .int (size_m25 + 1)])), ((am 26), .inr (8, [.ref q9_0_36, .int (size_m26 + 1)])), ((am 27), .inr (8, [.ref q10_0_36, .int (size_m27 + 1)])), ((am 28), .inr (8, [.ref q11_0_36, .int f11_1_36])), ((am 29), .inr (8, [.ref q12_0_36, .int f12_1_36])), ((am 30), .inr (8, [.ref q13_0_36, .int f13_1_36])), ((am 31), .inr (8, [.ref q14_0_36, .int (size_m31 + 1)])), ((am 33), .inr (8, [.ref q0_0_36, .int f0_1_36])), (q7_0_36, .inl (cI, n15_36, .inl b15_36)), (q8_0_36, .inl (cI, n16_36, .inl b16_36)), (q9_0_36, .inl (cI, n17_36, .inl b17_36)), (q10_0_36, .inl (cI, n18_36, .inl b18_36)), (q11_0_36, .inl (cI, n19_36, .inl b19_36)), (q12_0_36, .inl (cI, n20_36, .inl b20_36)), (q13_0_36, .inl (cI, n21_36, .inl b21_36)), (q14_0_36, .inl (cI, n22_36, .inl b22_36)), (q0_0_36, .inl (cI, n1_36, .inl b1_36))]) hr d_Mo_buildItem_236 [4, 2, 3, 5, 6, 7, 8, 9, 10, 11, 12, 13, 14, 0, 15, 16, 17, 18, 19, 20, 21, 22, 1] rfl (by decide) ⟨q7_0_36, q8_0_36, q9_0_36, q10_0_36, q11_0_36, q12_0_36, q13_0_36, q14_0_36, q0_0_36, rfl, rfl⟩
      · replace h := it_f c10 h
        refine j_aload_n d_Mo_buildItem_132 rfl 4 rfl ?_
        refine j_iconst (v := 3) d_Mo_buildItem_133 (by decide) ?_
        refine j_iload d_Mo_buildItem_134 2 rfl ?_
        refine j_iload d_Mo_buildItem_136 1 rfl ?_
        refine j_iload_n d_Mo_buildItem_138 rfl 7 rfl ?_
        refine j_iconst (v := 1) d_Mo_buildItem_139 (by decide) ?_
        refine j_isub d_Mo_buildItem_140 ?_
        refine j_iconst (v := 0) d_Mo_buildItem_141 (by decide) ?_
        replace h := bw_s h
        obtain ⟨⟨r11, r12⟩, C14, S15, C16, S17, k18, h, e1, e2⟩ := h
        replace hC : cl_36 + C14 + C16 ≤ mc := by omega
        replace hS : sl_36 + S15 + S17 ≤ ms := by omega
        clear e1 e2
        refine j_callV (n := 5) (As := [.int 3, .int size_m24, .int v6_36, .int (p3 - 1), .int 0]) (rest := []) (wr := [((am 5), .inr (8, [.ref a_all_m5, .int size_m5])), (a_all_m5, .inl (cI, n_a_all_m5, .inl b_a_all_m5)), ((am 6), .inr (8, [.ref a_all_m6, .int size_m6])), (a_all_m6, .inl (cI, n_a_all_m6, .inl b_a_all_m6)), ((am 24), .inr (8, [.ref q7_0_36, .int (size_m24 + 1)])), ((am 25), .inr (8, [.ref q8_0_36, .int (size_m25 + 1)])), ((am 26), .inr (8, [.ref q9_0_36, .int (size_m26 + 1)])), ((am 27), .inr (8, [.ref q10_0_36, .int (size_m27 + 1)])), ((am 28), .inr (8, [.ref q11_0_36, .int f11_1_36])), ((am 29), .inr (8, [.ref q12_0_36, .int f12_1_36])), ((am 30), .inr (8, [.ref q13_0_36, .int f13_1_36])), ((am 31), .inr (8, [.ref q14_0_36, .int (size_m31 + 1)])), (q7_0_36, .inl (cI, n15_36, .inl b15_36)), (q8_0_36, .inl (cI, n16_36, .inl b16_36)), (q9_0_36, .inl (cI, n17_36, .inl b17_36)), (q10_0_36, .inl (cI, n18_36, .inl b18_36)), (q11_0_36, .inl (cI, n19_36, .inl b19_36)), (q12_0_36, .inl (cI, n20_36, .inl b20_36)), (q13_0_36, .inl (cI, n21_36, .inl b21_36)), (q14_0_36, .inl (cI, n22_36, .inl b22_36))]) (c_Mo_task l D cI cB cJ cS h0 am q0_0_36 3 size_m24 v6_36 (p3 - 1) 0 known_h0 thrown_h0 wrong_h0 lastEnd_h0 at_h0 bad_h0 levels_h0 least_h0 found_h0 f0_1_36 n1_36 b1_36  r11 r12 C14 S15 k18) k_Mo_390 (by decide) ⟨Nat.le_of_ble_eq_true rfl, Nat.le_of_ble_eq_true rfl⟩ rfl 0 rfl [4, 0, 1] [2, 3, 5, 6, 7, 8, 9, 10, 11, 12, 13, 14, 15, 16, 17, 18, 19, 20, 21, 22] rfl (by decide +kernel) rfl (by decide +kernel) (by decide +kernel) rfl rfl (Nat.le_of_ble_eq_true rfl) d_Mo_buildItem_142 ⟨show cl_36 + C14 ≤ mc by omega, show sl_36 + S15 ≤ ms by omega⟩ (fun v w hq => ?_)
        obtain ⟨q13, rfl, rfl⟩ := hq
        refine j_norm (pc' := 145) (st' := []) (ws' := [((am 5), .inr (8, [.ref a_all_m5, .int size_m5])), (a_all_m5, .inl (cI, n_a_all_m5, .inl b_a_all_m5)), ((am 6), .inr (8, [.ref a_all_m6, .int size_m6])), (a_all_m6, .inl (cI, n_a_all_m6, .inl b_a_all_m6)), ((am 24), .inr (8, [.ref q7_0_36, .int (size_m24 + 1)])), ((am 25), .inr (8, [.ref q8_0_36, .int (size_m25 + 1)])), ((am 26), .inr (8, [.ref q9_0_36, .int (size_m26 + 1)])), ((am 27), .inr (8, [.ref q10_0_36, .int (size_m27 + 1)])), ((am 28), .inr (8, [.ref q11_0_36, .int f11_1_36])), ((am 29), .inr (8, [.ref q12_0_36, .int f12_1_36])), ((am 30), .inr (8, [.ref q13_0_36, .int f13_1_36])), ((am 31), .inr (8, [.ref q14_0_36, .int (size_m31 + 1)])), (q7_0_36, .inl (cI, n15_36, .inl b15_36)), (q8_0_36, .inl (cI, n16_36, .inl b16_36)), (q9_0_36, .inl (cI, n17_36, .inl b17_36)), (q10_0_36, .inl (cI, n18_36, .inl b18_36)), (q11_0_36, .inl (cI, n19_36, .inl b19_36)), (q12_0_36, .inl (cI, n20_36, .inl b20_36)), (q13_0_36, .inl (cI, n21_36, .inl b21_36)), (q14_0_36, .inl (cI, n22_36, .inl b22_36)), (h0, .inr (9, moF am known_h0 thrown_h0 wrong_h0 lastEnd_h0 at_h0 bad_h0 levels_h0 least_h0 found_h0)), ((am 33), .inr (8, [.ref q13, .int (((((f0_1_36 + 1) + 1) + 1) + 1) + 1)])), (q13, .inl (cI, r11, .inl r12))]) (cl' := cl_36 + C14) (sl' := sl_36 + S15) rfl rfl rfl rfl rfl rfl ?_
        refine j_goto (tgt := 236) d_Mo_buildItem_145 (by decide) ?_
        replace h := lf_s h
        obtain ⟨h, e1, e2⟩ := h
        replace h := Prod.mk.inj h
        obtain ⟨h9, h⟩ := h
        subst h9
        replace h := Prod.mk.inj h
        obtain ⟨h9, h⟩ := h
        subst h9
        replace h := Prod.mk.inj h
        obtain ⟨h9, h⟩ := h
        subst h9
        replace h := Prod.mk.inj h
        obtain ⟨h9, h⟩ := h
        subst h9
        replace h := Prod.mk.inj h
        obtain ⟨h9, h⟩ := h
        subst h9
        replace h := Prod.mk.inj h
        obtain ⟨h9, h⟩ := h
        subst h9
        replace h := Prod.mk.inj h
        obtain ⟨h9, h⟩ := h
        subst h9
        replace h := Prod.mk.inj h
        obtain ⟨h9, h⟩ := h
        subst h9
        replace h := Prod.mk.inj h
        obtain ⟨h9, h⟩ := h
        subst h9
        replace h := Prod.mk.inj h
        obtain ⟨h9, h⟩ := h
        subst h9
        replace h := Prod.mk.inj h
        obtain ⟨h9, h⟩ := h
        subst h9
        replace h := Prod.mk.inj h
        obtain ⟨h9, h⟩ := h
        subst h9
        replace h := Prod.mk.inj h
        obtain ⟨h9, h⟩ := h
        subst h9
        replace h := Prod.mk.inj h
        obtain ⟨h9, h⟩ := h
        subst h9
        replace h := Prod.mk.inj h
        obtain ⟨h9, h⟩ := h
        subst h9
        replace h := Prod.mk.inj h
        obtain ⟨h9, h⟩ := h
        subst h9
        replace h := Prod.mk.inj h
        obtain ⟨h9, h⟩ := h
        subst h9
        replace h := Prod.mk.inj h
        obtain ⟨h9, h⟩ := h
        subst h9
        replace h := Prod.mk.inj h
        obtain ⟨h9, h⟩ := h
        subst h9
        replace h := Prod.mk.inj h
        obtain ⟨h9, h⟩ := h
        subst h9
        replace h := Prod.mk.inj h
        obtain ⟨h9, h⟩ := h
        subst h9
        subst h
        refine j_widen (cl' := mc) (sl' := ms) (by omega) (by omega) ?_
        exact j_vret (w := [(h0, .inr (9, moF am known_h0 thrown_h0 wrong_h0 lastEnd_h0 at_h0 bad_h0 levels_h0 least_h0 found_h0)), ((am 5), .inr (8, [.ref a_all_m5, .int size_m5])), (a_all_m5, .inl (cI, n_a_all_m5, .inl b_a_all_m5)), ((am 6), .inr (8, [.ref a_all_m6, .int size_m6])), (a_all_m6, .inl (cI, n_a_all_m6, .inl b_a_all_m6)), ((am 24), .inr (8, [.ref q7_0_36, .int (size_m24 + 1)])), ((am 25), .inr (8, [.ref q8_0_36, .int (size_m25 + 1)])), ((am 26), .inr (8, [.ref q9_0_36, .int (size_m26 + 1)])), ((am 27), .inr (8, [.ref q10_0_36, .int (size_m27 + 1)])), ((am 28), .inr (8, [.ref q11_0_36, .int f11_1_36])), ((am 29), .inr (8, [.ref q12_0_36, .int f12_1_36])), ((am 30), .inr (8, [.ref q13_0_36, .int f13_1_36])), ((am 31), .inr (8, [.ref q14_0_36, .int (size_m31 + 1)])), ((am 33), .inr (8, [.ref q13, .int (((((f0_1_36 + 1) + 1) + 1) + 1) + 1)])), (q7_0_36, .inl (cI, n15_36, .inl b15_36)), (q8_0_36, .inl (cI, n16_36, .inl b16_36)), (q9_0_36, .inl (cI, n17_36, .inl b17_36)), (q10_0_36, .inl (cI, n18_36, .inl b18_36)), (q11_0_36, .inl (cI, n19_36, .inl b19_36)), (q12_0_36, .inl (cI, n20_36, .inl b20_36)), (q13_0_36, .inl (cI, n21_36, .inl b21_36)), (q14_0_36, .inl (cI, n22_36, .inl b22_36)), (q13, .inl (cI, r11, .inl r12))]) hr d_Mo_buildItem_236 [20, 0, 1, 2, 3, 4, 5, 6, 7, 8, 9, 10, 11, 21, 12, 13, 14, 15, 16, 17, 18, 19, 22] rfl (by decide) ⟨q7_0_36, q8_0_36, q9_0_36, q10_0_36, q11_0_36, q12_0_36, q13_0_36, q14_0_36, q13, rfl, rfl⟩
    · replace h := it_f c9 h
      refine j_aload_n d_Mo_buildItem_44 rfl 4 rfl ?_
      refine j_get ig_Mo rfl 4 rfl 5 (by decide) rfl m_1118 rfl d_Mo_buildItem_45 ?_
      refine j_iload d_Mo_buildItem_48 0 rfl ?_
      replace h := bd_s h
      obtain ⟨_, k19, h⟩ := h
      refine j_callV (n := 1) (As := [.int v7_36]) (rest := []) (wr := [((am 33), .inr (8, [.ref q0_0_36, .int f0_1_36])), (q0_0_36, .inl (cI, n1_36, .inl b1_36)), (h0, .inr (9, moF am known_h0 thrown_h0 wrong_h0 lastEnd_h0 at_h0 bad_h0 levels_h0 least_h0 found_h0)), ((am 6), .inr (8, [.ref a_all_m6, .int size_m6])), (a_all_m6, .inl (cI, n_a_all_m6, .inl b_a_all_m6)), ((am 24), .inr (8, [.ref q7_0_36, .int (size_m24 + 1)])), ((am 25), .inr (8, [.ref q8_0_36, .int (size_m25 + 1)])), ((am 26), .inr (8, [.ref q9_0_36, .int (size_m26 + 1)])), ((am 27), .inr (8, [.ref q10_0_36, .int (size_m27 + 1)])), ((am 28), .inr (8, [.ref q11_0_36, .int f11_1_36])), ((am 29), .inr (8, [.ref q12_0_36, .int f12_1_36])), ((am 30), .inr (8, [.ref q13_0_36, .int f13_1_36])), ((am 31), .inr (8, [.ref q14_0_36, .int (size_m31 + 1)])), (q7_0_36, .inl (cI, n15_36, .inl b15_36)), (q8_0_36, .inl (cI, n16_36, .inl b16_36)), (q9_0_36, .inl (cI, n17_36, .inl b17_36)), (q10_0_36, .inl (cI, n18_36, .inl b18_36)), (q11_0_36, .inl (cI, n19_36, .inl b19_36)), (q12_0_36, .inl (cI, n20_36, .inl b20_36)), (q13_0_36, .inl (cI, n21_36, .inl b21_36)), (q14_0_36, .inl (cI, n22_36, .inl b22_36))]) (c_Nm_at l D cI cB cJ cS (am 5) a_all_m5 v7_36 size_m5 n_a_all_m5 b_a_all_m5  k19) k_Mo_214 (by decide) ⟨Nat.le_of_ble_eq_true rfl, Nat.le_of_ble_eq_true rfl⟩ rfl 0 rfl [2, 3] [0, 1, 4, 5, 6, 7, 8, 9, 10, 11, 12, 13, 14, 15, 16, 17, 18, 19, 20, 21, 22] rfl (by decide +kernel) rfl (by decide +kernel) (by decide +kernel) rfl rfl (Nat.le_of_ble_eq_true rfl) d_Mo_buildItem_50 ⟨show cl_36 + 0 ≤ mc by omega, show sl_36 + 0 ≤ ms by omega⟩ (fun v w hq => ?_)
      obtain ⟨rfl, rfl⟩ := hq
      refine j_norm (pc' := 53) (st' := [.int (b_a_all_m5 (Int32.toNatClampNeg v7_36))]) (ws' := [((am 33), .inr (8, [.ref q0_0_36, .int f0_1_36])), (q0_0_36, .inl (cI, n1_36, .inl b1_36)), (h0, .inr (9, moF am known_h0 thrown_h0 wrong_h0 lastEnd_h0 at_h0 bad_h0 levels_h0 least_h0 found_h0)), ((am 6), .inr (8, [.ref a_all_m6, .int size_m6])), (a_all_m6, .inl (cI, n_a_all_m6, .inl b_a_all_m6)), ((am 24), .inr (8, [.ref q7_0_36, .int (size_m24 + 1)])), ((am 25), .inr (8, [.ref q8_0_36, .int (size_m25 + 1)])), ((am 26), .inr (8, [.ref q9_0_36, .int (size_m26 + 1)])), ((am 27), .inr (8, [.ref q10_0_36, .int (size_m27 + 1)])), ((am 28), .inr (8, [.ref q11_0_36, .int f11_1_36])), ((am 29), .inr (8, [.ref q12_0_36, .int f12_1_36])), ((am 30), .inr (8, [.ref q13_0_36, .int f13_1_36])), ((am 31), .inr (8, [.ref q14_0_36, .int (size_m31 + 1)])), (q7_0_36, .inl (cI, n15_36, .inl b15_36)), (q8_0_36, .inl (cI, n16_36, .inl b16_36)), (q9_0_36, .inl (cI, n17_36, .inl b17_36)), (q10_0_36, .inl (cI, n18_36, .inl b18_36)), (q11_0_36, .inl (cI, n19_36, .inl b19_36)), (q12_0_36, .inl (cI, n20_36, .inl b20_36)), (q13_0_36, .inl (cI, n21_36, .inl b21_36)), (q14_0_36, .inl (cI, n22_36, .inl b22_36)), ((am 5), .inr (8, [.ref a_all_m5, .int size_m5])), (a_all_m5, .inl (cI, n_a_all_m5, .inl b_a_all_m5))]) (cl' := cl_36) (sl' := sl_36) rfl rfl rfl rfl rfl rfl ?_
      refine j_bipush (v := 55) d_Mo_buildItem_53 (by decide) ?_
      refine j_icmp_ne (tgt := 76) d_Mo_buildItem_55 (by decide) (fun c20 => ?_) (fun c20 => ?_)
      · replace h := it_f c20 h
        refine j_sub (w := [((am 33), .inr (8, [.ref q0_0_36, .int f0_1_36])), (q0_0_36, .inl (cI, n1_36, .inl b1_36)), (h0, .inr (9, moF am known_h0 thrown_h0 wrong_h0 lastEnd_h0 at_h0 bad_h0 levels_h0 least_h0 found_h0)), ((am 6), .inr (8, [.ref a_all_m6, .int size_m6])), (a_all_m6, .inl (cI, n_a_all_m6, .inl b_a_all_m6)), ((am 24), .inr (8, [.ref q7_0_36, .int (size_m24 + 1)])), ((am 25), .inr (8, [.ref q8_0_36, .int (size_m25 + 1)])), ((am 26), .inr (8, [.ref q9_0_36, .int (size_m26 + 1)])), ((am 27), .inr (8, [.ref q10_0_36, .int (size_m27 + 1)])), ((am 28), .inr (8, [.ref q11_0_36, .int f11_1_36])), ((am 29), .inr (8, [.ref q12_0_36, .int f12_1_36])), ((am 30), .inr (8, [.ref q13_0_36, .int f13_1_36])), ((am 31), .inr (8, [.ref q14_0_36, .int (size_m31 + 1)])), (q7_0_36, .inl (cI, n15_36, .inl b15_36)), (q8_0_36, .inl (cI, n16_36, .inl b16_36)), (q9_0_36, .inl (cI, n17_36, .inl b17_36)), (q10_0_36, .inl (cI, n18_36, .inl b18_36)), (q11_0_36, .inl (cI, n19_36, .inl b19_36)), (q12_0_36, .inl (cI, n20_36, .inl b20_36)), (q13_0_36, .inl (cI, n21_36, .inl b21_36)), (q14_0_36, .inl (cI, n22_36, .inl b22_36)), ((am 5), .inr (8, [.ref a_all_m5, .int size_m5])), (a_all_m5, .inl (cI, n_a_all_m5, .inl b_a_all_m5))]) (lv' := [(7, .int v7_36), (6, .int v6_36), (5, .int size_m24), (4, .int (b_a_all_m5 (Int32.toNatClampNeg p2))), (0, .ref h0), (1, .int p1), (2, .int p2), (3, .int p3)]) [0, 1, 2, 3, 4, 5, 6, 7, 8, 9, 10, 11, 12, 13, 14, 15, 16, 17, 18, 19, 20, 21, 22] rfl (by decide +kernel) [0, 1, 2, 3, 4, 5, 6, 7] rfl ?_
        exact L_76 q0_0_36 v6_36 f0_1_36 n1_36 b1_36 cl_36 sl_36 C_36 S_36 h hC hS
      · replace h := it_t c20 h
        refine j_aload_n d_Mo_buildItem_58 rfl 4 rfl ?_
        refine j_iconst (v := 3) d_Mo_buildItem_59 (by decide) ?_
        refine j_iload d_Mo_buildItem_60 2 rfl ?_
        refine j_iload d_Mo_buildItem_62 1 rfl ?_
        refine j_iload d_Mo_buildItem_64 0 rfl ?_
        refine j_iconst (v := 0) d_Mo_buildItem_66 (by decide) ?_
        replace h := bw_s h
        obtain ⟨⟨r21, r22⟩, C24, S25, C26, S27, k28, h, e1, e2⟩ := h
        replace hC : cl_36 + C24 + C26 ≤ mc := by omega
        replace hS : sl_36 + S25 + S27 ≤ ms := by omega
        clear e1 e2
        refine j_callV (n := 5) (As := [.int 3, .int size_m24, .int v6_36, .int v7_36, .int 0]) (rest := []) (wr := [((am 6), .inr (8, [.ref a_all_m6, .int size_m6])), (a_all_m6, .inl (cI, n_a_all_m6, .inl b_a_all_m6)), ((am 24), .inr (8, [.ref q7_0_36, .int (size_m24 + 1)])), ((am 25), .inr (8, [.ref q8_0_36, .int (size_m25 + 1)])), ((am 26), .inr (8, [.ref q9_0_36, .int (size_m26 + 1)])), ((am 27), .inr (8, [.ref q10_0_36, .int (size_m27 + 1)])), ((am 28), .inr (8, [.ref q11_0_36, .int f11_1_36])), ((am 29), .inr (8, [.ref q12_0_36, .int f12_1_36])), ((am 30), .inr (8, [.ref q13_0_36, .int f13_1_36])), ((am 31), .inr (8, [.ref q14_0_36, .int (size_m31 + 1)])), (q7_0_36, .inl (cI, n15_36, .inl b15_36)), (q8_0_36, .inl (cI, n16_36, .inl b16_36)), (q9_0_36, .inl (cI, n17_36, .inl b17_36)), (q10_0_36, .inl (cI, n18_36, .inl b18_36)), (q11_0_36, .inl (cI, n19_36, .inl b19_36)), (q12_0_36, .inl (cI, n20_36, .inl b20_36)), (q13_0_36, .inl (cI, n21_36, .inl b21_36)), (q14_0_36, .inl (cI, n22_36, .inl b22_36)), ((am 5), .inr (8, [.ref a_all_m5, .int size_m5])), (a_all_m5, .inl (cI, n_a_all_m5, .inl b_a_all_m5))]) (c_Mo_task l D cI cB cJ cS h0 am q0_0_36 3 size_m24 v6_36 v7_36 0 known_h0 thrown_h0 wrong_h0 lastEnd_h0 at_h0 bad_h0 levels_h0 least_h0 found_h0 f0_1_36 n1_36 b1_36  r21 r22 C24 S25 k28) k_Mo_390 (by decide) ⟨Nat.le_of_ble_eq_true rfl, Nat.le_of_ble_eq_true rfl⟩ rfl 0 rfl [2, 0, 1] [3, 4, 5, 6, 7, 8, 9, 10, 11, 12, 13, 14, 15, 16, 17, 18, 19, 20, 21, 22] rfl (by decide +kernel) rfl (by decide +kernel) (by decide +kernel) rfl rfl (Nat.le_of_ble_eq_true rfl) d_Mo_buildItem_67 ⟨show cl_36 + C24 ≤ mc by omega, show sl_36 + S25 ≤ ms by omega⟩ (fun v w hq => ?_)
        obtain ⟨q23, rfl, rfl⟩ := hq
        refine j_norm (pc' := 70) (st' := []) (ws' := [((am 6), .inr (8, [.ref a_all_m6, .int size_m6])), (a_all_m6, .inl (cI, n_a_all_m6, .inl b_a_all_m6)), ((am 24), .inr (8, [.ref q7_0_36, .int (size_m24 + 1)])), ((am 25), .inr (8, [.ref q8_0_36, .int (size_m25 + 1)])), ((am 26), .inr (8, [.ref q9_0_36, .int (size_m26 + 1)])), ((am 27), .inr (8, [.ref q10_0_36, .int (size_m27 + 1)])), ((am 28), .inr (8, [.ref q11_0_36, .int f11_1_36])), ((am 29), .inr (8, [.ref q12_0_36, .int f12_1_36])), ((am 30), .inr (8, [.ref q13_0_36, .int f13_1_36])), ((am 31), .inr (8, [.ref q14_0_36, .int (size_m31 + 1)])), (q7_0_36, .inl (cI, n15_36, .inl b15_36)), (q8_0_36, .inl (cI, n16_36, .inl b16_36)), (q9_0_36, .inl (cI, n17_36, .inl b17_36)), (q10_0_36, .inl (cI, n18_36, .inl b18_36)), (q11_0_36, .inl (cI, n19_36, .inl b19_36)), (q12_0_36, .inl (cI, n20_36, .inl b20_36)), (q13_0_36, .inl (cI, n21_36, .inl b21_36)), (q14_0_36, .inl (cI, n22_36, .inl b22_36)), ((am 5), .inr (8, [.ref a_all_m5, .int size_m5])), (a_all_m5, .inl (cI, n_a_all_m5, .inl b_a_all_m5)), (h0, .inr (9, moF am known_h0 thrown_h0 wrong_h0 lastEnd_h0 at_h0 bad_h0 levels_h0 least_h0 found_h0)), ((am 33), .inr (8, [.ref q23, .int (((((f0_1_36 + 1) + 1) + 1) + 1) + 1)])), (q23, .inl (cI, r21, .inl r22))]) (cl' := cl_36 + C24) (sl' := sl_36 + S25) rfl rfl rfl rfl rfl rfl ?_
        refine j_iload d_Mo_buildItem_70 0 rfl ?_
        refine j_iconst (v := 1) d_Mo_buildItem_72 (by decide) ?_
        refine j_iadd d_Mo_buildItem_73 ?_
        refine j_istore (lv' := [(6, .int (v7_36 + 1)), (7, .int v7_36), (5, .int size_m24), (4, .int (b_a_all_m5 (Int32.toNatClampNeg p2))), (0, .ref h0), (1, .int p1), (2, .int p2), (3, .int p3)]) d_Mo_buildItem_74 (by decide) rfl ?_
        refine j_sub (w := [((am 33), .inr (8, [.ref q23, .int (((((f0_1_36 + 1) + 1) + 1) + 1) + 1)])), (q23, .inl (cI, r21, .inl r22)), (h0, .inr (9, moF am known_h0 thrown_h0 wrong_h0 lastEnd_h0 at_h0 bad_h0 levels_h0 least_h0 found_h0)), ((am 6), .inr (8, [.ref a_all_m6, .int size_m6])), (a_all_m6, .inl (cI, n_a_all_m6, .inl b_a_all_m6)), ((am 24), .inr (8, [.ref q7_0_36, .int (size_m24 + 1)])), ((am 25), .inr (8, [.ref q8_0_36, .int (size_m25 + 1)])), ((am 26), .inr (8, [.ref q9_0_36, .int (size_m26 + 1)])), ((am 27), .inr (8, [.ref q10_0_36, .int (size_m27 + 1)])), ((am 28), .inr (8, [.ref q11_0_36, .int f11_1_36])), ((am 29), .inr (8, [.ref q12_0_36, .int f12_1_36])), ((am 30), .inr (8, [.ref q13_0_36, .int f13_1_36])), ((am 31), .inr (8, [.ref q14_0_36, .int (size_m31 + 1)])), (q7_0_36, .inl (cI, n15_36, .inl b15_36)), (q8_0_36, .inl (cI, n16_36, .inl b16_36)), (q9_0_36, .inl (cI, n17_36, .inl b17_36)), (q10_0_36, .inl (cI, n18_36, .inl b18_36)), (q11_0_36, .inl (cI, n19_36, .inl b19_36)), (q12_0_36, .inl (cI, n20_36, .inl b20_36)), (q13_0_36, .inl (cI, n21_36, .inl b21_36)), (q14_0_36, .inl (cI, n22_36, .inl b22_36)), ((am 5), .inr (8, [.ref a_all_m5, .int size_m5])), (a_all_m5, .inl (cI, n_a_all_m5, .inl b_a_all_m5))]) (lv' := [(7, .int v7_36), (6, .int (v7_36 + 1)), (5, .int size_m24), (4, .int (b_a_all_m5 (Int32.toNatClampNeg p2))), (0, .ref h0), (1, .int p1), (2, .int p2), (3, .int p3)]) [21, 22, 20, 0, 1, 2, 3, 4, 5, 6, 7, 8, 9, 10, 11, 12, 13, 14, 15, 16, 17, 18, 19] rfl (by decide +kernel) [1, 0, 2, 3, 4, 5, 6, 7] rfl ?_
        exact L_76 q23 (v7_36 + 1) (((((f0_1_36 + 1) + 1) + 1) + 1) + 1) r21 r22 (cl_36 + C24) (sl_36 + S25) C26 S27 h hC hS
set_option maxHeartbeats 4000000 in
set_option maxRecDepth 100000 in
theorem c_Mo_buildItem (l : Launch) (D : va_G) (cI cB cJ cS : ClassId) (h0 : Nat) (am : Nat → Nat) (a_all_m5 : Nat) (a_all_m6 : Nat) (a_all_m24 : Nat) (a_all_m25 : Nat) (a_all_m26 : Nat) (a_all_m27 : Nat) (a_all_m28 : Nat) (a_all_m29 : Nat) (a_all_m30 : Nat) (a_all_m31 : Nat) (a_all_m33 : Nat) (p1 : Int32) (p2 : Int32) (p3 : Int32) (known_h0 : Int32) (thrown_h0 : Int32) (wrong_h0 : Int32) (lastEnd_h0 : Int32) (at_h0 : Int32) (bad_h0 : Int32) (levels_h0 : Int32) (least_h0 : Int32) (found_h0 : Int32) (size_m5 : Int32) (n_a_all_m5 : Nat) (b_a_all_m5 : Nat → Int32) (size_m6 : Int32) (n_a_all_m6 : Nat) (b_a_all_m6 : Nat → Int32) (size_m24 : Int32) (n_a_all_m24 : Nat) (b_a_all_m24 : Nat → Int32) (size_m25 : Int32) (n_a_all_m25 : Nat) (b_a_all_m25 : Nat → Int32) (size_m26 : Int32) (n_a_all_m26 : Nat) (b_a_all_m26 : Nat → Int32) (size_m27 : Int32) (n_a_all_m27 : Nat) (b_a_all_m27 : Nat → Int32) (size_m28 : Int32) (n_a_all_m28 : Nat) (b_a_all_m28 : Nat → Int32) (size_m29 : Int32) (n_a_all_m29 : Nat) (b_a_all_m29 : Nat → Int32) (size_m30 : Int32) (n_a_all_m30 : Nat) (b_a_all_m30 : Nat → Int32) (size_m31 : Int32) (n_a_all_m31 : Nat) (b_a_all_m31 : Nat → Int32) (size_m33 : Int32) (n_a_all_m33 : Nat) (b_a_all_m33 : Nat → Int32) (o_13_1 : Int32) (o_15_1 : Int32) (o_17_1 : Int32) (o_21_1 : Int32) (on_nq_5_0 : Nat) (ob_nq_5_0 : Nat → Int32) (on_nq_7_0 : Nat) (ob_nq_7_0 : Nat → Int32) (on_nq_9_0 : Nat) (ob_nq_9_0 : Nat → Int32) (on_nq_11_0 : Nat) (ob_nq_11_0 : Nat → Int32) (on_nq_13_0 : Nat) (ob_nq_13_0 : Nat → Int32) (on_nq_15_0 : Nat) (ob_nq_15_0 : Nat → Int32) (on_nq_17_0 : Nat) (ob_nq_17_0 : Nat → Int32) (on_nq_19_0 : Nat) (ob_nq_19_0 : Nat → Int32) (on_nq_21_0 : Nat) (ob_nq_21_0 : Nat → Int32) (mc ms : Nat) (h : F_Mo_buildItem p1 p2 p3 known_h0 thrown_h0 wrong_h0 lastEnd_h0 at_h0 bad_h0 levels_h0 least_h0 found_h0 size_m5 n_a_all_m5 b_a_all_m5 size_m6 n_a_all_m6 b_a_all_m6 size_m24 n_a_all_m24 b_a_all_m24 size_m25 n_a_all_m25 b_a_all_m25 size_m26 n_a_all_m26 b_a_all_m26 size_m27 n_a_all_m27 b_a_all_m27 size_m28 n_a_all_m28 b_a_all_m28 size_m29 n_a_all_m29 b_a_all_m29 size_m30 n_a_all_m30 b_a_all_m30 size_m31 n_a_all_m31 b_a_all_m31 size_m33 n_a_all_m33 b_a_all_m33 = some ((o_13_1, o_15_1, o_17_1, o_21_1, on_nq_5_0, ob_nq_5_0, on_nq_7_0, ob_nq_7_0, on_nq_9_0, ob_nq_9_0, on_nq_11_0, ob_nq_11_0, on_nq_13_0, ob_nq_13_0, on_nq_15_0, ob_nq_15_0, on_nq_17_0, ob_nq_17_0, on_nq_19_0, ob_nq_19_0, on_nq_21_0, ob_nq_21_0), mc, ms)) : Ct l D (gT cI cB cJ cS) y_Mo_buildItem prog_12_method_75_code 8 (Option.none : Option Jvm.ClassFile.FieldType) 3 74 mc ms [.ref h0, .int p1, .int p2, .int p3] [(h0, .inr (9, moF am known_h0 thrown_h0 wrong_h0 lastEnd_h0 at_h0 bad_h0 levels_h0 least_h0 found_h0)), ((am 5), .inr (8, [.ref a_all_m5, .int size_m5])), (a_all_m5, .inl (cI, n_a_all_m5, .inl b_a_all_m5)), ((am 6), .inr (8, [.ref a_all_m6, .int size_m6])), (a_all_m6, .inl (cI, n_a_all_m6, .inl b_a_all_m6)), ((am 24), .inr (8, [.ref a_all_m24, .int size_m24])), (a_all_m24, .inl (cI, n_a_all_m24, .inl b_a_all_m24)), ((am 25), .inr (8, [.ref a_all_m25, .int size_m25])), (a_all_m25, .inl (cI, n_a_all_m25, .inl b_a_all_m25)), ((am 26), .inr (8, [.ref a_all_m26, .int size_m26])), (a_all_m26, .inl (cI, n_a_all_m26, .inl b_a_all_m26)), ((am 27), .inr (8, [.ref a_all_m27, .int size_m27])), (a_all_m27, .inl (cI, n_a_all_m27, .inl b_a_all_m27)), ((am 28), .inr (8, [.ref a_all_m28, .int size_m28])), (a_all_m28, .inl (cI, n_a_all_m28, .inl b_a_all_m28)), ((am 29), .inr (8, [.ref a_all_m29, .int size_m29])), (a_all_m29, .inl (cI, n_a_all_m29, .inl b_a_all_m29)), ((am 30), .inr (8, [.ref a_all_m30, .int size_m30])), (a_all_m30, .inl (cI, n_a_all_m30, .inl b_a_all_m30)), ((am 31), .inr (8, [.ref a_all_m31, .int size_m31])), (a_all_m31, .inl (cI, n_a_all_m31, .inl b_a_all_m31)), ((am 33), .inr (8, [.ref a_all_m33, .int size_m33])), (a_all_m33, .inl (cI, n_a_all_m33, .inl b_a_all_m33))] (fun v w => ∃ nq_5_0 : Nat, ∃ nq_7_0 : Nat, ∃ nq_9_0 : Nat, ∃ nq_11_0 : Nat, ∃ nq_13_0 : Nat, ∃ nq_15_0 : Nat, ∃ nq_17_0 : Nat, ∃ nq_19_0 : Nat, ∃ nq_21_0 : Nat, v = none ∧ w = [(h0, .inr (9, moF am known_h0 thrown_h0 wrong_h0 lastEnd_h0 at_h0 bad_h0 levels_h0 least_h0 found_h0)), ((am 5), .inr (8, [.ref a_all_m5, .int size_m5])), (a_all_m5, .inl (cI, n_a_all_m5, .inl b_a_all_m5)), ((am 6), .inr (8, [.ref a_all_m6, .int size_m6])), (a_all_m6, .inl (cI, n_a_all_m6, .inl b_a_all_m6)), ((am 24), .inr (8, [.ref nq_5_0, .int (size_m24 + 1)])), ((am 25), .inr (8, [.ref nq_7_0, .int (size_m25 + 1)])), ((am 26), .inr (8, [.ref nq_9_0, .int (size_m26 + 1)])), ((am 27), .inr (8, [.ref nq_11_0, .int (size_m27 + 1)])), ((am 28), .inr (8, [.ref nq_13_0, .int o_13_1])), ((am 29), .inr (8, [.ref nq_15_0, .int o_15_1])), ((am 30), .inr (8, [.ref nq_17_0, .int o_17_1])), ((am 31), .inr (8, [.ref nq_19_0, .int (size_m31 + 1)])), ((am 33), .inr (8, [.ref nq_21_0, .int o_21_1])), (nq_5_0, .inl (cI, on_nq_5_0, .inl ob_nq_5_0)), (nq_7_0, .inl (cI, on_nq_7_0, .inl ob_nq_7_0)), (nq_9_0, .inl (cI, on_nq_9_0, .inl ob_nq_9_0)), (nq_11_0, .inl (cI, on_nq_11_0, .inl ob_nq_11_0)), (nq_13_0, .inl (cI, on_nq_13_0, .inl ob_nq_13_0)), (nq_15_0, .inl (cI, on_nq_15_0, .inl ob_nq_15_0)), (nq_17_0, .inl (cI, on_nq_17_0, .inl ob_nq_17_0)), (nq_19_0, .inl (cI, on_nq_19_0, .inl ob_nq_19_0)), (nq_21_0, .inl (cI, on_nq_21_0, .inl ob_nq_21_0))]) := by
  refine Ct.mk (by decide) (Nat.le_of_ble_eq_true rfl) ?_
  intro p e s m below meth c hr hnm
  refine j_norm (pc' := 0) (lv' := [(0, .ref h0), (1, .int p1), (2, .int p2), (3, .int p3)]) (st' := []) (ws' := [(h0, .inr (9, moF am known_h0 thrown_h0 wrong_h0 lastEnd_h0 at_h0 bad_h0 levels_h0 least_h0 found_h0)), ((am 5), .inr (8, [.ref a_all_m5, .int size_m5])), (a_all_m5, .inl (cI, n_a_all_m5, .inl b_a_all_m5)), ((am 6), .inr (8, [.ref a_all_m6, .int size_m6])), (a_all_m6, .inl (cI, n_a_all_m6, .inl b_a_all_m6)), ((am 24), .inr (8, [.ref a_all_m24, .int size_m24])), (a_all_m24, .inl (cI, n_a_all_m24, .inl b_a_all_m24)), ((am 25), .inr (8, [.ref a_all_m25, .int size_m25])), (a_all_m25, .inl (cI, n_a_all_m25, .inl b_a_all_m25)), ((am 26), .inr (8, [.ref a_all_m26, .int size_m26])), (a_all_m26, .inl (cI, n_a_all_m26, .inl b_a_all_m26)), ((am 27), .inr (8, [.ref a_all_m27, .int size_m27])), (a_all_m27, .inl (cI, n_a_all_m27, .inl b_a_all_m27)), ((am 28), .inr (8, [.ref a_all_m28, .int size_m28])), (a_all_m28, .inl (cI, n_a_all_m28, .inl b_a_all_m28)), ((am 29), .inr (8, [.ref a_all_m29, .int size_m29])), (a_all_m29, .inl (cI, n_a_all_m29, .inl b_a_all_m29)), ((am 30), .inr (8, [.ref a_all_m30, .int size_m30])), (a_all_m30, .inl (cI, n_a_all_m30, .inl b_a_all_m30)), ((am 31), .inr (8, [.ref a_all_m31, .int size_m31])), (a_all_m31, .inl (cI, n_a_all_m31, .inl b_a_all_m31)), ((am 33), .inr (8, [.ref a_all_m33, .int size_m33])), (a_all_m33, .inl (cI, n_a_all_m33, .inl b_a_all_m33))]) (cl' := 0) (sl' := 0) rfl rfl rfl rfl rfl rfl ?_
  unfold F_Mo_buildItem at h
  have hC : 0 + mc ≤ mc := by omega
  have hS : 0 + ms ≤ ms := by omega
  refine j_aload_n d_Mo_buildItem_0 rfl 0 rfl ?_
  refine j_get ig_Mo rfl 0 rfl 5 (by decide) rfl m_1118 rfl d_Mo_buildItem_1 ?_
  refine j_iload_n d_Mo_buildItem_4 rfl 2 rfl ?_
  replace h := bd_s h
  obtain ⟨_, k29, h⟩ := h
  refine j_callV (n := 1) (As := [.int p2]) (rest := []) (wr := [(h0, .inr (9, moF am known_h0 thrown_h0 wrong_h0 lastEnd_h0 at_h0 bad_h0 levels_h0 least_h0 found_h0)), ((am 6), .inr (8, [.ref a_all_m6, .int size_m6])), (a_all_m6, .inl (cI, n_a_all_m6, .inl b_a_all_m6)), ((am 24), .inr (8, [.ref a_all_m24, .int size_m24])), (a_all_m24, .inl (cI, n_a_all_m24, .inl b_a_all_m24)), ((am 25), .inr (8, [.ref a_all_m25, .int size_m25])), (a_all_m25, .inl (cI, n_a_all_m25, .inl b_a_all_m25)), ((am 26), .inr (8, [.ref a_all_m26, .int size_m26])), (a_all_m26, .inl (cI, n_a_all_m26, .inl b_a_all_m26)), ((am 27), .inr (8, [.ref a_all_m27, .int size_m27])), (a_all_m27, .inl (cI, n_a_all_m27, .inl b_a_all_m27)), ((am 28), .inr (8, [.ref a_all_m28, .int size_m28])), (a_all_m28, .inl (cI, n_a_all_m28, .inl b_a_all_m28)), ((am 29), .inr (8, [.ref a_all_m29, .int size_m29])), (a_all_m29, .inl (cI, n_a_all_m29, .inl b_a_all_m29)), ((am 30), .inr (8, [.ref a_all_m30, .int size_m30])), (a_all_m30, .inl (cI, n_a_all_m30, .inl b_a_all_m30)), ((am 31), .inr (8, [.ref a_all_m31, .int size_m31])), (a_all_m31, .inl (cI, n_a_all_m31, .inl b_a_all_m31)), ((am 33), .inr (8, [.ref a_all_m33, .int size_m33])), (a_all_m33, .inl (cI, n_a_all_m33, .inl b_a_all_m33))]) (c_Nm_at l D cI cB cJ cS (am 5) a_all_m5 p2 size_m5 n_a_all_m5 b_a_all_m5  k29) k_Mo_214 (by decide) ⟨Nat.le_of_ble_eq_true rfl, Nat.le_of_ble_eq_true rfl⟩ rfl 0 rfl [1, 2] [0, 3, 4, 5, 6, 7, 8, 9, 10, 11, 12, 13, 14, 15, 16, 17, 18, 19, 20, 21, 22] rfl (by decide +kernel) rfl (by decide +kernel) (by decide +kernel) rfl rfl (Nat.le_of_ble_eq_true rfl) d_Mo_buildItem_5 ⟨show 0 + 0 ≤ mc by omega, show 0 + 0 ≤ ms by omega⟩ (fun v w hq => ?_)
  obtain ⟨rfl, rfl⟩ := hq
  refine j_norm (pc' := 8) (st' := [.int (b_a_all_m5 (Int32.toNatClampNeg p2))]) (ws' := [(h0, .inr (9, moF am known_h0 thrown_h0 wrong_h0 lastEnd_h0 at_h0 bad_h0 levels_h0 least_h0 found_h0)), ((am 6), .inr (8, [.ref a_all_m6, .int size_m6])), (a_all_m6, .inl (cI, n_a_all_m6, .inl b_a_all_m6)), ((am 24), .inr (8, [.ref a_all_m24, .int size_m24])), (a_all_m24, .inl (cI, n_a_all_m24, .inl b_a_all_m24)), ((am 25), .inr (8, [.ref a_all_m25, .int size_m25])), (a_all_m25, .inl (cI, n_a_all_m25, .inl b_a_all_m25)), ((am 26), .inr (8, [.ref a_all_m26, .int size_m26])), (a_all_m26, .inl (cI, n_a_all_m26, .inl b_a_all_m26)), ((am 27), .inr (8, [.ref a_all_m27, .int size_m27])), (a_all_m27, .inl (cI, n_a_all_m27, .inl b_a_all_m27)), ((am 28), .inr (8, [.ref a_all_m28, .int size_m28])), (a_all_m28, .inl (cI, n_a_all_m28, .inl b_a_all_m28)), ((am 29), .inr (8, [.ref a_all_m29, .int size_m29])), (a_all_m29, .inl (cI, n_a_all_m29, .inl b_a_all_m29)), ((am 30), .inr (8, [.ref a_all_m30, .int size_m30])), (a_all_m30, .inl (cI, n_a_all_m30, .inl b_a_all_m30)), ((am 31), .inr (8, [.ref a_all_m31, .int size_m31])), (a_all_m31, .inl (cI, n_a_all_m31, .inl b_a_all_m31)), ((am 33), .inr (8, [.ref a_all_m33, .int size_m33])), (a_all_m33, .inl (cI, n_a_all_m33, .inl b_a_all_m33)), ((am 5), .inr (8, [.ref a_all_m5, .int size_m5])), (a_all_m5, .inl (cI, n_a_all_m5, .inl b_a_all_m5))]) (cl' := 0) (sl' := 0) rfl rfl rfl rfl rfl rfl ?_
  refine j_istore (lv' := [(4, .int (b_a_all_m5 (Int32.toNatClampNeg p2))), (0, .ref h0), (1, .int p1), (2, .int p2), (3, .int p3)]) d_Mo_buildItem_8 (by decide) rfl ?_
  refine j_iload d_Mo_buildItem_10 0 rfl ?_
  refine j_bipush (v := 52) d_Mo_buildItem_12 (by decide) ?_
  refine j_icmp_ne (tgt := 148) d_Mo_buildItem_14 (by decide) (fun c30 => ?_) (fun c30 => ?_)
  · replace h := it_f c30 h
    refine j_iload_n d_Mo_buildItem_148 rfl 4 rfl ?_
    refine j_iload_n d_Mo_buildItem_149 rfl 3 rfl ?_
    refine j_iconst (v := 1) d_Mo_buildItem_150 (by decide) ?_
    refine j_iadd d_Mo_buildItem_151 ?_
    refine j_icmp_le (tgt := 192) d_Mo_buildItem_152 (by decide) (fun c31 => ?_) (fun c31 => ?_)
    · replace h := it_t c31 h
      refine j_aload_n d_Mo_buildItem_192 rfl 1 rfl ?_
      refine j_iload_n d_Mo_buildItem_193 rfl 2 rfl ?_
      refine j_iload d_Mo_buildItem_194 0 rfl ?_
      refine j_iconst (v := 3) d_Mo_buildItem_196 (by decide) ?_
      refine j_icmp_ne (tgt := 205) d_Mo_buildItem_197 (by decide) (fun c32 => ?_) (fun c32 => ?_)
      · replace h := it_f c32 h
        refine j_iload d_Mo_buildItem_205 0 rfl ?_
        refine j_iconst (v := 4) d_Mo_buildItem_207 (by decide) ?_
        refine j_icmp_ne (tgt := 216) d_Mo_buildItem_208 (by decide) (fun c33 => ?_) (fun c33 => ?_)
        · replace h := it_f c33 h
          refine j_iload d_Mo_buildItem_216 0 rfl ?_
          refine j_bipush (v := 13) d_Mo_buildItem_218 (by decide) ?_
          refine j_icmp_ne (tgt := 228) d_Mo_buildItem_220 (by decide) (fun c34 => ?_) (fun c34 => ?_)
          · replace h := it_f c34 h
            refine j_bipush (v := 32) d_Mo_buildItem_228 (by decide) ?_
            refine j_iload_n d_Mo_buildItem_230 rfl 3 rfl ?_
            replace h := bw_s h
            obtain ⟨⟨r35, r36, r37, r38, r39, r40, r41, r42, r43, r44, r45, r46, r47, r48, r49, r50, r51, r52, r53⟩, C62, S63, C64, S65, k66, h, e1, e2⟩ := h
            replace hC : 0 + C62 + C64 ≤ mc := by omega
            replace hS : 0 + S63 + S65 ≤ ms := by omega
            clear e1 e2
            refine j_callV (n := 3) (As := [.int p1, .int 32, .int p2]) (rest := []) (wr := [((am 33), .inr (8, [.ref a_all_m33, .int size_m33])), (a_all_m33, .inl (cI, n_a_all_m33, .inl b_a_all_m33)), ((am 5), .inr (8, [.ref a_all_m5, .int size_m5])), (a_all_m5, .inl (cI, n_a_all_m5, .inl b_a_all_m5))]) (c_Mo_leafNode l D cI cB cJ cS h0 am a_all_m6 a_all_m24 a_all_m25 a_all_m26 a_all_m27 a_all_m28 a_all_m29 a_all_m30 a_all_m31 p1 32 p2 known_h0 thrown_h0 wrong_h0 lastEnd_h0 at_h0 bad_h0 levels_h0 least_h0 found_h0 size_m6 n_a_all_m6 b_a_all_m6 size_m24 n_a_all_m24 b_a_all_m24 size_m25 n_a_all_m25 b_a_all_m25 size_m26 n_a_all_m26 b_a_all_m26 size_m27 n_a_all_m27 b_a_all_m27 size_m28 n_a_all_m28 b_a_all_m28 size_m29 n_a_all_m29 b_a_all_m29 size_m30 n_a_all_m30 b_a_all_m30 size_m31 n_a_all_m31 b_a_all_m31  r35 r36 r37 r38 r39 r40 r41 r42 r43 r44 r45 r46 r47 r48 r49 r50 r51 r52 r53 C62 S63 k66) k_Mo_426 (by decide) ⟨Nat.le_of_ble_eq_true rfl, Nat.le_of_ble_eq_true rfl⟩ rfl 0 rfl [0, 1, 2, 3, 4, 5, 6, 7, 8, 9, 10, 11, 12, 13, 14, 15, 16, 17, 18] [19, 20, 21, 22] rfl (by decide +kernel) rfl (by decide +kernel) (by decide +kernel) rfl rfl (Nat.le_of_ble_eq_true rfl) d_Mo_buildItem_231 ⟨show 0 + C62 ≤ mc by omega, show 0 + S63 ≤ ms by omega⟩ (fun v w hq => ?_)
            obtain ⟨q54, q55, q56, q57, q58, q59, q60, q61, rfl, rfl⟩ := hq
            refine j_norm (pc' := 234) (st' := [.int size_m24]) (ws' := [((am 33), .inr (8, [.ref a_all_m33, .int size_m33])), (a_all_m33, .inl (cI, n_a_all_m33, .inl b_a_all_m33)), ((am 5), .inr (8, [.ref a_all_m5, .int size_m5])), (a_all_m5, .inl (cI, n_a_all_m5, .inl b_a_all_m5)), (h0, .inr (9, moF am known_h0 thrown_h0 wrong_h0 lastEnd_h0 at_h0 bad_h0 levels_h0 least_h0 found_h0)), ((am 6), .inr (8, [.ref a_all_m6, .int size_m6])), (a_all_m6, .inl (cI, n_a_all_m6, .inl b_a_all_m6)), ((am 24), .inr (8, [.ref q54, .int (size_m24 + 1)])), ((am 25), .inr (8, [.ref q55, .int (size_m25 + 1)])), ((am 26), .inr (8, [.ref q56, .int (size_m26 + 1)])), ((am 27), .inr (8, [.ref q57, .int (size_m27 + 1)])), ((am 28), .inr (8, [.ref q58, .int r35])), ((am 29), .inr (8, [.ref q59, .int r36])), ((am 30), .inr (8, [.ref q60, .int r37])), ((am 31), .inr (8, [.ref q61, .int (size_m31 + 1)])), (q54, .inl (cI, r38, .inl r39)), (q55, .inl (cI, r40, .inl r41)), (q56, .inl (cI, r42, .inl r43)), (q57, .inl (cI, r44, .inl r45)), (q58, .inl (cI, r46, .inl r47)), (q59, .inl (cI, r48, .inl r49)), (q60, .inl (cI, r50, .inl r51)), (q61, .inl (cI, r52, .inl r53))]) (cl' := 0 + C62) (sl' := 0 + S63) rfl rfl rfl rfl rfl rfl ?_
            refine j_istore (lv' := [(5, .int size_m24), (4, .int (b_a_all_m5 (Int32.toNatClampNeg p2))), (0, .ref h0), (1, .int p1), (2, .int p2), (3, .int p3)]) d_Mo_buildItem_234 (by decide) rfl ?_
            replace h := lf_s h
            obtain ⟨h, e1, e2⟩ := h
            replace h := Prod.mk.inj h
            obtain ⟨h9, h⟩ := h
            subst h9
            replace h := Prod.mk.inj h
            obtain ⟨h9, h⟩ := h
            subst h9
            replace h := Prod.mk.inj h
            obtain ⟨h9, h⟩ := h
            subst h9
            replace h := Prod.mk.inj h
            obtain ⟨h9, h⟩ := h
            subst h9
            replace h := Prod.mk.inj h
            obtain ⟨h9, h⟩ := h
            subst h9
            replace h := Prod.mk.inj h
            obtain ⟨h9, h⟩ := h
            subst h9
            replace h := Prod.mk.inj h
            obtain ⟨h9, h⟩ := h
            subst h9
            replace h := Prod.mk.inj h
            obtain ⟨h9, h⟩ := h
            subst h9
            replace h := Prod.mk.inj h
            obtain ⟨h9, h⟩ := h
            subst h9
            replace h := Prod.mk.inj h
            obtain ⟨h9, h⟩ := h
            subst h9
            replace h := Prod.mk.inj h
            obtain ⟨h9, h⟩ := h
            subst h9
            replace h := Prod.mk.inj h
            obtain ⟨h9, h⟩ := h
            subst h9
            replace h := Prod.mk.inj h
            obtain ⟨h9, h⟩ := h
            subst h9
            replace h := Prod.mk.inj h
            obtain ⟨h9, h⟩ := h
            subst h9
            replace h := Prod.mk.inj h
            obtain ⟨h9, h⟩ := h
            subst h9
            replace h := Prod.mk.inj h
            obtain ⟨h9, h⟩ := h
            subst h9
            replace h := Prod.mk.inj h
            obtain ⟨h9, h⟩ := h
            subst h9
            replace h := Prod.mk.inj h
            obtain ⟨h9, h⟩ := h
            subst h9
            replace h := Prod.mk.inj h
            obtain ⟨h9, h⟩ := h
            subst h9
            replace h := Prod.mk.inj h
            obtain ⟨h9, h⟩ := h
            subst h9
            replace h := Prod.mk.inj h
            obtain ⟨h9, h⟩ := h
            subst h9
            subst h
            refine j_widen (cl' := mc) (sl' := ms) (by omega) (by omega) ?_
            exact j_vret (w := [(h0, .inr (9, moF am known_h0 thrown_h0 wrong_h0 lastEnd_h0 at_h0 bad_h0 levels_h0 least_h0 found_h0)), ((am 5), .inr (8, [.ref a_all_m5, .int size_m5])), (a_all_m5, .inl (cI, n_a_all_m5, .inl b_a_all_m5)), ((am 6), .inr (8, [.ref a_all_m6, .int size_m6])), (a_all_m6, .inl (cI, n_a_all_m6, .inl b_a_all_m6)), ((am 24), .inr (8, [.ref q54, .int (size_m24 + 1)])), ((am 25), .inr (8, [.ref q55, .int (size_m25 + 1)])), ((am 26), .inr (8, [.ref q56, .int (size_m26 + 1)])), ((am 27), .inr (8, [.ref q57, .int (size_m27 + 1)])), ((am 28), .inr (8, [.ref q58, .int r35])), ((am 29), .inr (8, [.ref q59, .int r36])), ((am 30), .inr (8, [.ref q60, .int r37])), ((am 31), .inr (8, [.ref q61, .int (size_m31 + 1)])), ((am 33), .inr (8, [.ref a_all_m33, .int size_m33])), (q54, .inl (cI, r38, .inl r39)), (q55, .inl (cI, r40, .inl r41)), (q56, .inl (cI, r42, .inl r43)), (q57, .inl (cI, r44, .inl r45)), (q58, .inl (cI, r46, .inl r47)), (q59, .inl (cI, r48, .inl r49)), (q60, .inl (cI, r50, .inl r51)), (q61, .inl (cI, r52, .inl r53)), (a_all_m33, .inl (cI, n_a_all_m33, .inl b_a_all_m33))]) hr d_Mo_buildItem_236 [4, 2, 3, 5, 6, 7, 8, 9, 10, 11, 12, 13, 14, 0, 15, 16, 17, 18, 19, 20, 21, 22, 1] rfl (by decide) ⟨q54, q55, q56, q57, q58, q59, q60, q61, a_all_m33, rfl, rfl⟩
          · replace h := it_t c34 h
            refine j_bipush (v := 35) d_Mo_buildItem_223 (by decide) ?_
            refine j_goto (tgt := 230) d_Mo_buildItem_225 (by decide) ?_
            refine j_iload_n d_Mo_buildItem_230 rfl 3 rfl ?_
            replace h := bw_s h
            obtain ⟨⟨r67, r68, r69, r70, r71, r72, r73, r74, r75, r76, r77, r78, r79, r80, r81, r82, r83, r84, r85⟩, C94, S95, C96, S97, k98, h, e1, e2⟩ := h
            replace hC : 0 + C94 + C96 ≤ mc := by omega
            replace hS : 0 + S95 + S97 ≤ ms := by omega
            clear e1 e2
            refine j_callV (n := 3) (As := [.int p1, .int 35, .int p2]) (rest := []) (wr := [((am 33), .inr (8, [.ref a_all_m33, .int size_m33])), (a_all_m33, .inl (cI, n_a_all_m33, .inl b_a_all_m33)), ((am 5), .inr (8, [.ref a_all_m5, .int size_m5])), (a_all_m5, .inl (cI, n_a_all_m5, .inl b_a_all_m5))]) (c_Mo_leafNode l D cI cB cJ cS h0 am a_all_m6 a_all_m24 a_all_m25 a_all_m26 a_all_m27 a_all_m28 a_all_m29 a_all_m30 a_all_m31 p1 35 p2 known_h0 thrown_h0 wrong_h0 lastEnd_h0 at_h0 bad_h0 levels_h0 least_h0 found_h0 size_m6 n_a_all_m6 b_a_all_m6 size_m24 n_a_all_m24 b_a_all_m24 size_m25 n_a_all_m25 b_a_all_m25 size_m26 n_a_all_m26 b_a_all_m26 size_m27 n_a_all_m27 b_a_all_m27 size_m28 n_a_all_m28 b_a_all_m28 size_m29 n_a_all_m29 b_a_all_m29 size_m30 n_a_all_m30 b_a_all_m30 size_m31 n_a_all_m31 b_a_all_m31  r67 r68 r69 r70 r71 r72 r73 r74 r75 r76 r77 r78 r79 r80 r81 r82 r83 r84 r85 C94 S95 k98) k_Mo_426 (by decide) ⟨Nat.le_of_ble_eq_true rfl, Nat.le_of_ble_eq_true rfl⟩ rfl 0 rfl [0, 1, 2, 3, 4, 5, 6, 7, 8, 9, 10, 11, 12, 13, 14, 15, 16, 17, 18] [19, 20, 21, 22] rfl (by decide +kernel) rfl (by decide +kernel) (by decide +kernel) rfl rfl (Nat.le_of_ble_eq_true rfl) d_Mo_buildItem_231 ⟨show 0 + C94 ≤ mc by omega, show 0 + S95 ≤ ms by omega⟩ (fun v w hq => ?_)
            obtain ⟨q86, q87, q88, q89, q90, q91, q92, q93, rfl, rfl⟩ := hq
            refine j_norm (pc' := 234) (st' := [.int size_m24]) (ws' := [((am 33), .inr (8, [.ref a_all_m33, .int size_m33])), (a_all_m33, .inl (cI, n_a_all_m33, .inl b_a_all_m33)), ((am 5), .inr (8, [.ref a_all_m5, .int size_m5])), (a_all_m5, .inl (cI, n_a_all_m5, .inl b_a_all_m5)), (h0, .inr (9, moF am known_h0 thrown_h0 wrong_h0 lastEnd_h0 at_h0 bad_h0 levels_h0 least_h0 found_h0)), ((am 6), .inr (8, [.ref a_all_m6, .int size_m6])), (a_all_m6, .inl (cI, n_a_all_m6, .inl b_a_all_m6)), ((am 24), .inr (8, [.ref q86, .int (size_m24 + 1)])), ((am 25), .inr (8, [.ref q87, .int (size_m25 + 1)])), ((am 26), .inr (8, [.ref q88, .int (size_m26 + 1)])), ((am 27), .inr (8, [.ref q89, .int (size_m27 + 1)])), ((am 28), .inr (8, [.ref q90, .int r67])), ((am 29), .inr (8, [.ref q91, .int r68])), ((am 30), .inr (8, [.ref q92, .int r69])), ((am 31), .inr (8, [.ref q93, .int (size_m31 + 1)])), (q86, .inl (cI, r70, .inl r71)), (q87, .inl (cI, r72, .inl r73)), (q88, .inl (cI, r74, .inl r75)), (q89, .inl (cI, r76, .inl r77)), (q90, .inl (cI, r78, .inl r79)), (q91, .inl (cI, r80, .inl r81)), (q92, .inl (cI, r82, .inl r83)), (q93, .inl (cI, r84, .inl r85))]) (cl' := 0 + C94) (sl' := 0 + S95) rfl rfl rfl rfl rfl rfl ?_
            refine j_istore (lv' := [(5, .int size_m24), (4, .int (b_a_all_m5 (Int32.toNatClampNeg p2))), (0, .ref h0), (1, .int p1), (2, .int p2), (3, .int p3)]) d_Mo_buildItem_234 (by decide) rfl ?_
            replace h := lf_s h
            obtain ⟨h, e1, e2⟩ := h
            replace h := Prod.mk.inj h
            obtain ⟨h9, h⟩ := h
            subst h9
            replace h := Prod.mk.inj h
            obtain ⟨h9, h⟩ := h
            subst h9
            replace h := Prod.mk.inj h
            obtain ⟨h9, h⟩ := h
            subst h9
            replace h := Prod.mk.inj h
            obtain ⟨h9, h⟩ := h
            subst h9
            replace h := Prod.mk.inj h
            obtain ⟨h9, h⟩ := h
            subst h9
            replace h := Prod.mk.inj h
            obtain ⟨h9, h⟩ := h
            subst h9
            replace h := Prod.mk.inj h
            obtain ⟨h9, h⟩ := h
            subst h9
            replace h := Prod.mk.inj h
            obtain ⟨h9, h⟩ := h
            subst h9
            replace h := Prod.mk.inj h
            obtain ⟨h9, h⟩ := h
            subst h9
            replace h := Prod.mk.inj h
            obtain ⟨h9, h⟩ := h
            subst h9
            replace h := Prod.mk.inj h
            obtain ⟨h9, h⟩ := h
            subst h9
            replace h := Prod.mk.inj h
            obtain ⟨h9, h⟩ := h
            subst h9
            replace h := Prod.mk.inj h
            obtain ⟨h9, h⟩ := h
            subst h9
            replace h := Prod.mk.inj h
            obtain ⟨h9, h⟩ := h
            subst h9
            replace h := Prod.mk.inj h
            obtain ⟨h9, h⟩ := h
            subst h9
            replace h := Prod.mk.inj h
            obtain ⟨h9, h⟩ := h
            subst h9
            replace h := Prod.mk.inj h
            obtain ⟨h9, h⟩ := h
            subst h9
            replace h := Prod.mk.inj h
            obtain ⟨h9, h⟩ := h
            subst h9
            replace h := Prod.mk.inj h
            obtain ⟨h9, h⟩ := h
            subst h9
            replace h := Prod.mk.inj h
            obtain ⟨h9, h⟩ := h
            subst h9
            replace h := Prod.mk.inj h
            obtain ⟨h9, h⟩ := h
            subst h9
            subst h
            refine j_widen (cl' := mc) (sl' := ms) (by omega) (by omega) ?_
            exact j_vret (w := [(h0, .inr (9, moF am known_h0 thrown_h0 wrong_h0 lastEnd_h0 at_h0 bad_h0 levels_h0 least_h0 found_h0)), ((am 5), .inr (8, [.ref a_all_m5, .int size_m5])), (a_all_m5, .inl (cI, n_a_all_m5, .inl b_a_all_m5)), ((am 6), .inr (8, [.ref a_all_m6, .int size_m6])), (a_all_m6, .inl (cI, n_a_all_m6, .inl b_a_all_m6)), ((am 24), .inr (8, [.ref q86, .int (size_m24 + 1)])), ((am 25), .inr (8, [.ref q87, .int (size_m25 + 1)])), ((am 26), .inr (8, [.ref q88, .int (size_m26 + 1)])), ((am 27), .inr (8, [.ref q89, .int (size_m27 + 1)])), ((am 28), .inr (8, [.ref q90, .int r67])), ((am 29), .inr (8, [.ref q91, .int r68])), ((am 30), .inr (8, [.ref q92, .int r69])), ((am 31), .inr (8, [.ref q93, .int (size_m31 + 1)])), ((am 33), .inr (8, [.ref a_all_m33, .int size_m33])), (q86, .inl (cI, r70, .inl r71)), (q87, .inl (cI, r72, .inl r73)), (q88, .inl (cI, r74, .inl r75)), (q89, .inl (cI, r76, .inl r77)), (q90, .inl (cI, r78, .inl r79)), (q91, .inl (cI, r80, .inl r81)), (q92, .inl (cI, r82, .inl r83)), (q93, .inl (cI, r84, .inl r85)), (a_all_m33, .inl (cI, n_a_all_m33, .inl b_a_all_m33))]) hr d_Mo_buildItem_236 [4, 2, 3, 5, 6, 7, 8, 9, 10, 11, 12, 13, 14, 0, 15, 16, 17, 18, 19, 20, 21, 22, 1] rfl (by decide) ⟨q86, q87, q88, q89, q90, q91, q92, q93, a_all_m33, rfl, rfl⟩
        · replace h := it_t c33 h
          refine j_bipush (v := 31) d_Mo_buildItem_211 (by decide) ?_
          refine j_goto (tgt := 230) d_Mo_buildItem_213 (by decide) ?_
          refine j_iload_n d_Mo_buildItem_230 rfl 3 rfl ?_
          replace h := bw_s h
          obtain ⟨⟨r99, r100, r101, r102, r103, r104, r105, r106, r107, r108, r109, r110, r111, r112, r113, r114, r115, r116, r117⟩, C126, S127, C128, S129, k130, h, e1, e2⟩ := h
          replace hC : 0 + C126 + C128 ≤ mc := by omega
          replace hS : 0 + S127 + S129 ≤ ms := by omega
          clear e1 e2
          refine j_callV (n := 3) (As := [.int p1, .int 31, .int p2]) (rest := []) (wr := [((am 33), .inr (8, [.ref a_all_m33, .int size_m33])), (a_all_m33, .inl (cI, n_a_all_m33, .inl b_a_all_m33)), ((am 5), .inr (8, [.ref a_all_m5, .int size_m5])), (a_all_m5, .inl (cI, n_a_all_m5, .inl b_a_all_m5))]) (c_Mo_leafNode l D cI cB cJ cS h0 am a_all_m6 a_all_m24 a_all_m25 a_all_m26 a_all_m27 a_all_m28 a_all_m29 a_all_m30 a_all_m31 p1 31 p2 known_h0 thrown_h0 wrong_h0 lastEnd_h0 at_h0 bad_h0 levels_h0 least_h0 found_h0 size_m6 n_a_all_m6 b_a_all_m6 size_m24 n_a_all_m24 b_a_all_m24 size_m25 n_a_all_m25 b_a_all_m25 size_m26 n_a_all_m26 b_a_all_m26 size_m27 n_a_all_m27 b_a_all_m27 size_m28 n_a_all_m28 b_a_all_m28 size_m29 n_a_all_m29 b_a_all_m29 size_m30 n_a_all_m30 b_a_all_m30 size_m31 n_a_all_m31 b_a_all_m31  r99 r100 r101 r102 r103 r104 r105 r106 r107 r108 r109 r110 r111 r112 r113 r114 r115 r116 r117 C126 S127 k130) k_Mo_426 (by decide) ⟨Nat.le_of_ble_eq_true rfl, Nat.le_of_ble_eq_true rfl⟩ rfl 0 rfl [0, 1, 2, 3, 4, 5, 6, 7, 8, 9, 10, 11, 12, 13, 14, 15, 16, 17, 18] [19, 20, 21, 22] rfl (by decide +kernel) rfl (by decide +kernel) (by decide +kernel) rfl rfl (Nat.le_of_ble_eq_true rfl) d_Mo_buildItem_231 ⟨show 0 + C126 ≤ mc by omega, show 0 + S127 ≤ ms by omega⟩ (fun v w hq => ?_)
          obtain ⟨q118, q119, q120, q121, q122, q123, q124, q125, rfl, rfl⟩ := hq
          refine j_norm (pc' := 234) (st' := [.int size_m24]) (ws' := [((am 33), .inr (8, [.ref a_all_m33, .int size_m33])), (a_all_m33, .inl (cI, n_a_all_m33, .inl b_a_all_m33)), ((am 5), .inr (8, [.ref a_all_m5, .int size_m5])), (a_all_m5, .inl (cI, n_a_all_m5, .inl b_a_all_m5)), (h0, .inr (9, moF am known_h0 thrown_h0 wrong_h0 lastEnd_h0 at_h0 bad_h0 levels_h0 least_h0 found_h0)), ((am 6), .inr (8, [.ref a_all_m6, .int size_m6])), (a_all_m6, .inl (cI, n_a_all_m6, .inl b_a_all_m6)), ((am 24), .inr (8, [.ref q118, .int (size_m24 + 1)])), ((am 25), .inr (8, [.ref q119, .int (size_m25 + 1)])), ((am 26), .inr (8, [.ref q120, .int (size_m26 + 1)])), ((am 27), .inr (8, [.ref q121, .int (size_m27 + 1)])), ((am 28), .inr (8, [.ref q122, .int r99])), ((am 29), .inr (8, [.ref q123, .int r100])), ((am 30), .inr (8, [.ref q124, .int r101])), ((am 31), .inr (8, [.ref q125, .int (size_m31 + 1)])), (q118, .inl (cI, r102, .inl r103)), (q119, .inl (cI, r104, .inl r105)), (q120, .inl (cI, r106, .inl r107)), (q121, .inl (cI, r108, .inl r109)), (q122, .inl (cI, r110, .inl r111)), (q123, .inl (cI, r112, .inl r113)), (q124, .inl (cI, r114, .inl r115)), (q125, .inl (cI, r116, .inl r117))]) (cl' := 0 + C126) (sl' := 0 + S127) rfl rfl rfl rfl rfl rfl ?_
          refine j_istore (lv' := [(5, .int size_m24), (4, .int (b_a_all_m5 (Int32.toNatClampNeg p2))), (0, .ref h0), (1, .int p1), (2, .int p2), (3, .int p3)]) d_Mo_buildItem_234 (by decide) rfl ?_
          replace h := lf_s h
          obtain ⟨h, e1, e2⟩ := h
          replace h := Prod.mk.inj h
          obtain ⟨h9, h⟩ := h
          subst h9
          replace h := Prod.mk.inj h
          obtain ⟨h9, h⟩ := h
          subst h9
          replace h := Prod.mk.inj h
          obtain ⟨h9, h⟩ := h
          subst h9
          replace h := Prod.mk.inj h
          obtain ⟨h9, h⟩ := h
          subst h9
          replace h := Prod.mk.inj h
          obtain ⟨h9, h⟩ := h
          subst h9
          replace h := Prod.mk.inj h
          obtain ⟨h9, h⟩ := h
          subst h9
          replace h := Prod.mk.inj h
          obtain ⟨h9, h⟩ := h
          subst h9
          replace h := Prod.mk.inj h
          obtain ⟨h9, h⟩ := h
          subst h9
          replace h := Prod.mk.inj h
          obtain ⟨h9, h⟩ := h
          subst h9
          replace h := Prod.mk.inj h
          obtain ⟨h9, h⟩ := h
          subst h9
          replace h := Prod.mk.inj h
          obtain ⟨h9, h⟩ := h
          subst h9
          replace h := Prod.mk.inj h
          obtain ⟨h9, h⟩ := h
          subst h9
          replace h := Prod.mk.inj h
          obtain ⟨h9, h⟩ := h
          subst h9
          replace h := Prod.mk.inj h
          obtain ⟨h9, h⟩ := h
          subst h9
          replace h := Prod.mk.inj h
          obtain ⟨h9, h⟩ := h
          subst h9
          replace h := Prod.mk.inj h
          obtain ⟨h9, h⟩ := h
          subst h9
          replace h := Prod.mk.inj h
          obtain ⟨h9, h⟩ := h
          subst h9
          replace h := Prod.mk.inj h
          obtain ⟨h9, h⟩ := h
          subst h9
          replace h := Prod.mk.inj h
          obtain ⟨h9, h⟩ := h
          subst h9
          replace h := Prod.mk.inj h
          obtain ⟨h9, h⟩ := h
          subst h9
          replace h := Prod.mk.inj h
          obtain ⟨h9, h⟩ := h
          subst h9
          subst h
          refine j_widen (cl' := mc) (sl' := ms) (by omega) (by omega) ?_
          exact j_vret (w := [(h0, .inr (9, moF am known_h0 thrown_h0 wrong_h0 lastEnd_h0 at_h0 bad_h0 levels_h0 least_h0 found_h0)), ((am 5), .inr (8, [.ref a_all_m5, .int size_m5])), (a_all_m5, .inl (cI, n_a_all_m5, .inl b_a_all_m5)), ((am 6), .inr (8, [.ref a_all_m6, .int size_m6])), (a_all_m6, .inl (cI, n_a_all_m6, .inl b_a_all_m6)), ((am 24), .inr (8, [.ref q118, .int (size_m24 + 1)])), ((am 25), .inr (8, [.ref q119, .int (size_m25 + 1)])), ((am 26), .inr (8, [.ref q120, .int (size_m26 + 1)])), ((am 27), .inr (8, [.ref q121, .int (size_m27 + 1)])), ((am 28), .inr (8, [.ref q122, .int r99])), ((am 29), .inr (8, [.ref q123, .int r100])), ((am 30), .inr (8, [.ref q124, .int r101])), ((am 31), .inr (8, [.ref q125, .int (size_m31 + 1)])), ((am 33), .inr (8, [.ref a_all_m33, .int size_m33])), (q118, .inl (cI, r102, .inl r103)), (q119, .inl (cI, r104, .inl r105)), (q120, .inl (cI, r106, .inl r107)), (q121, .inl (cI, r108, .inl r109)), (q122, .inl (cI, r110, .inl r111)), (q123, .inl (cI, r112, .inl r113)), (q124, .inl (cI, r114, .inl r115)), (q125, .inl (cI, r116, .inl r117)), (a_all_m33, .inl (cI, n_a_all_m33, .inl b_a_all_m33))]) hr d_Mo_buildItem_236 [4, 2, 3, 5, 6, 7, 8, 9, 10, 11, 12, 13, 14, 0, 15, 16, 17, 18, 19, 20, 21, 22, 1] rfl (by decide) ⟨q118, q119, q120, q121, q122, q123, q124, q125, a_all_m33, rfl, rfl⟩
      · replace h := it_t c32 h
        refine j_bipush (v := 30) d_Mo_buildItem_200 (by decide) ?_
        refine j_goto (tgt := 230) d_Mo_buildItem_202 (by decide) ?_
        refine j_iload_n d_Mo_buildItem_230 rfl 3 rfl ?_
        replace h := bw_s h
        obtain ⟨⟨r131, r132, r133, r134, r135, r136, r137, r138, r139, r140, r141, r142, r143, r144, r145, r146, r147, r148, r149⟩, C158, S159, C160, S161, k162, h, e1, e2⟩ := h
        replace hC : 0 + C158 + C160 ≤ mc := by omega
        replace hS : 0 + S159 + S161 ≤ ms := by omega
        clear e1 e2
        refine j_callV (n := 3) (As := [.int p1, .int 30, .int p2]) (rest := []) (wr := [((am 33), .inr (8, [.ref a_all_m33, .int size_m33])), (a_all_m33, .inl (cI, n_a_all_m33, .inl b_a_all_m33)), ((am 5), .inr (8, [.ref a_all_m5, .int size_m5])), (a_all_m5, .inl (cI, n_a_all_m5, .inl b_a_all_m5))]) (c_Mo_leafNode l D cI cB cJ cS h0 am a_all_m6 a_all_m24 a_all_m25 a_all_m26 a_all_m27 a_all_m28 a_all_m29 a_all_m30 a_all_m31 p1 30 p2 known_h0 thrown_h0 wrong_h0 lastEnd_h0 at_h0 bad_h0 levels_h0 least_h0 found_h0 size_m6 n_a_all_m6 b_a_all_m6 size_m24 n_a_all_m24 b_a_all_m24 size_m25 n_a_all_m25 b_a_all_m25 size_m26 n_a_all_m26 b_a_all_m26 size_m27 n_a_all_m27 b_a_all_m27 size_m28 n_a_all_m28 b_a_all_m28 size_m29 n_a_all_m29 b_a_all_m29 size_m30 n_a_all_m30 b_a_all_m30 size_m31 n_a_all_m31 b_a_all_m31  r131 r132 r133 r134 r135 r136 r137 r138 r139 r140 r141 r142 r143 r144 r145 r146 r147 r148 r149 C158 S159 k162) k_Mo_426 (by decide) ⟨Nat.le_of_ble_eq_true rfl, Nat.le_of_ble_eq_true rfl⟩ rfl 0 rfl [0, 1, 2, 3, 4, 5, 6, 7, 8, 9, 10, 11, 12, 13, 14, 15, 16, 17, 18] [19, 20, 21, 22] rfl (by decide +kernel) rfl (by decide +kernel) (by decide +kernel) rfl rfl (Nat.le_of_ble_eq_true rfl) d_Mo_buildItem_231 ⟨show 0 + C158 ≤ mc by omega, show 0 + S159 ≤ ms by omega⟩ (fun v w hq => ?_)
        obtain ⟨q150, q151, q152, q153, q154, q155, q156, q157, rfl, rfl⟩ := hq
        refine j_norm (pc' := 234) (st' := [.int size_m24]) (ws' := [((am 33), .inr (8, [.ref a_all_m33, .int size_m33])), (a_all_m33, .inl (cI, n_a_all_m33, .inl b_a_all_m33)), ((am 5), .inr (8, [.ref a_all_m5, .int size_m5])), (a_all_m5, .inl (cI, n_a_all_m5, .inl b_a_all_m5)), (h0, .inr (9, moF am known_h0 thrown_h0 wrong_h0 lastEnd_h0 at_h0 bad_h0 levels_h0 least_h0 found_h0)), ((am 6), .inr (8, [.ref a_all_m6, .int size_m6])), (a_all_m6, .inl (cI, n_a_all_m6, .inl b_a_all_m6)), ((am 24), .inr (8, [.ref q150, .int (size_m24 + 1)])), ((am 25), .inr (8, [.ref q151, .int (size_m25 + 1)])), ((am 26), .inr (8, [.ref q152, .int (size_m26 + 1)])), ((am 27), .inr (8, [.ref q153, .int (size_m27 + 1)])), ((am 28), .inr (8, [.ref q154, .int r131])), ((am 29), .inr (8, [.ref q155, .int r132])), ((am 30), .inr (8, [.ref q156, .int r133])), ((am 31), .inr (8, [.ref q157, .int (size_m31 + 1)])), (q150, .inl (cI, r134, .inl r135)), (q151, .inl (cI, r136, .inl r137)), (q152, .inl (cI, r138, .inl r139)), (q153, .inl (cI, r140, .inl r141)), (q154, .inl (cI, r142, .inl r143)), (q155, .inl (cI, r144, .inl r145)), (q156, .inl (cI, r146, .inl r147)), (q157, .inl (cI, r148, .inl r149))]) (cl' := 0 + C158) (sl' := 0 + S159) rfl rfl rfl rfl rfl rfl ?_
        refine j_istore (lv' := [(5, .int size_m24), (4, .int (b_a_all_m5 (Int32.toNatClampNeg p2))), (0, .ref h0), (1, .int p1), (2, .int p2), (3, .int p3)]) d_Mo_buildItem_234 (by decide) rfl ?_
        replace h := lf_s h
        obtain ⟨h, e1, e2⟩ := h
        replace h := Prod.mk.inj h
        obtain ⟨h9, h⟩ := h
        subst h9
        replace h := Prod.mk.inj h
        obtain ⟨h9, h⟩ := h
        subst h9
        replace h := Prod.mk.inj h
        obtain ⟨h9, h⟩ := h
        subst h9
        replace h := Prod.mk.inj h
        obtain ⟨h9, h⟩ := h
        subst h9
        replace h := Prod.mk.inj h
        obtain ⟨h9, h⟩ := h
        subst h9
        replace h := Prod.mk.inj h
        obtain ⟨h9, h⟩ := h
        subst h9
        replace h := Prod.mk.inj h
        obtain ⟨h9, h⟩ := h
        subst h9
        replace h := Prod.mk.inj h
        obtain ⟨h9, h⟩ := h
        subst h9
        replace h := Prod.mk.inj h
        obtain ⟨h9, h⟩ := h
        subst h9
        replace h := Prod.mk.inj h
        obtain ⟨h9, h⟩ := h
        subst h9
        replace h := Prod.mk.inj h
        obtain ⟨h9, h⟩ := h
        subst h9
        replace h := Prod.mk.inj h
        obtain ⟨h9, h⟩ := h
        subst h9
        replace h := Prod.mk.inj h
        obtain ⟨h9, h⟩ := h
        subst h9
        replace h := Prod.mk.inj h
        obtain ⟨h9, h⟩ := h
        subst h9
        replace h := Prod.mk.inj h
        obtain ⟨h9, h⟩ := h
        subst h9
        replace h := Prod.mk.inj h
        obtain ⟨h9, h⟩ := h
        subst h9
        replace h := Prod.mk.inj h
        obtain ⟨h9, h⟩ := h
        subst h9
        replace h := Prod.mk.inj h
        obtain ⟨h9, h⟩ := h
        subst h9
        replace h := Prod.mk.inj h
        obtain ⟨h9, h⟩ := h
        subst h9
        replace h := Prod.mk.inj h
        obtain ⟨h9, h⟩ := h
        subst h9
        replace h := Prod.mk.inj h
        obtain ⟨h9, h⟩ := h
        subst h9
        subst h
        refine j_widen (cl' := mc) (sl' := ms) (by omega) (by omega) ?_
        exact j_vret (w := [(h0, .inr (9, moF am known_h0 thrown_h0 wrong_h0 lastEnd_h0 at_h0 bad_h0 levels_h0 least_h0 found_h0)), ((am 5), .inr (8, [.ref a_all_m5, .int size_m5])), (a_all_m5, .inl (cI, n_a_all_m5, .inl b_a_all_m5)), ((am 6), .inr (8, [.ref a_all_m6, .int size_m6])), (a_all_m6, .inl (cI, n_a_all_m6, .inl b_a_all_m6)), ((am 24), .inr (8, [.ref q150, .int (size_m24 + 1)])), ((am 25), .inr (8, [.ref q151, .int (size_m25 + 1)])), ((am 26), .inr (8, [.ref q152, .int (size_m26 + 1)])), ((am 27), .inr (8, [.ref q153, .int (size_m27 + 1)])), ((am 28), .inr (8, [.ref q154, .int r131])), ((am 29), .inr (8, [.ref q155, .int r132])), ((am 30), .inr (8, [.ref q156, .int r133])), ((am 31), .inr (8, [.ref q157, .int (size_m31 + 1)])), ((am 33), .inr (8, [.ref a_all_m33, .int size_m33])), (q150, .inl (cI, r134, .inl r135)), (q151, .inl (cI, r136, .inl r137)), (q152, .inl (cI, r138, .inl r139)), (q153, .inl (cI, r140, .inl r141)), (q154, .inl (cI, r142, .inl r143)), (q155, .inl (cI, r144, .inl r145)), (q156, .inl (cI, r146, .inl r147)), (q157, .inl (cI, r148, .inl r149)), (a_all_m33, .inl (cI, n_a_all_m33, .inl b_a_all_m33))]) hr d_Mo_buildItem_236 [4, 2, 3, 5, 6, 7, 8, 9, 10, 11, 12, 13, 14, 0, 15, 16, 17, 18, 19, 20, 21, 22, 1] rfl (by decide) ⟨q150, q151, q152, q153, q154, q155, q156, q157, a_all_m33, rfl, rfl⟩
    · replace h := it_f c31 h
      refine j_aload_n d_Mo_buildItem_155 rfl 1 rfl ?_
      refine j_iload_n d_Mo_buildItem_156 rfl 2 rfl ?_
      refine j_bipush (v := 33) d_Mo_buildItem_157 (by decide) ?_
      refine j_aload_n d_Mo_buildItem_159 rfl 1 rfl ?_
      refine j_iload_n d_Mo_buildItem_160 rfl 3 rfl ?_
      replace h := bd_s h
      obtain ⟨_, k163, h⟩ := h
      refine j_callV (n := 1) (As := [.int p2]) (rest := [.int 33, .int p1, .ref h0]) (wr := [((am 24), .inr (8, [.ref a_all_m24, .int size_m24])), (a_all_m24, .inl (cI, n_a_all_m24, .inl b_a_all_m24)), ((am 25), .inr (8, [.ref a_all_m25, .int size_m25])), (a_all_m25, .inl (cI, n_a_all_m25, .inl b_a_all_m25)), ((am 26), .inr (8, [.ref a_all_m26, .int size_m26])), (a_all_m26, .inl (cI, n_a_all_m26, .inl b_a_all_m26)), ((am 27), .inr (8, [.ref a_all_m27, .int size_m27])), (a_all_m27, .inl (cI, n_a_all_m27, .inl b_a_all_m27)), ((am 28), .inr (8, [.ref a_all_m28, .int size_m28])), (a_all_m28, .inl (cI, n_a_all_m28, .inl b_a_all_m28)), ((am 29), .inr (8, [.ref a_all_m29, .int size_m29])), (a_all_m29, .inl (cI, n_a_all_m29, .inl b_a_all_m29)), ((am 30), .inr (8, [.ref a_all_m30, .int size_m30])), (a_all_m30, .inl (cI, n_a_all_m30, .inl b_a_all_m30)), ((am 31), .inr (8, [.ref a_all_m31, .int size_m31])), (a_all_m31, .inl (cI, n_a_all_m31, .inl b_a_all_m31)), ((am 33), .inr (8, [.ref a_all_m33, .int size_m33])), (a_all_m33, .inl (cI, n_a_all_m33, .inl b_a_all_m33)), ((am 5), .inr (8, [.ref a_all_m5, .int size_m5])), (a_all_m5, .inl (cI, n_a_all_m5, .inl b_a_all_m5))]) (c_Mo_placeOf l D cI cB cJ cS h0 am a_all_m6 p2 known_h0 thrown_h0 wrong_h0 lastEnd_h0 at_h0 bad_h0 levels_h0 least_h0 found_h0 size_m6 n_a_all_m6 b_a_all_m6  k163) k_Mo_411 (by decide) ⟨Nat.le_of_ble_eq_true rfl, Nat.le_of_ble_eq_true rfl⟩ rfl 0 rfl [0, 1, 2] [3, 4, 5, 6, 7, 8, 9, 10, 11, 12, 13, 14, 15, 16, 17, 18, 19, 20, 21, 22] rfl (by decide +kernel) rfl (by decide +kernel) (by decide +kernel) rfl rfl (Nat.le_of_ble_eq_true rfl) d_Mo_buildItem_161 ⟨show 0 + 0 ≤ mc by omega, show 0 + 0 ≤ ms by omega⟩ (fun v w hq => ?_)
      obtain ⟨rfl, rfl⟩ := hq
      refine j_norm (pc' := 164) (st' := [.int (b_a_all_m6 (Int32.toNatClampNeg p2)), .int 33, .int p1, .ref h0]) (ws' := [((am 24), .inr (8, [.ref a_all_m24, .int size_m24])), (a_all_m24, .inl (cI, n_a_all_m24, .inl b_a_all_m24)), ((am 25), .inr (8, [.ref a_all_m25, .int size_m25])), (a_all_m25, .inl (cI, n_a_all_m25, .inl b_a_all_m25)), ((am 26), .inr (8, [.ref a_all_m26, .int size_m26])), (a_all_m26, .inl (cI, n_a_all_m26, .inl b_a_all_m26)), ((am 27), .inr (8, [.ref a_all_m27, .int size_m27])), (a_all_m27, .inl (cI, n_a_all_m27, .inl b_a_all_m27)), ((am 28), .inr (8, [.ref a_all_m28, .int size_m28])), (a_all_m28, .inl (cI, n_a_all_m28, .inl b_a_all_m28)), ((am 29), .inr (8, [.ref a_all_m29, .int size_m29])), (a_all_m29, .inl (cI, n_a_all_m29, .inl b_a_all_m29)), ((am 30), .inr (8, [.ref a_all_m30, .int size_m30])), (a_all_m30, .inl (cI, n_a_all_m30, .inl b_a_all_m30)), ((am 31), .inr (8, [.ref a_all_m31, .int size_m31])), (a_all_m31, .inl (cI, n_a_all_m31, .inl b_a_all_m31)), ((am 33), .inr (8, [.ref a_all_m33, .int size_m33])), (a_all_m33, .inl (cI, n_a_all_m33, .inl b_a_all_m33)), ((am 5), .inr (8, [.ref a_all_m5, .int size_m5])), (a_all_m5, .inl (cI, n_a_all_m5, .inl b_a_all_m5)), (h0, .inr (9, moF am known_h0 thrown_h0 wrong_h0 lastEnd_h0 at_h0 bad_h0 levels_h0 least_h0 found_h0)), ((am 6), .inr (8, [.ref a_all_m6, .int size_m6])), (a_all_m6, .inl (cI, n_a_all_m6, .inl b_a_all_m6))]) (cl' := 0) (sl' := 0) rfl rfl rfl rfl rfl rfl ?_
      refine j_aload_n d_Mo_buildItem_164 rfl 1 rfl ?_
      refine j_iload_n d_Mo_buildItem_165 rfl 3 rfl ?_
      refine j_iconst (v := 1) d_Mo_buildItem_166 (by decide) ?_
      refine j_iadd d_Mo_buildItem_167 ?_
      replace h := bd_s h
      obtain ⟨_, k164, h⟩ := h
      refine j_callV (n := 1) (As := [.int (p2 + 1)]) (rest := [.int (b_a_all_m6 (Int32.toNatClampNeg p2)), .int 33, .int p1, .ref h0]) (wr := [((am 24), .inr (8, [.ref a_all_m24, .int size_m24])), (a_all_m24, .inl (cI, n_a_all_m24, .inl b_a_all_m24)), ((am 25), .inr (8, [.ref a_all_m25, .int size_m25])), (a_all_m25, .inl (cI, n_a_all_m25, .inl b_a_all_m25)), ((am 26), .inr (8, [.ref a_all_m26, .int size_m26])), (a_all_m26, .inl (cI, n_a_all_m26, .inl b_a_all_m26)), ((am 27), .inr (8, [.ref a_all_m27, .int size_m27])), (a_all_m27, .inl (cI, n_a_all_m27, .inl b_a_all_m27)), ((am 28), .inr (8, [.ref a_all_m28, .int size_m28])), (a_all_m28, .inl (cI, n_a_all_m28, .inl b_a_all_m28)), ((am 29), .inr (8, [.ref a_all_m29, .int size_m29])), (a_all_m29, .inl (cI, n_a_all_m29, .inl b_a_all_m29)), ((am 30), .inr (8, [.ref a_all_m30, .int size_m30])), (a_all_m30, .inl (cI, n_a_all_m30, .inl b_a_all_m30)), ((am 31), .inr (8, [.ref a_all_m31, .int size_m31])), (a_all_m31, .inl (cI, n_a_all_m31, .inl b_a_all_m31)), ((am 33), .inr (8, [.ref a_all_m33, .int size_m33])), (a_all_m33, .inl (cI, n_a_all_m33, .inl b_a_all_m33)), ((am 5), .inr (8, [.ref a_all_m5, .int size_m5])), (a_all_m5, .inl (cI, n_a_all_m5, .inl b_a_all_m5))]) (c_Mo_placeOf l D cI cB cJ cS h0 am a_all_m6 (p2 + 1) known_h0 thrown_h0 wrong_h0 lastEnd_h0 at_h0 bad_h0 levels_h0 least_h0 found_h0 size_m6 n_a_all_m6 b_a_all_m6  k164) k_Mo_411 (by decide) ⟨Nat.le_of_ble_eq_true rfl, Nat.le_of_ble_eq_true rfl⟩ rfl 0 rfl [20, 21, 22] [0, 1, 2, 3, 4, 5, 6, 7, 8, 9, 10, 11, 12, 13, 14, 15, 16, 17, 18, 19] rfl (by decide +kernel) rfl (by decide +kernel) (by decide +kernel) rfl rfl (Nat.le_of_ble_eq_true rfl) d_Mo_buildItem_168 ⟨show 0 + 0 ≤ mc by omega, show 0 + 0 ≤ ms by omega⟩ (fun v w hq => ?_)
      obtain ⟨rfl, rfl⟩ := hq
      refine j_norm (pc' := 171) (st' := [.int (b_a_all_m6 (Int32.toNatClampNeg (p2 + 1))), .int (b_a_all_m6 (Int32.toNatClampNeg p2)), .int 33, .int p1, .ref h0]) (ws' := [((am 24), .inr (8, [.ref a_all_m24, .int size_m24])), (a_all_m24, .inl (cI, n_a_all_m24, .inl b_a_all_m24)), ((am 25), .inr (8, [.ref a_all_m25, .int size_m25])), (a_all_m25, .inl (cI, n_a_all_m25, .inl b_a_all_m25)), ((am 26), .inr (8, [.ref a_all_m26, .int size_m26])), (a_all_m26, .inl (cI, n_a_all_m26, .inl b_a_all_m26)), ((am 27), .inr (8, [.ref a_all_m27, .int size_m27])), (a_all_m27, .inl (cI, n_a_all_m27, .inl b_a_all_m27)), ((am 28), .inr (8, [.ref a_all_m28, .int size_m28])), (a_all_m28, .inl (cI, n_a_all_m28, .inl b_a_all_m28)), ((am 29), .inr (8, [.ref a_all_m29, .int size_m29])), (a_all_m29, .inl (cI, n_a_all_m29, .inl b_a_all_m29)), ((am 30), .inr (8, [.ref a_all_m30, .int size_m30])), (a_all_m30, .inl (cI, n_a_all_m30, .inl b_a_all_m30)), ((am 31), .inr (8, [.ref a_all_m31, .int size_m31])), (a_all_m31, .inl (cI, n_a_all_m31, .inl b_a_all_m31)), ((am 33), .inr (8, [.ref a_all_m33, .int size_m33])), (a_all_m33, .inl (cI, n_a_all_m33, .inl b_a_all_m33)), ((am 5), .inr (8, [.ref a_all_m5, .int size_m5])), (a_all_m5, .inl (cI, n_a_all_m5, .inl b_a_all_m5)), (h0, .inr (9, moF am known_h0 thrown_h0 wrong_h0 lastEnd_h0 at_h0 bad_h0 levels_h0 least_h0 found_h0)), ((am 6), .inr (8, [.ref a_all_m6, .int size_m6])), (a_all_m6, .inl (cI, n_a_all_m6, .inl b_a_all_m6))]) (cl' := 0) (sl' := 0) rfl rfl rfl rfl rfl rfl ?_
      refine j_iload_n d_Mo_buildItem_171 rfl 3 rfl ?_
      replace h := bw_s h
      obtain ⟨⟨r165, r166, r167, r168, r169, r170, r171, r172, r173, r174, r175, r176, r177, r178, r179, r180, r181, r182, r183⟩, C192, S193, C194, S195, k196, h, e1, e2⟩ := h
      replace hC : 0 + C192 + C194 ≤ mc := by omega
      replace hS : 0 + S193 + S195 ≤ ms := by omega
      clear e1 e2
      refine j_callV (n := 5) (As := [.int p1, .int 33, .int (b_a_all_m6 (Int32.toNatClampNeg p2)), .int (b_a_all_m6 (Int32.toNatClampNeg (p2 + 1))), .int p2]) (rest := []) (wr := [((am 33), .inr (8, [.ref a_all_m33, .int size_m33])), (a_all_m33, .inl (cI, n_a_all_m33, .inl b_a_all_m33)), ((am 5), .inr (8, [.ref a_all_m5, .int size_m5])), (a_all_m5, .inl (cI, n_a_all_m5, .inl b_a_all_m5)), ((am 6), .inr (8, [.ref a_all_m6, .int size_m6])), (a_all_m6, .inl (cI, n_a_all_m6, .inl b_a_all_m6))]) (c_Mo_newNode l D cI cB cJ cS h0 am a_all_m24 a_all_m25 a_all_m26 a_all_m27 a_all_m28 a_all_m29 a_all_m30 a_all_m31 p1 33 (b_a_all_m6 (Int32.toNatClampNeg p2)) (b_a_all_m6 (Int32.toNatClampNeg (p2 + 1))) p2 known_h0 thrown_h0 wrong_h0 lastEnd_h0 at_h0 bad_h0 levels_h0 least_h0 found_h0 size_m24 n_a_all_m24 b_a_all_m24 size_m25 n_a_all_m25 b_a_all_m25 size_m26 n_a_all_m26 b_a_all_m26 size_m27 n_a_all_m27 b_a_all_m27 size_m28 n_a_all_m28 b_a_all_m28 size_m29 n_a_all_m29 b_a_all_m29 size_m30 n_a_all_m30 b_a_all_m30 size_m31 n_a_all_m31 b_a_all_m31  r165 r166 r167 r168 r169 r170 r171 r172 r173 r174 r175 r176 r177 r178 r179 r180 r181 r182 r183 C192 S193 k196) k_Mo_386 (by decide) ⟨Nat.le_of_ble_eq_true rfl, Nat.le_of_ble_eq_true rfl⟩ rfl 0 rfl [20, 0, 1, 2, 3, 4, 5, 6, 7, 8, 9, 10, 11, 12, 13, 14, 15] [16, 17, 18, 19, 21, 22] rfl (by decide +kernel) rfl (by decide +kernel) (by decide +kernel) rfl rfl (Nat.le_of_ble_eq_true rfl) d_Mo_buildItem_172 ⟨show 0 + C192 ≤ mc by omega, show 0 + S193 ≤ ms by omega⟩ (fun v w hq => ?_)
      obtain ⟨q184, q185, q186, q187, q188, q189, q190, q191, rfl, rfl⟩ := hq
      refine j_norm (pc' := 175) (st' := [.int size_m24]) (ws' := [((am 33), .inr (8, [.ref a_all_m33, .int size_m33])), (a_all_m33, .inl (cI, n_a_all_m33, .inl b_a_all_m33)), ((am 5), .inr (8, [.ref a_all_m5, .int size_m5])), (a_all_m5, .inl (cI, n_a_all_m5, .inl b_a_all_m5)), ((am 6), .inr (8, [.ref a_all_m6, .int size_m6])), (a_all_m6, .inl (cI, n_a_all_m6, .inl b_a_all_m6)), (h0, .inr (9, moF am known_h0 thrown_h0 wrong_h0 lastEnd_h0 at_h0 bad_h0 levels_h0 least_h0 found_h0)), ((am 24), .inr (8, [.ref q184, .int (size_m24 + 1)])), ((am 25), .inr (8, [.ref q185, .int (size_m25 + 1)])), ((am 26), .inr (8, [.ref q186, .int (size_m26 + 1)])), ((am 27), .inr (8, [.ref q187, .int (size_m27 + 1)])), ((am 28), .inr (8, [.ref q188, .int r165])), ((am 29), .inr (8, [.ref q189, .int r166])), ((am 30), .inr (8, [.ref q190, .int r167])), ((am 31), .inr (8, [.ref q191, .int (size_m31 + 1)])), (q184, .inl (cI, r168, .inl r169)), (q185, .inl (cI, r170, .inl r171)), (q186, .inl (cI, r172, .inl r173)), (q187, .inl (cI, r174, .inl r175)), (q188, .inl (cI, r176, .inl r177)), (q189, .inl (cI, r178, .inl r179)), (q190, .inl (cI, r180, .inl r181)), (q191, .inl (cI, r182, .inl r183))]) (cl' := 0 + C192) (sl' := 0 + S193) rfl rfl rfl rfl rfl rfl ?_
      refine j_istore (lv' := [(5, .int size_m24), (4, .int (b_a_all_m5 (Int32.toNatClampNeg p2))), (0, .ref h0), (1, .int p1), (2, .int p2), (3, .int p3)]) d_Mo_buildItem_175 (by decide) rfl ?_
      refine j_aload_n d_Mo_buildItem_177 rfl 2 rfl ?_
      refine j_iload d_Mo_buildItem_178 0 rfl ?_
      refine j_iload_n d_Mo_buildItem_180 rfl 4 rfl ?_
      refine j_iconst (v := 2) d_Mo_buildItem_181 (by decide) ?_
      refine j_iadd d_Mo_buildItem_182 ?_
      refine j_iload_n d_Mo_buildItem_183 rfl 5 rfl ?_
      refine j_iconst (v := 1) d_Mo_buildItem_184 (by decide) ?_
      refine j_isub d_Mo_buildItem_185 ?_
      replace h := bw_s h
      obtain ⟨⟨r197, r198, r199⟩, C201, S202, C203, S204, k205, h, e1, e2⟩ := h
      replace hC : 0 + C192 + C201 + C203 ≤ mc := by omega
      replace hS : 0 + S193 + S202 + S204 ≤ ms := by omega
      clear e1 e2
      refine j_callV (n := 3) (As := [.int size_m24, .int (p2 + 2), .int (p3 - 1)]) (rest := []) (wr := [((am 6), .inr (8, [.ref a_all_m6, .int size_m6])), (a_all_m6, .inl (cI, n_a_all_m6, .inl b_a_all_m6)), ((am 24), .inr (8, [.ref q184, .int (size_m24 + 1)])), ((am 25), .inr (8, [.ref q185, .int (size_m25 + 1)])), ((am 26), .inr (8, [.ref q186, .int (size_m26 + 1)])), ((am 27), .inr (8, [.ref q187, .int (size_m27 + 1)])), ((am 28), .inr (8, [.ref q188, .int r165])), ((am 29), .inr (8, [.ref q189, .int r166])), ((am 30), .inr (8, [.ref q190, .int r167])), ((am 31), .inr (8, [.ref q191, .int (size_m31 + 1)])), (q184, .inl (cI, r168, .inl r169)), (q185, .inl (cI, r170, .inl r171)), (q186, .inl (cI, r172, .inl r173)), (q187, .inl (cI, r174, .inl r175)), (q188, .inl (cI, r176, .inl r177)), (q189, .inl (cI, r178, .inl r179)), (q190, .inl (cI, r180, .inl r181)), (q191, .inl (cI, r182, .inl r183))]) (c_Mo_expressions l D cI cB cJ cS h0 am a_all_m33 a_all_m5 size_m24 (p2 + 2) (p3 - 1) known_h0 thrown_h0 wrong_h0 lastEnd_h0 at_h0 bad_h0 levels_h0 least_h0 found_h0 size_m33 n_a_all_m33 b_a_all_m33 size_m5 n_a_all_m5 b_a_all_m5  r197 r198 r199 C201 S202 k205) k_Mo_439 (by decide) ⟨Nat.le_of_ble_eq_true rfl, Nat.le_of_ble_eq_true rfl⟩ rfl 0 rfl [6, 0, 1, 2, 3] [4, 5, 7, 8, 9, 10, 11, 12, 13, 14, 15, 16, 17, 18, 19, 20, 21, 22] rfl (by decide +kernel) rfl (by decide +kernel) (by decide +kernel) rfl rfl (Nat.le_of_ble_eq_true rfl) d_Mo_buildItem_186 ⟨show 0 + C192 + C201 ≤ mc by omega, show 0 + S193 + S202 ≤ ms by omega⟩ (fun v w hq => ?_)
      obtain ⟨q200, rfl, rfl⟩ := hq
      refine j_norm (pc' := 189) (st' := []) (ws' := [((am 6), .inr (8, [.ref a_all_m6, .int size_m6])), (a_all_m6, .inl (cI, n_a_all_m6, .inl b_a_all_m6)), ((am 24), .inr (8, [.ref q184, .int (size_m24 + 1)])), ((am 25), .inr (8, [.ref q185, .int (size_m25 + 1)])), ((am 26), .inr (8, [.ref q186, .int (size_m26 + 1)])), ((am 27), .inr (8, [.ref q187, .int (size_m27 + 1)])), ((am 28), .inr (8, [.ref q188, .int r165])), ((am 29), .inr (8, [.ref q189, .int r166])), ((am 30), .inr (8, [.ref q190, .int r167])), ((am 31), .inr (8, [.ref q191, .int (size_m31 + 1)])), (q184, .inl (cI, r168, .inl r169)), (q185, .inl (cI, r170, .inl r171)), (q186, .inl (cI, r172, .inl r173)), (q187, .inl (cI, r174, .inl r175)), (q188, .inl (cI, r176, .inl r177)), (q189, .inl (cI, r178, .inl r179)), (q190, .inl (cI, r180, .inl r181)), (q191, .inl (cI, r182, .inl r183)), (h0, .inr (9, moF am known_h0 thrown_h0 wrong_h0 lastEnd_h0 at_h0 bad_h0 levels_h0 least_h0 found_h0)), ((am 33), .inr (8, [.ref q200, .int r197])), ((am 5), .inr (8, [.ref a_all_m5, .int size_m5])), (a_all_m5, .inl (cI, n_a_all_m5, .inl b_a_all_m5)), (q200, .inl (cI, r198, .inl r199))]) (cl' := 0 + C192 + C201) (sl' := 0 + S193 + S202) rfl rfl rfl rfl rfl rfl ?_
      refine j_goto (tgt := 236) d_Mo_buildItem_189 (by decide) ?_
      replace h := lf_s h
      obtain ⟨h, e1, e2⟩ := h
      replace h := Prod.mk.inj h
      obtain ⟨h9, h⟩ := h
      subst h9
      replace h := Prod.mk.inj h
      obtain ⟨h9, h⟩ := h
      subst h9
      replace h := Prod.mk.inj h
      obtain ⟨h9, h⟩ := h
      subst h9
      replace h := Prod.mk.inj h
      obtain ⟨h9, h⟩ := h
      subst h9
      replace h := Prod.mk.inj h
      obtain ⟨h9, h⟩ := h
      subst h9
      replace h := Prod.mk.inj h
      obtain ⟨h9, h⟩ := h
      subst h9
      replace h := Prod.mk.inj h
      obtain ⟨h9, h⟩ := h
      subst h9
      replace h := Prod.mk.inj h
      obtain ⟨h9, h⟩ := h
      subst h9
      replace h := Prod.mk.inj h
      obtain ⟨h9, h⟩ := h
      subst h9
      replace h := Prod.mk.inj h
      obtain ⟨h9, h⟩ := h
      subst h9
      replace h := Prod.mk.inj h
      obtain ⟨h9, h⟩ := h
      subst h9
      replace h := Prod.mk.inj h
      obtain ⟨h9, h⟩ := h
      subst h9
      replace h := Prod.mk.inj h
      obtain ⟨h9, h⟩ := h
      subst h9
      replace h := Prod.mk.inj h
      obtain ⟨h9, h⟩ := h
      subst h9
      replace h := Prod.mk.inj h
      obtain ⟨h9, h⟩ := h
      subst h9
      replace h := Prod.mk.inj h
      obtain ⟨h9, h⟩ := h
      subst h9
      replace h := Prod.mk.inj h
      obtain ⟨h9, h⟩ := h
      subst h9
      replace h := Prod.mk.inj h
      obtain ⟨h9, h⟩ := h
      subst h9
      replace h := Prod.mk.inj h
      obtain ⟨h9, h⟩ := h
      subst h9
      replace h := Prod.mk.inj h
      obtain ⟨h9, h⟩ := h
      subst h9
      replace h := Prod.mk.inj h
      obtain ⟨h9, h⟩ := h
      subst h9
      subst h
      refine j_widen (cl' := mc) (sl' := ms) (by omega) (by omega) ?_
      exact j_vret (w := [(h0, .inr (9, moF am known_h0 thrown_h0 wrong_h0 lastEnd_h0 at_h0 bad_h0 levels_h0 least_h0 found_h0)), ((am 5), .inr (8, [.ref a_all_m5, .int size_m5])), (a_all_m5, .inl (cI, n_a_all_m5, .inl b_a_all_m5)), ((am 6), .inr (8, [.ref a_all_m6, .int size_m6])), (a_all_m6, .inl (cI, n_a_all_m6, .inl b_a_all_m6)), ((am 24), .inr (8, [.ref q184, .int (size_m24 + 1)])), ((am 25), .inr (8, [.ref q185, .int (size_m25 + 1)])), ((am 26), .inr (8, [.ref q186, .int (size_m26 + 1)])), ((am 27), .inr (8, [.ref q187, .int (size_m27 + 1)])), ((am 28), .inr (8, [.ref q188, .int r165])), ((am 29), .inr (8, [.ref q189, .int r166])), ((am 30), .inr (8, [.ref q190, .int r167])), ((am 31), .inr (8, [.ref q191, .int (size_m31 + 1)])), ((am 33), .inr (8, [.ref q200, .int r197])), (q184, .inl (cI, r168, .inl r169)), (q185, .inl (cI, r170, .inl r171)), (q186, .inl (cI, r172, .inl r173)), (q187, .inl (cI, r174, .inl r175)), (q188, .inl (cI, r176, .inl r177)), (q189, .inl (cI, r178, .inl r179)), (q190, .inl (cI, r180, .inl r181)), (q191, .inl (cI, r182, .inl r183)), (q200, .inl (cI, r198, .inl r199))]) hr d_Mo_buildItem_236 [18, 20, 21, 0, 1, 2, 3, 4, 5, 6, 7, 8, 9, 19, 10, 11, 12, 13, 14, 15, 16, 17, 22] rfl (by decide) ⟨q184, q185, q186, q187, q188, q189, q190, q191, q200, rfl, rfl⟩
  · replace h := it_t c30 h
    refine j_aload_n d_Mo_buildItem_17 rfl 1 rfl ?_
    refine j_iload_n d_Mo_buildItem_18 rfl 2 rfl ?_
    refine j_bipush (v := 36) d_Mo_buildItem_19 (by decide) ?_
    refine j_iload_n d_Mo_buildItem_21 rfl 3 rfl ?_
    replace h := bw_s h
    obtain ⟨⟨r206, r207, r208, r209, r210, r211, r212, r213, r214, r215, r216, r217, r218, r219, r220, r221, r222, r223, r224⟩, C233, S234, C235, S236, k237, h, e1, e2⟩ := h
    replace hC : 0 + C233 + C235 ≤ mc := by omega
    replace hS : 0 + S234 + S236 ≤ ms := by omega
    clear e1 e2
    refine j_callV (n := 3) (As := [.int p1, .int 36, .int p2]) (rest := []) (wr := [((am 33), .inr (8, [.ref a_all_m33, .int size_m33])), (a_all_m33, .inl (cI, n_a_all_m33, .inl b_a_all_m33)), ((am 5), .inr (8, [.ref a_all_m5, .int size_m5])), (a_all_m5, .inl (cI, n_a_all_m5, .inl b_a_all_m5))]) (c_Mo_leafNode l D cI cB cJ cS h0 am a_all_m6 a_all_m24 a_all_m25 a_all_m26 a_all_m27 a_all_m28 a_all_m29 a_all_m30 a_all_m31 p1 36 p2 known_h0 thrown_h0 wrong_h0 lastEnd_h0 at_h0 bad_h0 levels_h0 least_h0 found_h0 size_m6 n_a_all_m6 b_a_all_m6 size_m24 n_a_all_m24 b_a_all_m24 size_m25 n_a_all_m25 b_a_all_m25 size_m26 n_a_all_m26 b_a_all_m26 size_m27 n_a_all_m27 b_a_all_m27 size_m28 n_a_all_m28 b_a_all_m28 size_m29 n_a_all_m29 b_a_all_m29 size_m30 n_a_all_m30 b_a_all_m30 size_m31 n_a_all_m31 b_a_all_m31  r206 r207 r208 r209 r210 r211 r212 r213 r214 r215 r216 r217 r218 r219 r220 r221 r222 r223 r224 C233 S234 k237) k_Mo_426 (by decide) ⟨Nat.le_of_ble_eq_true rfl, Nat.le_of_ble_eq_true rfl⟩ rfl 0 rfl [0, 1, 2, 3, 4, 5, 6, 7, 8, 9, 10, 11, 12, 13, 14, 15, 16, 17, 18] [19, 20, 21, 22] rfl (by decide +kernel) rfl (by decide +kernel) (by decide +kernel) rfl rfl (Nat.le_of_ble_eq_true rfl) d_Mo_buildItem_22 ⟨show 0 + C233 ≤ mc by omega, show 0 + S234 ≤ ms by omega⟩ (fun v w hq => ?_)
    obtain ⟨q225, q226, q227, q228, q229, q230, q231, q232, rfl, rfl⟩ := hq
    refine j_norm (pc' := 25) (st' := [.int size_m24]) (ws' := [((am 33), .inr (8, [.ref a_all_m33, .int size_m33])), (a_all_m33, .inl (cI, n_a_all_m33, .inl b_a_all_m33)), ((am 5), .inr (8, [.ref a_all_m5, .int size_m5])), (a_all_m5, .inl (cI, n_a_all_m5, .inl b_a_all_m5)), (h0, .inr (9, moF am known_h0 thrown_h0 wrong_h0 lastEnd_h0 at_h0 bad_h0 levels_h0 least_h0 found_h0)), ((am 6), .inr (8, [.ref a_all_m6, .int size_m6])), (a_all_m6, .inl (cI, n_a_all_m6, .inl b_a_all_m6)), ((am 24), .inr (8, [.ref q225, .int (size_m24 + 1)])), ((am 25), .inr (8, [.ref q226, .int (size_m25 + 1)])), ((am 26), .inr (8, [.ref q227, .int (size_m26 + 1)])), ((am 27), .inr (8, [.ref q228, .int (size_m27 + 1)])), ((am 28), .inr (8, [.ref q229, .int r206])), ((am 29), .inr (8, [.ref q230, .int r207])), ((am 30), .inr (8, [.ref q231, .int r208])), ((am 31), .inr (8, [.ref q232, .int (size_m31 + 1)])), (q225, .inl (cI, r209, .inl r210)), (q226, .inl (cI, r211, .inl r212)), (q227, .inl (cI, r213, .inl r214)), (q228, .inl (cI, r215, .inl r216)), (q229, .inl (cI, r217, .inl r218)), (q230, .inl (cI, r219, .inl r220)), (q231, .inl (cI, r221, .inl r222)), (q232, .inl (cI, r223, .inl r224))]) (cl' := 0 + C233) (sl' := 0 + S234) rfl rfl rfl rfl rfl rfl ?_
    refine j_istore (lv' := [(5, .int size_m24), (4, .int (b_a_all_m5 (Int32.toNatClampNeg p2))), (0, .ref h0), (1, .int p1), (2, .int p2), (3, .int p3)]) d_Mo_buildItem_25 (by decide) rfl ?_
    refine j_iload_n d_Mo_buildItem_27 rfl 4 rfl ?_
    refine j_iconst (v := 1) d_Mo_buildItem_28 (by decide) ?_
    refine j_iadd d_Mo_buildItem_29 ?_
    refine j_istore (lv' := [(6, .int (p2 + 1)), (5, .int size_m24), (4, .int (b_a_all_m5 (Int32.toNatClampNeg p2))), (0, .ref h0), (1, .int p1), (2, .int p2), (3, .int p3)]) d_Mo_buildItem_30 (by decide) rfl ?_
    refine j_iload d_Mo_buildItem_32 0 rfl ?_
    refine j_istore (lv' := [(7, .int (p2 + 1)), (6, .int (p2 + 1)), (5, .int size_m24), (4, .int (b_a_all_m5 (Int32.toNatClampNeg p2))), (0, .ref h0), (1, .int p1), (2, .int p2), (3, .int p3)]) d_Mo_buildItem_34 (by decide) rfl ?_
    refine j_sub (w := [((am 33), .inr (8, [.ref a_all_m33, .int size_m33])), (a_all_m33, .inl (cI, n_a_all_m33, .inl b_a_all_m33)), ((am 5), .inr (8, [.ref a_all_m5, .int size_m5])), (a_all_m5, .inl (cI, n_a_all_m5, .inl b_a_all_m5)), (h0, .inr (9, moF am known_h0 thrown_h0 wrong_h0 lastEnd_h0 at_h0 bad_h0 levels_h0 least_h0 found_h0)), ((am 6), .inr (8, [.ref a_all_m6, .int size_m6])), (a_all_m6, .inl (cI, n_a_all_m6, .inl b_a_all_m6)), ((am 24), .inr (8, [.ref q225, .int (size_m24 + 1)])), ((am 25), .inr (8, [.ref q226, .int (size_m25 + 1)])), ((am 26), .inr (8, [.ref q227, .int (size_m26 + 1)])), ((am 27), .inr (8, [.ref q228, .int (size_m27 + 1)])), ((am 28), .inr (8, [.ref q229, .int r206])), ((am 29), .inr (8, [.ref q230, .int r207])), ((am 30), .inr (8, [.ref q231, .int r208])), ((am 31), .inr (8, [.ref q232, .int (size_m31 + 1)])), (q225, .inl (cI, r209, .inl r210)), (q226, .inl (cI, r211, .inl r212)), (q227, .inl (cI, r213, .inl r214)), (q228, .inl (cI, r215, .inl r216)), (q229, .inl (cI, r217, .inl r218)), (q230, .inl (cI, r219, .inl r220)), (q231, .inl (cI, r221, .inl r222)), (q232, .inl (cI, r223, .inl r224))]) (lv' := [(7, .int (p2 + 1)), (6, .int (p2 + 1)), (5, .int size_m24), (4, .int (b_a_all_m5 (Int32.toNatClampNeg p2))), (0, .ref h0), (1, .int p1), (2, .int p2), (3, .int p3)]) [0, 1, 2, 3, 4, 5, 6, 7, 8, 9, 10, 11, 12, 13, 14, 15, 16, 17, 18, 19, 20, 21, 22] rfl (by decide +kernel) [0, 1, 2, 3, 4, 5, 6, 7] rfl ?_
    exact L_Mo_buildItem_36 l D cI cB cJ cS h0 am a_all_m5 a_all_m6 a_all_m24 a_all_m25 a_all_m26 a_all_m27 a_all_m28 a_all_m29 a_all_m30 a_all_m31 a_all_m33 p1 p2 p3 known_h0 thrown_h0 wrong_h0 lastEnd_h0 at_h0 bad_h0 levels_h0 least_h0 found_h0 size_m5 n_a_all_m5 b_a_all_m5 size_m6 n_a_all_m6 b_a_all_m6 size_m24 n_a_all_m24 b_a_all_m24 size_m25 n_a_all_m25 b_a_all_m25 size_m26 n_a_all_m26 b_a_all_m26 size_m27 n_a_all_m27 b_a_all_m27 size_m28 n_a_all_m28 b_a_all_m28 size_m29 n_a_all_m29 b_a_all_m29 size_m30 n_a_all_m30 b_a_all_m30 size_m31 n_a_all_m31 b_a_all_m31 size_m33 n_a_all_m33 b_a_all_m33 o_13_1 o_15_1 o_17_1 o_21_1 on_nq_5_0 ob_nq_5_0 on_nq_7_0 ob_nq_7_0 on_nq_9_0 ob_nq_9_0 on_nq_11_0 ob_nq_11_0 on_nq_13_0 ob_nq_13_0 on_nq_15_0 ob_nq_15_0 on_nq_17_0 ob_nq_17_0 on_nq_19_0 ob_nq_19_0 on_nq_21_0 ob_nq_21_0 mc ms p e s m below meth c hr hnm FU a_all_m33 q225 q226 q227 q228 q229 q230 q231 q232 (p2 + 1) (p2 + 1) size_m33 n_a_all_m33 b_a_all_m33 r206 r207 r208 r209 r210 r211 r212 r213 r214 r215 r216 r217 r218 r219 r220 r221 r222 r223 r224 (0 + C233) (0 + S234) C235 S236 h hC hS
