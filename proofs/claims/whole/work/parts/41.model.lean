def F_Mo_stands_5 (s1 : Nat) (p2 : Int32) (known_h0 : Int32) (thrown_h0 : Int32) (wrong_h0 : Int32) (lastEnd_h0 : Int32) (at_h0 : Int32) (bad_h0 : Int32) (levels_h0 : Int32) (least_h0 : Int32) (found_h0 : Int32) (size_m4 : Int32) (n_a_all_m4 : Nat) (b_a_all_m4 : Nat → Int32) : Nat → Int32 → Int32 → Option (Int32)
  | 0, _, _ => none
  | k_5 + 1, v4_5, v3_5 =>
    sin s1 (if (nI (gB s1).length) ≤ v4_5 then (some v3_5)
    else if v3_5 = 0 then (F_Mo_stands_5 s1 p2 known_h0 thrown_h0 wrong_h0 lastEnd_h0 at_h0 bad_h0 levels_h0 least_h0 found_h0 size_m4 n_a_all_m4 b_a_all_m4  k_5 (v4_5 + 1) 0)
    else (Option.bind (F_Mo_letter (p2 + v4_5) known_h0 thrown_h0 wrong_h0 lastEnd_h0 at_h0 bad_h0 levels_h0 least_h0 found_h0 size_m4 n_a_all_m4 b_a_all_m4) fun r5 =>
      sin s1 (inb v4_5 (gB s1).length (if r5 = (sch s1 v4_5) then (F_Mo_stands_5 s1 p2 known_h0 thrown_h0 wrong_h0 lastEnd_h0 at_h0 bad_h0 levels_h0 least_h0 found_h0 size_m4 n_a_all_m4 b_a_all_m4  k_5 (v4_5 + 1) 1)
      else (F_Mo_stands_5 s1 p2 known_h0 thrown_h0 wrong_h0 lastEnd_h0 at_h0 bad_h0 levels_h0 least_h0 found_h0 size_m4 n_a_all_m4 b_a_all_m4  k_5 (v4_5 + 1) 0)))))
def F_Mo_stands (s1 : Nat) (p2 : Int32) (known_h0 : Int32) (thrown_h0 : Int32) (wrong_h0 : Int32) (lastEnd_h0 : Int32) (at_h0 : Int32) (bad_h0 : Int32) (levels_h0 : Int32) (least_h0 : Int32) (found_h0 : Int32) (size_m4 : Int32) (n_a_all_m4 : Nat) (b_a_all_m4 : Nat → Int32) : Option (Int32) :=
  F_Mo_stands_5 s1 p2 known_h0 thrown_h0 wrong_h0 lastEnd_h0 at_h0 bad_h0 levels_h0 least_h0 found_h0 size_m4 n_a_all_m4 b_a_all_m4  FU 0 1
theorem d_Mo_stands_0 : decode prog_12_method_14_code 0 = .ok (.iconst 1, 1) := by decide +kernel
theorem d_Mo_stands_1 : decode prog_12_method_14_code 1 = .ok (.istore_n 3, 1) := by decide +kernel
theorem d_Mo_stands_2 : decode prog_12_method_14_code 2 = .ok (.iconst 0, 1) := by decide +kernel
theorem d_Mo_stands_3 : decode prog_12_method_14_code 3 = .ok (.istore 4, 2) := by decide +kernel
theorem d_Mo_stands_5 : decode prog_12_method_14_code 5 = .ok (.iload 4, 2) := by decide +kernel
theorem d_Mo_stands_7 : decode prog_12_method_14_code 7 = .ok (.aload_n 1, 1) := by decide +kernel
theorem d_Mo_stands_8 : decode prog_12_method_14_code 8 = .ok (.invokevirtual 231, 3) := by decide +kernel
theorem d_Mo_stands_11 : decode prog_12_method_14_code 11 = .ok (.if_icmp .ge 36, 3) := by decide +kernel
theorem d_Mo_stands_14 : decode prog_12_method_14_code 14 = .ok (.iload_n 3, 1) := by decide +kernel
theorem d_Mo_stands_15 : decode prog_12_method_14_code 15 = .ok (.ifCond .eq 24, 3) := by decide +kernel
theorem d_Mo_stands_18 : decode prog_12_method_14_code 18 = .ok (.aload_n 0, 1) := by decide +kernel
theorem d_Mo_stands_19 : decode prog_12_method_14_code 19 = .ok (.iload_n 2, 1) := by decide +kernel
theorem d_Mo_stands_20 : decode prog_12_method_14_code 20 = .ok (.iload 4, 2) := by decide +kernel
theorem d_Mo_stands_22 : decode prog_12_method_14_code 22 = .ok (.iadd, 1) := by decide +kernel
theorem d_Mo_stands_23 : decode prog_12_method_14_code 23 = .ok (.invokevirtual 222, 3) := by decide +kernel
theorem d_Mo_stands_26 : decode prog_12_method_14_code 26 = .ok (.aload_n 1, 1) := by decide +kernel
theorem d_Mo_stands_27 : decode prog_12_method_14_code 27 = .ok (.iload 4, 2) := by decide +kernel
theorem d_Mo_stands_29 : decode prog_12_method_14_code 29 = .ok (.invokevirtual 235, 3) := by decide +kernel
theorem d_Mo_stands_32 : decode prog_12_method_14_code 32 = .ok (.if_icmp .ne 7, 3) := by decide +kernel
theorem d_Mo_stands_35 : decode prog_12_method_14_code 35 = .ok (.iconst 1, 1) := by decide +kernel
theorem d_Mo_stands_36 : decode prog_12_method_14_code 36 = .ok (.goto 4, 3) := by decide +kernel
theorem d_Mo_stands_39 : decode prog_12_method_14_code 39 = .ok (.iconst 0, 1) := by decide +kernel
theorem d_Mo_stands_40 : decode prog_12_method_14_code 40 = .ok (.istore_n 3, 1) := by decide +kernel
theorem d_Mo_stands_41 : decode prog_12_method_14_code 41 = .ok (.iinc 4 1, 3) := by decide +kernel
theorem d_Mo_stands_44 : decode prog_12_method_14_code 44 = .ok (.goto (-39), 3) := by decide +kernel
theorem d_Mo_stands_47 : decode prog_12_method_14_code 47 = .ok (.iload_n 3, 1) := by decide +kernel
theorem d_Mo_stands_48 : decode prog_12_method_14_code 48 = .ok (.ireturn, 1) := by decide +kernel
set_option maxHeartbeats 4000000 in
set_option maxRecDepth 100000 in
theorem L_Mo_stands_5 (l : Launch) (D : va_G) (cI cB cJ cS : ClassId) (h0 : Nat) (am : Nat → Nat) (a_all_m4 : Nat) (s1 : Nat) (p2 : Int32) (known_h0 : Int32) (thrown_h0 : Int32) (wrong_h0 : Int32) (lastEnd_h0 : Int32) (at_h0 : Int32) (bad_h0 : Int32) (levels_h0 : Int32) (least_h0 : Int32) (found_h0 : Int32) (size_m4 : Int32) (n_a_all_m4 : Nat) (b_a_all_m4 : Nat → Int32) (ret : Int32) (p : Program) (e : Env) (s : State) (m : MethodId) (below : List Frame) (meth : Method) (c : Code) (hr : meth.sig.returnType = (Option.some Jvm.ClassFile.FieldType.boolean)) (hnm : meth.name = y_Mo_stands.name) : ∀ (k_5 : Nat) (v4_5 : Int32) (v3_5 : Int32) (hz_v3_5 : zb v3_5), F_Mo_stands_5 s1 p2 known_h0 thrown_h0 wrong_h0 lastEnd_h0 at_h0 bad_h0 levels_h0 least_h0 found_h0 size_m4 n_a_all_m4 b_a_all_m4  k_5 v4_5 v3_5 = some ret → J (KxOf p l e { frames := 4, cells := 0, slots := 0, locals := 85 } s m [.ref h0, .ref (sA D s1), .int p2].toArray below meth c D (gT cI cB cJ cS) [(h0, .inr (9, moF am known_h0 thrown_h0 wrong_h0 lastEnd_h0 at_h0 bad_h0 levels_h0 least_h0 found_h0)), ((am 4), .inr (8, [.ref a_all_m4, .int size_m4])), (a_all_m4, .inl (cI, n_a_all_m4, .inl b_a_all_m4))] (fun v w => v = some (.int ret) ∧ zb ret ∧ w = [(h0, .inr (9, moF am known_h0 thrown_h0 wrong_h0 lastEnd_h0 at_h0 bad_h0 levels_h0 least_h0 found_h0)), ((am 4), .inr (8, [.ref a_all_m4, .int size_m4])), (a_all_m4, .inl (cI, n_a_all_m4, .inl b_a_all_m4))]) 0 0) prog_12_method_14_code 5 R_Mo 5 [(4, .int v4_5), (3, .int v3_5), (0, .ref h0), (1, .ref (sA D s1)), (2, .int p2)] [] [(h0, .inr (9, moF am known_h0 thrown_h0 wrong_h0 lastEnd_h0 at_h0 bad_h0 levels_h0 least_h0 found_h0)), ((am 4), .inr (8, [.ref a_all_m4, .int size_m4])), (a_all_m4, .inl (cI, n_a_all_m4, .inl b_a_all_m4))] 0 0 := by
  intro k_5
  induction k_5 with
  | zero => intro v4_5 v3_5 hz_v3_5 h; rw [F_Mo_stands_5] at h; cases h
  | succ k_5 ih_5 =>
    intro v4_5 v3_5 hz_v3_5 h
    rw [F_Mo_stands_5] at h
    refine j_iload d_Mo_stands_5 0 rfl ?_
    refine j_aload_n d_Mo_stands_7 rfl 3 rfl ?_
    replace h := sin_s h
    obtain ⟨i1, h⟩ := h
    refine j_len (i := s1) i1 k_Mo_231 ⟨Nat.le_of_ble_eq_true rfl, Nat.le_of_ble_eq_true rfl⟩ (Nat.le_of_ble_eq_true rfl) ⟨Nat.le_of_ble_eq_true rfl, Nat.le_of_ble_eq_true rfl⟩ d_Mo_stands_8 ?_
    refine j_icmp_ge (tgt := 47) d_Mo_stands_11 (by decide) (fun c3 => ?_) (fun c3 => ?_)
    · replace h := it_t c3 h
      refine j_iload_n d_Mo_stands_47 rfl 1 rfl ?_
      replace h := Option.some.inj h
      subst h
      exact j_zret (w := [(h0, .inr (9, moF am known_h0 thrown_h0 wrong_h0 lastEnd_h0 at_h0 bad_h0 levels_h0 least_h0 found_h0)), ((am 4), .inr (8, [.ref a_all_m4, .int size_m4])), (a_all_m4, .inl (cI, n_a_all_m4, .inl b_a_all_m4))]) hr (zb_n hz_v3_5) d_Mo_stands_48 [0, 1, 2] rfl (by decide) ⟨rfl, hz_v3_5, rfl⟩
    · replace h := it_f c3 h
      refine j_iload_n d_Mo_stands_14 rfl 1 rfl ?_
      refine j_if_eq (tgt := 39) d_Mo_stands_15 (by decide) (fun c4 => ?_) (fun c4 => ?_)
      · replace h := it_t c4 h
        refine j_iconst (v := 0) d_Mo_stands_39 (by decide) ?_
        refine j_istore_n (lv' := [(3, .int 0), (4, .int v4_5), (0, .ref h0), (1, .ref (sA D s1)), (2, .int p2)]) d_Mo_stands_40 rfl (by decide) rfl ?_
        refine j_iinc (v := v4_5 + 1) (lv' := [(4, .int (v4_5 + 1)), (3, .int 0), (0, .ref h0), (1, .ref (sA D s1)), (2, .int p2)]) d_Mo_stands_41 1 rfl rfl (by decide) rfl ?_
        refine j_goto (tgt := 5) d_Mo_stands_44 (by decide) ?_
        refine j_sub (w := [(h0, .inr (9, moF am known_h0 thrown_h0 wrong_h0 lastEnd_h0 at_h0 bad_h0 levels_h0 least_h0 found_h0)), ((am 4), .inr (8, [.ref a_all_m4, .int size_m4])), (a_all_m4, .inl (cI, n_a_all_m4, .inl b_a_all_m4))]) (lv' := [(4, .int (v4_5 + 1)), (3, .int 0), (0, .ref h0), (1, .ref (sA D s1)), (2, .int p2)]) [0, 1, 2] rfl (by decide) [0, 1, 2, 3, 4] rfl ?_
        exact ih_5 (v4_5 + 1) 0 zb0 h
      · replace h := it_f c4 h
        refine j_aload_n d_Mo_stands_18 rfl 2 rfl ?_
        refine j_iload_n d_Mo_stands_19 rfl 4 rfl ?_
        refine j_iload d_Mo_stands_20 0 rfl ?_
        refine j_iadd d_Mo_stands_22 ?_
        replace h := bd_s h
        obtain ⟨r5, k6, h⟩ := h
        refine j_callV (n := 1) (As := [.int (p2 + v4_5)]) (rest := []) (wr := []) (c_Mo_letter l D cI cB cJ cS h0 am a_all_m4 (p2 + v4_5) known_h0 thrown_h0 wrong_h0 lastEnd_h0 at_h0 bad_h0 levels_h0 least_h0 found_h0 size_m4 n_a_all_m4 b_a_all_m4  r5 k6) k_Mo_222 (by decide) ⟨Nat.le_of_ble_eq_true rfl, Nat.le_of_ble_eq_true rfl⟩ rfl 0 rfl [0, 1, 2] [] rfl (by decide) rfl (by decide) (by decide) rfl rfl (Nat.le_of_ble_eq_true rfl) d_Mo_stands_23 ⟨Nat.le_of_ble_eq_true rfl, Nat.le_of_ble_eq_true rfl⟩ (fun v w hq => ?_)
        obtain ⟨rfl, rfl⟩ := hq
        refine j_norm (pc' := 26) (st' := [.int r5]) (ws' := [(h0, .inr (9, moF am known_h0 thrown_h0 wrong_h0 lastEnd_h0 at_h0 bad_h0 levels_h0 least_h0 found_h0)), ((am 4), .inr (8, [.ref a_all_m4, .int size_m4])), (a_all_m4, .inl (cI, n_a_all_m4, .inl b_a_all_m4))]) (cl' := 0) (sl' := 0) rfl rfl rfl rfl rfl rfl ?_
        refine j_aload_n d_Mo_stands_26 rfl 3 rfl ?_
        refine j_iload d_Mo_stands_27 0 rfl ?_
        replace h := sin_s h
        obtain ⟨i7, h⟩ := h
        replace h := inb_s h
        obtain ⟨i8, h⟩ := h
        refine j_chr (i := s1) i7 i8 k_Mo_235 ⟨Nat.le_of_ble_eq_true rfl, Nat.le_of_ble_eq_true rfl⟩ (Nat.le_of_ble_eq_true rfl) ⟨Nat.le_of_ble_eq_true rfl, Nat.le_of_ble_eq_true rfl⟩ d_Mo_stands_29 ?_
        refine j_icmp_ne (tgt := 39) d_Mo_stands_32 (by decide) (fun c9 => ?_) (fun c9 => ?_)
        · replace h := it_f c9 h
          refine j_iconst (v := 0) d_Mo_stands_39 (by decide) ?_
          refine j_istore_n (lv' := [(3, .int 0), (4, .int v4_5), (0, .ref h0), (1, .ref (sA D s1)), (2, .int p2)]) d_Mo_stands_40 rfl (by decide) rfl ?_
          refine j_iinc (v := v4_5 + 1) (lv' := [(4, .int (v4_5 + 1)), (3, .int 0), (0, .ref h0), (1, .ref (sA D s1)), (2, .int p2)]) d_Mo_stands_41 1 rfl rfl (by decide) rfl ?_
          refine j_goto (tgt := 5) d_Mo_stands_44 (by decide) ?_
          refine j_sub (w := [(h0, .inr (9, moF am known_h0 thrown_h0 wrong_h0 lastEnd_h0 at_h0 bad_h0 levels_h0 least_h0 found_h0)), ((am 4), .inr (8, [.ref a_all_m4, .int size_m4])), (a_all_m4, .inl (cI, n_a_all_m4, .inl b_a_all_m4))]) (lv' := [(4, .int (v4_5 + 1)), (3, .int 0), (0, .ref h0), (1, .ref (sA D s1)), (2, .int p2)]) [0, 1, 2] rfl (by decide) [0, 1, 2, 3, 4] rfl ?_
          exact ih_5 (v4_5 + 1) 0 zb0 h
        · replace h := it_t c9 h
          refine j_iconst (v := 1) d_Mo_stands_35 (by decide) ?_
          refine j_goto (tgt := 40) d_Mo_stands_36 (by decide) ?_
          refine j_istore_n (lv' := [(3, .int 1), (4, .int v4_5), (0, .ref h0), (1, .ref (sA D s1)), (2, .int p2)]) d_Mo_stands_40 rfl (by decide) rfl ?_
          refine j_iinc (v := v4_5 + 1) (lv' := [(4, .int (v4_5 + 1)), (3, .int 1), (0, .ref h0), (1, .ref (sA D s1)), (2, .int p2)]) d_Mo_stands_41 1 rfl rfl (by decide) rfl ?_
          refine j_goto (tgt := 5) d_Mo_stands_44 (by decide) ?_
          refine j_sub (w := [(h0, .inr (9, moF am known_h0 thrown_h0 wrong_h0 lastEnd_h0 at_h0 bad_h0 levels_h0 least_h0 found_h0)), ((am 4), .inr (8, [.ref a_all_m4, .int size_m4])), (a_all_m4, .inl (cI, n_a_all_m4, .inl b_a_all_m4))]) (lv' := [(4, .int (v4_5 + 1)), (3, .int 1), (0, .ref h0), (1, .ref (sA D s1)), (2, .int p2)]) [0, 1, 2] rfl (by decide) [0, 1, 2, 3, 4] rfl ?_
          exact ih_5 (v4_5 + 1) 1 zb1 h
set_option maxHeartbeats 4000000 in
set_option maxRecDepth 100000 in
theorem c_Mo_stands (l : Launch) (D : va_G) (cI cB cJ cS : ClassId) (h0 : Nat) (am : Nat → Nat) (a_all_m4 : Nat) (s1 : Nat) (p2 : Int32) (known_h0 : Int32) (thrown_h0 : Int32) (wrong_h0 : Int32) (lastEnd_h0 : Int32) (at_h0 : Int32) (bad_h0 : Int32) (levels_h0 : Int32) (least_h0 : Int32) (found_h0 : Int32) (size_m4 : Int32) (n_a_all_m4 : Nat) (b_a_all_m4 : Nat → Int32) (ret : Int32) (h : F_Mo_stands s1 p2 known_h0 thrown_h0 wrong_h0 lastEnd_h0 at_h0 bad_h0 levels_h0 least_h0 found_h0 size_m4 n_a_all_m4 b_a_all_m4 = some ret) : Ct l D (gT cI cB cJ cS) y_Mo_stands prog_12_method_14_code 5 (Option.some Jvm.ClassFile.FieldType.boolean) 4 85 0 0 [.ref h0, .ref (sA D s1), .int p2] [(h0, .inr (9, moF am known_h0 thrown_h0 wrong_h0 lastEnd_h0 at_h0 bad_h0 levels_h0 least_h0 found_h0)), ((am 4), .inr (8, [.ref a_all_m4, .int size_m4])), (a_all_m4, .inl (cI, n_a_all_m4, .inl b_a_all_m4))] (fun v w => v = some (.int ret) ∧ zb ret ∧ w = [(h0, .inr (9, moF am known_h0 thrown_h0 wrong_h0 lastEnd_h0 at_h0 bad_h0 levels_h0 least_h0 found_h0)), ((am 4), .inr (8, [.ref a_all_m4, .int size_m4])), (a_all_m4, .inl (cI, n_a_all_m4, .inl b_a_all_m4))]) := by
  refine Ct.mk (by decide) (Nat.le_of_ble_eq_true rfl) ?_
  intro p e s m below meth c hr hnm
  refine j_norm (pc' := 0) (lv' := [(0, .ref h0), (1, .ref (sA D s1)), (2, .int p2)]) (st' := []) (ws' := [(h0, .inr (9, moF am known_h0 thrown_h0 wrong_h0 lastEnd_h0 at_h0 bad_h0 levels_h0 least_h0 found_h0)), ((am 4), .inr (8, [.ref a_all_m4, .int size_m4])), (a_all_m4, .inl (cI, n_a_all_m4, .inl b_a_all_m4))]) (cl' := 0) (sl' := 0) rfl rfl rfl rfl rfl rfl ?_
  unfold F_Mo_stands at h
  refine j_iconst (v := 1) d_Mo_stands_0 (by decide) ?_
  refine j_istore_n (lv' := [(3, .int 1), (0, .ref h0), (1, .ref (sA D s1)), (2, .int p2)]) d_Mo_stands_1 rfl (by decide) rfl ?_
  refine j_iconst (v := 0) d_Mo_stands_2 (by decide) ?_
  refine j_istore (lv' := [(4, .int 0), (3, .int 1), (0, .ref h0), (1, .ref (sA D s1)), (2, .int p2)]) d_Mo_stands_3 (by decide) rfl ?_
  refine j_sub (w := [(h0, .inr (9, moF am known_h0 thrown_h0 wrong_h0 lastEnd_h0 at_h0 bad_h0 levels_h0 least_h0 found_h0)), ((am 4), .inr (8, [.ref a_all_m4, .int size_m4])), (a_all_m4, .inl (cI, n_a_all_m4, .inl b_a_all_m4))]) (lv' := [(4, .int 0), (3, .int 1), (0, .ref h0), (1, .ref (sA D s1)), (2, .int p2)]) [0, 1, 2] rfl (by decide) [0, 1, 2, 3, 4] rfl ?_
  exact L_Mo_stands_5 l D cI cB cJ cS h0 am a_all_m4 s1 p2 known_h0 thrown_h0 wrong_h0 lastEnd_h0 at_h0 bad_h0 levels_h0 least_h0 found_h0 size_m4 n_a_all_m4 b_a_all_m4 ret p e s m below meth c hr hnm FU 0 1 zb1 h
def F_Mo_isFinite_363 (n_m15 : Nat) (b_m15 : Nat → Int32) : Nat → Int32 → Int32 → Int64 → Int32 → Int32 → Int32 → Int32 → Int64 → Int32 → Option (Int32)
  | 0, _, _, _, _, _, _, _, _, _ => none
  | k_363 + 1, v13_363, v12_363, v10_363, v9_363, v8_363, v7_363, v6_363, v4_363, v3_363 =>
    if v13_363 < 0 then (some 0)
    else (inb v13_363 n_m15 (if (b_m15 (Int32.toNatClampNeg v13_363)) ≤ 0 then (F_Mo_isFinite_363 n_m15 b_m15  k_363 (v13_363 + (-1)) v12_363 v10_363 v9_363 v8_363 v7_363 v6_363 v4_363 v3_363)
      else (some 1)))
def F_Mo_isFinite_298 (known_h0 : Int32) (thrown_h0 : Int32) (wrong_h0 : Int32) (lastEnd_h0 : Int32) (at_h0 : Int32) (bad_h0 : Int32) (levels_h0 : Int32) (least_h0 : Int32) (found_h0 : Int32) (size_m4 : Int32) (n_a_all_m4 : Nat) (b_a_all_m4 : Nat → Int32) (v13_246 : Int32) (v12_246 : Int32) (v10_246 : Int64) (v9_246 : Int32) (v8_246 : Int32) (v7_246 : Int32) (v6_246 : Int32) (v4_246 : Int64) (v3_246 : Int32) (K_246 : Int32 → Int32 → Int64 → Int32 → Int32 → Int32 → Int32 → Int64 → Int32 → Option (Int32)) (t0_298 : Int32) : Option (Int32) :=
    Option.bind (F_Mo_letter v13_246 known_h0 thrown_h0 wrong_h0 lastEnd_h0 at_h0 bad_h0 levels_h0 least_h0 found_h0 size_m4 n_a_all_m4 b_a_all_m4) fun r4 =>
    if v12_246 < v8_246 then (K_246 (v13_246 + 1) (v12_246 + 1) v10_246 v9_246 v8_246 v7_246 v6_246 v4_246 v3_246)
    else if (308 - (v12_246 - v8_246)) < 0 then (K_246 (v13_246 + 1) (v12_246 + 1) v10_246 v9_246 v8_246 v7_246 v6_246 v4_246 v3_246)
    else if (r4 - 48) = t0_298 then (K_246 (v13_246 + 1) (v12_246 + 1) v10_246 v9_246 v8_246 v7_246 v6_246 v4_246 v3_246)
    else if t0_298 ≤ (r4 - 48) then (some 0)
    else (some 1)
def F_Mo_isFinite_246 (known_h0 : Int32) (thrown_h0 : Int32) (wrong_h0 : Int32) (lastEnd_h0 : Int32) (at_h0 : Int32) (bad_h0 : Int32) (levels_h0 : Int32) (least_h0 : Int32) (found_h0 : Int32) (size_m4 : Int32) (n_a_all_m4 : Nat) (b_a_all_m4 : Nat → Int32) (n_m15 : Nat) (b_m15 : Nat → Int32) : Nat → Int32 → Int32 → Int64 → Int32 → Int32 → Int32 → Int32 → Int64 → Int32 → Option (Int32)
  | 0, _, _, _, _, _, _, _, _, _ => none
  | k_246 + 1, v13_246, v12_246, v10_246, v9_246, v8_246, v7_246, v6_246, v4_246, v3_246 =>
    if v3_246 ≤ v13_246 then (F_Mo_isFinite_363 n_m15 b_m15  FU (308 - (v12_246 - v8_246)) v12_246 v10_246 v9_246 v8_246 v7_246 v6_246 v4_246 v3_246)
    else (Option.bind (F_Mo_letter v13_246 known_h0 thrown_h0 wrong_h0 lastEnd_h0 at_h0 bad_h0 levels_h0 least_h0 found_h0 size_m4 n_a_all_m4 b_a_all_m4) fun r11 =>
      nm (F_Mo_isDigit r11) fun r13 =>
      if r13 = 0 then (F_Mo_isFinite_246 known_h0 thrown_h0 wrong_h0 lastEnd_h0 at_h0 bad_h0 levels_h0 least_h0 found_h0 size_m4 n_a_all_m4 b_a_all_m4 n_m15 b_m15  k_246 (v13_246 + 1) v12_246 v10_246 v9_246 v8_246 v7_246 v6_246 v4_246 v3_246)
      else if v12_246 < v8_246 then (F_Mo_isFinite_298 known_h0 thrown_h0 wrong_h0 lastEnd_h0 at_h0 bad_h0 levels_h0 least_h0 found_h0 size_m4 n_a_all_m4 b_a_all_m4 v13_246 v12_246 v10_246 v9_246 v8_246 v7_246 v6_246 v4_246 v3_246 (F_Mo_isFinite_246 known_h0 thrown_h0 wrong_h0 lastEnd_h0 at_h0 bad_h0 levels_h0 least_h0 found_h0 size_m4 n_a_all_m4 b_a_all_m4 n_m15 b_m15  k_246)  0)
      else if (308 - (v12_246 - v8_246)) < 0 then (F_Mo_isFinite_298 known_h0 thrown_h0 wrong_h0 lastEnd_h0 at_h0 bad_h0 levels_h0 least_h0 found_h0 size_m4 n_a_all_m4 b_a_all_m4 v13_246 v12_246 v10_246 v9_246 v8_246 v7_246 v6_246 v4_246 v3_246 (F_Mo_isFinite_246 known_h0 thrown_h0 wrong_h0 lastEnd_h0 at_h0 bad_h0 levels_h0 least_h0 found_h0 size_m4 n_a_all_m4 b_a_all_m4 n_m15 b_m15  k_246)  0)
      else (inb (308 - (v12_246 - v8_246)) n_m15 (F_Mo_isFinite_298 known_h0 thrown_h0 wrong_h0 lastEnd_h0 at_h0 bad_h0 levels_h0 least_h0 found_h0 size_m4 n_a_all_m4 b_a_all_m4 v13_246 v12_246 v10_246 v9_246 v8_246 v7_246 v6_246 v4_246 v3_246 (F_Mo_isFinite_246 known_h0 thrown_h0 wrong_h0 lastEnd_h0 at_h0 bad_h0 levels_h0 least_h0 found_h0 size_m4 n_a_all_m4 b_a_all_m4 n_m15 b_m15  k_246)  (b_m15 (Int32.toNatClampNeg (308 - (v12_246 - v8_246)))))))
def F_Mo_isFinite_213 (p1 : Int32) (known_h0 : Int32) (thrown_h0 : Int32) (wrong_h0 : Int32) (lastEnd_h0 : Int32) (at_h0 : Int32) (bad_h0 : Int32) (levels_h0 : Int32) (least_h0 : Int32) (found_h0 : Int32) (size_m4 : Int32) (n_a_all_m4 : Nat) (b_a_all_m4 : Nat → Int32) (n_m15 : Nat) (b_m15 : Nat → Int32) (v10_213 : Int32) (v9_213 : Int32) (v8_213 : Int32) (v7_213 : Int32) (v6_213 : Int32) (v4_213 : Int64) (v3_213 : Int32) (t0_213 : Int64) (t1_213 : Int64) : Option (Int32) :=
    if (lg_cmp (t1_213 + t0_213) 308) = 0 then (F_Mo_isFinite_246 known_h0 thrown_h0 wrong_h0 lastEnd_h0 at_h0 bad_h0 levels_h0 least_h0 found_h0 size_m4 n_a_all_m4 b_a_all_m4 n_m15 b_m15  FU p1 0 (t1_213 + t0_213) v9_213 v8_213 v7_213 v6_213 v4_213 v3_213)
    else if 0 ≤ (lg_cmp (t1_213 + t0_213) 308) then (some 0)
    else (some 1)
def F_Mo_isFinite_133 (p1 : Int32) (known_h0 : Int32) (thrown_h0 : Int32) (wrong_h0 : Int32) (lastEnd_h0 : Int32) (at_h0 : Int32) (bad_h0 : Int32) (levels_h0 : Int32) (least_h0 : Int32) (found_h0 : Int32) (size_m4 : Int32) (n_a_all_m4 : Nat) (b_a_all_m4 : Nat → Int32) (n_m15 : Nat) (b_m15 : Nat → Int32) : Nat → Int32 → Int32 → Int32 → Int32 → Int32 → Int64 → Int32 → Option (Int32)
  | 0, _, _, _, _, _, _, _ => none
  | k_133 + 1, v10_133, v9_133, v8_133, v7_133, v6_133, v4_133, v3_133 =>
    if v3_133 ≤ v10_133 then (if 0 ≤ v8_133 then (if v6_133 = 0 then (F_Mo_isFinite_213 p1 known_h0 thrown_h0 wrong_h0 lastEnd_h0 at_h0 bad_h0 levels_h0 least_h0 found_h0 size_m4 n_a_all_m4 b_a_all_m4 n_m15 b_m15   v10_133 v9_133 v8_133 v7_133 v6_133 v4_133 v3_133 v4_133 (((v7_133 - 1) - v8_133).toInt64))
        else (F_Mo_isFinite_213 p1 known_h0 thrown_h0 wrong_h0 lastEnd_h0 at_h0 bad_h0 levels_h0 least_h0 found_h0 size_m4 n_a_all_m4 b_a_all_m4 n_m15 b_m15   v10_133 v9_133 v8_133 v7_133 v6_133 v4_133 v3_133 (-v4_133) (((v7_133 - 1) - v8_133).toInt64)))
      else (some 1))
    else (Option.bind (F_Mo_letter v10_133 known_h0 thrown_h0 wrong_h0 lastEnd_h0 at_h0 bad_h0 levels_h0 least_h0 found_h0 size_m4 n_a_all_m4 b_a_all_m4) fun r25 =>
      nm (F_Mo_isDigit r25) fun r27 =>
      if r27 = 0 then (F_Mo_isFinite_133 p1 known_h0 thrown_h0 wrong_h0 lastEnd_h0 at_h0 bad_h0 levels_h0 least_h0 found_h0 size_m4 n_a_all_m4 b_a_all_m4 n_m15 b_m15  k_133 (v10_133 + 1) v9_133 v8_133 v7_133 v6_133 v4_133 v3_133)
      else if 0 ≤ v8_133 then (F_Mo_isFinite_133 p1 known_h0 thrown_h0 wrong_h0 lastEnd_h0 at_h0 bad_h0 levels_h0 least_h0 found_h0 size_m4 n_a_all_m4 b_a_all_m4 n_m15 b_m15  k_133 (v10_133 + 1) (v9_133 + 1) v8_133 v7_133 v6_133 v4_133 v3_133)
      else (Option.bind (F_Mo_letter v10_133 known_h0 thrown_h0 wrong_h0 lastEnd_h0 at_h0 bad_h0 levels_h0 least_h0 found_h0 size_m4 n_a_all_m4 b_a_all_m4) fun r32 =>
        if r32 = 48 then (F_Mo_isFinite_133 p1 known_h0 thrown_h0 wrong_h0 lastEnd_h0 at_h0 bad_h0 levels_h0 least_h0 found_h0 size_m4 n_a_all_m4 b_a_all_m4 n_m15 b_m15  k_133 (v10_133 + 1) (v9_133 + 1) v8_133 v7_133 v6_133 v4_133 v3_133)
        else (F_Mo_isFinite_133 p1 known_h0 thrown_h0 wrong_h0 lastEnd_h0 at_h0 bad_h0 levels_h0 least_h0 found_h0 size_m4 n_a_all_m4 b_a_all_m4 n_m15 b_m15  k_133 (v10_133 + 1) (v9_133 + 1) v9_133 v7_133 v6_133 v4_133 v3_133)))
def F_Mo_isFinite_61 (known_h0 : Int32) (thrown_h0 : Int32) (wrong_h0 : Int32) (lastEnd_h0 : Int32) (at_h0 : Int32) (bad_h0 : Int32) (levels_h0 : Int32) (least_h0 : Int32) (found_h0 : Int32) (size_m4 : Int32) (n_a_all_m4 : Nat) (b_a_all_m4 : Nat → Int32) (v7_34 : Int32) (v4_34 : Int64) (v3_34 : Int32) (K_34 : Int32 → Int32 → Int64 → Int32 → Option (Int32)) (t0_61 : Int32) : Option (Int32) :=
    Option.bind (F_Mo_letter v7_34 known_h0 thrown_h0 wrong_h0 lastEnd_h0 at_h0 bad_h0 levels_h0 least_h0 found_h0 size_m4 n_a_all_m4 b_a_all_m4) fun r35 =>
    nm (F_Mo_isDigit r35) fun r37 =>
    if r37 = 0 then (K_34 (v7_34 + 1) t0_61 v4_34 v3_34)
    else if 0 ≤ (lg_cmp v4_34 10000000) then (K_34 (v7_34 + 1) t0_61 v4_34 v3_34)
    else (Option.bind (F_Mo_letter v7_34 known_h0 thrown_h0 wrong_h0 lastEnd_h0 at_h0 bad_h0 levels_h0 least_h0 found_h0 size_m4 n_a_all_m4 b_a_all_m4) fun r42 =>
      K_34 (v7_34 + 1) t0_61 (((10 * v4_34) + r42.toInt64) - 48) v3_34)
def F_Mo_isFinite_34 (p1 : Int32) (p2 : Int32) (known_h0 : Int32) (thrown_h0 : Int32) (wrong_h0 : Int32) (lastEnd_h0 : Int32) (at_h0 : Int32) (bad_h0 : Int32) (levels_h0 : Int32) (least_h0 : Int32) (found_h0 : Int32) (size_m4 : Int32) (n_a_all_m4 : Nat) (b_a_all_m4 : Nat → Int32) (n_m15 : Nat) (b_m15 : Nat → Int32) : Nat → Int32 → Int32 → Int64 → Int32 → Option (Int32)
  | 0, _, _, _, _ => none
  | k_34 + 1, v7_34, v6_34, v4_34, v3_34 =>
    if p2 ≤ v7_34 then (Option.bind (F_Mo_digitsEnd p1 known_h0 thrown_h0 wrong_h0 lastEnd_h0 at_h0 bad_h0 levels_h0 least_h0 found_h0 size_m4 n_a_all_m4 b_a_all_m4) fun r45 =>
      F_Mo_isFinite_133 p1 known_h0 thrown_h0 wrong_h0 lastEnd_h0 at_h0 bad_h0 levels_h0 least_h0 found_h0 size_m4 n_a_all_m4 b_a_all_m4 n_m15 b_m15  FU p1 0 (-1) (r45 - p1) v6_34 v4_34 v3_34)
    else if v6_34 = 0 then (Option.bind (F_Mo_letter v7_34 known_h0 thrown_h0 wrong_h0 lastEnd_h0 at_h0 bad_h0 levels_h0 least_h0 found_h0 size_m4 n_a_all_m4 b_a_all_m4) fun r48 =>
      if r48 = 45 then (F_Mo_isFinite_61 known_h0 thrown_h0 wrong_h0 lastEnd_h0 at_h0 bad_h0 levels_h0 least_h0 found_h0 size_m4 n_a_all_m4 b_a_all_m4 v7_34 v4_34 v3_34 (F_Mo_isFinite_34 p1 p2 known_h0 thrown_h0 wrong_h0 lastEnd_h0 at_h0 bad_h0 levels_h0 least_h0 found_h0 size_m4 n_a_all_m4 b_a_all_m4 n_m15 b_m15  k_34)  1)
      else (F_Mo_isFinite_61 known_h0 thrown_h0 wrong_h0 lastEnd_h0 at_h0 bad_h0 levels_h0 least_h0 found_h0 size_m4 n_a_all_m4 b_a_all_m4 v7_34 v4_34 v3_34 (F_Mo_isFinite_34 p1 p2 known_h0 thrown_h0 wrong_h0 lastEnd_h0 at_h0 bad_h0 levels_h0 least_h0 found_h0 size_m4 n_a_all_m4 b_a_all_m4 n_m15 b_m15  k_34)  0))
    else (F_Mo_isFinite_61 known_h0 thrown_h0 wrong_h0 lastEnd_h0 at_h0 bad_h0 levels_h0 least_h0 found_h0 size_m4 n_a_all_m4 b_a_all_m4 v7_34 v4_34 v3_34 (F_Mo_isFinite_34 p1 p2 known_h0 thrown_h0 wrong_h0 lastEnd_h0 at_h0 bad_h0 levels_h0 least_h0 found_h0 size_m4 n_a_all_m4 b_a_all_m4 n_m15 b_m15  k_34)  1)
def F_Mo_isFinite_2 (p1 : Int32) (p2 : Int32) (known_h0 : Int32) (thrown_h0 : Int32) (wrong_h0 : Int32) (lastEnd_h0 : Int32) (at_h0 : Int32) (bad_h0 : Int32) (levels_h0 : Int32) (least_h0 : Int32) (found_h0 : Int32) (size_m4 : Int32) (n_a_all_m4 : Nat) (b_a_all_m4 : Nat → Int32) (n_m15 : Nat) (b_m15 : Nat → Int32) : Nat → Int32 → Option (Int32)
  | 0, _ => none
  | k_2 + 1, v3_2 =>
    if p2 ≤ v3_2 then (F_Mo_isFinite_34 p1 p2 known_h0 thrown_h0 wrong_h0 lastEnd_h0 at_h0 bad_h0 levels_h0 least_h0 found_h0 size_m4 n_a_all_m4 b_a_all_m4 n_m15 b_m15  FU (v3_2 + 1) 0 0 v3_2)
    else (Option.bind (F_Mo_letter v3_2 known_h0 thrown_h0 wrong_h0 lastEnd_h0 at_h0 bad_h0 levels_h0 least_h0 found_h0 size_m4 n_a_all_m4 b_a_all_m4) fun r52 =>
      if r52 = 101 then (F_Mo_isFinite_34 p1 p2 known_h0 thrown_h0 wrong_h0 lastEnd_h0 at_h0 bad_h0 levels_h0 least_h0 found_h0 size_m4 n_a_all_m4 b_a_all_m4 n_m15 b_m15  FU (v3_2 + 1) 0 0 v3_2)
      else (F_Mo_isFinite_2 p1 p2 known_h0 thrown_h0 wrong_h0 lastEnd_h0 at_h0 bad_h0 levels_h0 least_h0 found_h0 size_m4 n_a_all_m4 b_a_all_m4 n_m15 b_m15  k_2 (v3_2 + 1)))
def F_Mo_isFinite (p1 : Int32) (p2 : Int32) (known_h0 : Int32) (thrown_h0 : Int32) (wrong_h0 : Int32) (lastEnd_h0 : Int32) (at_h0 : Int32) (bad_h0 : Int32) (levels_h0 : Int32) (least_h0 : Int32) (found_h0 : Int32) (size_m4 : Int32) (n_a_all_m4 : Nat) (b_a_all_m4 : Nat → Int32) (n_m15 : Nat) (b_m15 : Nat → Int32) : Option (Int32) :=
  F_Mo_isFinite_2 p1 p2 known_h0 thrown_h0 wrong_h0 lastEnd_h0 at_h0 bad_h0 levels_h0 least_h0 found_h0 size_m4 n_a_all_m4 b_a_all_m4 n_m15 b_m15  FU p1
theorem d_Mo_isFinite_0 : decode prog_12_method_15_code 0 = .ok (.iload_n 1, 1) := by decide +kernel
theorem d_Mo_isFinite_1 : decode prog_12_method_15_code 1 = .ok (.istore_n 3, 1) := by decide +kernel
theorem d_Mo_isFinite_2 : decode prog_12_method_15_code 2 = .ok (.iload_n 3, 1) := by decide +kernel
theorem d_Mo_isFinite_3 : decode prog_12_method_15_code 3 = .ok (.iload_n 2, 1) := by decide +kernel
theorem d_Mo_isFinite_4 : decode prog_12_method_15_code 4 = .ok (.if_icmp .ge 19, 3) := by decide +kernel
theorem d_Mo_isFinite_7 : decode prog_12_method_15_code 7 = .ok (.aload_n 0, 1) := by decide +kernel
theorem d_Mo_isFinite_8 : decode prog_12_method_15_code 8 = .ok (.iload_n 3, 1) := by decide +kernel
theorem d_Mo_isFinite_9 : decode prog_12_method_15_code 9 = .ok (.invokevirtual 222, 3) := by decide +kernel
theorem d_Mo_isFinite_12 : decode prog_12_method_15_code 12 = .ok (.bipush 101, 2) := by decide +kernel
theorem d_Mo_isFinite_14 : decode prog_12_method_15_code 14 = .ok (.if_icmp .eq 9, 3) := by decide +kernel
theorem d_Mo_isFinite_17 : decode prog_12_method_15_code 17 = .ok (.iinc 3 1, 3) := by decide +kernel
theorem d_Mo_isFinite_20 : decode prog_12_method_15_code 20 = .ok (.goto (-18), 3) := by decide +kernel
theorem d_Mo_isFinite_23 : decode prog_12_method_15_code 23 = .ok (.lconst 0, 1) := by decide +kernel
theorem d_Mo_isFinite_24 : decode prog_12_method_15_code 24 = .ok (.lstore 4, 2) := by decide +kernel
theorem d_Mo_isFinite_26 : decode prog_12_method_15_code 26 = .ok (.iconst 0, 1) := by decide +kernel
theorem d_Mo_isFinite_27 : decode prog_12_method_15_code 27 = .ok (.istore 6, 2) := by decide +kernel
theorem d_Mo_isFinite_29 : decode prog_12_method_15_code 29 = .ok (.iload_n 3, 1) := by decide +kernel
theorem d_Mo_isFinite_30 : decode prog_12_method_15_code 30 = .ok (.iconst 1, 1) := by decide +kernel
theorem d_Mo_isFinite_31 : decode prog_12_method_15_code 31 = .ok (.iadd, 1) := by decide +kernel
theorem d_Mo_isFinite_32 : decode prog_12_method_15_code 32 = .ok (.istore 7, 2) := by decide +kernel
theorem d_Mo_isFinite_34 : decode prog_12_method_15_code 34 = .ok (.iload 7, 2) := by decide +kernel
theorem d_Mo_isFinite_36 : decode prog_12_method_15_code 36 = .ok (.iload_n 2, 1) := by decide +kernel
theorem d_Mo_isFinite_37 : decode prog_12_method_15_code 37 = .ok (.if_icmp .ge 78, 3) := by decide +kernel
theorem d_Mo_isFinite_40 : decode prog_12_method_15_code 40 = .ok (.iload 6, 2) := by decide +kernel
theorem d_Mo_isFinite_42 : decode prog_12_method_15_code 42 = .ok (.ifCond .ne 14, 3) := by decide +kernel
theorem d_Mo_isFinite_45 : decode prog_12_method_15_code 45 = .ok (.aload_n 0, 1) := by decide +kernel
theorem d_Mo_isFinite_46 : decode prog_12_method_15_code 46 = .ok (.iload 7, 2) := by decide +kernel
theorem d_Mo_isFinite_48 : decode prog_12_method_15_code 48 = .ok (.invokevirtual 222, 3) := by decide +kernel
theorem d_Mo_isFinite_51 : decode prog_12_method_15_code 51 = .ok (.bipush 45, 2) := by decide +kernel
theorem d_Mo_isFinite_53 : decode prog_12_method_15_code 53 = .ok (.if_icmp .ne 7, 3) := by decide +kernel
theorem d_Mo_isFinite_56 : decode prog_12_method_15_code 56 = .ok (.iconst 1, 1) := by decide +kernel
theorem d_Mo_isFinite_57 : decode prog_12_method_15_code 57 = .ok (.goto 4, 3) := by decide +kernel
theorem d_Mo_isFinite_60 : decode prog_12_method_15_code 60 = .ok (.iconst 0, 1) := by decide +kernel
theorem d_Mo_isFinite_61 : decode prog_12_method_15_code 61 = .ok (.istore 6, 2) := by decide +kernel
theorem d_Mo_isFinite_63 : decode prog_12_method_15_code 63 = .ok (.aload_n 0, 1) := by decide +kernel
theorem d_Mo_isFinite_64 : decode prog_12_method_15_code 64 = .ok (.iload 7, 2) := by decide +kernel
theorem d_Mo_isFinite_66 : decode prog_12_method_15_code 66 = .ok (.invokevirtual 222, 3) := by decide +kernel
theorem d_Mo_isFinite_69 : decode prog_12_method_15_code 69 = .ok (.invokestatic 225, 3) := by decide +kernel
theorem d_Mo_isFinite_72 : decode prog_12_method_15_code 72 = .ok (.ifCond .eq 33, 3) := by decide +kernel
theorem d_Mo_isFinite_75 : decode prog_12_method_15_code 75 = .ok (.lload 4, 2) := by decide +kernel
theorem d_Mo_isFinite_77 : decode prog_12_method_15_code 77 = .ok (.ldc2_w 239, 3) := by decide +kernel
theorem d_Mo_isFinite_80 : decode prog_12_method_15_code 80 = .ok (.lcmp, 1) := by decide +kernel
theorem d_Mo_isFinite_81 : decode prog_12_method_15_code 81 = .ok (.ifCond .ge 24, 3) := by decide +kernel
theorem d_Mo_isFinite_84 : decode prog_12_method_15_code 84 = .ok (.ldc2_w 241, 3) := by decide +kernel
theorem d_Mo_isFinite_87 : decode prog_12_method_15_code 87 = .ok (.lload 4, 2) := by decide +kernel
theorem d_Mo_isFinite_89 : decode prog_12_method_15_code 89 = .ok (.lmul, 1) := by decide +kernel
theorem d_Mo_isFinite_90 : decode prog_12_method_15_code 90 = .ok (.aload_n 0, 1) := by decide +kernel
theorem d_Mo_isFinite_91 : decode prog_12_method_15_code 91 = .ok (.iload 7, 2) := by decide +kernel
theorem d_Mo_isFinite_93 : decode prog_12_method_15_code 93 = .ok (.invokevirtual 222, 3) := by decide +kernel
theorem d_Mo_isFinite_96 : decode prog_12_method_15_code 96 = .ok (.i2l, 1) := by decide +kernel
theorem d_Mo_isFinite_97 : decode prog_12_method_15_code 97 = .ok (.ladd, 1) := by decide +kernel
theorem d_Mo_isFinite_98 : decode prog_12_method_15_code 98 = .ok (.ldc2_w 243, 3) := by decide +kernel
theorem d_Mo_isFinite_101 : decode prog_12_method_15_code 101 = .ok (.lsub, 1) := by decide +kernel
theorem d_Mo_isFinite_102 : decode prog_12_method_15_code 102 = .ok (.goto 5, 3) := by decide +kernel
theorem d_Mo_isFinite_105 : decode prog_12_method_15_code 105 = .ok (.lload 4, 2) := by decide +kernel
theorem d_Mo_isFinite_107 : decode prog_12_method_15_code 107 = .ok (.lstore 4, 2) := by decide +kernel
theorem d_Mo_isFinite_109 : decode prog_12_method_15_code 109 = .ok (.iinc 7 1, 3) := by decide +kernel
theorem d_Mo_isFinite_112 : decode prog_12_method_15_code 112 = .ok (.goto (-78), 3) := by decide +kernel
theorem d_Mo_isFinite_115 : decode prog_12_method_15_code 115 = .ok (.aload_n 0, 1) := by decide +kernel
theorem d_Mo_isFinite_116 : decode prog_12_method_15_code 116 = .ok (.iload_n 1, 1) := by decide +kernel
theorem d_Mo_isFinite_117 : decode prog_12_method_15_code 117 = .ok (.invokevirtual 228, 3) := by decide +kernel
theorem d_Mo_isFinite_120 : decode prog_12_method_15_code 120 = .ok (.iload_n 1, 1) := by decide +kernel
theorem d_Mo_isFinite_121 : decode prog_12_method_15_code 121 = .ok (.isub, 1) := by decide +kernel
theorem d_Mo_isFinite_122 : decode prog_12_method_15_code 122 = .ok (.istore 7, 2) := by decide +kernel
theorem d_Mo_isFinite_124 : decode prog_12_method_15_code 124 = .ok (.iconst (-1), 1) := by decide +kernel
theorem d_Mo_isFinite_125 : decode prog_12_method_15_code 125 = .ok (.istore 8, 2) := by decide +kernel
theorem d_Mo_isFinite_127 : decode prog_12_method_15_code 127 = .ok (.iconst 0, 1) := by decide +kernel
theorem d_Mo_isFinite_128 : decode prog_12_method_15_code 128 = .ok (.istore 9, 2) := by decide +kernel
theorem d_Mo_isFinite_130 : decode prog_12_method_15_code 130 = .ok (.iload_n 1, 1) := by decide +kernel
theorem d_Mo_isFinite_131 : decode prog_12_method_15_code 131 = .ok (.istore 10, 2) := by decide +kernel
theorem d_Mo_isFinite_133 : decode prog_12_method_15_code 133 = .ok (.iload 10, 2) := by decide +kernel
theorem d_Mo_isFinite_135 : decode prog_12_method_15_code 135 = .ok (.iload_n 3, 1) := by decide +kernel
theorem d_Mo_isFinite_136 : decode prog_12_method_15_code 136 = .ok (.if_icmp .ge 49, 3) := by decide +kernel
theorem d_Mo_isFinite_139 : decode prog_12_method_15_code 139 = .ok (.aload_n 0, 1) := by decide +kernel
theorem d_Mo_isFinite_140 : decode prog_12_method_15_code 140 = .ok (.iload 10, 2) := by decide +kernel
theorem d_Mo_isFinite_142 : decode prog_12_method_15_code 142 = .ok (.invokevirtual 222, 3) := by decide +kernel
theorem d_Mo_isFinite_145 : decode prog_12_method_15_code 145 = .ok (.invokestatic 225, 3) := by decide +kernel
theorem d_Mo_isFinite_148 : decode prog_12_method_15_code 148 = .ok (.ifCond .eq 31, 3) := by decide +kernel
theorem d_Mo_isFinite_151 : decode prog_12_method_15_code 151 = .ok (.iload 8, 2) := by decide +kernel
theorem d_Mo_isFinite_153 : decode prog_12_method_15_code 153 = .ok (.ifCond .ge 19, 3) := by decide +kernel
theorem d_Mo_isFinite_156 : decode prog_12_method_15_code 156 = .ok (.aload_n 0, 1) := by decide +kernel
theorem d_Mo_isFinite_157 : decode prog_12_method_15_code 157 = .ok (.iload 10, 2) := by decide +kernel
theorem d_Mo_isFinite_159 : decode prog_12_method_15_code 159 = .ok (.invokevirtual 222, 3) := by decide +kernel
theorem d_Mo_isFinite_162 : decode prog_12_method_15_code 162 = .ok (.bipush 48, 2) := by decide +kernel
theorem d_Mo_isFinite_164 : decode prog_12_method_15_code 164 = .ok (.if_icmp .eq 8, 3) := by decide +kernel
theorem d_Mo_isFinite_167 : decode prog_12_method_15_code 167 = .ok (.iload 9, 2) := by decide +kernel
theorem d_Mo_isFinite_169 : decode prog_12_method_15_code 169 = .ok (.goto 5, 3) := by decide +kernel
theorem d_Mo_isFinite_172 : decode prog_12_method_15_code 172 = .ok (.iload 8, 2) := by decide +kernel
theorem d_Mo_isFinite_174 : decode prog_12_method_15_code 174 = .ok (.istore 8, 2) := by decide +kernel
theorem d_Mo_isFinite_176 : decode prog_12_method_15_code 176 = .ok (.iinc 9 1, 3) := by decide +kernel
theorem d_Mo_isFinite_179 : decode prog_12_method_15_code 179 = .ok (.iinc 10 1, 3) := by decide +kernel
theorem d_Mo_isFinite_182 : decode prog_12_method_15_code 182 = .ok (.goto (-49), 3) := by decide +kernel
theorem d_Mo_isFinite_185 : decode prog_12_method_15_code 185 = .ok (.iload 8, 2) := by decide +kernel
theorem d_Mo_isFinite_187 : decode prog_12_method_15_code 187 = .ok (.ifCond .ge 5, 3) := by decide +kernel
theorem d_Mo_isFinite_190 : decode prog_12_method_15_code 190 = .ok (.iconst 1, 1) := by decide +kernel
theorem d_Mo_isFinite_191 : decode prog_12_method_15_code 191 = .ok (.ireturn, 1) := by decide +kernel
theorem d_Mo_isFinite_192 : decode prog_12_method_15_code 192 = .ok (.iload 7, 2) := by decide +kernel
theorem d_Mo_isFinite_194 : decode prog_12_method_15_code 194 = .ok (.iconst 1, 1) := by decide +kernel
theorem d_Mo_isFinite_195 : decode prog_12_method_15_code 195 = .ok (.isub, 1) := by decide +kernel
theorem d_Mo_isFinite_196 : decode prog_12_method_15_code 196 = .ok (.iload 8, 2) := by decide +kernel
theorem d_Mo_isFinite_198 : decode prog_12_method_15_code 198 = .ok (.isub, 1) := by decide +kernel
theorem d_Mo_isFinite_199 : decode prog_12_method_15_code 199 = .ok (.i2l, 1) := by decide +kernel
theorem d_Mo_isFinite_200 : decode prog_12_method_15_code 200 = .ok (.iload 6, 2) := by decide +kernel
theorem d_Mo_isFinite_202 : decode prog_12_method_15_code 202 = .ok (.ifCond .eq 9, 3) := by decide +kernel
theorem d_Mo_isFinite_205 : decode prog_12_method_15_code 205 = .ok (.lload 4, 2) := by decide +kernel
theorem d_Mo_isFinite_207 : decode prog_12_method_15_code 207 = .ok (.lneg, 1) := by decide +kernel
theorem d_Mo_isFinite_208 : decode prog_12_method_15_code 208 = .ok (.goto 5, 3) := by decide +kernel
theorem d_Mo_isFinite_211 : decode prog_12_method_15_code 211 = .ok (.lload 4, 2) := by decide +kernel
theorem d_Mo_isFinite_213 : decode prog_12_method_15_code 213 = .ok (.ladd, 1) := by decide +kernel
theorem d_Mo_isFinite_214 : decode prog_12_method_15_code 214 = .ok (.lstore 10, 2) := by decide +kernel
theorem d_Mo_isFinite_216 : decode prog_12_method_15_code 216 = .ok (.lload 10, 2) := by decide +kernel
theorem d_Mo_isFinite_218 : decode prog_12_method_15_code 218 = .ok (.ldc2_w 245, 3) := by decide +kernel
theorem d_Mo_isFinite_221 : decode prog_12_method_15_code 221 = .ok (.lcmp, 1) := by decide +kernel
theorem d_Mo_isFinite_222 : decode prog_12_method_15_code 222 = .ok (.ifCond .eq 18, 3) := by decide +kernel
theorem d_Mo_isFinite_225 : decode prog_12_method_15_code 225 = .ok (.lload 10, 2) := by decide +kernel
theorem d_Mo_isFinite_227 : decode prog_12_method_15_code 227 = .ok (.ldc2_w 245, 3) := by decide +kernel
theorem d_Mo_isFinite_230 : decode prog_12_method_15_code 230 = .ok (.lcmp, 1) := by decide +kernel
theorem d_Mo_isFinite_231 : decode prog_12_method_15_code 231 = .ok (.ifCond .ge 7, 3) := by decide +kernel
theorem d_Mo_isFinite_234 : decode prog_12_method_15_code 234 = .ok (.iconst 1, 1) := by decide +kernel
theorem d_Mo_isFinite_235 : decode prog_12_method_15_code 235 = .ok (.goto 4, 3) := by decide +kernel
theorem d_Mo_isFinite_238 : decode prog_12_method_15_code 238 = .ok (.iconst 0, 1) := by decide +kernel
theorem d_Mo_isFinite_239 : decode prog_12_method_15_code 239 = .ok (.ireturn, 1) := by decide +kernel
theorem d_Mo_isFinite_240 : decode prog_12_method_15_code 240 = .ok (.iconst 0, 1) := by decide +kernel
theorem d_Mo_isFinite_241 : decode prog_12_method_15_code 241 = .ok (.istore 12, 2) := by decide +kernel
theorem d_Mo_isFinite_243 : decode prog_12_method_15_code 243 = .ok (.iload_n 1, 1) := by decide +kernel
theorem d_Mo_isFinite_244 : decode prog_12_method_15_code 244 = .ok (.istore 13, 2) := by decide +kernel
theorem d_Mo_isFinite_246 : decode prog_12_method_15_code 246 = .ok (.iload 13, 2) := by decide +kernel
theorem d_Mo_isFinite_248 : decode prog_12_method_15_code 248 = .ok (.iload_n 3, 1) := by decide +kernel
theorem d_Mo_isFinite_249 : decode prog_12_method_15_code 249 = .ok (.if_icmp .ge 103, 3) := by decide +kernel
theorem d_Mo_isFinite_252 : decode prog_12_method_15_code 252 = .ok (.aload_n 0, 1) := by decide +kernel
theorem d_Mo_isFinite_253 : decode prog_12_method_15_code 253 = .ok (.iload 13, 2) := by decide +kernel
theorem d_Mo_isFinite_255 : decode prog_12_method_15_code 255 = .ok (.invokevirtual 222, 3) := by decide +kernel
theorem d_Mo_isFinite_258 : decode prog_12_method_15_code 258 = .ok (.invokestatic 225, 3) := by decide +kernel
theorem d_Mo_isFinite_261 : decode prog_12_method_15_code 261 = .ok (.ifCond .eq 85, 3) := by decide +kernel
theorem d_Mo_isFinite_264 : decode prog_12_method_15_code 264 = .ok (.sipush 308, 3) := by decide +kernel
theorem d_Mo_isFinite_267 : decode prog_12_method_15_code 267 = .ok (.iload 12, 2) := by decide +kernel
theorem d_Mo_isFinite_269 : decode prog_12_method_15_code 269 = .ok (.iload 8, 2) := by decide +kernel
theorem d_Mo_isFinite_271 : decode prog_12_method_15_code 271 = .ok (.isub, 1) := by decide +kernel
theorem d_Mo_isFinite_272 : decode prog_12_method_15_code 272 = .ok (.isub, 1) := by decide +kernel
theorem d_Mo_isFinite_273 : decode prog_12_method_15_code 273 = .ok (.istore 14, 2) := by decide +kernel
theorem d_Mo_isFinite_275 : decode prog_12_method_15_code 275 = .ok (.iload 12, 2) := by decide +kernel
theorem d_Mo_isFinite_277 : decode prog_12_method_15_code 277 = .ok (.iload 8, 2) := by decide +kernel
theorem d_Mo_isFinite_279 : decode prog_12_method_15_code 279 = .ok (.if_icmp .lt 18, 3) := by decide +kernel
theorem d_Mo_isFinite_282 : decode prog_12_method_15_code 282 = .ok (.iload 14, 2) := by decide +kernel
theorem d_Mo_isFinite_284 : decode prog_12_method_15_code 284 = .ok (.ifCond .lt 13, 3) := by decide +kernel
theorem d_Mo_isFinite_287 : decode prog_12_method_15_code 287 = .ok (.aload_n 0, 1) := by decide +kernel
theorem d_Mo_isFinite_288 : decode prog_12_method_15_code 288 = .ok (.getfield 139, 3) := by decide +kernel
theorem d_Mo_isFinite_291 : decode prog_12_method_15_code 291 = .ok (.iload 14, 2) := by decide +kernel
theorem d_Mo_isFinite_293 : decode prog_12_method_15_code 293 = .ok (.iaload, 1) := by decide +kernel
theorem d_Mo_isFinite_294 : decode prog_12_method_15_code 294 = .ok (.goto 4, 3) := by decide +kernel
theorem d_Mo_isFinite_297 : decode prog_12_method_15_code 297 = .ok (.iconst 0, 1) := by decide +kernel
theorem d_Mo_isFinite_298 : decode prog_12_method_15_code 298 = .ok (.istore 15, 2) := by decide +kernel
theorem d_Mo_isFinite_300 : decode prog_12_method_15_code 300 = .ok (.aload_n 0, 1) := by decide +kernel
theorem d_Mo_isFinite_301 : decode prog_12_method_15_code 301 = .ok (.iload 13, 2) := by decide +kernel
theorem d_Mo_isFinite_303 : decode prog_12_method_15_code 303 = .ok (.invokevirtual 222, 3) := by decide +kernel
theorem d_Mo_isFinite_306 : decode prog_12_method_15_code 306 = .ok (.bipush 48, 2) := by decide +kernel
theorem d_Mo_isFinite_308 : decode prog_12_method_15_code 308 = .ok (.isub, 1) := by decide +kernel
theorem d_Mo_isFinite_309 : decode prog_12_method_15_code 309 = .ok (.istore 16, 2) := by decide +kernel
theorem d_Mo_isFinite_311 : decode prog_12_method_15_code 311 = .ok (.iload 12, 2) := by decide +kernel
theorem d_Mo_isFinite_313 : decode prog_12_method_15_code 313 = .ok (.iload 8, 2) := by decide +kernel
theorem d_Mo_isFinite_315 : decode prog_12_method_15_code 315 = .ok (.if_icmp .lt 28, 3) := by decide +kernel
theorem d_Mo_isFinite_318 : decode prog_12_method_15_code 318 = .ok (.iload 14, 2) := by decide +kernel
theorem d_Mo_isFinite_320 : decode prog_12_method_15_code 320 = .ok (.ifCond .lt 23, 3) := by decide +kernel
theorem d_Mo_isFinite_323 : decode prog_12_method_15_code 323 = .ok (.iload 16, 2) := by decide +kernel
theorem d_Mo_isFinite_325 : decode prog_12_method_15_code 325 = .ok (.iload 15, 2) := by decide +kernel
theorem d_Mo_isFinite_327 : decode prog_12_method_15_code 327 = .ok (.if_icmp .eq 16, 3) := by decide +kernel
theorem d_Mo_isFinite_330 : decode prog_12_method_15_code 330 = .ok (.iload 16, 2) := by decide +kernel
theorem d_Mo_isFinite_332 : decode prog_12_method_15_code 332 = .ok (.iload 15, 2) := by decide +kernel
theorem d_Mo_isFinite_334 : decode prog_12_method_15_code 334 = .ok (.if_icmp .ge 7, 3) := by decide +kernel
theorem d_Mo_isFinite_337 : decode prog_12_method_15_code 337 = .ok (.iconst 1, 1) := by decide +kernel
theorem d_Mo_isFinite_338 : decode prog_12_method_15_code 338 = .ok (.goto 4, 3) := by decide +kernel
theorem d_Mo_isFinite_341 : decode prog_12_method_15_code 341 = .ok (.iconst 0, 1) := by decide +kernel
theorem d_Mo_isFinite_342 : decode prog_12_method_15_code 342 = .ok (.ireturn, 1) := by decide +kernel
theorem d_Mo_isFinite_343 : decode prog_12_method_15_code 343 = .ok (.iinc 12 1, 3) := by decide +kernel
theorem d_Mo_isFinite_346 : decode prog_12_method_15_code 346 = .ok (.iinc 13 1, 3) := by decide +kernel
theorem d_Mo_isFinite_349 : decode prog_12_method_15_code 349 = .ok (.goto (-103), 3) := by decide +kernel
theorem d_Mo_isFinite_352 : decode prog_12_method_15_code 352 = .ok (.sipush 308, 3) := by decide +kernel
theorem d_Mo_isFinite_355 : decode prog_12_method_15_code 355 = .ok (.iload 12, 2) := by decide +kernel
theorem d_Mo_isFinite_357 : decode prog_12_method_15_code 357 = .ok (.iload 8, 2) := by decide +kernel
theorem d_Mo_isFinite_359 : decode prog_12_method_15_code 359 = .ok (.isub, 1) := by decide +kernel
theorem d_Mo_isFinite_360 : decode prog_12_method_15_code 360 = .ok (.isub, 1) := by decide +kernel
theorem d_Mo_isFinite_361 : decode prog_12_method_15_code 361 = .ok (.istore 13, 2) := by decide +kernel
theorem d_Mo_isFinite_363 : decode prog_12_method_15_code 363 = .ok (.iload 13, 2) := by decide +kernel
theorem d_Mo_isFinite_365 : decode prog_12_method_15_code 365 = .ok (.ifCond .lt 21, 3) := by decide +kernel
theorem d_Mo_isFinite_368 : decode prog_12_method_15_code 368 = .ok (.aload_n 0, 1) := by decide +kernel
theorem d_Mo_isFinite_369 : decode prog_12_method_15_code 369 = .ok (.getfield 139, 3) := by decide +kernel
theorem d_Mo_isFinite_372 : decode prog_12_method_15_code 372 = .ok (.iload 13, 2) := by decide +kernel
theorem d_Mo_isFinite_374 : decode prog_12_method_15_code 374 = .ok (.iaload, 1) := by decide +kernel
theorem d_Mo_isFinite_375 : decode prog_12_method_15_code 375 = .ok (.ifCond .le 5, 3) := by decide +kernel
theorem d_Mo_isFinite_378 : decode prog_12_method_15_code 378 = .ok (.iconst 1, 1) := by decide +kernel
theorem d_Mo_isFinite_379 : decode prog_12_method_15_code 379 = .ok (.ireturn, 1) := by decide +kernel
theorem d_Mo_isFinite_380 : decode prog_12_method_15_code 380 = .ok (.iinc 13 (-1), 3) := by decide +kernel
theorem d_Mo_isFinite_383 : decode prog_12_method_15_code 383 = .ok (.goto (-20), 3) := by decide +kernel
theorem d_Mo_isFinite_386 : decode prog_12_method_15_code 386 = .ok (.iconst 0, 1) := by decide +kernel
theorem d_Mo_isFinite_387 : decode prog_12_method_15_code 387 = .ok (.ireturn, 1) := by decide +kernel
set_option maxHeartbeats 4000000 in
set_option maxRecDepth 100000 in
theorem L_Mo_isFinite_363 (l : Launch) (D : va_G) (cI cB cJ cS : ClassId) (h0 : Nat) (am : Nat → Nat) (a_all_m4 : Nat) (p1 : Int32) (p2 : Int32) (known_h0 : Int32) (thrown_h0 : Int32) (wrong_h0 : Int32) (lastEnd_h0 : Int32) (at_h0 : Int32) (bad_h0 : Int32) (levels_h0 : Int32) (least_h0 : Int32) (found_h0 : Int32) (size_m4 : Int32) (n_a_all_m4 : Nat) (b_a_all_m4 : Nat → Int32) (n_m15 : Nat) (b_m15 : Nat → Int32) (ret : Int32) (p : Program) (e : Env) (s : State) (m : MethodId) (below : List Frame) (meth : Method) (c : Code) (hr : meth.sig.returnType = (Option.some Jvm.ClassFile.FieldType.boolean)) (hnm : meth.name = y_Mo_isFinite.name) : ∀ (k_363 : Nat) (v13_363 : Int32) (v12_363 : Int32) (v10_363 : Int64) (v9_363 : Int32) (v8_363 : Int32) (v7_363 : Int32) (v6_363 : Int32) (v4_363 : Int64) (v3_363 : Int32) (hz_v6_363 : zb v6_363), F_Mo_isFinite_363 n_m15 b_m15  k_363 v13_363 v12_363 v10_363 v9_363 v8_363 v7_363 v6_363 v4_363 v3_363 = some ret → J (KxOf p l e { frames := 3, cells := 0, slots := 0, locals := 64 } s m [.ref h0, .int p1, .int p2].toArray below meth c D (gT cI cB cJ cS) [(h0, .inr (9, moF am known_h0 thrown_h0 wrong_h0 lastEnd_h0 at_h0 bad_h0 levels_h0 least_h0 found_h0)), ((am 4), .inr (8, [.ref a_all_m4, .int size_m4])), (a_all_m4, .inl (cI, n_a_all_m4, .inl b_a_all_m4)), ((am 15), .inl (cI, n_m15, .inl b_m15))] (fun v w => v = some (.int ret) ∧ zb ret ∧ w = [(h0, .inr (9, moF am known_h0 thrown_h0 wrong_h0 lastEnd_h0 at_h0 bad_h0 levels_h0 least_h0 found_h0)), ((am 4), .inr (8, [.ref a_all_m4, .int size_m4])), (a_all_m4, .inl (cI, n_a_all_m4, .inl b_a_all_m4)), ((am 15), .inl (cI, n_m15, .inl b_m15))]) 0 0) prog_12_method_15_code 17 R_Mo 363 [(13, .int v13_363), (12, .int v12_363), (10, .long v10_363), (9, .int v9_363), (8, .int v8_363), (7, .int v7_363), (6, .int v6_363), (4, .long v4_363), (3, .int v3_363), (0, .ref h0), (1, .int p1), (2, .int p2)] [] [((am 15), .inl (cI, n_m15, .inl b_m15)), (h0, .inr (9, moF am known_h0 thrown_h0 wrong_h0 lastEnd_h0 at_h0 bad_h0 levels_h0 least_h0 found_h0)), ((am 4), .inr (8, [.ref a_all_m4, .int size_m4])), (a_all_m4, .inl (cI, n_a_all_m4, .inl b_a_all_m4))] 0 0 := by
  intro k_363
  induction k_363 with
  | zero => intro v13_363 v12_363 v10_363 v9_363 v8_363 v7_363 v6_363 v4_363 v3_363 hz_v6_363 h; rw [F_Mo_isFinite_363] at h; cases h
  | succ k_363 ih_363 =>
    intro v13_363 v12_363 v10_363 v9_363 v8_363 v7_363 v6_363 v4_363 v3_363 hz_v6_363 h
    rw [F_Mo_isFinite_363] at h
    refine j_iload d_Mo_isFinite_363 0 rfl ?_
    refine j_if_lt (tgt := 386) d_Mo_isFinite_365 (by decide) (fun c1 => ?_) (fun c1 => ?_)
    · replace h := it_t c1 h
      refine j_iconst (v := 0) d_Mo_isFinite_386 (by decide) ?_
      replace h := Option.some.inj h
      subst h
      exact j_zret (w := [(h0, .inr (9, moF am known_h0 thrown_h0 wrong_h0 lastEnd_h0 at_h0 bad_h0 levels_h0 least_h0 found_h0)), ((am 4), .inr (8, [.ref a_all_m4, .int size_m4])), (a_all_m4, .inl (cI, n_a_all_m4, .inl b_a_all_m4)), ((am 15), .inl (cI, n_m15, .inl b_m15))]) hr (zb_n zb0) d_Mo_isFinite_387 [1, 2, 3, 0] rfl (by decide) ⟨rfl, zb0, rfl⟩
    · replace h := it_f c1 h
      refine j_aload_n d_Mo_isFinite_368 rfl 9 rfl ?_
      refine j_get ig_Mo rfl 1 rfl 15 (by decide) rfl m_1128 rfl d_Mo_isFinite_369 ?_
      refine j_iload d_Mo_isFinite_372 0 rfl ?_
      replace h := inb_s h
      obtain ⟨i2, h⟩ := h
      refine j_iald (t0 := 0) 0 rfl rfl i2 d_Mo_isFinite_374 ?_
      refine j_if_le (tgt := 380) d_Mo_isFinite_375 (by decide) (fun c3 => ?_) (fun c3 => ?_)
      · replace h := it_t c3 h
        refine j_iinc (v := v13_363 + (-1)) (lv' := [(13, .int (v13_363 + (-1))), (12, .int v12_363), (10, .long v10_363), (9, .int v9_363), (8, .int v8_363), (7, .int v7_363), (6, .int v6_363), (4, .long v4_363), (3, .int v3_363), (0, .ref h0), (1, .int p1), (2, .int p2)]) d_Mo_isFinite_380 0 rfl rfl (by decide) rfl ?_
        refine j_goto (tgt := 363) d_Mo_isFinite_383 (by decide) ?_
        refine j_sub (w := [((am 15), .inl (cI, n_m15, .inl b_m15)), (h0, .inr (9, moF am known_h0 thrown_h0 wrong_h0 lastEnd_h0 at_h0 bad_h0 levels_h0 least_h0 found_h0)), ((am 4), .inr (8, [.ref a_all_m4, .int size_m4])), (a_all_m4, .inl (cI, n_a_all_m4, .inl b_a_all_m4))]) (lv' := [(13, .int (v13_363 + (-1))), (12, .int v12_363), (10, .long v10_363), (9, .int v9_363), (8, .int v8_363), (7, .int v7_363), (6, .int v6_363), (4, .long v4_363), (3, .int v3_363), (0, .ref h0), (1, .int p1), (2, .int p2)]) [0, 1, 2, 3] rfl (by decide) [0, 1, 2, 3, 4, 5, 6, 7, 8, 9, 10, 11] rfl ?_
        exact ih_363 (v13_363 + (-1)) v12_363 v10_363 v9_363 v8_363 v7_363 v6_363 v4_363 v3_363 hz_v6_363 h
      · replace h := it_f c3 h
        refine j_iconst (v := 1) d_Mo_isFinite_378 (by decide) ?_
        replace h := Option.some.inj h
        subst h
        exact j_zret (w := [(h0, .inr (9, moF am known_h0 thrown_h0 wrong_h0 lastEnd_h0 at_h0 bad_h0 levels_h0 least_h0 found_h0)), ((am 4), .inr (8, [.ref a_all_m4, .int size_m4])), (a_all_m4, .inl (cI, n_a_all_m4, .inl b_a_all_m4)), ((am 15), .inl (cI, n_m15, .inl b_m15))]) hr (zb_n zb1) d_Mo_isFinite_379 [1, 2, 3, 0] rfl (by decide) ⟨rfl, zb1, rfl⟩
set_option maxHeartbeats 4000000 in
set_option maxRecDepth 100000 in
theorem L_Mo_isFinite_246 (l : Launch) (D : va_G) (cI cB cJ cS : ClassId) (h0 : Nat) (am : Nat → Nat) (a_all_m4 : Nat) (p1 : Int32) (p2 : Int32) (known_h0 : Int32) (thrown_h0 : Int32) (wrong_h0 : Int32) (lastEnd_h0 : Int32) (at_h0 : Int32) (bad_h0 : Int32) (levels_h0 : Int32) (least_h0 : Int32) (found_h0 : Int32) (size_m4 : Int32) (n_a_all_m4 : Nat) (b_a_all_m4 : Nat → Int32) (n_m15 : Nat) (b_m15 : Nat → Int32) (ret : Int32) (p : Program) (e : Env) (s : State) (m : MethodId) (below : List Frame) (meth : Method) (c : Code) (hr : meth.sig.returnType = (Option.some Jvm.ClassFile.FieldType.boolean)) (hnm : meth.name = y_Mo_isFinite.name) : ∀ (k_246 : Nat) (v13_246 : Int32) (v12_246 : Int32) (v10_246 : Int64) (v9_246 : Int32) (v8_246 : Int32) (v7_246 : Int32) (v6_246 : Int32) (v4_246 : Int64) (v3_246 : Int32) (hz_v6_246 : zb v6_246), F_Mo_isFinite_246 known_h0 thrown_h0 wrong_h0 lastEnd_h0 at_h0 bad_h0 levels_h0 least_h0 found_h0 size_m4 n_a_all_m4 b_a_all_m4 n_m15 b_m15  k_246 v13_246 v12_246 v10_246 v9_246 v8_246 v7_246 v6_246 v4_246 v3_246 = some ret → J (KxOf p l e { frames := 3, cells := 0, slots := 0, locals := 64 } s m [.ref h0, .int p1, .int p2].toArray below meth c D (gT cI cB cJ cS) [(h0, .inr (9, moF am known_h0 thrown_h0 wrong_h0 lastEnd_h0 at_h0 bad_h0 levels_h0 least_h0 found_h0)), ((am 4), .inr (8, [.ref a_all_m4, .int size_m4])), (a_all_m4, .inl (cI, n_a_all_m4, .inl b_a_all_m4)), ((am 15), .inl (cI, n_m15, .inl b_m15))] (fun v w => v = some (.int ret) ∧ zb ret ∧ w = [(h0, .inr (9, moF am known_h0 thrown_h0 wrong_h0 lastEnd_h0 at_h0 bad_h0 levels_h0 least_h0 found_h0)), ((am 4), .inr (8, [.ref a_all_m4, .int size_m4])), (a_all_m4, .inl (cI, n_a_all_m4, .inl b_a_all_m4)), ((am 15), .inl (cI, n_m15, .inl b_m15))]) 0 0) prog_12_method_15_code 17 R_Mo 246 [(13, .int v13_246), (12, .int v12_246), (10, .long v10_246), (9, .int v9_246), (8, .int v8_246), (7, .int v7_246), (6, .int v6_246), (4, .long v4_246), (3, .int v3_246), (0, .ref h0), (1, .int p1), (2, .int p2)] [] [((am 15), .inl (cI, n_m15, .inl b_m15)), (h0, .inr (9, moF am known_h0 thrown_h0 wrong_h0 lastEnd_h0 at_h0 bad_h0 levels_h0 least_h0 found_h0)), ((am 4), .inr (8, [.ref a_all_m4, .int size_m4])), (a_all_m4, .inl (cI, n_a_all_m4, .inl b_a_all_m4))] 0 0 := by
  intro k_246
  induction k_246 with
  | zero => intro v13_246 v12_246 v10_246 v9_246 v8_246 v7_246 v6_246 v4_246 v3_246 hz_v6_246 h; rw [F_Mo_isFinite_246] at h; cases h
  | succ k_246 ih_246 =>
    intro v13_246 v12_246 v10_246 v9_246 v8_246 v7_246 v6_246 v4_246 v3_246 hz_v6_246 h
    rw [F_Mo_isFinite_246] at h
    have L_298 : ∀ (t0_298 : Int32), F_Mo_isFinite_298 known_h0 thrown_h0 wrong_h0 lastEnd_h0 at_h0 bad_h0 levels_h0 least_h0 found_h0 size_m4 n_a_all_m4 b_a_all_m4 v13_246 v12_246 v10_246 v9_246 v8_246 v7_246 v6_246 v4_246 v3_246 (F_Mo_isFinite_246 known_h0 thrown_h0 wrong_h0 lastEnd_h0 at_h0 bad_h0 levels_h0 least_h0 found_h0 size_m4 n_a_all_m4 b_a_all_m4 n_m15 b_m15  k_246)  t0_298 = some ret → J (KxOf p l e { frames := 3, cells := 0, slots := 0, locals := 64 } s m [.ref h0, .int p1, .int p2].toArray below meth c D (gT cI cB cJ cS) [(h0, .inr (9, moF am known_h0 thrown_h0 wrong_h0 lastEnd_h0 at_h0 bad_h0 levels_h0 least_h0 found_h0)), ((am 4), .inr (8, [.ref a_all_m4, .int size_m4])), (a_all_m4, .inl (cI, n_a_all_m4, .inl b_a_all_m4)), ((am 15), .inl (cI, n_m15, .inl b_m15))] (fun v w => v = some (.int ret) ∧ zb ret ∧ w = [(h0, .inr (9, moF am known_h0 thrown_h0 wrong_h0 lastEnd_h0 at_h0 bad_h0 levels_h0 least_h0 found_h0)), ((am 4), .inr (8, [.ref a_all_m4, .int size_m4])), (a_all_m4, .inl (cI, n_a_all_m4, .inl b_a_all_m4)), ((am 15), .inl (cI, n_m15, .inl b_m15))]) 0 0) prog_12_method_15_code 17 R_Mo 298 [(14, .int (308 - (v12_246 - v8_246))), (13, .int v13_246), (12, .int v12_246), (10, .long v10_246), (9, .int v9_246), (8, .int v8_246), (7, .int v7_246), (6, .int v6_246), (4, .long v4_246), (3, .int v3_246), (0, .ref h0), (1, .int p1), (2, .int p2)] [.int t0_298] [((am 15), .inl (cI, n_m15, .inl b_m15)), (h0, .inr (9, moF am known_h0 thrown_h0 wrong_h0 lastEnd_h0 at_h0 bad_h0 levels_h0 least_h0 found_h0)), ((am 4), .inr (8, [.ref a_all_m4, .int size_m4])), (a_all_m4, .inl (cI, n_a_all_m4, .inl b_a_all_m4))] 0 0 := by
      clear h
      intro t0_298 h
      unfold F_Mo_isFinite_298 at h
      refine j_istore (lv' := [(15, .int t0_298), (14, .int (308 - (v12_246 - v8_246))), (13, .int v13_246), (12, .int v12_246), (10, .long v10_246), (9, .int v9_246), (8, .int v8_246), (7, .int v7_246), (6, .int v6_246), (4, .long v4_246), (3, .int v3_246), (0, .ref h0), (1, .int p1), (2, .int p2)]) d_Mo_isFinite_298 (by decide) rfl ?_
      refine j_aload_n d_Mo_isFinite_300 rfl 11 rfl ?_
      refine j_iload d_Mo_isFinite_301 2 rfl ?_
      replace h := bd_s h
      obtain ⟨r4, k5, h⟩ := h
      refine j_callV (n := 1) (As := [.int v13_246]) (rest := []) (wr := [((am 15), .inl (cI, n_m15, .inl b_m15))]) (c_Mo_letter l D cI cB cJ cS h0 am a_all_m4 v13_246 known_h0 thrown_h0 wrong_h0 lastEnd_h0 at_h0 bad_h0 levels_h0 least_h0 found_h0 size_m4 n_a_all_m4 b_a_all_m4  r4 k5) k_Mo_222 (by decide) ⟨Nat.le_of_ble_eq_true rfl, Nat.le_of_ble_eq_true rfl⟩ rfl 0 rfl [1, 2, 3] [0] rfl (by decide) rfl (by decide) (by decide) rfl rfl (Nat.le_of_ble_eq_true rfl) d_Mo_isFinite_303 ⟨Nat.le_of_ble_eq_true rfl, Nat.le_of_ble_eq_true rfl⟩ (fun v w hq => ?_)
      obtain ⟨rfl, rfl⟩ := hq
      refine j_norm (pc' := 306) (st' := [.int r4]) (ws' := [((am 15), .inl (cI, n_m15, .inl b_m15)), (h0, .inr (9, moF am known_h0 thrown_h0 wrong_h0 lastEnd_h0 at_h0 bad_h0 levels_h0 least_h0 found_h0)), ((am 4), .inr (8, [.ref a_all_m4, .int size_m4])), (a_all_m4, .inl (cI, n_a_all_m4, .inl b_a_all_m4))]) (cl' := 0) (sl' := 0) rfl rfl rfl rfl rfl rfl ?_
      refine j_bipush (v := 48) d_Mo_isFinite_306 (by decide) ?_
      refine j_isub d_Mo_isFinite_308 ?_
      refine j_istore (lv' := [(16, .int (r4 - 48)), (15, .int t0_298), (14, .int (308 - (v12_246 - v8_246))), (13, .int v13_246), (12, .int v12_246), (10, .long v10_246), (9, .int v9_246), (8, .int v8_246), (7, .int v7_246), (6, .int v6_246), (4, .long v4_246), (3, .int v3_246), (0, .ref h0), (1, .int p1), (2, .int p2)]) d_Mo_isFinite_309 (by decide) rfl ?_
      refine j_iload d_Mo_isFinite_311 4 rfl ?_
      refine j_iload d_Mo_isFinite_313 7 rfl ?_
      refine j_icmp_lt (tgt := 343) d_Mo_isFinite_315 (by decide) (fun c6 => ?_) (fun c6 => ?_)
      · replace h := it_t c6 h
        refine j_iinc (v := v12_246 + 1) (lv' := [(12, .int (v12_246 + 1)), (16, .int (r4 - 48)), (15, .int t0_298), (14, .int (308 - (v12_246 - v8_246))), (13, .int v13_246), (10, .long v10_246), (9, .int v9_246), (8, .int v8_246), (7, .int v7_246), (6, .int v6_246), (4, .long v4_246), (3, .int v3_246), (0, .ref h0), (1, .int p1), (2, .int p2)]) d_Mo_isFinite_343 4 rfl rfl (by decide) rfl ?_
        refine j_iinc (v := v13_246 + 1) (lv' := [(13, .int (v13_246 + 1)), (12, .int (v12_246 + 1)), (16, .int (r4 - 48)), (15, .int t0_298), (14, .int (308 - (v12_246 - v8_246))), (10, .long v10_246), (9, .int v9_246), (8, .int v8_246), (7, .int v7_246), (6, .int v6_246), (4, .long v4_246), (3, .int v3_246), (0, .ref h0), (1, .int p1), (2, .int p2)]) d_Mo_isFinite_346 4 rfl rfl (by decide) rfl ?_
        refine j_goto (tgt := 246) d_Mo_isFinite_349 (by decide) ?_
        refine j_sub (w := [((am 15), .inl (cI, n_m15, .inl b_m15)), (h0, .inr (9, moF am known_h0 thrown_h0 wrong_h0 lastEnd_h0 at_h0 bad_h0 levels_h0 least_h0 found_h0)), ((am 4), .inr (8, [.ref a_all_m4, .int size_m4])), (a_all_m4, .inl (cI, n_a_all_m4, .inl b_a_all_m4))]) (lv' := [(13, .int (v13_246 + 1)), (12, .int (v12_246 + 1)), (10, .long v10_246), (9, .int v9_246), (8, .int v8_246), (7, .int v7_246), (6, .int v6_246), (4, .long v4_246), (3, .int v3_246), (0, .ref h0), (1, .int p1), (2, .int p2)]) [0, 1, 2, 3] rfl (by decide) [0, 1, 5, 6, 7, 8, 9, 10, 11, 12, 13, 14] rfl ?_
        exact ih_246 (v13_246 + 1) (v12_246 + 1) v10_246 v9_246 v8_246 v7_246 v6_246 v4_246 v3_246 hz_v6_246 h
      · replace h := it_f c6 h
        refine j_iload d_Mo_isFinite_318 2 rfl ?_
        refine j_if_lt (tgt := 343) d_Mo_isFinite_320 (by decide) (fun c7 => ?_) (fun c7 => ?_)
        · replace h := it_t c7 h
          refine j_iinc (v := v12_246 + 1) (lv' := [(12, .int (v12_246 + 1)), (16, .int (r4 - 48)), (15, .int t0_298), (14, .int (308 - (v12_246 - v8_246))), (13, .int v13_246), (10, .long v10_246), (9, .int v9_246), (8, .int v8_246), (7, .int v7_246), (6, .int v6_246), (4, .long v4_246), (3, .int v3_246), (0, .ref h0), (1, .int p1), (2, .int p2)]) d_Mo_isFinite_343 4 rfl rfl (by decide) rfl ?_
          refine j_iinc (v := v13_246 + 1) (lv' := [(13, .int (v13_246 + 1)), (12, .int (v12_246 + 1)), (16, .int (r4 - 48)), (15, .int t0_298), (14, .int (308 - (v12_246 - v8_246))), (10, .long v10_246), (9, .int v9_246), (8, .int v8_246), (7, .int v7_246), (6, .int v6_246), (4, .long v4_246), (3, .int v3_246), (0, .ref h0), (1, .int p1), (2, .int p2)]) d_Mo_isFinite_346 4 rfl rfl (by decide) rfl ?_
          refine j_goto (tgt := 246) d_Mo_isFinite_349 (by decide) ?_
          refine j_sub (w := [((am 15), .inl (cI, n_m15, .inl b_m15)), (h0, .inr (9, moF am known_h0 thrown_h0 wrong_h0 lastEnd_h0 at_h0 bad_h0 levels_h0 least_h0 found_h0)), ((am 4), .inr (8, [.ref a_all_m4, .int size_m4])), (a_all_m4, .inl (cI, n_a_all_m4, .inl b_a_all_m4))]) (lv' := [(13, .int (v13_246 + 1)), (12, .int (v12_246 + 1)), (10, .long v10_246), (9, .int v9_246), (8, .int v8_246), (7, .int v7_246), (6, .int v6_246), (4, .long v4_246), (3, .int v3_246), (0, .ref h0), (1, .int p1), (2, .int p2)]) [0, 1, 2, 3] rfl (by decide) [0, 1, 5, 6, 7, 8, 9, 10, 11, 12, 13, 14] rfl ?_
          exact ih_246 (v13_246 + 1) (v12_246 + 1) v10_246 v9_246 v8_246 v7_246 v6_246 v4_246 v3_246 hz_v6_246 h
        · replace h := it_f c7 h
          refine j_iload d_Mo_isFinite_323 0 rfl ?_
          refine j_iload d_Mo_isFinite_325 1 rfl ?_
          refine j_icmp_eq (tgt := 343) d_Mo_isFinite_327 (by decide) (fun c8 => ?_) (fun c8 => ?_)
          · replace h := it_t c8 h
            refine j_iinc (v := v12_246 + 1) (lv' := [(12, .int (v12_246 + 1)), (16, .int (r4 - 48)), (15, .int t0_298), (14, .int (308 - (v12_246 - v8_246))), (13, .int v13_246), (10, .long v10_246), (9, .int v9_246), (8, .int v8_246), (7, .int v7_246), (6, .int v6_246), (4, .long v4_246), (3, .int v3_246), (0, .ref h0), (1, .int p1), (2, .int p2)]) d_Mo_isFinite_343 4 rfl rfl (by decide) rfl ?_
            refine j_iinc (v := v13_246 + 1) (lv' := [(13, .int (v13_246 + 1)), (12, .int (v12_246 + 1)), (16, .int (r4 - 48)), (15, .int t0_298), (14, .int (308 - (v12_246 - v8_246))), (10, .long v10_246), (9, .int v9_246), (8, .int v8_246), (7, .int v7_246), (6, .int v6_246), (4, .long v4_246), (3, .int v3_246), (0, .ref h0), (1, .int p1), (2, .int p2)]) d_Mo_isFinite_346 4 rfl rfl (by decide) rfl ?_
            refine j_goto (tgt := 246) d_Mo_isFinite_349 (by decide) ?_
            refine j_sub (w := [((am 15), .inl (cI, n_m15, .inl b_m15)), (h0, .inr (9, moF am known_h0 thrown_h0 wrong_h0 lastEnd_h0 at_h0 bad_h0 levels_h0 least_h0 found_h0)), ((am 4), .inr (8, [.ref a_all_m4, .int size_m4])), (a_all_m4, .inl (cI, n_a_all_m4, .inl b_a_all_m4))]) (lv' := [(13, .int (v13_246 + 1)), (12, .int (v12_246 + 1)), (10, .long v10_246), (9, .int v9_246), (8, .int v8_246), (7, .int v7_246), (6, .int v6_246), (4, .long v4_246), (3, .int v3_246), (0, .ref h0), (1, .int p1), (2, .int p2)]) [0, 1, 2, 3] rfl (by decide) [0, 1, 5, 6, 7, 8, 9, 10, 11, 12, 13, 14] rfl ?_
            exact ih_246 (v13_246 + 1) (v12_246 + 1) v10_246 v9_246 v8_246 v7_246 v6_246 v4_246 v3_246 hz_v6_246 h
          · replace h := it_f c8 h
            refine j_iload d_Mo_isFinite_330 0 rfl ?_
            refine j_iload d_Mo_isFinite_332 1 rfl ?_
            refine j_icmp_ge (tgt := 341) d_Mo_isFinite_334 (by decide) (fun c9 => ?_) (fun c9 => ?_)
            · replace h := it_t c9 h
              refine j_iconst (v := 0) d_Mo_isFinite_341 (by decide) ?_
              replace h := Option.some.inj h
              subst h
              exact j_zret (w := [(h0, .inr (9, moF am known_h0 thrown_h0 wrong_h0 lastEnd_h0 at_h0 bad_h0 levels_h0 least_h0 found_h0)), ((am 4), .inr (8, [.ref a_all_m4, .int size_m4])), (a_all_m4, .inl (cI, n_a_all_m4, .inl b_a_all_m4)), ((am 15), .inl (cI, n_m15, .inl b_m15))]) hr (zb_n zb0) d_Mo_isFinite_342 [1, 2, 3, 0] rfl (by decide) ⟨rfl, zb0, rfl⟩
            · replace h := it_f c9 h
              refine j_iconst (v := 1) d_Mo_isFinite_337 (by decide) ?_
              refine j_goto (tgt := 342) d_Mo_isFinite_338 (by decide) ?_
              replace h := Option.some.inj h
              subst h
              exact j_zret (w := [(h0, .inr (9, moF am known_h0 thrown_h0 wrong_h0 lastEnd_h0 at_h0 bad_h0 levels_h0 least_h0 found_h0)), ((am 4), .inr (8, [.ref a_all_m4, .int size_m4])), (a_all_m4, .inl (cI, n_a_all_m4, .inl b_a_all_m4)), ((am 15), .inl (cI, n_m15, .inl b_m15))]) hr (zb_n zb1) d_Mo_isFinite_342 [1, 2, 3, 0] rfl (by decide) ⟨rfl, zb1, rfl⟩
    refine j_iload d_Mo_isFinite_246 0 rfl ?_
    refine j_iload_n d_Mo_isFinite_248 rfl 8 rfl ?_
    refine j_icmp_ge (tgt := 352) d_Mo_isFinite_249 (by decide) (fun c10 => ?_) (fun c10 => ?_)
    · replace h := it_t c10 h
      refine j_sipush (v := 308) d_Mo_isFinite_352 (by decide) ?_
      refine j_iload d_Mo_isFinite_355 1 rfl ?_
      refine j_iload d_Mo_isFinite_357 4 rfl ?_
      refine j_isub d_Mo_isFinite_359 ?_
      refine j_isub d_Mo_isFinite_360 ?_
      refine j_istore (lv' := [(13, .int (308 - (v12_246 - v8_246))), (12, .int v12_246), (10, .long v10_246), (9, .int v9_246), (8, .int v8_246), (7, .int v7_246), (6, .int v6_246), (4, .long v4_246), (3, .int v3_246), (0, .ref h0), (1, .int p1), (2, .int p2)]) d_Mo_isFinite_361 (by decide) rfl ?_
      refine j_sub (w := [((am 15), .inl (cI, n_m15, .inl b_m15)), (h0, .inr (9, moF am known_h0 thrown_h0 wrong_h0 lastEnd_h0 at_h0 bad_h0 levels_h0 least_h0 found_h0)), ((am 4), .inr (8, [.ref a_all_m4, .int size_m4])), (a_all_m4, .inl (cI, n_a_all_m4, .inl b_a_all_m4))]) (lv' := [(13, .int (308 - (v12_246 - v8_246))), (12, .int v12_246), (10, .long v10_246), (9, .int v9_246), (8, .int v8_246), (7, .int v7_246), (6, .int v6_246), (4, .long v4_246), (3, .int v3_246), (0, .ref h0), (1, .int p1), (2, .int p2)]) [0, 1, 2, 3] rfl (by decide) [0, 1, 2, 3, 4, 5, 6, 7, 8, 9, 10, 11] rfl ?_
      exact L_Mo_isFinite_363 l D cI cB cJ cS h0 am a_all_m4 p1 p2 known_h0 thrown_h0 wrong_h0 lastEnd_h0 at_h0 bad_h0 levels_h0 least_h0 found_h0 size_m4 n_a_all_m4 b_a_all_m4 n_m15 b_m15 ret p e s m below meth c hr hnm FU (308 - (v12_246 - v8_246)) v12_246 v10_246 v9_246 v8_246 v7_246 v6_246 v4_246 v3_246 hz_v6_246 h
    · replace h := it_f c10 h
      refine j_aload_n d_Mo_isFinite_252 rfl 9 rfl ?_
      refine j_iload d_Mo_isFinite_253 0 rfl ?_
      replace h := bd_s h
      obtain ⟨r11, k12, h⟩ := h
      refine j_callV (n := 1) (As := [.int v13_246]) (rest := []) (wr := [((am 15), .inl (cI, n_m15, .inl b_m15))]) (c_Mo_letter l D cI cB cJ cS h0 am a_all_m4 v13_246 known_h0 thrown_h0 wrong_h0 lastEnd_h0 at_h0 bad_h0 levels_h0 least_h0 found_h0 size_m4 n_a_all_m4 b_a_all_m4  r11 k12) k_Mo_222 (by decide) ⟨Nat.le_of_ble_eq_true rfl, Nat.le_of_ble_eq_true rfl⟩ rfl 0 rfl [1, 2, 3] [0] rfl (by decide) rfl (by decide) (by decide) rfl rfl (Nat.le_of_ble_eq_true rfl) d_Mo_isFinite_255 ⟨Nat.le_of_ble_eq_true rfl, Nat.le_of_ble_eq_true rfl⟩ (fun v w hq => ?_)
      obtain ⟨rfl, rfl⟩ := hq
      refine j_norm (pc' := 258) (st' := [.int r11]) (ws' := [((am 15), .inl (cI, n_m15, .inl b_m15)), (h0, .inr (9, moF am known_h0 thrown_h0 wrong_h0 lastEnd_h0 at_h0 bad_h0 levels_h0 least_h0 found_h0)), ((am 4), .inr (8, [.ref a_all_m4, .int size_m4])), (a_all_m4, .inl (cI, n_a_all_m4, .inl b_a_all_m4))]) (cl' := 0) (sl' := 0) rfl rfl rfl rfl rfl rfl ?_
      obtain ⟨r13, k15⟩ : ∃ z, (F_Mo_isDigit r11) = z := ⟨_, rfl⟩
      replace h := nm_at k15 h
      refine j_callS (n := 1) (As := [.int r11]) (rest := []) (wr := [((am 15), .inl (cI, n_m15, .inl b_m15)), (h0, .inr (9, moF am known_h0 thrown_h0 wrong_h0 lastEnd_h0 at_h0 bad_h0 levels_h0 least_h0 found_h0)), ((am 4), .inr (8, [.ref a_all_m4, .int size_m4])), (a_all_m4, .inl (cI, n_a_all_m4, .inl b_a_all_m4))]) (c_Mo_isDigit l D cI cB cJ cS r11  r13 k15) k_Mo_225 (by decide) ⟨Nat.le_of_ble_eq_true rfl, Nat.le_of_ble_eq_true rfl⟩ [] [0, 1, 2, 3] rfl (by decide) rfl (by decide) (by decide) rfl rfl (Nat.le_of_ble_eq_true rfl) d_Mo_isFinite_258 ⟨Nat.le_of_ble_eq_true rfl, Nat.le_of_ble_eq_true rfl⟩ (fun v w hq => ?_)
      obtain ⟨rfl, z14, rfl⟩ := hq
      refine j_norm (pc' := 261) (st' := [.int r13]) (ws' := [((am 15), .inl (cI, n_m15, .inl b_m15)), (h0, .inr (9, moF am known_h0 thrown_h0 wrong_h0 lastEnd_h0 at_h0 bad_h0 levels_h0 least_h0 found_h0)), ((am 4), .inr (8, [.ref a_all_m4, .int size_m4])), (a_all_m4, .inl (cI, n_a_all_m4, .inl b_a_all_m4))]) (cl' := 0) (sl' := 0) rfl rfl rfl rfl rfl rfl ?_
      refine j_if_eq (tgt := 346) d_Mo_isFinite_261 (by decide) (fun c16 => ?_) (fun c16 => ?_)
      · replace h := it_t c16 h
        refine j_iinc (v := v13_246 + 1) (lv' := [(13, .int (v13_246 + 1)), (12, .int v12_246), (10, .long v10_246), (9, .int v9_246), (8, .int v8_246), (7, .int v7_246), (6, .int v6_246), (4, .long v4_246), (3, .int v3_246), (0, .ref h0), (1, .int p1), (2, .int p2)]) d_Mo_isFinite_346 0 rfl rfl (by decide) rfl ?_
        refine j_goto (tgt := 246) d_Mo_isFinite_349 (by decide) ?_
        refine j_sub (w := [((am 15), .inl (cI, n_m15, .inl b_m15)), (h0, .inr (9, moF am known_h0 thrown_h0 wrong_h0 lastEnd_h0 at_h0 bad_h0 levels_h0 least_h0 found_h0)), ((am 4), .inr (8, [.ref a_all_m4, .int size_m4])), (a_all_m4, .inl (cI, n_a_all_m4, .inl b_a_all_m4))]) (lv' := [(13, .int (v13_246 + 1)), (12, .int v12_246), (10, .long v10_246), (9, .int v9_246), (8, .int v8_246), (7, .int v7_246), (6, .int v6_246), (4, .long v4_246), (3, .int v3_246), (0, .ref h0), (1, .int p1), (2, .int p2)]) [0, 1, 2, 3] rfl (by decide) [0, 1, 2, 3, 4, 5, 6, 7, 8, 9, 10, 11] rfl ?_
        exact ih_246 (v13_246 + 1) v12_246 v10_246 v9_246 v8_246 v7_246 v6_246 v4_246 v3_246 hz_v6_246 h
      · replace h := it_f c16 h
        refine j_sipush (v := 308) d_Mo_isFinite_264 (by decide) ?_
        refine j_iload d_Mo_isFinite_267 1 rfl ?_
        refine j_iload d_Mo_isFinite_269 4 rfl ?_
        refine j_isub d_Mo_isFinite_271 ?_
        refine j_isub d_Mo_isFinite_272 ?_
        refine j_istore (lv' := [(14, .int (308 - (v12_246 - v8_246))), (13, .int v13_246), (12, .int v12_246), (10, .long v10_246), (9, .int v9_246), (8, .int v8_246), (7, .int v7_246), (6, .int v6_246), (4, .long v4_246), (3, .int v3_246), (0, .ref h0), (1, .int p1), (2, .int p2)]) d_Mo_isFinite_273 (by decide) rfl ?_
        refine j_iload d_Mo_isFinite_275 2 rfl ?_
        refine j_iload d_Mo_isFinite_277 5 rfl ?_
        refine j_icmp_lt (tgt := 297) d_Mo_isFinite_279 (by decide) (fun c17 => ?_) (fun c17 => ?_)
        · replace h := it_t c17 h
          refine j_iconst (v := 0) d_Mo_isFinite_297 (by decide) ?_
          refine j_sub (w := [((am 15), .inl (cI, n_m15, .inl b_m15)), (h0, .inr (9, moF am known_h0 thrown_h0 wrong_h0 lastEnd_h0 at_h0 bad_h0 levels_h0 least_h0 found_h0)), ((am 4), .inr (8, [.ref a_all_m4, .int size_m4])), (a_all_m4, .inl (cI, n_a_all_m4, .inl b_a_all_m4))]) (lv' := [(14, .int (308 - (v12_246 - v8_246))), (13, .int v13_246), (12, .int v12_246), (10, .long v10_246), (9, .int v9_246), (8, .int v8_246), (7, .int v7_246), (6, .int v6_246), (4, .long v4_246), (3, .int v3_246), (0, .ref h0), (1, .int p1), (2, .int p2)]) [0, 1, 2, 3] rfl (by decide) [0, 1, 2, 3, 4, 5, 6, 7, 8, 9, 10, 11, 12] rfl ?_
          exact L_298 0 h
        · replace h := it_f c17 h
          refine j_iload d_Mo_isFinite_282 0 rfl ?_
          refine j_if_lt (tgt := 297) d_Mo_isFinite_284 (by decide) (fun c18 => ?_) (fun c18 => ?_)
          · replace h := it_t c18 h
            refine j_iconst (v := 0) d_Mo_isFinite_297 (by decide) ?_
            refine j_sub (w := [((am 15), .inl (cI, n_m15, .inl b_m15)), (h0, .inr (9, moF am known_h0 thrown_h0 wrong_h0 lastEnd_h0 at_h0 bad_h0 levels_h0 least_h0 found_h0)), ((am 4), .inr (8, [.ref a_all_m4, .int size_m4])), (a_all_m4, .inl (cI, n_a_all_m4, .inl b_a_all_m4))]) (lv' := [(14, .int (308 - (v12_246 - v8_246))), (13, .int v13_246), (12, .int v12_246), (10, .long v10_246), (9, .int v9_246), (8, .int v8_246), (7, .int v7_246), (6, .int v6_246), (4, .long v4_246), (3, .int v3_246), (0, .ref h0), (1, .int p1), (2, .int p2)]) [0, 1, 2, 3] rfl (by decide) [0, 1, 2, 3, 4, 5, 6, 7, 8, 9, 10, 11, 12] rfl ?_
            exact L_298 0 h
          · replace h := it_f c18 h
            refine j_aload_n d_Mo_isFinite_287 rfl 10 rfl ?_
            refine j_get ig_Mo rfl 1 rfl 15 (by decide) rfl m_1128 rfl d_Mo_isFinite_288 ?_
            refine j_iload d_Mo_isFinite_291 0 rfl ?_
            replace h := inb_s h
            obtain ⟨i19, h⟩ := h
            refine j_iald (t0 := 0) 0 rfl rfl i19 d_Mo_isFinite_293 ?_
            refine j_goto (tgt := 298) d_Mo_isFinite_294 (by decide) ?_
            refine j_sub (w := [((am 15), .inl (cI, n_m15, .inl b_m15)), (h0, .inr (9, moF am known_h0 thrown_h0 wrong_h0 lastEnd_h0 at_h0 bad_h0 levels_h0 least_h0 found_h0)), ((am 4), .inr (8, [.ref a_all_m4, .int size_m4])), (a_all_m4, .inl (cI, n_a_all_m4, .inl b_a_all_m4))]) (lv' := [(14, .int (308 - (v12_246 - v8_246))), (13, .int v13_246), (12, .int v12_246), (10, .long v10_246), (9, .int v9_246), (8, .int v8_246), (7, .int v7_246), (6, .int v6_246), (4, .long v4_246), (3, .int v3_246), (0, .ref h0), (1, .int p1), (2, .int p2)]) [0, 1, 2, 3] rfl (by decide) [0, 1, 2, 3, 4, 5, 6, 7, 8, 9, 10, 11, 12] rfl ?_
            exact L_298 (b_m15 (Int32.toNatClampNeg (308 - (v12_246 - v8_246)))) h
set_option maxHeartbeats 4000000 in
set_option maxRecDepth 100000 in
theorem L_Mo_isFinite_213 (l : Launch) (D : va_G) (cI cB cJ cS : ClassId) (h0 : Nat) (am : Nat → Nat) (a_all_m4 : Nat) (p1 : Int32) (p2 : Int32) (known_h0 : Int32) (thrown_h0 : Int32) (wrong_h0 : Int32) (lastEnd_h0 : Int32) (at_h0 : Int32) (bad_h0 : Int32) (levels_h0 : Int32) (least_h0 : Int32) (found_h0 : Int32) (size_m4 : Int32) (n_a_all_m4 : Nat) (b_a_all_m4 : Nat → Int32) (n_m15 : Nat) (b_m15 : Nat → Int32) (ret : Int32) (p : Program) (e : Env) (s : State) (m : MethodId) (below : List Frame) (meth : Method) (c : Code) (hr : meth.sig.returnType = (Option.some Jvm.ClassFile.FieldType.boolean)) (hnm : meth.name = y_Mo_isFinite.name) : ∀ (v10_213 : Int32) (v9_213 : Int32) (v8_213 : Int32) (v7_213 : Int32) (v6_213 : Int32) (v4_213 : Int64) (v3_213 : Int32) (t0_213 : Int64) (t1_213 : Int64) (hz_v6_213 : zb v6_213), F_Mo_isFinite_213 p1 known_h0 thrown_h0 wrong_h0 lastEnd_h0 at_h0 bad_h0 levels_h0 least_h0 found_h0 size_m4 n_a_all_m4 b_a_all_m4 n_m15 b_m15   v10_213 v9_213 v8_213 v7_213 v6_213 v4_213 v3_213 t0_213 t1_213 = some ret → J (KxOf p l e { frames := 3, cells := 0, slots := 0, locals := 64 } s m [.ref h0, .int p1, .int p2].toArray below meth c D (gT cI cB cJ cS) [(h0, .inr (9, moF am known_h0 thrown_h0 wrong_h0 lastEnd_h0 at_h0 bad_h0 levels_h0 least_h0 found_h0)), ((am 4), .inr (8, [.ref a_all_m4, .int size_m4])), (a_all_m4, .inl (cI, n_a_all_m4, .inl b_a_all_m4)), ((am 15), .inl (cI, n_m15, .inl b_m15))] (fun v w => v = some (.int ret) ∧ zb ret ∧ w = [(h0, .inr (9, moF am known_h0 thrown_h0 wrong_h0 lastEnd_h0 at_h0 bad_h0 levels_h0 least_h0 found_h0)), ((am 4), .inr (8, [.ref a_all_m4, .int size_m4])), (a_all_m4, .inl (cI, n_a_all_m4, .inl b_a_all_m4)), ((am 15), .inl (cI, n_m15, .inl b_m15))]) 0 0) prog_12_method_15_code 17 R_Mo 213 [(10, .int v10_213), (9, .int v9_213), (8, .int v8_213), (7, .int v7_213), (6, .int v6_213), (4, .long v4_213), (3, .int v3_213), (0, .ref h0), (1, .int p1), (2, .int p2)] [.long t0_213, .long t1_213] [((am 15), .inl (cI, n_m15, .inl b_m15)), (h0, .inr (9, moF am known_h0 thrown_h0 wrong_h0 lastEnd_h0 at_h0 bad_h0 levels_h0 least_h0 found_h0)), ((am 4), .inr (8, [.ref a_all_m4, .int size_m4])), (a_all_m4, .inl (cI, n_a_all_m4, .inl b_a_all_m4))] 0 0 := by
  intro v10_213 v9_213 v8_213 v7_213 v6_213 v4_213 v3_213 t0_213 t1_213 hz_v6_213 h
  unfold F_Mo_isFinite_213 at h
  refine j_ladd d_Mo_isFinite_213 ?_
  refine j_lstore (lv' := [(10, .long (t1_213 + t0_213)), (9, .int v9_213), (8, .int v8_213), (7, .int v7_213), (6, .int v6_213), (4, .long v4_213), (3, .int v3_213), (0, .ref h0), (1, .int p1), (2, .int p2)]) d_Mo_isFinite_214 (by decide) rfl ?_
  refine j_lload d_Mo_isFinite_216 0 rfl ?_
  refine j_ldc2 (v := 308) m_1315 d_Mo_isFinite_218 ?_
  refine j_lcmp d_Mo_isFinite_221 ?_
  refine j_if_eq (tgt := 240) d_Mo_isFinite_222 (by decide) (fun c20 => ?_) (fun c20 => ?_)
  · replace h := it_t c20 h
    refine j_iconst (v := 0) d_Mo_isFinite_240 (by decide) ?_
    refine j_istore (lv' := [(12, .int 0), (10, .long (t1_213 + t0_213)), (9, .int v9_213), (8, .int v8_213), (7, .int v7_213), (6, .int v6_213), (4, .long v4_213), (3, .int v3_213), (0, .ref h0), (1, .int p1), (2, .int p2)]) d_Mo_isFinite_241 (by decide) rfl ?_
    refine j_iload_n d_Mo_isFinite_243 rfl 9 rfl ?_
    refine j_istore (lv' := [(13, .int p1), (12, .int 0), (10, .long (t1_213 + t0_213)), (9, .int v9_213), (8, .int v8_213), (7, .int v7_213), (6, .int v6_213), (4, .long v4_213), (3, .int v3_213), (0, .ref h0), (1, .int p1), (2, .int p2)]) d_Mo_isFinite_244 (by decide) rfl ?_
    refine j_sub (w := [((am 15), .inl (cI, n_m15, .inl b_m15)), (h0, .inr (9, moF am known_h0 thrown_h0 wrong_h0 lastEnd_h0 at_h0 bad_h0 levels_h0 least_h0 found_h0)), ((am 4), .inr (8, [.ref a_all_m4, .int size_m4])), (a_all_m4, .inl (cI, n_a_all_m4, .inl b_a_all_m4))]) (lv' := [(13, .int p1), (12, .int 0), (10, .long (t1_213 + t0_213)), (9, .int v9_213), (8, .int v8_213), (7, .int v7_213), (6, .int v6_213), (4, .long v4_213), (3, .int v3_213), (0, .ref h0), (1, .int p1), (2, .int p2)]) [0, 1, 2, 3] rfl (by decide) [0, 1, 2, 3, 4, 5, 6, 7, 8, 9, 10, 11] rfl ?_
    exact L_Mo_isFinite_246 l D cI cB cJ cS h0 am a_all_m4 p1 p2 known_h0 thrown_h0 wrong_h0 lastEnd_h0 at_h0 bad_h0 levels_h0 least_h0 found_h0 size_m4 n_a_all_m4 b_a_all_m4 n_m15 b_m15 ret p e s m below meth c hr hnm FU p1 0 (t1_213 + t0_213) v9_213 v8_213 v7_213 v6_213 v4_213 v3_213 hz_v6_213 h
  · replace h := it_f c20 h
    refine j_lload d_Mo_isFinite_225 0 rfl ?_
    refine j_ldc2 (v := 308) m_1315 d_Mo_isFinite_227 ?_
    refine j_lcmp d_Mo_isFinite_230 ?_
    refine j_if_ge (tgt := 238) d_Mo_isFinite_231 (by decide) (fun c21 => ?_) (fun c21 => ?_)
    · replace h := it_t c21 h
      refine j_iconst (v := 0) d_Mo_isFinite_238 (by decide) ?_
      replace h := Option.some.inj h
      subst h
      exact j_zret (w := [(h0, .inr (9, moF am known_h0 thrown_h0 wrong_h0 lastEnd_h0 at_h0 bad_h0 levels_h0 least_h0 found_h0)), ((am 4), .inr (8, [.ref a_all_m4, .int size_m4])), (a_all_m4, .inl (cI, n_a_all_m4, .inl b_a_all_m4)), ((am 15), .inl (cI, n_m15, .inl b_m15))]) hr (zb_n zb0) d_Mo_isFinite_239 [1, 2, 3, 0] rfl (by decide) ⟨rfl, zb0, rfl⟩
    · replace h := it_f c21 h
      refine j_iconst (v := 1) d_Mo_isFinite_234 (by decide) ?_
      refine j_goto (tgt := 239) d_Mo_isFinite_235 (by decide) ?_
      replace h := Option.some.inj h
      subst h
      exact j_zret (w := [(h0, .inr (9, moF am known_h0 thrown_h0 wrong_h0 lastEnd_h0 at_h0 bad_h0 levels_h0 least_h0 found_h0)), ((am 4), .inr (8, [.ref a_all_m4, .int size_m4])), (a_all_m4, .inl (cI, n_a_all_m4, .inl b_a_all_m4)), ((am 15), .inl (cI, n_m15, .inl b_m15))]) hr (zb_n zb1) d_Mo_isFinite_239 [1, 2, 3, 0] rfl (by decide) ⟨rfl, zb1, rfl⟩
set_option maxHeartbeats 4000000 in
set_option maxRecDepth 100000 in
theorem L_Mo_isFinite_133 (l : Launch) (D : va_G) (cI cB cJ cS : ClassId) (h0 : Nat) (am : Nat → Nat) (a_all_m4 : Nat) (p1 : Int32) (p2 : Int32) (known_h0 : Int32) (thrown_h0 : Int32) (wrong_h0 : Int32) (lastEnd_h0 : Int32) (at_h0 : Int32) (bad_h0 : Int32) (levels_h0 : Int32) (least_h0 : Int32) (found_h0 : Int32) (size_m4 : Int32) (n_a_all_m4 : Nat) (b_a_all_m4 : Nat → Int32) (n_m15 : Nat) (b_m15 : Nat → Int32) (ret : Int32) (p : Program) (e : Env) (s : State) (m : MethodId) (below : List Frame) (meth : Method) (c : Code) (hr : meth.sig.returnType = (Option.some Jvm.ClassFile.FieldType.boolean)) (hnm : meth.name = y_Mo_isFinite.name) : ∀ (k_133 : Nat) (v10_133 : Int32) (v9_133 : Int32) (v8_133 : Int32) (v7_133 : Int32) (v6_133 : Int32) (v4_133 : Int64) (v3_133 : Int32) (hz_v6_133 : zb v6_133), F_Mo_isFinite_133 p1 known_h0 thrown_h0 wrong_h0 lastEnd_h0 at_h0 bad_h0 levels_h0 least_h0 found_h0 size_m4 n_a_all_m4 b_a_all_m4 n_m15 b_m15  k_133 v10_133 v9_133 v8_133 v7_133 v6_133 v4_133 v3_133 = some ret → J (KxOf p l e { frames := 3, cells := 0, slots := 0, locals := 64 } s m [.ref h0, .int p1, .int p2].toArray below meth c D (gT cI cB cJ cS) [(h0, .inr (9, moF am known_h0 thrown_h0 wrong_h0 lastEnd_h0 at_h0 bad_h0 levels_h0 least_h0 found_h0)), ((am 4), .inr (8, [.ref a_all_m4, .int size_m4])), (a_all_m4, .inl (cI, n_a_all_m4, .inl b_a_all_m4)), ((am 15), .inl (cI, n_m15, .inl b_m15))] (fun v w => v = some (.int ret) ∧ zb ret ∧ w = [(h0, .inr (9, moF am known_h0 thrown_h0 wrong_h0 lastEnd_h0 at_h0 bad_h0 levels_h0 least_h0 found_h0)), ((am 4), .inr (8, [.ref a_all_m4, .int size_m4])), (a_all_m4, .inl (cI, n_a_all_m4, .inl b_a_all_m4)), ((am 15), .inl (cI, n_m15, .inl b_m15))]) 0 0) prog_12_method_15_code 17 R_Mo 133 [(10, .int v10_133), (9, .int v9_133), (8, .int v8_133), (7, .int v7_133), (6, .int v6_133), (4, .long v4_133), (3, .int v3_133), (0, .ref h0), (1, .int p1), (2, .int p2)] [] [((am 15), .inl (cI, n_m15, .inl b_m15)), (h0, .inr (9, moF am known_h0 thrown_h0 wrong_h0 lastEnd_h0 at_h0 bad_h0 levels_h0 least_h0 found_h0)), ((am 4), .inr (8, [.ref a_all_m4, .int size_m4])), (a_all_m4, .inl (cI, n_a_all_m4, .inl b_a_all_m4))] 0 0 := by
  intro k_133
  induction k_133 with
  | zero => intro v10_133 v9_133 v8_133 v7_133 v6_133 v4_133 v3_133 hz_v6_133 h; rw [F_Mo_isFinite_133] at h; cases h
  | succ k_133 ih_133 =>
    intro v10_133 v9_133 v8_133 v7_133 v6_133 v4_133 v3_133 hz_v6_133 h
    rw [F_Mo_isFinite_133] at h
    refine j_iload d_Mo_isFinite_133 0 rfl ?_
    refine j_iload_n d_Mo_isFinite_135 rfl 6 rfl ?_
    refine j_icmp_ge (tgt := 185) d_Mo_isFinite_136 (by decide) (fun c22 => ?_) (fun c22 => ?_)
    · replace h := it_t c22 h
      refine j_iload d_Mo_isFinite_185 2 rfl ?_
      refine j_if_ge (tgt := 192) d_Mo_isFinite_187 (by decide) (fun c23 => ?_) (fun c23 => ?_)
      · replace h := it_t c23 h
        refine j_iload d_Mo_isFinite_192 3 rfl ?_
        refine j_iconst (v := 1) d_Mo_isFinite_194 (by decide) ?_
        refine j_isub d_Mo_isFinite_195 ?_
        refine j_iload d_Mo_isFinite_196 2 rfl ?_
        refine j_isub d_Mo_isFinite_198 ?_
        refine j_i2l d_Mo_isFinite_199 ?_
        refine j_iload d_Mo_isFinite_200 4 rfl ?_
        refine j_if_eq (tgt := 211) d_Mo_isFinite_202 (by decide) (fun c24 => ?_) (fun c24 => ?_)
        · replace h := it_t c24 h
          refine j_lload d_Mo_isFinite_211 5 rfl ?_
          refine j_sub (w := [((am 15), .inl (cI, n_m15, .inl b_m15)), (h0, .inr (9, moF am known_h0 thrown_h0 wrong_h0 lastEnd_h0 at_h0 bad_h0 levels_h0 least_h0 found_h0)), ((am 4), .inr (8, [.ref a_all_m4, .int size_m4])), (a_all_m4, .inl (cI, n_a_all_m4, .inl b_a_all_m4))]) (lv' := [(10, .int v10_133), (9, .int v9_133), (8, .int v8_133), (7, .int v7_133), (6, .int v6_133), (4, .long v4_133), (3, .int v3_133), (0, .ref h0), (1, .int p1), (2, .int p2)]) [0, 1, 2, 3] rfl (by decide) [0, 1, 2, 3, 4, 5, 6, 7, 8, 9] rfl ?_
          exact L_Mo_isFinite_213 l D cI cB cJ cS h0 am a_all_m4 p1 p2 known_h0 thrown_h0 wrong_h0 lastEnd_h0 at_h0 bad_h0 levels_h0 least_h0 found_h0 size_m4 n_a_all_m4 b_a_all_m4 n_m15 b_m15 ret p e s m below meth c hr hnm v10_133 v9_133 v8_133 v7_133 v6_133 v4_133 v3_133 v4_133 (((v7_133 - 1) - v8_133).toInt64) hz_v6_133 h
        · replace h := it_f c24 h
          refine j_lload d_Mo_isFinite_205 5 rfl ?_
          refine j_lneg d_Mo_isFinite_207 ?_
          refine j_goto (tgt := 213) d_Mo_isFinite_208 (by decide) ?_
          refine j_sub (w := [((am 15), .inl (cI, n_m15, .inl b_m15)), (h0, .inr (9, moF am known_h0 thrown_h0 wrong_h0 lastEnd_h0 at_h0 bad_h0 levels_h0 least_h0 found_h0)), ((am 4), .inr (8, [.ref a_all_m4, .int size_m4])), (a_all_m4, .inl (cI, n_a_all_m4, .inl b_a_all_m4))]) (lv' := [(10, .int v10_133), (9, .int v9_133), (8, .int v8_133), (7, .int v7_133), (6, .int v6_133), (4, .long v4_133), (3, .int v3_133), (0, .ref h0), (1, .int p1), (2, .int p2)]) [0, 1, 2, 3] rfl (by decide) [0, 1, 2, 3, 4, 5, 6, 7, 8, 9] rfl ?_
          exact L_Mo_isFinite_213 l D cI cB cJ cS h0 am a_all_m4 p1 p2 known_h0 thrown_h0 wrong_h0 lastEnd_h0 at_h0 bad_h0 levels_h0 least_h0 found_h0 size_m4 n_a_all_m4 b_a_all_m4 n_m15 b_m15 ret p e s m below meth c hr hnm v10_133 v9_133 v8_133 v7_133 v6_133 v4_133 v3_133 (-v4_133) (((v7_133 - 1) - v8_133).toInt64) hz_v6_133 h
      · replace h := it_f c23 h
        refine j_iconst (v := 1) d_Mo_isFinite_190 (by decide) ?_
        replace h := Option.some.inj h
        subst h
        exact j_zret (w := [(h0, .inr (9, moF am known_h0 thrown_h0 wrong_h0 lastEnd_h0 at_h0 bad_h0 levels_h0 least_h0 found_h0)), ((am 4), .inr (8, [.ref a_all_m4, .int size_m4])), (a_all_m4, .inl (cI, n_a_all_m4, .inl b_a_all_m4)), ((am 15), .inl (cI, n_m15, .inl b_m15))]) hr (zb_n zb1) d_Mo_isFinite_191 [1, 2, 3, 0] rfl (by decide) ⟨rfl, zb1, rfl⟩
    · replace h := it_f c22 h
      refine j_aload_n d_Mo_isFinite_139 rfl 7 rfl ?_
      refine j_iload d_Mo_isFinite_140 0 rfl ?_
      replace h := bd_s h
      obtain ⟨r25, k26, h⟩ := h
      refine j_callV (n := 1) (As := [.int v10_133]) (rest := []) (wr := [((am 15), .inl (cI, n_m15, .inl b_m15))]) (c_Mo_letter l D cI cB cJ cS h0 am a_all_m4 v10_133 known_h0 thrown_h0 wrong_h0 lastEnd_h0 at_h0 bad_h0 levels_h0 least_h0 found_h0 size_m4 n_a_all_m4 b_a_all_m4  r25 k26) k_Mo_222 (by decide) ⟨Nat.le_of_ble_eq_true rfl, Nat.le_of_ble_eq_true rfl⟩ rfl 0 rfl [1, 2, 3] [0] rfl (by decide) rfl (by decide) (by decide) rfl rfl (Nat.le_of_ble_eq_true rfl) d_Mo_isFinite_142 ⟨Nat.le_of_ble_eq_true rfl, Nat.le_of_ble_eq_true rfl⟩ (fun v w hq => ?_)
      obtain ⟨rfl, rfl⟩ := hq
      refine j_norm (pc' := 145) (st' := [.int r25]) (ws' := [((am 15), .inl (cI, n_m15, .inl b_m15)), (h0, .inr (9, moF am known_h0 thrown_h0 wrong_h0 lastEnd_h0 at_h0 bad_h0 levels_h0 least_h0 found_h0)), ((am 4), .inr (8, [.ref a_all_m4, .int size_m4])), (a_all_m4, .inl (cI, n_a_all_m4, .inl b_a_all_m4))]) (cl' := 0) (sl' := 0) rfl rfl rfl rfl rfl rfl ?_
      obtain ⟨r27, k29⟩ : ∃ z, (F_Mo_isDigit r25) = z := ⟨_, rfl⟩
      replace h := nm_at k29 h
      refine j_callS (n := 1) (As := [.int r25]) (rest := []) (wr := [((am 15), .inl (cI, n_m15, .inl b_m15)), (h0, .inr (9, moF am known_h0 thrown_h0 wrong_h0 lastEnd_h0 at_h0 bad_h0 levels_h0 least_h0 found_h0)), ((am 4), .inr (8, [.ref a_all_m4, .int size_m4])), (a_all_m4, .inl (cI, n_a_all_m4, .inl b_a_all_m4))]) (c_Mo_isDigit l D cI cB cJ cS r25  r27 k29) k_Mo_225 (by decide) ⟨Nat.le_of_ble_eq_true rfl, Nat.le_of_ble_eq_true rfl⟩ [] [0, 1, 2, 3] rfl (by decide) rfl (by decide) (by decide) rfl rfl (Nat.le_of_ble_eq_true rfl) d_Mo_isFinite_145 ⟨Nat.le_of_ble_eq_true rfl, Nat.le_of_ble_eq_true rfl⟩ (fun v w hq => ?_)
      obtain ⟨rfl, z28, rfl⟩ := hq
      refine j_norm (pc' := 148) (st' := [.int r27]) (ws' := [((am 15), .inl (cI, n_m15, .inl b_m15)), (h0, .inr (9, moF am known_h0 thrown_h0 wrong_h0 lastEnd_h0 at_h0 bad_h0 levels_h0 least_h0 found_h0)), ((am 4), .inr (8, [.ref a_all_m4, .int size_m4])), (a_all_m4, .inl (cI, n_a_all_m4, .inl b_a_all_m4))]) (cl' := 0) (sl' := 0) rfl rfl rfl rfl rfl rfl ?_
      refine j_if_eq (tgt := 179) d_Mo_isFinite_148 (by decide) (fun c30 => ?_) (fun c30 => ?_)
      · replace h := it_t c30 h
        refine j_iinc (v := v10_133 + 1) (lv' := [(10, .int (v10_133 + 1)), (9, .int v9_133), (8, .int v8_133), (7, .int v7_133), (6, .int v6_133), (4, .long v4_133), (3, .int v3_133), (0, .ref h0), (1, .int p1), (2, .int p2)]) d_Mo_isFinite_179 0 rfl rfl (by decide) rfl ?_
        refine j_goto (tgt := 133) d_Mo_isFinite_182 (by decide) ?_
        refine j_sub (w := [((am 15), .inl (cI, n_m15, .inl b_m15)), (h0, .inr (9, moF am known_h0 thrown_h0 wrong_h0 lastEnd_h0 at_h0 bad_h0 levels_h0 least_h0 found_h0)), ((am 4), .inr (8, [.ref a_all_m4, .int size_m4])), (a_all_m4, .inl (cI, n_a_all_m4, .inl b_a_all_m4))]) (lv' := [(10, .int (v10_133 + 1)), (9, .int v9_133), (8, .int v8_133), (7, .int v7_133), (6, .int v6_133), (4, .long v4_133), (3, .int v3_133), (0, .ref h0), (1, .int p1), (2, .int p2)]) [0, 1, 2, 3] rfl (by decide) [0, 1, 2, 3, 4, 5, 6, 7, 8, 9] rfl ?_
        exact ih_133 (v10_133 + 1) v9_133 v8_133 v7_133 v6_133 v4_133 v3_133 hz_v6_133 h
      · replace h := it_f c30 h
        refine j_iload d_Mo_isFinite_151 2 rfl ?_
        refine j_if_ge (tgt := 172) d_Mo_isFinite_153 (by decide) (fun c31 => ?_) (fun c31 => ?_)
        · replace h := it_t c31 h
          refine j_iload d_Mo_isFinite_172 2 rfl ?_
          refine j_istore (lv' := [(8, .int v8_133), (10, .int v10_133), (9, .int v9_133), (7, .int v7_133), (6, .int v6_133), (4, .long v4_133), (3, .int v3_133), (0, .ref h0), (1, .int p1), (2, .int p2)]) d_Mo_isFinite_174 (by decide) rfl ?_
          refine j_iinc (v := v9_133 + 1) (lv' := [(9, .int (v9_133 + 1)), (8, .int v8_133), (10, .int v10_133), (7, .int v7_133), (6, .int v6_133), (4, .long v4_133), (3, .int v3_133), (0, .ref h0), (1, .int p1), (2, .int p2)]) d_Mo_isFinite_176 2 rfl rfl (by decide) rfl ?_
          refine j_iinc (v := v10_133 + 1) (lv' := [(10, .int (v10_133 + 1)), (9, .int (v9_133 + 1)), (8, .int v8_133), (7, .int v7_133), (6, .int v6_133), (4, .long v4_133), (3, .int v3_133), (0, .ref h0), (1, .int p1), (2, .int p2)]) d_Mo_isFinite_179 2 rfl rfl (by decide) rfl ?_
          refine j_goto (tgt := 133) d_Mo_isFinite_182 (by decide) ?_
          refine j_sub (w := [((am 15), .inl (cI, n_m15, .inl b_m15)), (h0, .inr (9, moF am known_h0 thrown_h0 wrong_h0 lastEnd_h0 at_h0 bad_h0 levels_h0 least_h0 found_h0)), ((am 4), .inr (8, [.ref a_all_m4, .int size_m4])), (a_all_m4, .inl (cI, n_a_all_m4, .inl b_a_all_m4))]) (lv' := [(10, .int (v10_133 + 1)), (9, .int (v9_133 + 1)), (8, .int v8_133), (7, .int v7_133), (6, .int v6_133), (4, .long v4_133), (3, .int v3_133), (0, .ref h0), (1, .int p1), (2, .int p2)]) [0, 1, 2, 3] rfl (by decide) [0, 1, 2, 3, 4, 5, 6, 7, 8, 9] rfl ?_
          exact ih_133 (v10_133 + 1) (v9_133 + 1) v8_133 v7_133 v6_133 v4_133 v3_133 hz_v6_133 h
        · replace h := it_f c31 h
          refine j_aload_n d_Mo_isFinite_156 rfl 7 rfl ?_
          refine j_iload d_Mo_isFinite_157 0 rfl ?_
          replace h := bd_s h
          obtain ⟨r32, k33, h⟩ := h
          refine j_callV (n := 1) (As := [.int v10_133]) (rest := []) (wr := [((am 15), .inl (cI, n_m15, .inl b_m15))]) (c_Mo_letter l D cI cB cJ cS h0 am a_all_m4 v10_133 known_h0 thrown_h0 wrong_h0 lastEnd_h0 at_h0 bad_h0 levels_h0 least_h0 found_h0 size_m4 n_a_all_m4 b_a_all_m4  r32 k33) k_Mo_222 (by decide) ⟨Nat.le_of_ble_eq_true rfl, Nat.le_of_ble_eq_true rfl⟩ rfl 0 rfl [1, 2, 3] [0] rfl (by decide) rfl (by decide) (by decide) rfl rfl (Nat.le_of_ble_eq_true rfl) d_Mo_isFinite_159 ⟨Nat.le_of_ble_eq_true rfl, Nat.le_of_ble_eq_true rfl⟩ (fun v w hq => ?_)
          obtain ⟨rfl, rfl⟩ := hq
          refine j_norm (pc' := 162) (st' := [.int r32]) (ws' := [((am 15), .inl (cI, n_m15, .inl b_m15)), (h0, .inr (9, moF am known_h0 thrown_h0 wrong_h0 lastEnd_h0 at_h0 bad_h0 levels_h0 least_h0 found_h0)), ((am 4), .inr (8, [.ref a_all_m4, .int size_m4])), (a_all_m4, .inl (cI, n_a_all_m4, .inl b_a_all_m4))]) (cl' := 0) (sl' := 0) rfl rfl rfl rfl rfl rfl ?_
          refine j_bipush (v := 48) d_Mo_isFinite_162 (by decide) ?_
          refine j_icmp_eq (tgt := 172) d_Mo_isFinite_164 (by decide) (fun c34 => ?_) (fun c34 => ?_)
          · replace h := it_t c34 h
            refine j_iload d_Mo_isFinite_172 2 rfl ?_
            refine j_istore (lv' := [(8, .int v8_133), (10, .int v10_133), (9, .int v9_133), (7, .int v7_133), (6, .int v6_133), (4, .long v4_133), (3, .int v3_133), (0, .ref h0), (1, .int p1), (2, .int p2)]) d_Mo_isFinite_174 (by decide) rfl ?_
            refine j_iinc (v := v9_133 + 1) (lv' := [(9, .int (v9_133 + 1)), (8, .int v8_133), (10, .int v10_133), (7, .int v7_133), (6, .int v6_133), (4, .long v4_133), (3, .int v3_133), (0, .ref h0), (1, .int p1), (2, .int p2)]) d_Mo_isFinite_176 2 rfl rfl (by decide) rfl ?_
            refine j_iinc (v := v10_133 + 1) (lv' := [(10, .int (v10_133 + 1)), (9, .int (v9_133 + 1)), (8, .int v8_133), (7, .int v7_133), (6, .int v6_133), (4, .long v4_133), (3, .int v3_133), (0, .ref h0), (1, .int p1), (2, .int p2)]) d_Mo_isFinite_179 2 rfl rfl (by decide) rfl ?_
            refine j_goto (tgt := 133) d_Mo_isFinite_182 (by decide) ?_
            refine j_sub (w := [((am 15), .inl (cI, n_m15, .inl b_m15)), (h0, .inr (9, moF am known_h0 thrown_h0 wrong_h0 lastEnd_h0 at_h0 bad_h0 levels_h0 least_h0 found_h0)), ((am 4), .inr (8, [.ref a_all_m4, .int size_m4])), (a_all_m4, .inl (cI, n_a_all_m4, .inl b_a_all_m4))]) (lv' := [(10, .int (v10_133 + 1)), (9, .int (v9_133 + 1)), (8, .int v8_133), (7, .int v7_133), (6, .int v6_133), (4, .long v4_133), (3, .int v3_133), (0, .ref h0), (1, .int p1), (2, .int p2)]) [0, 1, 2, 3] rfl (by decide) [0, 1, 2, 3, 4, 5, 6, 7, 8, 9] rfl ?_
            exact ih_133 (v10_133 + 1) (v9_133 + 1) v8_133 v7_133 v6_133 v4_133 v3_133 hz_v6_133 h
          · replace h := it_f c34 h
            refine j_iload d_Mo_isFinite_167 1 rfl ?_
            refine j_goto (tgt := 174) d_Mo_isFinite_169 (by decide) ?_
            refine j_istore (lv' := [(8, .int v9_133), (10, .int v10_133), (9, .int v9_133), (7, .int v7_133), (6, .int v6_133), (4, .long v4_133), (3, .int v3_133), (0, .ref h0), (1, .int p1), (2, .int p2)]) d_Mo_isFinite_174 (by decide) rfl ?_
            refine j_iinc (v := v9_133 + 1) (lv' := [(9, .int (v9_133 + 1)), (8, .int v9_133), (10, .int v10_133), (7, .int v7_133), (6, .int v6_133), (4, .long v4_133), (3, .int v3_133), (0, .ref h0), (1, .int p1), (2, .int p2)]) d_Mo_isFinite_176 2 rfl rfl (by decide) rfl ?_
            refine j_iinc (v := v10_133 + 1) (lv' := [(10, .int (v10_133 + 1)), (9, .int (v9_133 + 1)), (8, .int v9_133), (7, .int v7_133), (6, .int v6_133), (4, .long v4_133), (3, .int v3_133), (0, .ref h0), (1, .int p1), (2, .int p2)]) d_Mo_isFinite_179 2 rfl rfl (by decide) rfl ?_
            refine j_goto (tgt := 133) d_Mo_isFinite_182 (by decide) ?_
            refine j_sub (w := [((am 15), .inl (cI, n_m15, .inl b_m15)), (h0, .inr (9, moF am known_h0 thrown_h0 wrong_h0 lastEnd_h0 at_h0 bad_h0 levels_h0 least_h0 found_h0)), ((am 4), .inr (8, [.ref a_all_m4, .int size_m4])), (a_all_m4, .inl (cI, n_a_all_m4, .inl b_a_all_m4))]) (lv' := [(10, .int (v10_133 + 1)), (9, .int (v9_133 + 1)), (8, .int v9_133), (7, .int v7_133), (6, .int v6_133), (4, .long v4_133), (3, .int v3_133), (0, .ref h0), (1, .int p1), (2, .int p2)]) [0, 1, 2, 3] rfl (by decide) [0, 1, 2, 3, 4, 5, 6, 7, 8, 9] rfl ?_
            exact ih_133 (v10_133 + 1) (v9_133 + 1) v9_133 v7_133 v6_133 v4_133 v3_133 hz_v6_133 h
set_option maxHeartbeats 4000000 in
set_option maxRecDepth 100000 in
theorem L_Mo_isFinite_34 (l : Launch) (D : va_G) (cI cB cJ cS : ClassId) (h0 : Nat) (am : Nat → Nat) (a_all_m4 : Nat) (p1 : Int32) (p2 : Int32) (known_h0 : Int32) (thrown_h0 : Int32) (wrong_h0 : Int32) (lastEnd_h0 : Int32) (at_h0 : Int32) (bad_h0 : Int32) (levels_h0 : Int32) (least_h0 : Int32) (found_h0 : Int32) (size_m4 : Int32) (n_a_all_m4 : Nat) (b_a_all_m4 : Nat → Int32) (n_m15 : Nat) (b_m15 : Nat → Int32) (ret : Int32) (p : Program) (e : Env) (s : State) (m : MethodId) (below : List Frame) (meth : Method) (c : Code) (hr : meth.sig.returnType = (Option.some Jvm.ClassFile.FieldType.boolean)) (hnm : meth.name = y_Mo_isFinite.name) : ∀ (k_34 : Nat) (v7_34 : Int32) (v6_34 : Int32) (v4_34 : Int64) (v3_34 : Int32) (hz_v6_34 : zb v6_34), F_Mo_isFinite_34 p1 p2 known_h0 thrown_h0 wrong_h0 lastEnd_h0 at_h0 bad_h0 levels_h0 least_h0 found_h0 size_m4 n_a_all_m4 b_a_all_m4 n_m15 b_m15  k_34 v7_34 v6_34 v4_34 v3_34 = some ret → J (KxOf p l e { frames := 3, cells := 0, slots := 0, locals := 64 } s m [.ref h0, .int p1, .int p2].toArray below meth c D (gT cI cB cJ cS) [(h0, .inr (9, moF am known_h0 thrown_h0 wrong_h0 lastEnd_h0 at_h0 bad_h0 levels_h0 least_h0 found_h0)), ((am 4), .inr (8, [.ref a_all_m4, .int size_m4])), (a_all_m4, .inl (cI, n_a_all_m4, .inl b_a_all_m4)), ((am 15), .inl (cI, n_m15, .inl b_m15))] (fun v w => v = some (.int ret) ∧ zb ret ∧ w = [(h0, .inr (9, moF am known_h0 thrown_h0 wrong_h0 lastEnd_h0 at_h0 bad_h0 levels_h0 least_h0 found_h0)), ((am 4), .inr (8, [.ref a_all_m4, .int size_m4])), (a_all_m4, .inl (cI, n_a_all_m4, .inl b_a_all_m4)), ((am 15), .inl (cI, n_m15, .inl b_m15))]) 0 0) prog_12_method_15_code 17 R_Mo 34 [(7, .int v7_34), (6, .int v6_34), (4, .long v4_34), (3, .int v3_34), (0, .ref h0), (1, .int p1), (2, .int p2)] [] [(h0, .inr (9, moF am known_h0 thrown_h0 wrong_h0 lastEnd_h0 at_h0 bad_h0 levels_h0 least_h0 found_h0)), ((am 4), .inr (8, [.ref a_all_m4, .int size_m4])), (a_all_m4, .inl (cI, n_a_all_m4, .inl b_a_all_m4)), ((am 15), .inl (cI, n_m15, .inl b_m15))] 0 0 := by
  intro k_34
  induction k_34 with
  | zero => intro v7_34 v6_34 v4_34 v3_34 hz_v6_34 h; rw [F_Mo_isFinite_34] at h; cases h
  | succ k_34 ih_34 =>
    intro v7_34 v6_34 v4_34 v3_34 hz_v6_34 h
    rw [F_Mo_isFinite_34] at h
    have L_61 : ∀ (t0_61 : Int32) (hz_t0_61 : zb t0_61), F_Mo_isFinite_61 known_h0 thrown_h0 wrong_h0 lastEnd_h0 at_h0 bad_h0 levels_h0 least_h0 found_h0 size_m4 n_a_all_m4 b_a_all_m4 v7_34 v4_34 v3_34 (F_Mo_isFinite_34 p1 p2 known_h0 thrown_h0 wrong_h0 lastEnd_h0 at_h0 bad_h0 levels_h0 least_h0 found_h0 size_m4 n_a_all_m4 b_a_all_m4 n_m15 b_m15  k_34)  t0_61 = some ret → J (KxOf p l e { frames := 3, cells := 0, slots := 0, locals := 64 } s m [.ref h0, .int p1, .int p2].toArray below meth c D (gT cI cB cJ cS) [(h0, .inr (9, moF am known_h0 thrown_h0 wrong_h0 lastEnd_h0 at_h0 bad_h0 levels_h0 least_h0 found_h0)), ((am 4), .inr (8, [.ref a_all_m4, .int size_m4])), (a_all_m4, .inl (cI, n_a_all_m4, .inl b_a_all_m4)), ((am 15), .inl (cI, n_m15, .inl b_m15))] (fun v w => v = some (.int ret) ∧ zb ret ∧ w = [(h0, .inr (9, moF am known_h0 thrown_h0 wrong_h0 lastEnd_h0 at_h0 bad_h0 levels_h0 least_h0 found_h0)), ((am 4), .inr (8, [.ref a_all_m4, .int size_m4])), (a_all_m4, .inl (cI, n_a_all_m4, .inl b_a_all_m4)), ((am 15), .inl (cI, n_m15, .inl b_m15))]) 0 0) prog_12_method_15_code 17 R_Mo 61 [(7, .int v7_34), (6, .int v6_34), (4, .long v4_34), (3, .int v3_34), (0, .ref h0), (1, .int p1), (2, .int p2)] [.int t0_61] [(h0, .inr (9, moF am known_h0 thrown_h0 wrong_h0 lastEnd_h0 at_h0 bad_h0 levels_h0 least_h0 found_h0)), ((am 4), .inr (8, [.ref a_all_m4, .int size_m4])), (a_all_m4, .inl (cI, n_a_all_m4, .inl b_a_all_m4)), ((am 15), .inl (cI, n_m15, .inl b_m15))] 0 0 := by
      clear h
      intro t0_61 hz_t0_61 h
      unfold F_Mo_isFinite_61 at h
      refine j_istore (lv' := [(6, .int t0_61), (7, .int v7_34), (4, .long v4_34), (3, .int v3_34), (0, .ref h0), (1, .int p1), (2, .int p2)]) d_Mo_isFinite_61 (by decide) rfl ?_
      refine j_aload_n d_Mo_isFinite_63 rfl 4 rfl ?_
      refine j_iload d_Mo_isFinite_64 1 rfl ?_
      replace h := bd_s h
      obtain ⟨r35, k36, h⟩ := h
      refine j_callV (n := 1) (As := [.int v7_34]) (rest := []) (wr := [((am 15), .inl (cI, n_m15, .inl b_m15))]) (c_Mo_letter l D cI cB cJ cS h0 am a_all_m4 v7_34 known_h0 thrown_h0 wrong_h0 lastEnd_h0 at_h0 bad_h0 levels_h0 least_h0 found_h0 size_m4 n_a_all_m4 b_a_all_m4  r35 k36) k_Mo_222 (by decide) ⟨Nat.le_of_ble_eq_true rfl, Nat.le_of_ble_eq_true rfl⟩ rfl 0 rfl [0, 1, 2] [3] rfl (by decide) rfl (by decide) (by decide) rfl rfl (Nat.le_of_ble_eq_true rfl) d_Mo_isFinite_66 ⟨Nat.le_of_ble_eq_true rfl, Nat.le_of_ble_eq_true rfl⟩ (fun v w hq => ?_)
      obtain ⟨rfl, rfl⟩ := hq
      refine j_norm (pc' := 69) (st' := [.int r35]) (ws' := [((am 15), .inl (cI, n_m15, .inl b_m15)), (h0, .inr (9, moF am known_h0 thrown_h0 wrong_h0 lastEnd_h0 at_h0 bad_h0 levels_h0 least_h0 found_h0)), ((am 4), .inr (8, [.ref a_all_m4, .int size_m4])), (a_all_m4, .inl (cI, n_a_all_m4, .inl b_a_all_m4))]) (cl' := 0) (sl' := 0) rfl rfl rfl rfl rfl rfl ?_
      obtain ⟨r37, k39⟩ : ∃ z, (F_Mo_isDigit r35) = z := ⟨_, rfl⟩
      replace h := nm_at k39 h
      refine j_callS (n := 1) (As := [.int r35]) (rest := []) (wr := [((am 15), .inl (cI, n_m15, .inl b_m15)), (h0, .inr (9, moF am known_h0 thrown_h0 wrong_h0 lastEnd_h0 at_h0 bad_h0 levels_h0 least_h0 found_h0)), ((am 4), .inr (8, [.ref a_all_m4, .int size_m4])), (a_all_m4, .inl (cI, n_a_all_m4, .inl b_a_all_m4))]) (c_Mo_isDigit l D cI cB cJ cS r35  r37 k39) k_Mo_225 (by decide) ⟨Nat.le_of_ble_eq_true rfl, Nat.le_of_ble_eq_true rfl⟩ [] [0, 1, 2, 3] rfl (by decide) rfl (by decide) (by decide) rfl rfl (Nat.le_of_ble_eq_true rfl) d_Mo_isFinite_69 ⟨Nat.le_of_ble_eq_true rfl, Nat.le_of_ble_eq_true rfl⟩ (fun v w hq => ?_)
      obtain ⟨rfl, z38, rfl⟩ := hq
      refine j_norm (pc' := 72) (st' := [.int r37]) (ws' := [((am 15), .inl (cI, n_m15, .inl b_m15)), (h0, .inr (9, moF am known_h0 thrown_h0 wrong_h0 lastEnd_h0 at_h0 bad_h0 levels_h0 least_h0 found_h0)), ((am 4), .inr (8, [.ref a_all_m4, .int size_m4])), (a_all_m4, .inl (cI, n_a_all_m4, .inl b_a_all_m4))]) (cl' := 0) (sl' := 0) rfl rfl rfl rfl rfl rfl ?_
      refine j_if_eq (tgt := 105) d_Mo_isFinite_72 (by decide) (fun c40 => ?_) (fun c40 => ?_)
      · replace h := it_t c40 h
        refine j_lload d_Mo_isFinite_105 2 rfl ?_
        refine j_lstore (lv' := [(4, .long v4_34), (6, .int t0_61), (7, .int v7_34), (3, .int v3_34), (0, .ref h0), (1, .int p1), (2, .int p2)]) d_Mo_isFinite_107 (by decide) rfl ?_
        refine j_iinc (v := v7_34 + 1) (lv' := [(7, .int (v7_34 + 1)), (4, .long v4_34), (6, .int t0_61), (3, .int v3_34), (0, .ref h0), (1, .int p1), (2, .int p2)]) d_Mo_isFinite_109 2 rfl rfl (by decide) rfl ?_
        refine j_goto (tgt := 34) d_Mo_isFinite_112 (by decide) ?_
        refine j_sub (w := [(h0, .inr (9, moF am known_h0 thrown_h0 wrong_h0 lastEnd_h0 at_h0 bad_h0 levels_h0 least_h0 found_h0)), ((am 4), .inr (8, [.ref a_all_m4, .int size_m4])), (a_all_m4, .inl (cI, n_a_all_m4, .inl b_a_all_m4)), ((am 15), .inl (cI, n_m15, .inl b_m15))]) (lv' := [(7, .int (v7_34 + 1)), (6, .int t0_61), (4, .long v4_34), (3, .int v3_34), (0, .ref h0), (1, .int p1), (2, .int p2)]) [1, 2, 3, 0] rfl (by decide) [0, 2, 1, 3, 4, 5, 6] rfl ?_
        exact ih_34 (v7_34 + 1) t0_61 v4_34 v3_34 hz_t0_61 h
      · replace h := it_f c40 h
        refine j_lload d_Mo_isFinite_75 2 rfl ?_
        refine j_ldc2 (v := 10000000) m_1312 d_Mo_isFinite_77 ?_
        refine j_lcmp d_Mo_isFinite_80 ?_
        refine j_if_ge (tgt := 105) d_Mo_isFinite_81 (by decide) (fun c41 => ?_) (fun c41 => ?_)
        · replace h := it_t c41 h
          refine j_lload d_Mo_isFinite_105 2 rfl ?_
          refine j_lstore (lv' := [(4, .long v4_34), (6, .int t0_61), (7, .int v7_34), (3, .int v3_34), (0, .ref h0), (1, .int p1), (2, .int p2)]) d_Mo_isFinite_107 (by decide) rfl ?_
          refine j_iinc (v := v7_34 + 1) (lv' := [(7, .int (v7_34 + 1)), (4, .long v4_34), (6, .int t0_61), (3, .int v3_34), (0, .ref h0), (1, .int p1), (2, .int p2)]) d_Mo_isFinite_109 2 rfl rfl (by decide) rfl ?_
          refine j_goto (tgt := 34) d_Mo_isFinite_112 (by decide) ?_
          refine j_sub (w := [(h0, .inr (9, moF am known_h0 thrown_h0 wrong_h0 lastEnd_h0 at_h0 bad_h0 levels_h0 least_h0 found_h0)), ((am 4), .inr (8, [.ref a_all_m4, .int size_m4])), (a_all_m4, .inl (cI, n_a_all_m4, .inl b_a_all_m4)), ((am 15), .inl (cI, n_m15, .inl b_m15))]) (lv' := [(7, .int (v7_34 + 1)), (6, .int t0_61), (4, .long v4_34), (3, .int v3_34), (0, .ref h0), (1, .int p1), (2, .int p2)]) [1, 2, 3, 0] rfl (by decide) [0, 2, 1, 3, 4, 5, 6] rfl ?_
          exact ih_34 (v7_34 + 1) t0_61 v4_34 v3_34 hz_t0_61 h
        · replace h := it_f c41 h
          refine j_ldc2 (v := 10) m_1313 d_Mo_isFinite_84 ?_
          refine j_lload d_Mo_isFinite_87 2 rfl ?_
          refine j_lmul d_Mo_isFinite_89 ?_
          refine j_aload_n d_Mo_isFinite_90 rfl 4 rfl ?_
          refine j_iload d_Mo_isFinite_91 1 rfl ?_
          replace h := bd_s h
          obtain ⟨r42, k43, h⟩ := h
          refine j_callV (n := 1) (As := [.int v7_34]) (rest := [.long (10 * v4_34)]) (wr := [((am 15), .inl (cI, n_m15, .inl b_m15))]) (c_Mo_letter l D cI cB cJ cS h0 am a_all_m4 v7_34 known_h0 thrown_h0 wrong_h0 lastEnd_h0 at_h0 bad_h0 levels_h0 least_h0 found_h0 size_m4 n_a_all_m4 b_a_all_m4  r42 k43) k_Mo_222 (by decide) ⟨Nat.le_of_ble_eq_true rfl, Nat.le_of_ble_eq_true rfl⟩ rfl 0 rfl [1, 2, 3] [0] rfl (by decide) rfl (by decide) (by decide) rfl rfl (Nat.le_of_ble_eq_true rfl) d_Mo_isFinite_93 ⟨Nat.le_of_ble_eq_true rfl, Nat.le_of_ble_eq_true rfl⟩ (fun v w hq => ?_)
          obtain ⟨rfl, rfl⟩ := hq
          refine j_norm (pc' := 96) (st' := [.int r42, .long (10 * v4_34)]) (ws' := [((am 15), .inl (cI, n_m15, .inl b_m15)), (h0, .inr (9, moF am known_h0 thrown_h0 wrong_h0 lastEnd_h0 at_h0 bad_h0 levels_h0 least_h0 found_h0)), ((am 4), .inr (8, [.ref a_all_m4, .int size_m4])), (a_all_m4, .inl (cI, n_a_all_m4, .inl b_a_all_m4))]) (cl' := 0) (sl' := 0) rfl rfl rfl rfl rfl rfl ?_
          refine j_i2l d_Mo_isFinite_96 ?_
          refine j_ladd d_Mo_isFinite_97 ?_
          refine j_ldc2 (v := 48) m_1314 d_Mo_isFinite_98 ?_
          refine j_lsub d_Mo_isFinite_101 ?_
          refine j_goto (tgt := 107) d_Mo_isFinite_102 (by decide) ?_
          refine j_lstore (lv' := [(4, .long (((10 * v4_34) + r42.toInt64) - 48)), (6, .int t0_61), (7, .int v7_34), (3, .int v3_34), (0, .ref h0), (1, .int p1), (2, .int p2)]) d_Mo_isFinite_107 (by decide) rfl ?_
          refine j_iinc (v := v7_34 + 1) (lv' := [(7, .int (v7_34 + 1)), (4, .long (((10 * v4_34) + r42.toInt64) - 48)), (6, .int t0_61), (3, .int v3_34), (0, .ref h0), (1, .int p1), (2, .int p2)]) d_Mo_isFinite_109 2 rfl rfl (by decide) rfl ?_
          refine j_goto (tgt := 34) d_Mo_isFinite_112 (by decide) ?_
          refine j_sub (w := [(h0, .inr (9, moF am known_h0 thrown_h0 wrong_h0 lastEnd_h0 at_h0 bad_h0 levels_h0 least_h0 found_h0)), ((am 4), .inr (8, [.ref a_all_m4, .int size_m4])), (a_all_m4, .inl (cI, n_a_all_m4, .inl b_a_all_m4)), ((am 15), .inl (cI, n_m15, .inl b_m15))]) (lv' := [(7, .int (v7_34 + 1)), (6, .int t0_61), (4, .long (((10 * v4_34) + r42.toInt64) - 48)), (3, .int v3_34), (0, .ref h0), (1, .int p1), (2, .int p2)]) [1, 2, 3, 0] rfl (by decide) [0, 2, 1, 3, 4, 5, 6] rfl ?_
          exact ih_34 (v7_34 + 1) t0_61 (((10 * v4_34) + r42.toInt64) - 48) v3_34 hz_t0_61 h
    refine j_iload d_Mo_isFinite_34 0 rfl ?_
    refine j_iload_n d_Mo_isFinite_36 rfl 6 rfl ?_
    refine j_icmp_ge (tgt := 115) d_Mo_isFinite_37 (by decide) (fun c44 => ?_) (fun c44 => ?_)
    · replace h := it_t c44 h
      refine j_aload_n d_Mo_isFinite_115 rfl 4 rfl ?_
      refine j_iload_n d_Mo_isFinite_116 rfl 5 rfl ?_
      replace h := bd_s h
      obtain ⟨r45, k46, h⟩ := h
      refine j_callV (n := 1) (As := [.int p1]) (rest := []) (wr := [((am 15), .inl (cI, n_m15, .inl b_m15))]) (c_Mo_digitsEnd l D cI cB cJ cS h0 am a_all_m4 p1 known_h0 thrown_h0 wrong_h0 lastEnd_h0 at_h0 bad_h0 levels_h0 least_h0 found_h0 size_m4 n_a_all_m4 b_a_all_m4  r45 k46) k_Mo_228 (by decide) ⟨Nat.le_of_ble_eq_true rfl, Nat.le_of_ble_eq_true rfl⟩ rfl 0 rfl [0, 1, 2] [3] rfl (by decide) rfl (by decide) (by decide) rfl rfl (Nat.le_of_ble_eq_true rfl) d_Mo_isFinite_117 ⟨Nat.le_of_ble_eq_true rfl, Nat.le_of_ble_eq_true rfl⟩ (fun v w hq => ?_)
      obtain ⟨rfl, rfl⟩ := hq
      refine j_norm (pc' := 120) (st' := [.int r45]) (ws' := [((am 15), .inl (cI, n_m15, .inl b_m15)), (h0, .inr (9, moF am known_h0 thrown_h0 wrong_h0 lastEnd_h0 at_h0 bad_h0 levels_h0 least_h0 found_h0)), ((am 4), .inr (8, [.ref a_all_m4, .int size_m4])), (a_all_m4, .inl (cI, n_a_all_m4, .inl b_a_all_m4))]) (cl' := 0) (sl' := 0) rfl rfl rfl rfl rfl rfl ?_
      refine j_iload_n d_Mo_isFinite_120 rfl 5 rfl ?_
      refine j_isub d_Mo_isFinite_121 ?_
      refine j_istore (lv' := [(7, .int (r45 - p1)), (6, .int v6_34), (4, .long v4_34), (3, .int v3_34), (0, .ref h0), (1, .int p1), (2, .int p2)]) d_Mo_isFinite_122 (by decide) rfl ?_
      refine j_iconst (v := (-1)) d_Mo_isFinite_124 (by decide) ?_
      refine j_istore (lv' := [(8, .int (-1)), (7, .int (r45 - p1)), (6, .int v6_34), (4, .long v4_34), (3, .int v3_34), (0, .ref h0), (1, .int p1), (2, .int p2)]) d_Mo_isFinite_125 (by decide) rfl ?_
      refine j_iconst (v := 0) d_Mo_isFinite_127 (by decide) ?_
      refine j_istore (lv' := [(9, .int 0), (8, .int (-1)), (7, .int (r45 - p1)), (6, .int v6_34), (4, .long v4_34), (3, .int v3_34), (0, .ref h0), (1, .int p1), (2, .int p2)]) d_Mo_isFinite_128 (by decide) rfl ?_
      refine j_iload_n d_Mo_isFinite_130 rfl 7 rfl ?_
      refine j_istore (lv' := [(10, .int p1), (9, .int 0), (8, .int (-1)), (7, .int (r45 - p1)), (6, .int v6_34), (4, .long v4_34), (3, .int v3_34), (0, .ref h0), (1, .int p1), (2, .int p2)]) d_Mo_isFinite_131 (by decide) rfl ?_
      refine j_sub (w := [((am 15), .inl (cI, n_m15, .inl b_m15)), (h0, .inr (9, moF am known_h0 thrown_h0 wrong_h0 lastEnd_h0 at_h0 bad_h0 levels_h0 least_h0 found_h0)), ((am 4), .inr (8, [.ref a_all_m4, .int size_m4])), (a_all_m4, .inl (cI, n_a_all_m4, .inl b_a_all_m4))]) (lv' := [(10, .int p1), (9, .int 0), (8, .int (-1)), (7, .int (r45 - p1)), (6, .int v6_34), (4, .long v4_34), (3, .int v3_34), (0, .ref h0), (1, .int p1), (2, .int p2)]) [0, 1, 2, 3] rfl (by decide) [0, 1, 2, 3, 4, 5, 6, 7, 8, 9] rfl ?_
      exact L_Mo_isFinite_133 l D cI cB cJ cS h0 am a_all_m4 p1 p2 known_h0 thrown_h0 wrong_h0 lastEnd_h0 at_h0 bad_h0 levels_h0 least_h0 found_h0 size_m4 n_a_all_m4 b_a_all_m4 n_m15 b_m15 ret p e s m below meth c hr hnm FU p1 0 (-1) (r45 - p1) v6_34 v4_34 v3_34 hz_v6_34 h
    · replace h := it_f c44 h
      refine j_iload d_Mo_isFinite_40 1 rfl ?_
      refine j_if_ne (tgt := 56) d_Mo_isFinite_42 (by decide) (fun c47 => ?_) (fun c47 => ?_)
      · replace h := it_f c47 h
        refine j_iconst (v := 1) d_Mo_isFinite_56 (by decide) ?_
        refine j_goto (tgt := 61) d_Mo_isFinite_57 (by decide) ?_
        refine j_sub (w := [(h0, .inr (9, moF am known_h0 thrown_h0 wrong_h0 lastEnd_h0 at_h0 bad_h0 levels_h0 least_h0 found_h0)), ((am 4), .inr (8, [.ref a_all_m4, .int size_m4])), (a_all_m4, .inl (cI, n_a_all_m4, .inl b_a_all_m4)), ((am 15), .inl (cI, n_m15, .inl b_m15))]) (lv' := [(7, .int v7_34), (6, .int v6_34), (4, .long v4_34), (3, .int v3_34), (0, .ref h0), (1, .int p1), (2, .int p2)]) [0, 1, 2, 3] rfl (by decide) [0, 1, 2, 3, 4, 5, 6] rfl ?_
        exact L_61 1 zb1 h
      · replace h := it_t c47 h
        refine j_aload_n d_Mo_isFinite_45 rfl 4 rfl ?_
        refine j_iload d_Mo_isFinite_46 0 rfl ?_
        replace h := bd_s h
        obtain ⟨r48, k49, h⟩ := h
        refine j_callV (n := 1) (As := [.int v7_34]) (rest := []) (wr := [((am 15), .inl (cI, n_m15, .inl b_m15))]) (c_Mo_letter l D cI cB cJ cS h0 am a_all_m4 v7_34 known_h0 thrown_h0 wrong_h0 lastEnd_h0 at_h0 bad_h0 levels_h0 least_h0 found_h0 size_m4 n_a_all_m4 b_a_all_m4  r48 k49) k_Mo_222 (by decide) ⟨Nat.le_of_ble_eq_true rfl, Nat.le_of_ble_eq_true rfl⟩ rfl 0 rfl [0, 1, 2] [3] rfl (by decide) rfl (by decide) (by decide) rfl rfl (Nat.le_of_ble_eq_true rfl) d_Mo_isFinite_48 ⟨Nat.le_of_ble_eq_true rfl, Nat.le_of_ble_eq_true rfl⟩ (fun v w hq => ?_)
        obtain ⟨rfl, rfl⟩ := hq
        refine j_norm (pc' := 51) (st' := [.int r48]) (ws' := [((am 15), .inl (cI, n_m15, .inl b_m15)), (h0, .inr (9, moF am known_h0 thrown_h0 wrong_h0 lastEnd_h0 at_h0 bad_h0 levels_h0 least_h0 found_h0)), ((am 4), .inr (8, [.ref a_all_m4, .int size_m4])), (a_all_m4, .inl (cI, n_a_all_m4, .inl b_a_all_m4))]) (cl' := 0) (sl' := 0) rfl rfl rfl rfl rfl rfl ?_
        refine j_bipush (v := 45) d_Mo_isFinite_51 (by decide) ?_
        refine j_icmp_ne (tgt := 60) d_Mo_isFinite_53 (by decide) (fun c50 => ?_) (fun c50 => ?_)
        · replace h := it_f c50 h
          refine j_iconst (v := 0) d_Mo_isFinite_60 (by decide) ?_
          refine j_sub (w := [(h0, .inr (9, moF am known_h0 thrown_h0 wrong_h0 lastEnd_h0 at_h0 bad_h0 levels_h0 least_h0 found_h0)), ((am 4), .inr (8, [.ref a_all_m4, .int size_m4])), (a_all_m4, .inl (cI, n_a_all_m4, .inl b_a_all_m4)), ((am 15), .inl (cI, n_m15, .inl b_m15))]) (lv' := [(7, .int v7_34), (6, .int v6_34), (4, .long v4_34), (3, .int v3_34), (0, .ref h0), (1, .int p1), (2, .int p2)]) [1, 2, 3, 0] rfl (by decide) [0, 1, 2, 3, 4, 5, 6] rfl ?_
          exact L_61 0 zb0 h
        · replace h := it_t c50 h
          refine j_iconst (v := 1) d_Mo_isFinite_56 (by decide) ?_
          refine j_goto (tgt := 61) d_Mo_isFinite_57 (by decide) ?_
          refine j_sub (w := [(h0, .inr (9, moF am known_h0 thrown_h0 wrong_h0 lastEnd_h0 at_h0 bad_h0 levels_h0 least_h0 found_h0)), ((am 4), .inr (8, [.ref a_all_m4, .int size_m4])), (a_all_m4, .inl (cI, n_a_all_m4, .inl b_a_all_m4)), ((am 15), .inl (cI, n_m15, .inl b_m15))]) (lv' := [(7, .int v7_34), (6, .int v6_34), (4, .long v4_34), (3, .int v3_34), (0, .ref h0), (1, .int p1), (2, .int p2)]) [1, 2, 3, 0] rfl (by decide) [0, 1, 2, 3, 4, 5, 6] rfl ?_
          exact L_61 1 zb1 h
set_option maxHeartbeats 4000000 in
set_option maxRecDepth 100000 in
theorem L_Mo_isFinite_2 (l : Launch) (D : va_G) (cI cB cJ cS : ClassId) (h0 : Nat) (am : Nat → Nat) (a_all_m4 : Nat) (p1 : Int32) (p2 : Int32) (known_h0 : Int32) (thrown_h0 : Int32) (wrong_h0 : Int32) (lastEnd_h0 : Int32) (at_h0 : Int32) (bad_h0 : Int32) (levels_h0 : Int32) (least_h0 : Int32) (found_h0 : Int32) (size_m4 : Int32) (n_a_all_m4 : Nat) (b_a_all_m4 : Nat → Int32) (n_m15 : Nat) (b_m15 : Nat → Int32) (ret : Int32) (p : Program) (e : Env) (s : State) (m : MethodId) (below : List Frame) (meth : Method) (c : Code) (hr : meth.sig.returnType = (Option.some Jvm.ClassFile.FieldType.boolean)) (hnm : meth.name = y_Mo_isFinite.name) : ∀ (k_2 : Nat) (v3_2 : Int32), F_Mo_isFinite_2 p1 p2 known_h0 thrown_h0 wrong_h0 lastEnd_h0 at_h0 bad_h0 levels_h0 least_h0 found_h0 size_m4 n_a_all_m4 b_a_all_m4 n_m15 b_m15  k_2 v3_2 = some ret → J (KxOf p l e { frames := 3, cells := 0, slots := 0, locals := 64 } s m [.ref h0, .int p1, .int p2].toArray below meth c D (gT cI cB cJ cS) [(h0, .inr (9, moF am known_h0 thrown_h0 wrong_h0 lastEnd_h0 at_h0 bad_h0 levels_h0 least_h0 found_h0)), ((am 4), .inr (8, [.ref a_all_m4, .int size_m4])), (a_all_m4, .inl (cI, n_a_all_m4, .inl b_a_all_m4)), ((am 15), .inl (cI, n_m15, .inl b_m15))] (fun v w => v = some (.int ret) ∧ zb ret ∧ w = [(h0, .inr (9, moF am known_h0 thrown_h0 wrong_h0 lastEnd_h0 at_h0 bad_h0 levels_h0 least_h0 found_h0)), ((am 4), .inr (8, [.ref a_all_m4, .int size_m4])), (a_all_m4, .inl (cI, n_a_all_m4, .inl b_a_all_m4)), ((am 15), .inl (cI, n_m15, .inl b_m15))]) 0 0) prog_12_method_15_code 17 R_Mo 2 [(3, .int v3_2), (0, .ref h0), (1, .int p1), (2, .int p2)] [] [(h0, .inr (9, moF am known_h0 thrown_h0 wrong_h0 lastEnd_h0 at_h0 bad_h0 levels_h0 least_h0 found_h0)), ((am 4), .inr (8, [.ref a_all_m4, .int size_m4])), (a_all_m4, .inl (cI, n_a_all_m4, .inl b_a_all_m4)), ((am 15), .inl (cI, n_m15, .inl b_m15))] 0 0 := by
  intro k_2
  induction k_2 with
  | zero => intro v3_2 h; rw [F_Mo_isFinite_2] at h; cases h
  | succ k_2 ih_2 =>
    intro v3_2 h
    rw [F_Mo_isFinite_2] at h
    refine j_iload_n d_Mo_isFinite_2 rfl 0 rfl ?_
    refine j_iload_n d_Mo_isFinite_3 rfl 3 rfl ?_
    refine j_icmp_ge (tgt := 23) d_Mo_isFinite_4 (by decide) (fun c51 => ?_) (fun c51 => ?_)
    · replace h := it_t c51 h
      refine j_lconst (v := 0) d_Mo_isFinite_23 (by decide) ?_
      refine j_lstore (lv' := [(4, .long 0), (3, .int v3_2), (0, .ref h0), (1, .int p1), (2, .int p2)]) d_Mo_isFinite_24 (by decide) rfl ?_
      refine j_iconst (v := 0) d_Mo_isFinite_26 (by decide) ?_
      refine j_istore (lv' := [(6, .int 0), (4, .long 0), (3, .int v3_2), (0, .ref h0), (1, .int p1), (2, .int p2)]) d_Mo_isFinite_27 (by decide) rfl ?_
      refine j_iload_n d_Mo_isFinite_29 rfl 2 rfl ?_
      refine j_iconst (v := 1) d_Mo_isFinite_30 (by decide) ?_
      refine j_iadd d_Mo_isFinite_31 ?_
      refine j_istore (lv' := [(7, .int (v3_2 + 1)), (6, .int 0), (4, .long 0), (3, .int v3_2), (0, .ref h0), (1, .int p1), (2, .int p2)]) d_Mo_isFinite_32 (by decide) rfl ?_
      refine j_sub (w := [(h0, .inr (9, moF am known_h0 thrown_h0 wrong_h0 lastEnd_h0 at_h0 bad_h0 levels_h0 least_h0 found_h0)), ((am 4), .inr (8, [.ref a_all_m4, .int size_m4])), (a_all_m4, .inl (cI, n_a_all_m4, .inl b_a_all_m4)), ((am 15), .inl (cI, n_m15, .inl b_m15))]) (lv' := [(7, .int (v3_2 + 1)), (6, .int 0), (4, .long 0), (3, .int v3_2), (0, .ref h0), (1, .int p1), (2, .int p2)]) [0, 1, 2, 3] rfl (by decide) [0, 1, 2, 3, 4, 5, 6] rfl ?_
      exact L_Mo_isFinite_34 l D cI cB cJ cS h0 am a_all_m4 p1 p2 known_h0 thrown_h0 wrong_h0 lastEnd_h0 at_h0 bad_h0 levels_h0 least_h0 found_h0 size_m4 n_a_all_m4 b_a_all_m4 n_m15 b_m15 ret p e s m below meth c hr hnm FU (v3_2 + 1) 0 0 v3_2 zb0 h
    · replace h := it_f c51 h
      refine j_aload_n d_Mo_isFinite_7 rfl 1 rfl ?_
      refine j_iload_n d_Mo_isFinite_8 rfl 0 rfl ?_
      replace h := bd_s h
      obtain ⟨r52, k53, h⟩ := h
      refine j_callV (n := 1) (As := [.int v3_2]) (rest := []) (wr := [((am 15), .inl (cI, n_m15, .inl b_m15))]) (c_Mo_letter l D cI cB cJ cS h0 am a_all_m4 v3_2 known_h0 thrown_h0 wrong_h0 lastEnd_h0 at_h0 bad_h0 levels_h0 least_h0 found_h0 size_m4 n_a_all_m4 b_a_all_m4  r52 k53) k_Mo_222 (by decide) ⟨Nat.le_of_ble_eq_true rfl, Nat.le_of_ble_eq_true rfl⟩ rfl 0 rfl [0, 1, 2] [3] rfl (by decide) rfl (by decide) (by decide) rfl rfl (Nat.le_of_ble_eq_true rfl) d_Mo_isFinite_9 ⟨Nat.le_of_ble_eq_true rfl, Nat.le_of_ble_eq_true rfl⟩ (fun v w hq => ?_)
      obtain ⟨rfl, rfl⟩ := hq
      refine j_norm (pc' := 12) (st' := [.int r52]) (ws' := [((am 15), .inl (cI, n_m15, .inl b_m15)), (h0, .inr (9, moF am known_h0 thrown_h0 wrong_h0 lastEnd_h0 at_h0 bad_h0 levels_h0 least_h0 found_h0)), ((am 4), .inr (8, [.ref a_all_m4, .int size_m4])), (a_all_m4, .inl (cI, n_a_all_m4, .inl b_a_all_m4))]) (cl' := 0) (sl' := 0) rfl rfl rfl rfl rfl rfl ?_
      refine j_bipush (v := 101) d_Mo_isFinite_12 (by decide) ?_
      refine j_icmp_eq (tgt := 23) d_Mo_isFinite_14 (by decide) (fun c54 => ?_) (fun c54 => ?_)
      · replace h := it_t c54 h
        refine j_lconst (v := 0) d_Mo_isFinite_23 (by decide) ?_
        refine j_lstore (lv' := [(4, .long 0), (3, .int v3_2), (0, .ref h0), (1, .int p1), (2, .int p2)]) d_Mo_isFinite_24 (by decide) rfl ?_
        refine j_iconst (v := 0) d_Mo_isFinite_26 (by decide) ?_
        refine j_istore (lv' := [(6, .int 0), (4, .long 0), (3, .int v3_2), (0, .ref h0), (1, .int p1), (2, .int p2)]) d_Mo_isFinite_27 (by decide) rfl ?_
        refine j_iload_n d_Mo_isFinite_29 rfl 2 rfl ?_
        refine j_iconst (v := 1) d_Mo_isFinite_30 (by decide) ?_
        refine j_iadd d_Mo_isFinite_31 ?_
        refine j_istore (lv' := [(7, .int (v3_2 + 1)), (6, .int 0), (4, .long 0), (3, .int v3_2), (0, .ref h0), (1, .int p1), (2, .int p2)]) d_Mo_isFinite_32 (by decide) rfl ?_
        refine j_sub (w := [(h0, .inr (9, moF am known_h0 thrown_h0 wrong_h0 lastEnd_h0 at_h0 bad_h0 levels_h0 least_h0 found_h0)), ((am 4), .inr (8, [.ref a_all_m4, .int size_m4])), (a_all_m4, .inl (cI, n_a_all_m4, .inl b_a_all_m4)), ((am 15), .inl (cI, n_m15, .inl b_m15))]) (lv' := [(7, .int (v3_2 + 1)), (6, .int 0), (4, .long 0), (3, .int v3_2), (0, .ref h0), (1, .int p1), (2, .int p2)]) [1, 2, 3, 0] rfl (by decide) [0, 1, 2, 3, 4, 5, 6] rfl ?_
        exact L_Mo_isFinite_34 l D cI cB cJ cS h0 am a_all_m4 p1 p2 known_h0 thrown_h0 wrong_h0 lastEnd_h0 at_h0 bad_h0 levels_h0 least_h0 found_h0 size_m4 n_a_all_m4 b_a_all_m4 n_m15 b_m15 ret p e s m below meth c hr hnm FU (v3_2 + 1) 0 0 v3_2 zb0 h
      · replace h := it_f c54 h
        refine j_iinc (v := v3_2 + 1) (lv' := [(3, .int (v3_2 + 1)), (0, .ref h0), (1, .int p1), (2, .int p2)]) d_Mo_isFinite_17 0 rfl rfl (by decide) rfl ?_
        refine j_goto (tgt := 2) d_Mo_isFinite_20 (by decide) ?_
        refine j_sub (w := [(h0, .inr (9, moF am known_h0 thrown_h0 wrong_h0 lastEnd_h0 at_h0 bad_h0 levels_h0 least_h0 found_h0)), ((am 4), .inr (8, [.ref a_all_m4, .int size_m4])), (a_all_m4, .inl (cI, n_a_all_m4, .inl b_a_all_m4)), ((am 15), .inl (cI, n_m15, .inl b_m15))]) (lv' := [(3, .int (v3_2 + 1)), (0, .ref h0), (1, .int p1), (2, .int p2)]) [1, 2, 3, 0] rfl (by decide) [0, 1, 2, 3] rfl ?_
        exact ih_2 (v3_2 + 1) h
set_option maxHeartbeats 4000000 in
set_option maxRecDepth 100000 in
theorem c_Mo_isFinite (l : Launch) (D : va_G) (cI cB cJ cS : ClassId) (h0 : Nat) (am : Nat → Nat) (a_all_m4 : Nat) (p1 : Int32) (p2 : Int32) (known_h0 : Int32) (thrown_h0 : Int32) (wrong_h0 : Int32) (lastEnd_h0 : Int32) (at_h0 : Int32) (bad_h0 : Int32) (levels_h0 : Int32) (least_h0 : Int32) (found_h0 : Int32) (size_m4 : Int32) (n_a_all_m4 : Nat) (b_a_all_m4 : Nat → Int32) (n_m15 : Nat) (b_m15 : Nat → Int32) (ret : Int32) (h : F_Mo_isFinite p1 p2 known_h0 thrown_h0 wrong_h0 lastEnd_h0 at_h0 bad_h0 levels_h0 least_h0 found_h0 size_m4 n_a_all_m4 b_a_all_m4 n_m15 b_m15 = some ret) : Ct l D (gT cI cB cJ cS) y_Mo_isFinite prog_12_method_15_code 17 (Option.some Jvm.ClassFile.FieldType.boolean) 3 64 0 0 [.ref h0, .int p1, .int p2] [(h0, .inr (9, moF am known_h0 thrown_h0 wrong_h0 lastEnd_h0 at_h0 bad_h0 levels_h0 least_h0 found_h0)), ((am 4), .inr (8, [.ref a_all_m4, .int size_m4])), (a_all_m4, .inl (cI, n_a_all_m4, .inl b_a_all_m4)), ((am 15), .inl (cI, n_m15, .inl b_m15))] (fun v w => v = some (.int ret) ∧ zb ret ∧ w = [(h0, .inr (9, moF am known_h0 thrown_h0 wrong_h0 lastEnd_h0 at_h0 bad_h0 levels_h0 least_h0 found_h0)), ((am 4), .inr (8, [.ref a_all_m4, .int size_m4])), (a_all_m4, .inl (cI, n_a_all_m4, .inl b_a_all_m4)), ((am 15), .inl (cI, n_m15, .inl b_m15))]) := by
  refine Ct.mk (by decide) (Nat.le_of_ble_eq_true rfl) ?_
  intro p e s m below meth c hr hnm
  refine j_norm (pc' := 0) (lv' := [(0, .ref h0), (1, .int p1), (2, .int p2)]) (st' := []) (ws' := [(h0, .inr (9, moF am known_h0 thrown_h0 wrong_h0 lastEnd_h0 at_h0 bad_h0 levels_h0 least_h0 found_h0)), ((am 4), .inr (8, [.ref a_all_m4, .int size_m4])), (a_all_m4, .inl (cI, n_a_all_m4, .inl b_a_all_m4)), ((am 15), .inl (cI, n_m15, .inl b_m15))]) (cl' := 0) (sl' := 0) rfl rfl rfl rfl rfl rfl ?_
  unfold F_Mo_isFinite at h
  refine j_iload_n d_Mo_isFinite_0 rfl 1 rfl ?_
  refine j_istore_n (lv' := [(3, .int p1), (0, .ref h0), (1, .int p1), (2, .int p2)]) d_Mo_isFinite_1 rfl (by decide) rfl ?_
  refine j_sub (w := [(h0, .inr (9, moF am known_h0 thrown_h0 wrong_h0 lastEnd_h0 at_h0 bad_h0 levels_h0 least_h0 found_h0)), ((am 4), .inr (8, [.ref a_all_m4, .int size_m4])), (a_all_m4, .inl (cI, n_a_all_m4, .inl b_a_all_m4)), ((am 15), .inl (cI, n_m15, .inl b_m15))]) (lv' := [(3, .int p1), (0, .ref h0), (1, .int p1), (2, .int p2)]) [0, 1, 2, 3] rfl (by decide) [0, 1, 2, 3] rfl ?_
  exact L_Mo_isFinite_2 l D cI cB cJ cS h0 am a_all_m4 p1 p2 known_h0 thrown_h0 wrong_h0 lastEnd_h0 at_h0 bad_h0 levels_h0 least_h0 found_h0 size_m4 n_a_all_m4 b_a_all_m4 n_m15 b_m15 ret p e s m below meth c hr hnm FU p1 h
def F_Mo_token_359 (v4_359 : Int32) (v3_359 : Int32) (v2_359 : Int32) (t0_359 : Int32) (f3_16_359 : Int32) : Option (Int32 × Int32) :=
    if 0 ≤ v3_359 then (some (30 + v3_359, t0_359))
    else (some (1, t0_359))
def F_Mo_token_273 (p1 : Int32) (known_h0 : Int32) (thrown_h0 : Int32) (wrong_h0 : Int32) (at_h0 : Int32) (bad_h0 : Int32) (levels_h0 : Int32) (least_h0 : Int32) (found_h0 : Int32) (size_m4 : Int32) (n_a_all_m4 : Nat) (b_a_all_m4 : Nat → Int32) : Nat → Int32 → Int32 → Int32 → Int32 → Option (Int32 × Int32)
  | 0, _, _, _, _ => none
  | k_273 + 1, v4_273, v3_273, v2_273, f3_16_273 =>
    if (nI 27) ≤ v4_273 then (if 0 ≤ v3_273 then (inb v3_273 27 (sin (54 + Int32.toNatClampNeg v3_273) (F_Mo_token_359    v4_273 v3_273 v2_273 (p1 + (nI (gB (54 + Int32.toNatClampNeg v3_273)).length)) f3_16_273)))
      else (F_Mo_token_359    v4_273 v3_273 v2_273 (p1 + 1) f3_16_273))
    else (inb v4_273 27 (Option.bind (F_Mo_stands (54 + Int32.toNatClampNeg v4_273) p1 known_h0 thrown_h0 wrong_h0 f3_16_273 at_h0 bad_h0 levels_h0 least_h0 found_h0 size_m4 n_a_all_m4 b_a_all_m4) fun r8 =>
      if r8 = 0 then (F_Mo_token_273 p1 known_h0 thrown_h0 wrong_h0 at_h0 bad_h0 levels_h0 least_h0 found_h0 size_m4 n_a_all_m4 b_a_all_m4  k_273 (v4_273 + 1) v3_273 v2_273 f3_16_273)
      else if v3_273 < 0 then (F_Mo_token_273 p1 known_h0 thrown_h0 wrong_h0 at_h0 bad_h0 levels_h0 least_h0 found_h0 size_m4 n_a_all_m4 b_a_all_m4  k_273 (v4_273 + 1) v4_273 v2_273 f3_16_273)
      else (inb v4_273 27 (sin (54 + Int32.toNatClampNeg v4_273) (inb v3_273 27 (sin (54 + Int32.toNatClampNeg v3_273) (if (nI (gB (54 + Int32.toNatClampNeg v4_273)).length) ≤ (nI (gB (54 + Int32.toNatClampNeg v3_273)).length) then (F_Mo_token_273 p1 known_h0 thrown_h0 wrong_h0 at_h0 bad_h0 levels_h0 least_h0 found_h0 size_m4 n_a_all_m4 b_a_all_m4  k_273 (v4_273 + 1) v3_273 v2_273 f3_16_273)
        else (F_Mo_token_273 p1 known_h0 thrown_h0 wrong_h0 at_h0 bad_h0 levels_h0 least_h0 found_h0 size_m4 n_a_all_m4 b_a_all_m4  k_273 (v4_273 + 1) v4_273 v2_273 f3_16_273))))))))
def F_Mo_token_234 (p1 : Int32) (known_h0 : Int32) (thrown_h0 : Int32) (wrong_h0 : Int32) (at_h0 : Int32) (bad_h0 : Int32) (levels_h0 : Int32) (least_h0 : Int32) (found_h0 : Int32) (size_m4 : Int32) (n_a_all_m4 : Nat) (b_a_all_m4 : Nat → Int32) (v3_234 : Int32) (v2_234 : Int32) (f3_16_234 : Int32) : Option (Int32 × Int32) :=
    Option.bind (F_Mo_letter v3_234 known_h0 thrown_h0 wrong_h0 (v3_234 + 1) at_h0 bad_h0 levels_h0 least_h0 found_h0 size_m4 n_a_all_m4 b_a_all_m4) fun r20 =>
    if r20 = 34 then (if 4096 < ((v3_234 - p1) - 1) then (some (1, (v3_234 + 1)))
      else (some (4, (v3_234 + 1))))
    else (some (1, (v3_234 + 1)))
def F_Mo_token_198 (p1 : Int32) (known_h0 : Int32) (thrown_h0 : Int32) (wrong_h0 : Int32) (at_h0 : Int32) (bad_h0 : Int32) (levels_h0 : Int32) (least_h0 : Int32) (found_h0 : Int32) (size_m4 : Int32) (n_a_all_m4 : Nat) (b_a_all_m4 : Nat → Int32) : Nat → Int32 → Int32 → Int32 → Option (Int32 × Int32)
  | 0, _, _, _ => none
  | k_198 + 1, v3_198, v2_198, f3_16_198 =>
    Option.bind (F_Mo_letter v3_198 known_h0 thrown_h0 wrong_h0 f3_16_198 at_h0 bad_h0 levels_h0 least_h0 found_h0 size_m4 n_a_all_m4 b_a_all_m4) fun r24 =>
    if r24 < 32 then (F_Mo_token_234 p1 known_h0 thrown_h0 wrong_h0 at_h0 bad_h0 levels_h0 least_h0 found_h0 size_m4 n_a_all_m4 b_a_all_m4   v3_198 v2_198 f3_16_198)
    else (Option.bind (F_Mo_letter v3_198 known_h0 thrown_h0 wrong_h0 f3_16_198 at_h0 bad_h0 levels_h0 least_h0 found_h0 size_m4 n_a_all_m4 b_a_all_m4) fun r27 =>
      if 126 < r27 then (F_Mo_token_234 p1 known_h0 thrown_h0 wrong_h0 at_h0 bad_h0 levels_h0 least_h0 found_h0 size_m4 n_a_all_m4 b_a_all_m4   v3_198 v2_198 f3_16_198)
      else (Option.bind (F_Mo_letter v3_198 known_h0 thrown_h0 wrong_h0 f3_16_198 at_h0 bad_h0 levels_h0 least_h0 found_h0 size_m4 n_a_all_m4 b_a_all_m4) fun r30 =>
        if r30 = 34 then (F_Mo_token_234 p1 known_h0 thrown_h0 wrong_h0 at_h0 bad_h0 levels_h0 least_h0 found_h0 size_m4 n_a_all_m4 b_a_all_m4   v3_198 v2_198 f3_16_198)
        else (F_Mo_token_198 p1 known_h0 thrown_h0 wrong_h0 at_h0 bad_h0 levels_h0 least_h0 found_h0 size_m4 n_a_all_m4 b_a_all_m4  k_198 (v3_198 + 1) v2_198 f3_16_198)))
def F_Mo_token_86 (p1 : Int32) (known_h0 : Int32) (thrown_h0 : Int32) (wrong_h0 : Int32) (at_h0 : Int32) (bad_h0 : Int32) (levels_h0 : Int32) (least_h0 : Int32) (found_h0 : Int32) (size_m4 : Int32) (n_a_all_m4 : Nat) (b_a_all_m4 : Nat → Int32) : Nat → Int32 → Int32 → Int32 → Int32 → Option (Int32 × Int32)
  | 0, _, _, _, _ => none
  | k_86 + 1, v4_86, v3_86, v2_86, f3_16_86 =>
    if (nI 14) ≤ v4_86 then (if (v3_86 - p1) ≤ 255 then (some (2, f3_16_86))
      else (some (1, f3_16_86)))
    else (inb v4_86 14 (sin (40 + Int32.toNatClampNeg v4_86) (if (nI (gB (40 + Int32.toNatClampNeg v4_86)).length) = (v3_86 - p1) then (inb v4_86 14 (Option.bind (F_Mo_stands (40 + Int32.toNatClampNeg v4_86) p1 known_h0 thrown_h0 wrong_h0 f3_16_86 at_h0 bad_h0 levels_h0 least_h0 found_h0 size_m4 n_a_all_m4 b_a_all_m4) fun r40 =>
        if r40 = 0 then (F_Mo_token_86 p1 known_h0 thrown_h0 wrong_h0 at_h0 bad_h0 levels_h0 least_h0 found_h0 size_m4 n_a_all_m4 b_a_all_m4  k_86 (v4_86 + 1) v3_86 v2_86 f3_16_86)
        else (some (10 + v4_86, f3_16_86))))
      else (F_Mo_token_86 p1 known_h0 thrown_h0 wrong_h0 at_h0 bad_h0 levels_h0 least_h0 found_h0 size_m4 n_a_all_m4 b_a_all_m4  k_86 (v4_86 + 1) v3_86 v2_86 f3_16_86))))
def F_Mo_token_40 (p1 : Int32) (known_h0 : Int32) (thrown_h0 : Int32) (wrong_h0 : Int32) (at_h0 : Int32) (bad_h0 : Int32) (levels_h0 : Int32) (least_h0 : Int32) (found_h0 : Int32) (size_m4 : Int32) (n_a_all_m4 : Nat) (b_a_all_m4 : Nat → Int32) : Nat → Int32 → Int32 → Int32 → Option (Int32 × Int32)
  | 0, _, _, _ => none
  | k_40 + 1, v3_40, v2_40, f3_16_40 =>
    Option.bind (F_Mo_letter v3_40 known_h0 thrown_h0 wrong_h0 f3_16_40 at_h0 bad_h0 levels_h0 least_h0 found_h0 size_m4 n_a_all_m4 b_a_all_m4) fun r44 =>
    nm (F_Mo_isLetter r44) fun r46 =>
    if r46 = 0 then (Option.bind (F_Mo_letter v3_40 known_h0 thrown_h0 wrong_h0 f3_16_40 at_h0 bad_h0 levels_h0 least_h0 found_h0 size_m4 n_a_all_m4 b_a_all_m4) fun r50 =>
      nm (F_Mo_isDigit r50) fun r52 =>
      if r52 = 0 then (Option.bind (F_Mo_letter v3_40 known_h0 thrown_h0 wrong_h0 f3_16_40 at_h0 bad_h0 levels_h0 least_h0 found_h0 size_m4 n_a_all_m4 b_a_all_m4) fun r56 =>
        if r56 = 95 then (F_Mo_token_40 p1 known_h0 thrown_h0 wrong_h0 at_h0 bad_h0 levels_h0 least_h0 found_h0 size_m4 n_a_all_m4 b_a_all_m4  k_40 (v3_40 + 1) v2_40 f3_16_40)
        else (F_Mo_token_86 p1 known_h0 thrown_h0 wrong_h0 at_h0 bad_h0 levels_h0 least_h0 found_h0 size_m4 n_a_all_m4 b_a_all_m4  FU 0 v3_40 v2_40 v3_40))
      else (F_Mo_token_40 p1 known_h0 thrown_h0 wrong_h0 at_h0 bad_h0 levels_h0 least_h0 found_h0 size_m4 n_a_all_m4 b_a_all_m4  k_40 (v3_40 + 1) v2_40 f3_16_40))
    else (F_Mo_token_40 p1 known_h0 thrown_h0 wrong_h0 at_h0 bad_h0 levels_h0 least_h0 found_h0 size_m4 n_a_all_m4 b_a_all_m4  k_40 (v3_40 + 1) v2_40 f3_16_40)
def F_Mo_token (p1 : Int32) (known_h0 : Int32) (thrown_h0 : Int32) (wrong_h0 : Int32) (lastEnd_h0 : Int32) (at_h0 : Int32) (bad_h0 : Int32) (levels_h0 : Int32) (least_h0 : Int32) (found_h0 : Int32) (size_m4 : Int32) (n_a_all_m4 : Nat) (b_a_all_m4 : Nat → Int32) (n_m15 : Nat) (b_m15 : Nat → Int32) : Option (Int32 × Int32) :=
  Option.bind (F_Mo_letter p1 known_h0 thrown_h0 wrong_h0 lastEnd_h0 at_h0 bad_h0 levels_h0 least_h0 found_h0 size_m4 n_a_all_m4 b_a_all_m4) fun r59 =>
  if p1 < size_m4 then (nm (F_Mo_isLetter r59) fun r62 =>
    if r62 = 0 then (nm (F_Mo_isDigit r59) fun r66 =>
      if r66 = 0 then (if r59 = 34 then (F_Mo_token_198 p1 known_h0 thrown_h0 wrong_h0 at_h0 bad_h0 levels_h0 least_h0 found_h0 size_m4 n_a_all_m4 b_a_all_m4  FU (p1 + 1) r59 (p1 + 1))
        else (F_Mo_token_273 p1 known_h0 thrown_h0 wrong_h0 at_h0 bad_h0 levels_h0 least_h0 found_h0 size_m4 n_a_all_m4 b_a_all_m4  FU 0 (-1) r59 (p1 + 1)))
      else (Option.bind (F_Mo_numeralEnd p1 known_h0 thrown_h0 wrong_h0 (p1 + 1) at_h0 bad_h0 levels_h0 least_h0 found_h0 size_m4 n_a_all_m4 b_a_all_m4) fun r71 =>
        Option.bind (F_Mo_isFinite p1 r71 known_h0 thrown_h0 wrong_h0 r71 at_h0 bad_h0 levels_h0 least_h0 found_h0 size_m4 n_a_all_m4 b_a_all_m4 n_m15 b_m15) fun r73 =>
        if r73 = 0 then (some (1, r71))
        else (some (3, r71))))
    else (F_Mo_token_40 p1 known_h0 thrown_h0 wrong_h0 at_h0 bad_h0 levels_h0 least_h0 found_h0 size_m4 n_a_all_m4 b_a_all_m4  FU p1 r59 (p1 + 1)))
  else (some (0, p1))
theorem d_Mo_token_0 : decode prog_12_method_16_code 0 = .ok (.aload_n 0, 1) := by decide +kernel
theorem d_Mo_token_1 : decode prog_12_method_16_code 1 = .ok (.iload_n 1, 1) := by decide +kernel
theorem d_Mo_token_2 : decode prog_12_method_16_code 2 = .ok (.invokevirtual 222, 3) := by decide +kernel
theorem d_Mo_token_5 : decode prog_12_method_16_code 5 = .ok (.istore_n 2, 1) := by decide +kernel
theorem d_Mo_token_6 : decode prog_12_method_16_code 6 = .ok (.aload_n 0, 1) := by decide +kernel
theorem d_Mo_token_7 : decode prog_12_method_16_code 7 = .ok (.iload_n 1, 1) := by decide +kernel
theorem d_Mo_token_8 : decode prog_12_method_16_code 8 = .ok (.iconst 1, 1) := by decide +kernel
theorem d_Mo_token_9 : decode prog_12_method_16_code 9 = .ok (.iadd, 1) := by decide +kernel
theorem d_Mo_token_10 : decode prog_12_method_16_code 10 = .ok (.putfield 247, 3) := by decide +kernel
theorem d_Mo_token_13 : decode prog_12_method_16_code 13 = .ok (.iload_n 1, 1) := by decide +kernel
theorem d_Mo_token_14 : decode prog_12_method_16_code 14 = .ok (.aload_n 0, 1) := by decide +kernel
theorem d_Mo_token_15 : decode prog_12_method_16_code 15 = .ok (.getfield 111, 3) := by decide +kernel
theorem d_Mo_token_18 : decode prog_12_method_16_code 18 = .ok (.getfield 204, 3) := by decide +kernel
theorem d_Mo_token_21 : decode prog_12_method_16_code 21 = .ok (.if_icmp .lt 10, 3) := by decide +kernel
theorem d_Mo_token_24 : decode prog_12_method_16_code 24 = .ok (.aload_n 0, 1) := by decide +kernel
theorem d_Mo_token_25 : decode prog_12_method_16_code 25 = .ok (.iload_n 1, 1) := by decide +kernel
theorem d_Mo_token_26 : decode prog_12_method_16_code 26 = .ok (.putfield 247, 3) := by decide +kernel
theorem d_Mo_token_29 : decode prog_12_method_16_code 29 = .ok (.iconst 0, 1) := by decide +kernel
theorem d_Mo_token_30 : decode prog_12_method_16_code 30 = .ok (.ireturn, 1) := by decide +kernel
theorem d_Mo_token_31 : decode prog_12_method_16_code 31 = .ok (.iload_n 2, 1) := by decide +kernel
theorem d_Mo_token_32 : decode prog_12_method_16_code 32 = .ok (.invokestatic 250, 3) := by decide +kernel
theorem d_Mo_token_35 : decode prog_12_method_16_code 35 = .ok (.ifCond .eq 119, 3) := by decide +kernel
theorem d_Mo_token_38 : decode prog_12_method_16_code 38 = .ok (.iload_n 1, 1) := by decide +kernel
theorem d_Mo_token_39 : decode prog_12_method_16_code 39 = .ok (.istore_n 3, 1) := by decide +kernel
theorem d_Mo_token_40 : decode prog_12_method_16_code 40 = .ok (.aload_n 0, 1) := by decide +kernel
theorem d_Mo_token_41 : decode prog_12_method_16_code 41 = .ok (.iload_n 3, 1) := by decide +kernel
theorem d_Mo_token_42 : decode prog_12_method_16_code 42 = .ok (.invokevirtual 222, 3) := by decide +kernel
theorem d_Mo_token_45 : decode prog_12_method_16_code 45 = .ok (.invokestatic 250, 3) := by decide +kernel
theorem d_Mo_token_48 : decode prog_12_method_16_code 48 = .ok (.ifCond .ne 24, 3) := by decide +kernel
theorem d_Mo_token_51 : decode prog_12_method_16_code 51 = .ok (.aload_n 0, 1) := by decide +kernel
theorem d_Mo_token_52 : decode prog_12_method_16_code 52 = .ok (.iload_n 3, 1) := by decide +kernel
theorem d_Mo_token_53 : decode prog_12_method_16_code 53 = .ok (.invokevirtual 222, 3) := by decide +kernel
theorem d_Mo_token_56 : decode prog_12_method_16_code 56 = .ok (.invokestatic 225, 3) := by decide +kernel
theorem d_Mo_token_59 : decode prog_12_method_16_code 59 = .ok (.ifCond .ne 13, 3) := by decide +kernel
theorem d_Mo_token_62 : decode prog_12_method_16_code 62 = .ok (.aload_n 0, 1) := by decide +kernel
theorem d_Mo_token_63 : decode prog_12_method_16_code 63 = .ok (.iload_n 3, 1) := by decide +kernel
theorem d_Mo_token_64 : decode prog_12_method_16_code 64 = .ok (.invokevirtual 222, 3) := by decide +kernel
theorem d_Mo_token_67 : decode prog_12_method_16_code 67 = .ok (.bipush 95, 2) := by decide +kernel
theorem d_Mo_token_69 : decode prog_12_method_16_code 69 = .ok (.if_icmp .ne 9, 3) := by decide +kernel
theorem d_Mo_token_72 : decode prog_12_method_16_code 72 = .ok (.iinc 3 1, 3) := by decide +kernel
theorem d_Mo_token_75 : decode prog_12_method_16_code 75 = .ok (.goto (-35), 3) := by decide +kernel
theorem d_Mo_token_78 : decode prog_12_method_16_code 78 = .ok (.aload_n 0, 1) := by decide +kernel
theorem d_Mo_token_79 : decode prog_12_method_16_code 79 = .ok (.iload_n 3, 1) := by decide +kernel
theorem d_Mo_token_80 : decode prog_12_method_16_code 80 = .ok (.putfield 247, 3) := by decide +kernel
theorem d_Mo_token_83 : decode prog_12_method_16_code 83 = .ok (.iconst 0, 1) := by decide +kernel
theorem d_Mo_token_84 : decode prog_12_method_16_code 84 = .ok (.istore 4, 2) := by decide +kernel
theorem d_Mo_token_86 : decode prog_12_method_16_code 86 = .ok (.iload 4, 2) := by decide +kernel
theorem d_Mo_token_88 : decode prog_12_method_16_code 88 = .ok (.aload_n 0, 1) := by decide +kernel
theorem d_Mo_token_89 : decode prog_12_method_16_code 89 = .ok (.getfield 37, 3) := by decide +kernel
theorem d_Mo_token_92 : decode prog_12_method_16_code 92 = .ok (.arraylength, 1) := by decide +kernel
theorem d_Mo_token_93 : decode prog_12_method_16_code 93 = .ok (.if_icmp .ge 46, 3) := by decide +kernel
theorem d_Mo_token_96 : decode prog_12_method_16_code 96 = .ok (.aload_n 0, 1) := by decide +kernel
theorem d_Mo_token_97 : decode prog_12_method_16_code 97 = .ok (.getfield 37, 3) := by decide +kernel
theorem d_Mo_token_100 : decode prog_12_method_16_code 100 = .ok (.iload 4, 2) := by decide +kernel
theorem d_Mo_token_102 : decode prog_12_method_16_code 102 = .ok (.aaload, 1) := by decide +kernel
theorem d_Mo_token_103 : decode prog_12_method_16_code 103 = .ok (.invokevirtual 231, 3) := by decide +kernel
theorem d_Mo_token_106 : decode prog_12_method_16_code 106 = .ok (.iload_n 3, 1) := by decide +kernel
theorem d_Mo_token_107 : decode prog_12_method_16_code 107 = .ok (.iload_n 1, 1) := by decide +kernel
theorem d_Mo_token_108 : decode prog_12_method_16_code 108 = .ok (.isub, 1) := by decide +kernel
theorem d_Mo_token_109 : decode prog_12_method_16_code 109 = .ok (.if_icmp .ne 24, 3) := by decide +kernel
theorem d_Mo_token_112 : decode prog_12_method_16_code 112 = .ok (.aload_n 0, 1) := by decide +kernel
theorem d_Mo_token_113 : decode prog_12_method_16_code 113 = .ok (.aload_n 0, 1) := by decide +kernel
theorem d_Mo_token_114 : decode prog_12_method_16_code 114 = .ok (.getfield 37, 3) := by decide +kernel
theorem d_Mo_token_117 : decode prog_12_method_16_code 117 = .ok (.iload 4, 2) := by decide +kernel
theorem d_Mo_token_119 : decode prog_12_method_16_code 119 = .ok (.aaload, 1) := by decide +kernel
theorem d_Mo_token_120 : decode prog_12_method_16_code 120 = .ok (.iload_n 1, 1) := by decide +kernel
theorem d_Mo_token_121 : decode prog_12_method_16_code 121 = .ok (.invokevirtual 253, 3) := by decide +kernel
theorem d_Mo_token_124 : decode prog_12_method_16_code 124 = .ok (.ifCond .eq 9, 3) := by decide +kernel
theorem d_Mo_token_127 : decode prog_12_method_16_code 127 = .ok (.bipush 10, 2) := by decide +kernel
theorem d_Mo_token_129 : decode prog_12_method_16_code 129 = .ok (.iload 4, 2) := by decide +kernel
theorem d_Mo_token_131 : decode prog_12_method_16_code 131 = .ok (.iadd, 1) := by decide +kernel
theorem d_Mo_token_132 : decode prog_12_method_16_code 132 = .ok (.ireturn, 1) := by decide +kernel
theorem d_Mo_token_133 : decode prog_12_method_16_code 133 = .ok (.iinc 4 1, 3) := by decide +kernel
theorem d_Mo_token_136 : decode prog_12_method_16_code 136 = .ok (.goto (-50), 3) := by decide +kernel
theorem d_Mo_token_139 : decode prog_12_method_16_code 139 = .ok (.iload_n 3, 1) := by decide +kernel
theorem d_Mo_token_140 : decode prog_12_method_16_code 140 = .ok (.iload_n 1, 1) := by decide +kernel
theorem d_Mo_token_141 : decode prog_12_method_16_code 141 = .ok (.isub, 1) := by decide +kernel
theorem d_Mo_token_142 : decode prog_12_method_16_code 142 = .ok (.sipush 255, 3) := by decide +kernel
theorem d_Mo_token_145 : decode prog_12_method_16_code 145 = .ok (.if_icmp .le 7, 3) := by decide +kernel
theorem d_Mo_token_148 : decode prog_12_method_16_code 148 = .ok (.iconst 1, 1) := by decide +kernel
theorem d_Mo_token_149 : decode prog_12_method_16_code 149 = .ok (.goto 4, 3) := by decide +kernel
theorem d_Mo_token_152 : decode prog_12_method_16_code 152 = .ok (.iconst 2, 1) := by decide +kernel
theorem d_Mo_token_153 : decode prog_12_method_16_code 153 = .ok (.ireturn, 1) := by decide +kernel
theorem d_Mo_token_154 : decode prog_12_method_16_code 154 = .ok (.iload_n 2, 1) := by decide +kernel
theorem d_Mo_token_155 : decode prog_12_method_16_code 155 = .ok (.invokestatic 225, 3) := by decide +kernel
theorem d_Mo_token_158 : decode prog_12_method_16_code 158 = .ok (.ifCond .eq 30, 3) := by decide +kernel
theorem d_Mo_token_161 : decode prog_12_method_16_code 161 = .ok (.aload_n 0, 1) := by decide +kernel
theorem d_Mo_token_162 : decode prog_12_method_16_code 162 = .ok (.aload_n 0, 1) := by decide +kernel
theorem d_Mo_token_163 : decode prog_12_method_16_code 163 = .ok (.iload_n 1, 1) := by decide +kernel
theorem d_Mo_token_164 : decode prog_12_method_16_code 164 = .ok (.invokevirtual 257, 3) := by decide +kernel
theorem d_Mo_token_167 : decode prog_12_method_16_code 167 = .ok (.putfield 247, 3) := by decide +kernel
theorem d_Mo_token_170 : decode prog_12_method_16_code 170 = .ok (.aload_n 0, 1) := by decide +kernel
theorem d_Mo_token_171 : decode prog_12_method_16_code 171 = .ok (.iload_n 1, 1) := by decide +kernel
theorem d_Mo_token_172 : decode prog_12_method_16_code 172 = .ok (.aload_n 0, 1) := by decide +kernel
theorem d_Mo_token_173 : decode prog_12_method_16_code 173 = .ok (.getfield 247, 3) := by decide +kernel
theorem d_Mo_token_176 : decode prog_12_method_16_code 176 = .ok (.invokevirtual 260, 3) := by decide +kernel
theorem d_Mo_token_179 : decode prog_12_method_16_code 179 = .ok (.ifCond .eq 7, 3) := by decide +kernel
theorem d_Mo_token_182 : decode prog_12_method_16_code 182 = .ok (.iconst 3, 1) := by decide +kernel
theorem d_Mo_token_183 : decode prog_12_method_16_code 183 = .ok (.goto 4, 3) := by decide +kernel
theorem d_Mo_token_186 : decode prog_12_method_16_code 186 = .ok (.iconst 1, 1) := by decide +kernel
theorem d_Mo_token_187 : decode prog_12_method_16_code 187 = .ok (.ireturn, 1) := by decide +kernel
theorem d_Mo_token_188 : decode prog_12_method_16_code 188 = .ok (.iload_n 2, 1) := by decide +kernel
theorem d_Mo_token_189 : decode prog_12_method_16_code 189 = .ok (.bipush 34, 2) := by decide +kernel
theorem d_Mo_token_191 : decode prog_12_method_16_code 191 = .ok (.if_icmp .ne 77, 3) := by decide +kernel
theorem d_Mo_token_194 : decode prog_12_method_16_code 194 = .ok (.iload_n 1, 1) := by decide +kernel
theorem d_Mo_token_195 : decode prog_12_method_16_code 195 = .ok (.iconst 1, 1) := by decide +kernel
theorem d_Mo_token_196 : decode prog_12_method_16_code 196 = .ok (.iadd, 1) := by decide +kernel
theorem d_Mo_token_197 : decode prog_12_method_16_code 197 = .ok (.istore_n 3, 1) := by decide +kernel
theorem d_Mo_token_198 : decode prog_12_method_16_code 198 = .ok (.aload_n 0, 1) := by decide +kernel
theorem d_Mo_token_199 : decode prog_12_method_16_code 199 = .ok (.iload_n 3, 1) := by decide +kernel
theorem d_Mo_token_200 : decode prog_12_method_16_code 200 = .ok (.invokevirtual 222, 3) := by decide +kernel
theorem d_Mo_token_203 : decode prog_12_method_16_code 203 = .ok (.bipush 32, 2) := by decide +kernel
theorem d_Mo_token_205 : decode prog_12_method_16_code 205 = .ok (.if_icmp .lt 29, 3) := by decide +kernel
theorem d_Mo_token_208 : decode prog_12_method_16_code 208 = .ok (.aload_n 0, 1) := by decide +kernel
theorem d_Mo_token_209 : decode prog_12_method_16_code 209 = .ok (.iload_n 3, 1) := by decide +kernel
theorem d_Mo_token_210 : decode prog_12_method_16_code 210 = .ok (.invokevirtual 222, 3) := by decide +kernel
theorem d_Mo_token_213 : decode prog_12_method_16_code 213 = .ok (.bipush 126, 2) := by decide +kernel
theorem d_Mo_token_215 : decode prog_12_method_16_code 215 = .ok (.if_icmp .gt 19, 3) := by decide +kernel
theorem d_Mo_token_218 : decode prog_12_method_16_code 218 = .ok (.aload_n 0, 1) := by decide +kernel
theorem d_Mo_token_219 : decode prog_12_method_16_code 219 = .ok (.iload_n 3, 1) := by decide +kernel
theorem d_Mo_token_220 : decode prog_12_method_16_code 220 = .ok (.invokevirtual 222, 3) := by decide +kernel
theorem d_Mo_token_223 : decode prog_12_method_16_code 223 = .ok (.bipush 34, 2) := by decide +kernel
theorem d_Mo_token_225 : decode prog_12_method_16_code 225 = .ok (.if_icmp .eq 9, 3) := by decide +kernel
theorem d_Mo_token_228 : decode prog_12_method_16_code 228 = .ok (.iinc 3 1, 3) := by decide +kernel
theorem d_Mo_token_231 : decode prog_12_method_16_code 231 = .ok (.goto (-33), 3) := by decide +kernel
theorem d_Mo_token_234 : decode prog_12_method_16_code 234 = .ok (.aload_n 0, 1) := by decide +kernel
theorem d_Mo_token_235 : decode prog_12_method_16_code 235 = .ok (.iload_n 3, 1) := by decide +kernel
theorem d_Mo_token_236 : decode prog_12_method_16_code 236 = .ok (.iconst 1, 1) := by decide +kernel
theorem d_Mo_token_237 : decode prog_12_method_16_code 237 = .ok (.iadd, 1) := by decide +kernel
theorem d_Mo_token_238 : decode prog_12_method_16_code 238 = .ok (.putfield 247, 3) := by decide +kernel
theorem d_Mo_token_241 : decode prog_12_method_16_code 241 = .ok (.aload_n 0, 1) := by decide +kernel
theorem d_Mo_token_242 : decode prog_12_method_16_code 242 = .ok (.iload_n 3, 1) := by decide +kernel
theorem d_Mo_token_243 : decode prog_12_method_16_code 243 = .ok (.invokevirtual 222, 3) := by decide +kernel
theorem d_Mo_token_246 : decode prog_12_method_16_code 246 = .ok (.bipush 34, 2) := by decide +kernel
theorem d_Mo_token_248 : decode prog_12_method_16_code 248 = .ok (.if_icmp .ne 18, 3) := by decide +kernel
theorem d_Mo_token_251 : decode prog_12_method_16_code 251 = .ok (.iload_n 3, 1) := by decide +kernel
theorem d_Mo_token_252 : decode prog_12_method_16_code 252 = .ok (.iload_n 1, 1) := by decide +kernel
theorem d_Mo_token_253 : decode prog_12_method_16_code 253 = .ok (.isub, 1) := by decide +kernel
theorem d_Mo_token_254 : decode prog_12_method_16_code 254 = .ok (.iconst 1, 1) := by decide +kernel
theorem d_Mo_token_255 : decode prog_12_method_16_code 255 = .ok (.isub, 1) := by decide +kernel
theorem d_Mo_token_256 : decode prog_12_method_16_code 256 = .ok (.sipush 4096, 3) := by decide +kernel
theorem d_Mo_token_259 : decode prog_12_method_16_code 259 = .ok (.if_icmp .gt 7, 3) := by decide +kernel
theorem d_Mo_token_262 : decode prog_12_method_16_code 262 = .ok (.iconst 4, 1) := by decide +kernel
theorem d_Mo_token_263 : decode prog_12_method_16_code 263 = .ok (.goto 4, 3) := by decide +kernel
theorem d_Mo_token_266 : decode prog_12_method_16_code 266 = .ok (.iconst 1, 1) := by decide +kernel
theorem d_Mo_token_267 : decode prog_12_method_16_code 267 = .ok (.ireturn, 1) := by decide +kernel
theorem d_Mo_token_268 : decode prog_12_method_16_code 268 = .ok (.iconst (-1), 1) := by decide +kernel
theorem d_Mo_token_269 : decode prog_12_method_16_code 269 = .ok (.istore_n 3, 1) := by decide +kernel
theorem d_Mo_token_270 : decode prog_12_method_16_code 270 = .ok (.iconst 0, 1) := by decide +kernel
theorem d_Mo_token_271 : decode prog_12_method_16_code 271 = .ok (.istore 4, 2) := by decide +kernel
theorem d_Mo_token_273 : decode prog_12_method_16_code 273 = .ok (.iload 4, 2) := by decide +kernel
theorem d_Mo_token_275 : decode prog_12_method_16_code 275 = .ok (.aload_n 0, 1) := by decide +kernel
theorem d_Mo_token_276 : decode prog_12_method_16_code 276 = .ok (.getfield 97, 3) := by decide +kernel
theorem d_Mo_token_279 : decode prog_12_method_16_code 279 = .ok (.arraylength, 1) := by decide +kernel
theorem d_Mo_token_280 : decode prog_12_method_16_code 280 = .ok (.if_icmp .ge 57, 3) := by decide +kernel
theorem d_Mo_token_283 : decode prog_12_method_16_code 283 = .ok (.aload_n 0, 1) := by decide +kernel
theorem d_Mo_token_284 : decode prog_12_method_16_code 284 = .ok (.aload_n 0, 1) := by decide +kernel
theorem d_Mo_token_285 : decode prog_12_method_16_code 285 = .ok (.getfield 97, 3) := by decide +kernel
theorem d_Mo_token_288 : decode prog_12_method_16_code 288 = .ok (.iload 4, 2) := by decide +kernel
theorem d_Mo_token_290 : decode prog_12_method_16_code 290 = .ok (.aaload, 1) := by decide +kernel
theorem d_Mo_token_291 : decode prog_12_method_16_code 291 = .ok (.iload_n 1, 1) := by decide +kernel
theorem d_Mo_token_292 : decode prog_12_method_16_code 292 = .ok (.invokevirtual 253, 3) := by decide +kernel
theorem d_Mo_token_295 : decode prog_12_method_16_code 295 = .ok (.ifCond .eq 34, 3) := by decide +kernel
theorem d_Mo_token_298 : decode prog_12_method_16_code 298 = .ok (.iload_n 3, 1) := by decide +kernel
theorem d_Mo_token_299 : decode prog_12_method_16_code 299 = .ok (.ifCond .lt 25, 3) := by decide +kernel
theorem d_Mo_token_302 : decode prog_12_method_16_code 302 = .ok (.aload_n 0, 1) := by decide +kernel
theorem d_Mo_token_303 : decode prog_12_method_16_code 303 = .ok (.getfield 97, 3) := by decide +kernel
theorem d_Mo_token_306 : decode prog_12_method_16_code 306 = .ok (.iload 4, 2) := by decide +kernel
theorem d_Mo_token_308 : decode prog_12_method_16_code 308 = .ok (.aaload, 1) := by decide +kernel
theorem d_Mo_token_309 : decode prog_12_method_16_code 309 = .ok (.invokevirtual 231, 3) := by decide +kernel
theorem d_Mo_token_312 : decode prog_12_method_16_code 312 = .ok (.aload_n 0, 1) := by decide +kernel
theorem d_Mo_token_313 : decode prog_12_method_16_code 313 = .ok (.getfield 97, 3) := by decide +kernel
theorem d_Mo_token_316 : decode prog_12_method_16_code 316 = .ok (.iload_n 3, 1) := by decide +kernel
theorem d_Mo_token_317 : decode prog_12_method_16_code 317 = .ok (.aaload, 1) := by decide +kernel
theorem d_Mo_token_318 : decode prog_12_method_16_code 318 = .ok (.invokevirtual 231, 3) := by decide +kernel
theorem d_Mo_token_321 : decode prog_12_method_16_code 321 = .ok (.if_icmp .le 8, 3) := by decide +kernel
theorem d_Mo_token_324 : decode prog_12_method_16_code 324 = .ok (.iload 4, 2) := by decide +kernel
theorem d_Mo_token_326 : decode prog_12_method_16_code 326 = .ok (.goto 4, 3) := by decide +kernel
theorem d_Mo_token_329 : decode prog_12_method_16_code 329 = .ok (.iload_n 3, 1) := by decide +kernel
theorem d_Mo_token_330 : decode prog_12_method_16_code 330 = .ok (.istore_n 3, 1) := by decide +kernel
theorem d_Mo_token_331 : decode prog_12_method_16_code 331 = .ok (.iinc 4 1, 3) := by decide +kernel
theorem d_Mo_token_334 : decode prog_12_method_16_code 334 = .ok (.goto (-61), 3) := by decide +kernel
theorem d_Mo_token_337 : decode prog_12_method_16_code 337 = .ok (.aload_n 0, 1) := by decide +kernel
theorem d_Mo_token_338 : decode prog_12_method_16_code 338 = .ok (.iload_n 3, 1) := by decide +kernel
theorem d_Mo_token_339 : decode prog_12_method_16_code 339 = .ok (.ifCond .ge 9, 3) := by decide +kernel
theorem d_Mo_token_342 : decode prog_12_method_16_code 342 = .ok (.iload_n 1, 1) := by decide +kernel
theorem d_Mo_token_343 : decode prog_12_method_16_code 343 = .ok (.iconst 1, 1) := by decide +kernel
theorem d_Mo_token_344 : decode prog_12_method_16_code 344 = .ok (.iadd, 1) := by decide +kernel
theorem d_Mo_token_345 : decode prog_12_method_16_code 345 = .ok (.goto 14, 3) := by decide +kernel
theorem d_Mo_token_348 : decode prog_12_method_16_code 348 = .ok (.iload_n 1, 1) := by decide +kernel
theorem d_Mo_token_349 : decode prog_12_method_16_code 349 = .ok (.aload_n 0, 1) := by decide +kernel
theorem d_Mo_token_350 : decode prog_12_method_16_code 350 = .ok (.getfield 97, 3) := by decide +kernel
theorem d_Mo_token_353 : decode prog_12_method_16_code 353 = .ok (.iload_n 3, 1) := by decide +kernel
theorem d_Mo_token_354 : decode prog_12_method_16_code 354 = .ok (.aaload, 1) := by decide +kernel
theorem d_Mo_token_355 : decode prog_12_method_16_code 355 = .ok (.invokevirtual 231, 3) := by decide +kernel
theorem d_Mo_token_358 : decode prog_12_method_16_code 358 = .ok (.iadd, 1) := by decide +kernel
theorem d_Mo_token_359 : decode prog_12_method_16_code 359 = .ok (.putfield 247, 3) := by decide +kernel
theorem d_Mo_token_362 : decode prog_12_method_16_code 362 = .ok (.iload_n 3, 1) := by decide +kernel
theorem d_Mo_token_363 : decode prog_12_method_16_code 363 = .ok (.ifCond .ge 7, 3) := by decide +kernel
theorem d_Mo_token_366 : decode prog_12_method_16_code 366 = .ok (.iconst 1, 1) := by decide +kernel
theorem d_Mo_token_367 : decode prog_12_method_16_code 367 = .ok (.goto 7, 3) := by decide +kernel
theorem d_Mo_token_370 : decode prog_12_method_16_code 370 = .ok (.bipush 30, 2) := by decide +kernel
theorem d_Mo_token_372 : decode prog_12_method_16_code 372 = .ok (.iload_n 3, 1) := by decide +kernel
theorem d_Mo_token_373 : decode prog_12_method_16_code 373 = .ok (.iadd, 1) := by decide +kernel
theorem d_Mo_token_374 : decode prog_12_method_16_code 374 = .ok (.ireturn, 1) := by decide +kernel
set_option maxHeartbeats 4000000 in
set_option maxRecDepth 100000 in
theorem L_Mo_token_359 (l : Launch) (D : va_G) (cI cB cJ cS : ClassId) (h0 : Nat) (am : Nat → Nat) (a_all_m4 : Nat) (p1 : Int32) (known_h0 : Int32) (thrown_h0 : Int32) (wrong_h0 : Int32) (lastEnd_h0 : Int32) (at_h0 : Int32) (bad_h0 : Int32) (levels_h0 : Int32) (least_h0 : Int32) (found_h0 : Int32) (size_m4 : Int32) (n_a_all_m4 : Nat) (b_a_all_m4 : Nat → Int32) (n_m15 : Nat) (b_m15 : Nat → Int32) (ret : Int32) (o_0_16 : Int32) (p : Program) (e : Env) (s : State) (m : MethodId) (below : List Frame) (meth : Method) (c : Code) (hr : meth.sig.returnType = (Option.some Jvm.ClassFile.FieldType.int)) (hnm : meth.name = y_Mo_token.name) : ∀ (v4_359 : Int32) (v3_359 : Int32) (v2_359 : Int32) (t0_359 : Int32) (f3_16_359 : Int32), F_Mo_token_359    v4_359 v3_359 v2_359 t0_359 f3_16_359 = some (ret, o_0_16) → J (KxOf p l e { frames := 5, cells := 0, slots := 0, locals := 109 } s m [.ref h0, .int p1].toArray below meth c D (gT cI cB cJ cS) [(h0, .inr (9, moF am known_h0 thrown_h0 wrong_h0 lastEnd_h0 at_h0 bad_h0 levels_h0 least_h0 found_h0)), ((am 4), .inr (8, [.ref a_all_m4, .int size_m4])), (a_all_m4, .inl (cI, n_a_all_m4, .inl b_a_all_m4)), ((am 15), .inl (cI, n_m15, .inl b_m15)), ((am 0), .inl (cS, 14, .inr (.inr (.inr (.inr (stA D 40)))))), ((am 1), .inl (cS, 27, .inr (.inr (.inr (.inr (stA D 54))))))] (fun v w => v = some (.int ret) ∧ w = [(h0, .inr (9, moF am known_h0 thrown_h0 wrong_h0 o_0_16 at_h0 bad_h0 levels_h0 least_h0 found_h0)), ((am 4), .inr (8, [.ref a_all_m4, .int size_m4])), (a_all_m4, .inl (cI, n_a_all_m4, .inl b_a_all_m4)), ((am 15), .inl (cI, n_m15, .inl b_m15)), ((am 0), .inl (cS, 14, .inr (.inr (.inr (.inr (stA D 40)))))), ((am 1), .inl (cS, 27, .inr (.inr (.inr (.inr (stA D 54))))))]) 0 0) prog_12_method_16_code 5 R_Mo 359 [(4, .int v4_359), (3, .int v3_359), (2, .int v2_359), (0, .ref h0), (1, .int p1)] [.int t0_359, .ref h0] [((am 15), .inl (cI, n_m15, .inl b_m15)), ((am 0), .inl (cS, 14, .inr (.inr (.inr (.inr (stA D 40)))))), ((am 1), .inl (cS, 27, .inr (.inr (.inr (.inr (stA D 54)))))), (h0, .inr (9, moF am known_h0 thrown_h0 wrong_h0 f3_16_359 at_h0 bad_h0 levels_h0 least_h0 found_h0)), ((am 4), .inr (8, [.ref a_all_m4, .int size_m4])), (a_all_m4, .inl (cI, n_a_all_m4, .inl b_a_all_m4))] 0 0 := by
  intro v4_359 v3_359 v2_359 t0_359 f3_16_359 h
  unfold F_Mo_token_359 at h
  refine j_put (ws' := [((am 15), .inl (cI, n_m15, .inl b_m15)), ((am 0), .inl (cS, 14, .inr (.inr (.inr (.inr (stA D 40)))))), ((am 1), .inl (cS, 27, .inr (.inr (.inr (.inr (stA D 54)))))), (h0, .inr (9, moF am known_h0 thrown_h0 wrong_h0 t0_359 at_h0 bad_h0 levels_h0 least_h0 found_h0)), ((am 4), .inr (8, [.ref a_all_m4, .int size_m4])), (a_all_m4, .inl (cI, n_a_all_m4, .inl b_a_all_m4))]) ig_Mo tk_Mo nm_Mo rfl 3 rfl 16 (by decide) rfl m_1129 rfl (tk_Mo 16 (by decide)) rfl rfl (Nat.le_of_ble_eq_true rfl) d_Mo_token_359 rfl ?_
  refine j_iload_n d_Mo_token_362 rfl 1 rfl ?_
  refine j_if_ge (tgt := 370) d_Mo_token_363 (by decide) (fun c1 => ?_) (fun c1 => ?_)
  · replace h := it_t c1 h
    refine j_bipush (v := 30) d_Mo_token_370 (by decide) ?_
    refine j_iload_n d_Mo_token_372 rfl 1 rfl ?_
    refine j_iadd d_Mo_token_373 ?_
    replace h := Option.some.inj h
    replace h := Prod.mk.inj h
    obtain ⟨h9, h⟩ := h
    subst h9
    subst h
    exact j_iret (w := [(h0, .inr (9, moF am known_h0 thrown_h0 wrong_h0 t0_359 at_h0 bad_h0 levels_h0 least_h0 found_h0)), ((am 4), .inr (8, [.ref a_all_m4, .int size_m4])), (a_all_m4, .inl (cI, n_a_all_m4, .inl b_a_all_m4)), ((am 15), .inl (cI, n_m15, .inl b_m15)), ((am 0), .inl (cS, 14, .inr (.inr (.inr (.inr (stA D 40)))))), ((am 1), .inl (cS, 27, .inr (.inr (.inr (.inr (stA D 54))))))]) hr d_Mo_token_374 [3, 4, 5, 0, 1, 2] rfl (by decide) ⟨rfl, rfl⟩
  · replace h := it_f c1 h
    refine j_iconst (v := 1) d_Mo_token_366 (by decide) ?_
    refine j_goto (tgt := 374) d_Mo_token_367 (by decide) ?_
    replace h := Option.some.inj h
    replace h := Prod.mk.inj h
    obtain ⟨h9, h⟩ := h
    subst h9
    subst h
    exact j_iret (w := [(h0, .inr (9, moF am known_h0 thrown_h0 wrong_h0 t0_359 at_h0 bad_h0 levels_h0 least_h0 found_h0)), ((am 4), .inr (8, [.ref a_all_m4, .int size_m4])), (a_all_m4, .inl (cI, n_a_all_m4, .inl b_a_all_m4)), ((am 15), .inl (cI, n_m15, .inl b_m15)), ((am 0), .inl (cS, 14, .inr (.inr (.inr (.inr (stA D 40)))))), ((am 1), .inl (cS, 27, .inr (.inr (.inr (.inr (stA D 54))))))]) hr d_Mo_token_374 [3, 4, 5, 0, 1, 2] rfl (by decide) ⟨rfl, rfl⟩
set_option maxHeartbeats 4000000 in
set_option maxRecDepth 100000 in
theorem L_Mo_token_273 (l : Launch) (D : va_G) (cI cB cJ cS : ClassId) (h0 : Nat) (am : Nat → Nat) (a_all_m4 : Nat) (p1 : Int32) (known_h0 : Int32) (thrown_h0 : Int32) (wrong_h0 : Int32) (lastEnd_h0 : Int32) (at_h0 : Int32) (bad_h0 : Int32) (levels_h0 : Int32) (least_h0 : Int32) (found_h0 : Int32) (size_m4 : Int32) (n_a_all_m4 : Nat) (b_a_all_m4 : Nat → Int32) (n_m15 : Nat) (b_m15 : Nat → Int32) (ret : Int32) (o_0_16 : Int32) (p : Program) (e : Env) (s : State) (m : MethodId) (below : List Frame) (meth : Method) (c : Code) (hr : meth.sig.returnType = (Option.some Jvm.ClassFile.FieldType.int)) (hnm : meth.name = y_Mo_token.name) : ∀ (k_273 : Nat) (v4_273 : Int32) (v3_273 : Int32) (v2_273 : Int32) (f3_16_273 : Int32), F_Mo_token_273 p1 known_h0 thrown_h0 wrong_h0 at_h0 bad_h0 levels_h0 least_h0 found_h0 size_m4 n_a_all_m4 b_a_all_m4  k_273 v4_273 v3_273 v2_273 f3_16_273 = some (ret, o_0_16) → J (KxOf p l e { frames := 5, cells := 0, slots := 0, locals := 109 } s m [.ref h0, .int p1].toArray below meth c D (gT cI cB cJ cS) [(h0, .inr (9, moF am known_h0 thrown_h0 wrong_h0 lastEnd_h0 at_h0 bad_h0 levels_h0 least_h0 found_h0)), ((am 4), .inr (8, [.ref a_all_m4, .int size_m4])), (a_all_m4, .inl (cI, n_a_all_m4, .inl b_a_all_m4)), ((am 15), .inl (cI, n_m15, .inl b_m15)), ((am 0), .inl (cS, 14, .inr (.inr (.inr (.inr (stA D 40)))))), ((am 1), .inl (cS, 27, .inr (.inr (.inr (.inr (stA D 54))))))] (fun v w => v = some (.int ret) ∧ w = [(h0, .inr (9, moF am known_h0 thrown_h0 wrong_h0 o_0_16 at_h0 bad_h0 levels_h0 least_h0 found_h0)), ((am 4), .inr (8, [.ref a_all_m4, .int size_m4])), (a_all_m4, .inl (cI, n_a_all_m4, .inl b_a_all_m4)), ((am 15), .inl (cI, n_m15, .inl b_m15)), ((am 0), .inl (cS, 14, .inr (.inr (.inr (.inr (stA D 40)))))), ((am 1), .inl (cS, 27, .inr (.inr (.inr (.inr (stA D 54))))))]) 0 0) prog_12_method_16_code 5 R_Mo 273 [(4, .int v4_273), (3, .int v3_273), (2, .int v2_273), (0, .ref h0), (1, .int p1)] [] [((am 15), .inl (cI, n_m15, .inl b_m15)), ((am 0), .inl (cS, 14, .inr (.inr (.inr (.inr (stA D 40)))))), ((am 1), .inl (cS, 27, .inr (.inr (.inr (.inr (stA D 54)))))), (h0, .inr (9, moF am known_h0 thrown_h0 wrong_h0 f3_16_273 at_h0 bad_h0 levels_h0 least_h0 found_h0)), ((am 4), .inr (8, [.ref a_all_m4, .int size_m4])), (a_all_m4, .inl (cI, n_a_all_m4, .inl b_a_all_m4))] 0 0 := by
  intro k_273
  induction k_273 with
  | zero => intro v4_273 v3_273 v2_273 f3_16_273 h; rw [F_Mo_token_273] at h; cases h
  | succ k_273 ih_273 =>
    intro v4_273 v3_273 v2_273 f3_16_273 h
    rw [F_Mo_token_273] at h
    refine j_iload d_Mo_token_273 0 rfl ?_
    refine j_aload_n d_Mo_token_275 rfl 3 rfl ?_
    refine j_get ig_Mo rfl 3 rfl 1 (by decide) rfl m_1114 rfl d_Mo_token_276 ?_
    refine j_alen (t0 := 3) 2 rfl rfl rfl d_Mo_token_279 ?_
    refine j_icmp_ge (tgt := 337) d_Mo_token_280 (by decide) (fun c2 => ?_) (fun c2 => ?_)
    · replace h := it_t c2 h
      refine j_aload_n d_Mo_token_337 rfl 3 rfl ?_
      refine j_iload_n d_Mo_token_338 rfl 1 rfl ?_
      refine j_if_ge (tgt := 348) d_Mo_token_339 (by decide) (fun c3 => ?_) (fun c3 => ?_)
      · replace h := it_t c3 h
        refine j_iload_n d_Mo_token_348 rfl 4 rfl ?_
        refine j_aload_n d_Mo_token_349 rfl 3 rfl ?_
        refine j_get ig_Mo rfl 3 rfl 1 (by decide) rfl m_1114 rfl d_Mo_token_350 ?_
        refine j_iload_n d_Mo_token_353 rfl 1 rfl ?_
        replace h := inb_s h
        obtain ⟨i4, h⟩ := h
        refine j_aald (t0 := 3) 2 rfl rfl i4 d_Mo_token_354 ?_
        replace h := sin_s h
        obtain ⟨i5, h⟩ := h
        refine j_len (i := (54 + Int32.toNatClampNeg v3_273)) i5 k_Mo_231 ⟨Nat.le_of_ble_eq_true rfl, Nat.le_of_ble_eq_true rfl⟩ (Nat.le_of_ble_eq_true rfl) ⟨Nat.le_of_ble_eq_true rfl, Nat.le_of_ble_eq_true rfl⟩ d_Mo_token_355 ?_
        refine j_iadd d_Mo_token_358 ?_
        refine j_sub (w := [((am 15), .inl (cI, n_m15, .inl b_m15)), ((am 0), .inl (cS, 14, .inr (.inr (.inr (.inr (stA D 40)))))), ((am 1), .inl (cS, 27, .inr (.inr (.inr (.inr (stA D 54)))))), (h0, .inr (9, moF am known_h0 thrown_h0 wrong_h0 f3_16_273 at_h0 bad_h0 levels_h0 least_h0 found_h0)), ((am 4), .inr (8, [.ref a_all_m4, .int size_m4])), (a_all_m4, .inl (cI, n_a_all_m4, .inl b_a_all_m4))]) (lv' := [(4, .int v4_273), (3, .int v3_273), (2, .int v2_273), (0, .ref h0), (1, .int p1)]) [0, 1, 2, 3, 4, 5] rfl (by decide) [0, 1, 2, 3, 4] rfl ?_
        exact L_Mo_token_359 l D cI cB cJ cS h0 am a_all_m4 p1 known_h0 thrown_h0 wrong_h0 lastEnd_h0 at_h0 bad_h0 levels_h0 least_h0 found_h0 size_m4 n_a_all_m4 b_a_all_m4 n_m15 b_m15 ret o_0_16 p e s m below meth c hr hnm v4_273 v3_273 v2_273 (p1 + (nI (gB (54 + Int32.toNatClampNeg v3_273)).length)) f3_16_273 h
      · replace h := it_f c3 h
        refine j_iload_n d_Mo_token_342 rfl 4 rfl ?_
        refine j_iconst (v := 1) d_Mo_token_343 (by decide) ?_
        refine j_iadd d_Mo_token_344 ?_
        refine j_goto (tgt := 359) d_Mo_token_345 (by decide) ?_
        refine j_sub (w := [((am 15), .inl (cI, n_m15, .inl b_m15)), ((am 0), .inl (cS, 14, .inr (.inr (.inr (.inr (stA D 40)))))), ((am 1), .inl (cS, 27, .inr (.inr (.inr (.inr (stA D 54)))))), (h0, .inr (9, moF am known_h0 thrown_h0 wrong_h0 f3_16_273 at_h0 bad_h0 levels_h0 least_h0 found_h0)), ((am 4), .inr (8, [.ref a_all_m4, .int size_m4])), (a_all_m4, .inl (cI, n_a_all_m4, .inl b_a_all_m4))]) (lv' := [(4, .int v4_273), (3, .int v3_273), (2, .int v2_273), (0, .ref h0), (1, .int p1)]) [0, 1, 2, 3, 4, 5] rfl (by decide) [0, 1, 2, 3, 4] rfl ?_
        exact L_Mo_token_359 l D cI cB cJ cS h0 am a_all_m4 p1 known_h0 thrown_h0 wrong_h0 lastEnd_h0 at_h0 bad_h0 levels_h0 least_h0 found_h0 size_m4 n_a_all_m4 b_a_all_m4 n_m15 b_m15 ret o_0_16 p e s m below meth c hr hnm v4_273 v3_273 v2_273 (p1 + 1) f3_16_273 h
    · replace h := it_f c2 h
      refine j_aload_n d_Mo_token_283 rfl 3 rfl ?_
      refine j_aload_n d_Mo_token_284 rfl 3 rfl ?_
      refine j_get ig_Mo rfl 3 rfl 1 (by decide) rfl m_1114 rfl d_Mo_token_285 ?_
      refine j_iload d_Mo_token_288 0 rfl ?_
      replace h := inb_s h
      obtain ⟨i7, h⟩ := h
      refine j_aald (t0 := 3) 2 rfl rfl i7 d_Mo_token_290 ?_
      refine j_iload_n d_Mo_token_291 rfl 4 rfl ?_
      replace h := bd_s h
      obtain ⟨r8, k10, h⟩ := h
      refine j_callV (n := 2) (As := [.ref (sA D (54 + Int32.toNatClampNeg v4_273)), .int p1]) (rest := []) (wr := [((am 15), .inl (cI, n_m15, .inl b_m15)), ((am 0), .inl (cS, 14, .inr (.inr (.inr (.inr (stA D 40)))))), ((am 1), .inl (cS, 27, .inr (.inr (.inr (.inr (stA D 54))))))]) (c_Mo_stands l D cI cB cJ cS h0 am a_all_m4 (54 + Int32.toNatClampNeg v4_273) p1 known_h0 thrown_h0 wrong_h0 f3_16_273 at_h0 bad_h0 levels_h0 least_h0 found_h0 size_m4 n_a_all_m4 b_a_all_m4  r8 k10) k_Mo_253 (by decide) ⟨Nat.le_of_ble_eq_true rfl, Nat.le_of_ble_eq_true rfl⟩ rfl 0 rfl [3, 4, 5] [0, 1, 2] rfl (by decide) rfl (by decide) (by decide) rfl rfl (Nat.le_of_ble_eq_true rfl) d_Mo_token_292 ⟨Nat.le_of_ble_eq_true rfl, Nat.le_of_ble_eq_true rfl⟩ (fun v w hq => ?_)
      obtain ⟨rfl, z9, rfl⟩ := hq
      refine j_norm (pc' := 295) (st' := [.int r8]) (ws' := [((am 15), .inl (cI, n_m15, .inl b_m15)), ((am 0), .inl (cS, 14, .inr (.inr (.inr (.inr (stA D 40)))))), ((am 1), .inl (cS, 27, .inr (.inr (.inr (.inr (stA D 54)))))), (h0, .inr (9, moF am known_h0 thrown_h0 wrong_h0 f3_16_273 at_h0 bad_h0 levels_h0 least_h0 found_h0)), ((am 4), .inr (8, [.ref a_all_m4, .int size_m4])), (a_all_m4, .inl (cI, n_a_all_m4, .inl b_a_all_m4))]) (cl' := 0) (sl' := 0) rfl rfl rfl rfl rfl rfl ?_
      refine j_if_eq (tgt := 329) d_Mo_token_295 (by decide) (fun c11 => ?_) (fun c11 => ?_)
      · replace h := it_t c11 h
        refine j_iload_n d_Mo_token_329 rfl 1 rfl ?_
        refine j_istore_n (lv' := [(3, .int v3_273), (4, .int v4_273), (2, .int v2_273), (0, .ref h0), (1, .int p1)]) d_Mo_token_330 rfl (by decide) rfl ?_
        refine j_iinc (v := v4_273 + 1) (lv' := [(4, .int (v4_273 + 1)), (3, .int v3_273), (2, .int v2_273), (0, .ref h0), (1, .int p1)]) d_Mo_token_331 1 rfl rfl (by decide) rfl ?_
        refine j_goto (tgt := 273) d_Mo_token_334 (by decide) ?_
        refine j_sub (w := [((am 15), .inl (cI, n_m15, .inl b_m15)), ((am 0), .inl (cS, 14, .inr (.inr (.inr (.inr (stA D 40)))))), ((am 1), .inl (cS, 27, .inr (.inr (.inr (.inr (stA D 54)))))), (h0, .inr (9, moF am known_h0 thrown_h0 wrong_h0 f3_16_273 at_h0 bad_h0 levels_h0 least_h0 found_h0)), ((am 4), .inr (8, [.ref a_all_m4, .int size_m4])), (a_all_m4, .inl (cI, n_a_all_m4, .inl b_a_all_m4))]) (lv' := [(4, .int (v4_273 + 1)), (3, .int v3_273), (2, .int v2_273), (0, .ref h0), (1, .int p1)]) [0, 1, 2, 3, 4, 5] rfl (by decide) [0, 1, 2, 3, 4] rfl ?_
        exact ih_273 (v4_273 + 1) v3_273 v2_273 f3_16_273 h
      · replace h := it_f c11 h
        refine j_iload_n d_Mo_token_298 rfl 1 rfl ?_
        refine j_if_lt (tgt := 324) d_Mo_token_299 (by decide) (fun c12 => ?_) (fun c12 => ?_)
        · replace h := it_t c12 h
          refine j_iload d_Mo_token_324 0 rfl ?_
          refine j_goto (tgt := 330) d_Mo_token_326 (by decide) ?_
          refine j_istore_n (lv' := [(3, .int v4_273), (4, .int v4_273), (2, .int v2_273), (0, .ref h0), (1, .int p1)]) d_Mo_token_330 rfl (by decide) rfl ?_
          refine j_iinc (v := v4_273 + 1) (lv' := [(4, .int (v4_273 + 1)), (3, .int v4_273), (2, .int v2_273), (0, .ref h0), (1, .int p1)]) d_Mo_token_331 1 rfl rfl (by decide) rfl ?_
          refine j_goto (tgt := 273) d_Mo_token_334 (by decide) ?_
          refine j_sub (w := [((am 15), .inl (cI, n_m15, .inl b_m15)), ((am 0), .inl (cS, 14, .inr (.inr (.inr (.inr (stA D 40)))))), ((am 1), .inl (cS, 27, .inr (.inr (.inr (.inr (stA D 54)))))), (h0, .inr (9, moF am known_h0 thrown_h0 wrong_h0 f3_16_273 at_h0 bad_h0 levels_h0 least_h0 found_h0)), ((am 4), .inr (8, [.ref a_all_m4, .int size_m4])), (a_all_m4, .inl (cI, n_a_all_m4, .inl b_a_all_m4))]) (lv' := [(4, .int (v4_273 + 1)), (3, .int v4_273), (2, .int v2_273), (0, .ref h0), (1, .int p1)]) [0, 1, 2, 3, 4, 5] rfl (by decide) [0, 1, 2, 3, 4] rfl ?_
          exact ih_273 (v4_273 + 1) v4_273 v2_273 f3_16_273 h
        · replace h := it_f c12 h
          refine j_aload_n d_Mo_token_302 rfl 3 rfl ?_
          refine j_get ig_Mo rfl 3 rfl 1 (by decide) rfl m_1114 rfl d_Mo_token_303 ?_
          refine j_iload d_Mo_token_306 0 rfl ?_
          replace h := inb_s h
          obtain ⟨i13, h⟩ := h
          refine j_aald (t0 := 3) 2 rfl rfl i13 d_Mo_token_308 ?_
          replace h := sin_s h
          obtain ⟨i14, h⟩ := h
          refine j_len (i := (54 + Int32.toNatClampNeg v4_273)) i14 k_Mo_231 ⟨Nat.le_of_ble_eq_true rfl, Nat.le_of_ble_eq_true rfl⟩ (Nat.le_of_ble_eq_true rfl) ⟨Nat.le_of_ble_eq_true rfl, Nat.le_of_ble_eq_true rfl⟩ d_Mo_token_309 ?_
          refine j_aload_n d_Mo_token_312 rfl 3 rfl ?_
          refine j_get ig_Mo rfl 3 rfl 1 (by decide) rfl m_1114 rfl d_Mo_token_313 ?_
          refine j_iload_n d_Mo_token_316 rfl 1 rfl ?_
          replace h := inb_s h
          obtain ⟨i16, h⟩ := h
          refine j_aald (t0 := 3) 2 rfl rfl i16 d_Mo_token_317 ?_
          replace h := sin_s h
          obtain ⟨i17, h⟩ := h
          refine j_len (i := (54 + Int32.toNatClampNeg v3_273)) i17 k_Mo_231 ⟨Nat.le_of_ble_eq_true rfl, Nat.le_of_ble_eq_true rfl⟩ (Nat.le_of_ble_eq_true rfl) ⟨Nat.le_of_ble_eq_true rfl, Nat.le_of_ble_eq_true rfl⟩ d_Mo_token_318 ?_
          refine j_icmp_le (tgt := 329) d_Mo_token_321 (by decide) (fun c19 => ?_) (fun c19 => ?_)
          · replace h := it_t c19 h
            refine j_iload_n d_Mo_token_329 rfl 1 rfl ?_
            refine j_istore_n (lv' := [(3, .int v3_273), (4, .int v4_273), (2, .int v2_273), (0, .ref h0), (1, .int p1)]) d_Mo_token_330 rfl (by decide) rfl ?_
            refine j_iinc (v := v4_273 + 1) (lv' := [(4, .int (v4_273 + 1)), (3, .int v3_273), (2, .int v2_273), (0, .ref h0), (1, .int p1)]) d_Mo_token_331 1 rfl rfl (by decide) rfl ?_
            refine j_goto (tgt := 273) d_Mo_token_334 (by decide) ?_
            refine j_sub (w := [((am 15), .inl (cI, n_m15, .inl b_m15)), ((am 0), .inl (cS, 14, .inr (.inr (.inr (.inr (stA D 40)))))), ((am 1), .inl (cS, 27, .inr (.inr (.inr (.inr (stA D 54)))))), (h0, .inr (9, moF am known_h0 thrown_h0 wrong_h0 f3_16_273 at_h0 bad_h0 levels_h0 least_h0 found_h0)), ((am 4), .inr (8, [.ref a_all_m4, .int size_m4])), (a_all_m4, .inl (cI, n_a_all_m4, .inl b_a_all_m4))]) (lv' := [(4, .int (v4_273 + 1)), (3, .int v3_273), (2, .int v2_273), (0, .ref h0), (1, .int p1)]) [0, 1, 2, 3, 4, 5] rfl (by decide) [0, 1, 2, 3, 4] rfl ?_
            exact ih_273 (v4_273 + 1) v3_273 v2_273 f3_16_273 h
          · replace h := it_f c19 h
            refine j_iload d_Mo_token_324 0 rfl ?_
            refine j_goto (tgt := 330) d_Mo_token_326 (by decide) ?_
            refine j_istore_n (lv' := [(3, .int v4_273), (4, .int v4_273), (2, .int v2_273), (0, .ref h0), (1, .int p1)]) d_Mo_token_330 rfl (by decide) rfl ?_
            refine j_iinc (v := v4_273 + 1) (lv' := [(4, .int (v4_273 + 1)), (3, .int v4_273), (2, .int v2_273), (0, .ref h0), (1, .int p1)]) d_Mo_token_331 1 rfl rfl (by decide) rfl ?_
            refine j_goto (tgt := 273) d_Mo_token_334 (by decide) ?_
            refine j_sub (w := [((am 15), .inl (cI, n_m15, .inl b_m15)), ((am 0), .inl (cS, 14, .inr (.inr (.inr (.inr (stA D 40)))))), ((am 1), .inl (cS, 27, .inr (.inr (.inr (.inr (stA D 54)))))), (h0, .inr (9, moF am known_h0 thrown_h0 wrong_h0 f3_16_273 at_h0 bad_h0 levels_h0 least_h0 found_h0)), ((am 4), .inr (8, [.ref a_all_m4, .int size_m4])), (a_all_m4, .inl (cI, n_a_all_m4, .inl b_a_all_m4))]) (lv' := [(4, .int (v4_273 + 1)), (3, .int v4_273), (2, .int v2_273), (0, .ref h0), (1, .int p1)]) [0, 1, 2, 3, 4, 5] rfl (by decide) [0, 1, 2, 3, 4] rfl ?_
            exact ih_273 (v4_273 + 1) v4_273 v2_273 f3_16_273 h
set_option maxHeartbeats 4000000 in
set_option maxRecDepth 100000 in
theorem L_Mo_token_234 (l : Launch) (D : va_G) (cI cB cJ cS : ClassId) (h0 : Nat) (am : Nat → Nat) (a_all_m4 : Nat) (p1 : Int32) (known_h0 : Int32) (thrown_h0 : Int32) (wrong_h0 : Int32) (lastEnd_h0 : Int32) (at_h0 : Int32) (bad_h0 : Int32) (levels_h0 : Int32) (least_h0 : Int32) (found_h0 : Int32) (size_m4 : Int32) (n_a_all_m4 : Nat) (b_a_all_m4 : Nat → Int32) (n_m15 : Nat) (b_m15 : Nat → Int32) (ret : Int32) (o_0_16 : Int32) (p : Program) (e : Env) (s : State) (m : MethodId) (below : List Frame) (meth : Method) (c : Code) (hr : meth.sig.returnType = (Option.some Jvm.ClassFile.FieldType.int)) (hnm : meth.name = y_Mo_token.name) : ∀ (v3_234 : Int32) (v2_234 : Int32) (f3_16_234 : Int32), F_Mo_token_234 p1 known_h0 thrown_h0 wrong_h0 at_h0 bad_h0 levels_h0 least_h0 found_h0 size_m4 n_a_all_m4 b_a_all_m4   v3_234 v2_234 f3_16_234 = some (ret, o_0_16) → J (KxOf p l e { frames := 5, cells := 0, slots := 0, locals := 109 } s m [.ref h0, .int p1].toArray below meth c D (gT cI cB cJ cS) [(h0, .inr (9, moF am known_h0 thrown_h0 wrong_h0 lastEnd_h0 at_h0 bad_h0 levels_h0 least_h0 found_h0)), ((am 4), .inr (8, [.ref a_all_m4, .int size_m4])), (a_all_m4, .inl (cI, n_a_all_m4, .inl b_a_all_m4)), ((am 15), .inl (cI, n_m15, .inl b_m15)), ((am 0), .inl (cS, 14, .inr (.inr (.inr (.inr (stA D 40)))))), ((am 1), .inl (cS, 27, .inr (.inr (.inr (.inr (stA D 54))))))] (fun v w => v = some (.int ret) ∧ w = [(h0, .inr (9, moF am known_h0 thrown_h0 wrong_h0 o_0_16 at_h0 bad_h0 levels_h0 least_h0 found_h0)), ((am 4), .inr (8, [.ref a_all_m4, .int size_m4])), (a_all_m4, .inl (cI, n_a_all_m4, .inl b_a_all_m4)), ((am 15), .inl (cI, n_m15, .inl b_m15)), ((am 0), .inl (cS, 14, .inr (.inr (.inr (.inr (stA D 40)))))), ((am 1), .inl (cS, 27, .inr (.inr (.inr (.inr (stA D 54))))))]) 0 0) prog_12_method_16_code 5 R_Mo 234 [(3, .int v3_234), (2, .int v2_234), (0, .ref h0), (1, .int p1)] [] [((am 15), .inl (cI, n_m15, .inl b_m15)), ((am 0), .inl (cS, 14, .inr (.inr (.inr (.inr (stA D 40)))))), ((am 1), .inl (cS, 27, .inr (.inr (.inr (.inr (stA D 54)))))), (h0, .inr (9, moF am known_h0 thrown_h0 wrong_h0 f3_16_234 at_h0 bad_h0 levels_h0 least_h0 found_h0)), ((am 4), .inr (8, [.ref a_all_m4, .int size_m4])), (a_all_m4, .inl (cI, n_a_all_m4, .inl b_a_all_m4))] 0 0 := by
  intro v3_234 v2_234 f3_16_234 h
  unfold F_Mo_token_234 at h
  refine j_aload_n d_Mo_token_234 rfl 2 rfl ?_
  refine j_iload_n d_Mo_token_235 rfl 0 rfl ?_
  refine j_iconst (v := 1) d_Mo_token_236 (by decide) ?_
  refine j_iadd d_Mo_token_237 ?_
  refine j_put (ws' := [((am 15), .inl (cI, n_m15, .inl b_m15)), ((am 0), .inl (cS, 14, .inr (.inr (.inr (.inr (stA D 40)))))), ((am 1), .inl (cS, 27, .inr (.inr (.inr (.inr (stA D 54)))))), (h0, .inr (9, moF am known_h0 thrown_h0 wrong_h0 (v3_234 + 1) at_h0 bad_h0 levels_h0 least_h0 found_h0)), ((am 4), .inr (8, [.ref a_all_m4, .int size_m4])), (a_all_m4, .inl (cI, n_a_all_m4, .inl b_a_all_m4))]) ig_Mo tk_Mo nm_Mo rfl 3 rfl 16 (by decide) rfl m_1129 rfl (tk_Mo 16 (by decide)) rfl rfl (Nat.le_of_ble_eq_true rfl) d_Mo_token_238 rfl ?_
  refine j_aload_n d_Mo_token_241 rfl 2 rfl ?_
  refine j_iload_n d_Mo_token_242 rfl 0 rfl ?_
  replace h := bd_s h
  obtain ⟨r20, k21, h⟩ := h
  refine j_callV (n := 1) (As := [.int v3_234]) (rest := []) (wr := [((am 15), .inl (cI, n_m15, .inl b_m15)), ((am 0), .inl (cS, 14, .inr (.inr (.inr (.inr (stA D 40)))))), ((am 1), .inl (cS, 27, .inr (.inr (.inr (.inr (stA D 54))))))]) (c_Mo_letter l D cI cB cJ cS h0 am a_all_m4 v3_234 known_h0 thrown_h0 wrong_h0 (v3_234 + 1) at_h0 bad_h0 levels_h0 least_h0 found_h0 size_m4 n_a_all_m4 b_a_all_m4  r20 k21) k_Mo_222 (by decide) ⟨Nat.le_of_ble_eq_true rfl, Nat.le_of_ble_eq_true rfl⟩ rfl 0 rfl [3, 4, 5] [0, 1, 2] rfl (by decide) rfl (by decide) (by decide) rfl rfl (Nat.le_of_ble_eq_true rfl) d_Mo_token_243 ⟨Nat.le_of_ble_eq_true rfl, Nat.le_of_ble_eq_true rfl⟩ (fun v w hq => ?_)
  obtain ⟨rfl, rfl⟩ := hq
  refine j_norm (pc' := 246) (st' := [.int r20]) (ws' := [((am 15), .inl (cI, n_m15, .inl b_m15)), ((am 0), .inl (cS, 14, .inr (.inr (.inr (.inr (stA D 40)))))), ((am 1), .inl (cS, 27, .inr (.inr (.inr (.inr (stA D 54)))))), (h0, .inr (9, moF am known_h0 thrown_h0 wrong_h0 (v3_234 + 1) at_h0 bad_h0 levels_h0 least_h0 found_h0)), ((am 4), .inr (8, [.ref a_all_m4, .int size_m4])), (a_all_m4, .inl (cI, n_a_all_m4, .inl b_a_all_m4))]) (cl' := 0) (sl' := 0) rfl rfl rfl rfl rfl rfl ?_
  refine j_bipush (v := 34) d_Mo_token_246 (by decide) ?_
  refine j_icmp_ne (tgt := 266) d_Mo_token_248 (by decide) (fun c22 => ?_) (fun c22 => ?_)
  · replace h := it_f c22 h
    refine j_iconst (v := 1) d_Mo_token_266 (by decide) ?_
    replace h := Option.some.inj h
    replace h := Prod.mk.inj h
    obtain ⟨h9, h⟩ := h
    subst h9
    subst h
    exact j_iret (w := [(h0, .inr (9, moF am known_h0 thrown_h0 wrong_h0 (v3_234 + 1) at_h0 bad_h0 levels_h0 least_h0 found_h0)), ((am 4), .inr (8, [.ref a_all_m4, .int size_m4])), (a_all_m4, .inl (cI, n_a_all_m4, .inl b_a_all_m4)), ((am 15), .inl (cI, n_m15, .inl b_m15)), ((am 0), .inl (cS, 14, .inr (.inr (.inr (.inr (stA D 40)))))), ((am 1), .inl (cS, 27, .inr (.inr (.inr (.inr (stA D 54))))))]) hr d_Mo_token_267 [3, 4, 5, 0, 1, 2] rfl (by decide) ⟨rfl, rfl⟩
  · replace h := it_t c22 h
    refine j_iload_n d_Mo_token_251 rfl 0 rfl ?_
    refine j_iload_n d_Mo_token_252 rfl 3 rfl ?_
    refine j_isub d_Mo_token_253 ?_
    refine j_iconst (v := 1) d_Mo_token_254 (by decide) ?_
    refine j_isub d_Mo_token_255 ?_
    refine j_sipush (v := 4096) d_Mo_token_256 (by decide) ?_
    refine j_icmp_gt (tgt := 266) d_Mo_token_259 (by decide) (fun c23 => ?_) (fun c23 => ?_)
    · replace h := it_t c23 h
      refine j_iconst (v := 1) d_Mo_token_266 (by decide) ?_
      replace h := Option.some.inj h
      replace h := Prod.mk.inj h
      obtain ⟨h9, h⟩ := h
      subst h9
      subst h
      exact j_iret (w := [(h0, .inr (9, moF am known_h0 thrown_h0 wrong_h0 (v3_234 + 1) at_h0 bad_h0 levels_h0 least_h0 found_h0)), ((am 4), .inr (8, [.ref a_all_m4, .int size_m4])), (a_all_m4, .inl (cI, n_a_all_m4, .inl b_a_all_m4)), ((am 15), .inl (cI, n_m15, .inl b_m15)), ((am 0), .inl (cS, 14, .inr (.inr (.inr (.inr (stA D 40)))))), ((am 1), .inl (cS, 27, .inr (.inr (.inr (.inr (stA D 54))))))]) hr d_Mo_token_267 [3, 4, 5, 0, 1, 2] rfl (by decide) ⟨rfl, rfl⟩
    · replace h := it_f c23 h
      refine j_iconst (v := 4) d_Mo_token_262 (by decide) ?_
      refine j_goto (tgt := 267) d_Mo_token_263 (by decide) ?_
      replace h := Option.some.inj h
      replace h := Prod.mk.inj h
      obtain ⟨h9, h⟩ := h
      subst h9
      subst h
      exact j_iret (w := [(h0, .inr (9, moF am known_h0 thrown_h0 wrong_h0 (v3_234 + 1) at_h0 bad_h0 levels_h0 least_h0 found_h0)), ((am 4), .inr (8, [.ref a_all_m4, .int size_m4])), (a_all_m4, .inl (cI, n_a_all_m4, .inl b_a_all_m4)), ((am 15), .inl (cI, n_m15, .inl b_m15)), ((am 0), .inl (cS, 14, .inr (.inr (.inr (.inr (stA D 40)))))), ((am 1), .inl (cS, 27, .inr (.inr (.inr (.inr (stA D 54))))))]) hr d_Mo_token_267 [3, 4, 5, 0, 1, 2] rfl (by decide) ⟨rfl, rfl⟩
set_option maxHeartbeats 4000000 in
set_option maxRecDepth 100000 in
theorem L_Mo_token_198 (l : Launch) (D : va_G) (cI cB cJ cS : ClassId) (h0 : Nat) (am : Nat → Nat) (a_all_m4 : Nat) (p1 : Int32) (known_h0 : Int32) (thrown_h0 : Int32) (wrong_h0 : Int32) (lastEnd_h0 : Int32) (at_h0 : Int32) (bad_h0 : Int32) (levels_h0 : Int32) (least_h0 : Int32) (found_h0 : Int32) (size_m4 : Int32) (n_a_all_m4 : Nat) (b_a_all_m4 : Nat → Int32) (n_m15 : Nat) (b_m15 : Nat → Int32) (ret : Int32) (o_0_16 : Int32) (p : Program) (e : Env) (s : State) (m : MethodId) (below : List Frame) (meth : Method) (c : Code) (hr : meth.sig.returnType = (Option.some Jvm.ClassFile.FieldType.int)) (hnm : meth.name = y_Mo_token.name) : ∀ (k_198 : Nat) (v3_198 : Int32) (v2_198 : Int32) (f3_16_198 : Int32), F_Mo_token_198 p1 known_h0 thrown_h0 wrong_h0 at_h0 bad_h0 levels_h0 least_h0 found_h0 size_m4 n_a_all_m4 b_a_all_m4  k_198 v3_198 v2_198 f3_16_198 = some (ret, o_0_16) → J (KxOf p l e { frames := 5, cells := 0, slots := 0, locals := 109 } s m [.ref h0, .int p1].toArray below meth c D (gT cI cB cJ cS) [(h0, .inr (9, moF am known_h0 thrown_h0 wrong_h0 lastEnd_h0 at_h0 bad_h0 levels_h0 least_h0 found_h0)), ((am 4), .inr (8, [.ref a_all_m4, .int size_m4])), (a_all_m4, .inl (cI, n_a_all_m4, .inl b_a_all_m4)), ((am 15), .inl (cI, n_m15, .inl b_m15)), ((am 0), .inl (cS, 14, .inr (.inr (.inr (.inr (stA D 40)))))), ((am 1), .inl (cS, 27, .inr (.inr (.inr (.inr (stA D 54))))))] (fun v w => v = some (.int ret) ∧ w = [(h0, .inr (9, moF am known_h0 thrown_h0 wrong_h0 o_0_16 at_h0 bad_h0 levels_h0 least_h0 found_h0)), ((am 4), .inr (8, [.ref a_all_m4, .int size_m4])), (a_all_m4, .inl (cI, n_a_all_m4, .inl b_a_all_m4)), ((am 15), .inl (cI, n_m15, .inl b_m15)), ((am 0), .inl (cS, 14, .inr (.inr (.inr (.inr (stA D 40)))))), ((am 1), .inl (cS, 27, .inr (.inr (.inr (.inr (stA D 54))))))]) 0 0) prog_12_method_16_code 5 R_Mo 198 [(3, .int v3_198), (2, .int v2_198), (0, .ref h0), (1, .int p1)] [] [((am 15), .inl (cI, n_m15, .inl b_m15)), ((am 0), .inl (cS, 14, .inr (.inr (.inr (.inr (stA D 40)))))), ((am 1), .inl (cS, 27, .inr (.inr (.inr (.inr (stA D 54)))))), (h0, .inr (9, moF am known_h0 thrown_h0 wrong_h0 f3_16_198 at_h0 bad_h0 levels_h0 least_h0 found_h0)), ((am 4), .inr (8, [.ref a_all_m4, .int size_m4])), (a_all_m4, .inl (cI, n_a_all_m4, .inl b_a_all_m4))] 0 0 := by
  intro k_198
  induction k_198 with
  | zero => intro v3_198 v2_198 f3_16_198 h; rw [F_Mo_token_198] at h; cases h
  | succ k_198 ih_198 =>
    intro v3_198 v2_198 f3_16_198 h
    rw [F_Mo_token_198] at h
    refine j_aload_n d_Mo_token_198 rfl 2 rfl ?_
    refine j_iload_n d_Mo_token_199 rfl 0 rfl ?_
    replace h := bd_s h
    obtain ⟨r24, k25, h⟩ := h
    refine j_callV (n := 1) (As := [.int v3_198]) (rest := []) (wr := [((am 15), .inl (cI, n_m15, .inl b_m15)), ((am 0), .inl (cS, 14, .inr (.inr (.inr (.inr (stA D 40)))))), ((am 1), .inl (cS, 27, .inr (.inr (.inr (.inr (stA D 54))))))]) (c_Mo_letter l D cI cB cJ cS h0 am a_all_m4 v3_198 known_h0 thrown_h0 wrong_h0 f3_16_198 at_h0 bad_h0 levels_h0 least_h0 found_h0 size_m4 n_a_all_m4 b_a_all_m4  r24 k25) k_Mo_222 (by decide) ⟨Nat.le_of_ble_eq_true rfl, Nat.le_of_ble_eq_true rfl⟩ rfl 0 rfl [3, 4, 5] [0, 1, 2] rfl (by decide) rfl (by decide) (by decide) rfl rfl (Nat.le_of_ble_eq_true rfl) d_Mo_token_200 ⟨Nat.le_of_ble_eq_true rfl, Nat.le_of_ble_eq_true rfl⟩ (fun v w hq => ?_)
    obtain ⟨rfl, rfl⟩ := hq
    refine j_norm (pc' := 203) (st' := [.int r24]) (ws' := [((am 15), .inl (cI, n_m15, .inl b_m15)), ((am 0), .inl (cS, 14, .inr (.inr (.inr (.inr (stA D 40)))))), ((am 1), .inl (cS, 27, .inr (.inr (.inr (.inr (stA D 54)))))), (h0, .inr (9, moF am known_h0 thrown_h0 wrong_h0 f3_16_198 at_h0 bad_h0 levels_h0 least_h0 found_h0)), ((am 4), .inr (8, [.ref a_all_m4, .int size_m4])), (a_all_m4, .inl (cI, n_a_all_m4, .inl b_a_all_m4))]) (cl' := 0) (sl' := 0) rfl rfl rfl rfl rfl rfl ?_
    refine j_bipush (v := 32) d_Mo_token_203 (by decide) ?_
    refine j_icmp_lt (tgt := 234) d_Mo_token_205 (by decide) (fun c26 => ?_) (fun c26 => ?_)
    · replace h := it_t c26 h
      refine j_sub (w := [((am 15), .inl (cI, n_m15, .inl b_m15)), ((am 0), .inl (cS, 14, .inr (.inr (.inr (.inr (stA D 40)))))), ((am 1), .inl (cS, 27, .inr (.inr (.inr (.inr (stA D 54)))))), (h0, .inr (9, moF am known_h0 thrown_h0 wrong_h0 f3_16_198 at_h0 bad_h0 levels_h0 least_h0 found_h0)), ((am 4), .inr (8, [.ref a_all_m4, .int size_m4])), (a_all_m4, .inl (cI, n_a_all_m4, .inl b_a_all_m4))]) (lv' := [(3, .int v3_198), (2, .int v2_198), (0, .ref h0), (1, .int p1)]) [0, 1, 2, 3, 4, 5] rfl (by decide) [0, 1, 2, 3] rfl ?_
      exact L_Mo_token_234 l D cI cB cJ cS h0 am a_all_m4 p1 known_h0 thrown_h0 wrong_h0 lastEnd_h0 at_h0 bad_h0 levels_h0 least_h0 found_h0 size_m4 n_a_all_m4 b_a_all_m4 n_m15 b_m15 ret o_0_16 p e s m below meth c hr hnm v3_198 v2_198 f3_16_198 h
    · replace h := it_f c26 h
      refine j_aload_n d_Mo_token_208 rfl 2 rfl ?_
      refine j_iload_n d_Mo_token_209 rfl 0 rfl ?_
      replace h := bd_s h
      obtain ⟨r27, k28, h⟩ := h
      refine j_callV (n := 1) (As := [.int v3_198]) (rest := []) (wr := [((am 15), .inl (cI, n_m15, .inl b_m15)), ((am 0), .inl (cS, 14, .inr (.inr (.inr (.inr (stA D 40)))))), ((am 1), .inl (cS, 27, .inr (.inr (.inr (.inr (stA D 54))))))]) (c_Mo_letter l D cI cB cJ cS h0 am a_all_m4 v3_198 known_h0 thrown_h0 wrong_h0 f3_16_198 at_h0 bad_h0 levels_h0 least_h0 found_h0 size_m4 n_a_all_m4 b_a_all_m4  r27 k28) k_Mo_222 (by decide) ⟨Nat.le_of_ble_eq_true rfl, Nat.le_of_ble_eq_true rfl⟩ rfl 0 rfl [3, 4, 5] [0, 1, 2] rfl (by decide) rfl (by decide) (by decide) rfl rfl (Nat.le_of_ble_eq_true rfl) d_Mo_token_210 ⟨Nat.le_of_ble_eq_true rfl, Nat.le_of_ble_eq_true rfl⟩ (fun v w hq => ?_)
      obtain ⟨rfl, rfl⟩ := hq
      refine j_norm (pc' := 213) (st' := [.int r27]) (ws' := [((am 15), .inl (cI, n_m15, .inl b_m15)), ((am 0), .inl (cS, 14, .inr (.inr (.inr (.inr (stA D 40)))))), ((am 1), .inl (cS, 27, .inr (.inr (.inr (.inr (stA D 54)))))), (h0, .inr (9, moF am known_h0 thrown_h0 wrong_h0 f3_16_198 at_h0 bad_h0 levels_h0 least_h0 found_h0)), ((am 4), .inr (8, [.ref a_all_m4, .int size_m4])), (a_all_m4, .inl (cI, n_a_all_m4, .inl b_a_all_m4))]) (cl' := 0) (sl' := 0) rfl rfl rfl rfl rfl rfl ?_
      refine j_bipush (v := 126) d_Mo_token_213 (by decide) ?_
      refine j_icmp_gt (tgt := 234) d_Mo_token_215 (by decide) (fun c29 => ?_) (fun c29 => ?_)
      · replace h := it_t c29 h
        refine j_sub (w := [((am 15), .inl (cI, n_m15, .inl b_m15)), ((am 0), .inl (cS, 14, .inr (.inr (.inr (.inr (stA D 40)))))), ((am 1), .inl (cS, 27, .inr (.inr (.inr (.inr (stA D 54)))))), (h0, .inr (9, moF am known_h0 thrown_h0 wrong_h0 f3_16_198 at_h0 bad_h0 levels_h0 least_h0 found_h0)), ((am 4), .inr (8, [.ref a_all_m4, .int size_m4])), (a_all_m4, .inl (cI, n_a_all_m4, .inl b_a_all_m4))]) (lv' := [(3, .int v3_198), (2, .int v2_198), (0, .ref h0), (1, .int p1)]) [0, 1, 2, 3, 4, 5] rfl (by decide) [0, 1, 2, 3] rfl ?_
        exact L_Mo_token_234 l D cI cB cJ cS h0 am a_all_m4 p1 known_h0 thrown_h0 wrong_h0 lastEnd_h0 at_h0 bad_h0 levels_h0 least_h0 found_h0 size_m4 n_a_all_m4 b_a_all_m4 n_m15 b_m15 ret o_0_16 p e s m below meth c hr hnm v3_198 v2_198 f3_16_198 h
      · replace h := it_f c29 h
        refine j_aload_n d_Mo_token_218 rfl 2 rfl ?_
        refine j_iload_n d_Mo_token_219 rfl 0 rfl ?_
        replace h := bd_s h
        obtain ⟨r30, k31, h⟩ := h
        refine j_callV (n := 1) (As := [.int v3_198]) (rest := []) (wr := [((am 15), .inl (cI, n_m15, .inl b_m15)), ((am 0), .inl (cS, 14, .inr (.inr (.inr (.inr (stA D 40)))))), ((am 1), .inl (cS, 27, .inr (.inr (.inr (.inr (stA D 54))))))]) (c_Mo_letter l D cI cB cJ cS h0 am a_all_m4 v3_198 known_h0 thrown_h0 wrong_h0 f3_16_198 at_h0 bad_h0 levels_h0 least_h0 found_h0 size_m4 n_a_all_m4 b_a_all_m4  r30 k31) k_Mo_222 (by decide) ⟨Nat.le_of_ble_eq_true rfl, Nat.le_of_ble_eq_true rfl⟩ rfl 0 rfl [3, 4, 5] [0, 1, 2] rfl (by decide) rfl (by decide) (by decide) rfl rfl (Nat.le_of_ble_eq_true rfl) d_Mo_token_220 ⟨Nat.le_of_ble_eq_true rfl, Nat.le_of_ble_eq_true rfl⟩ (fun v w hq => ?_)
        obtain ⟨rfl, rfl⟩ := hq
        refine j_norm (pc' := 223) (st' := [.int r30]) (ws' := [((am 15), .inl (cI, n_m15, .inl b_m15)), ((am 0), .inl (cS, 14, .inr (.inr (.inr (.inr (stA D 40)))))), ((am 1), .inl (cS, 27, .inr (.inr (.inr (.inr (stA D 54)))))), (h0, .inr (9, moF am known_h0 thrown_h0 wrong_h0 f3_16_198 at_h0 bad_h0 levels_h0 least_h0 found_h0)), ((am 4), .inr (8, [.ref a_all_m4, .int size_m4])), (a_all_m4, .inl (cI, n_a_all_m4, .inl b_a_all_m4))]) (cl' := 0) (sl' := 0) rfl rfl rfl rfl rfl rfl ?_
        refine j_bipush (v := 34) d_Mo_token_223 (by decide) ?_
        refine j_icmp_eq (tgt := 234) d_Mo_token_225 (by decide) (fun c32 => ?_) (fun c32 => ?_)
        · replace h := it_t c32 h
          refine j_sub (w := [((am 15), .inl (cI, n_m15, .inl b_m15)), ((am 0), .inl (cS, 14, .inr (.inr (.inr (.inr (stA D 40)))))), ((am 1), .inl (cS, 27, .inr (.inr (.inr (.inr (stA D 54)))))), (h0, .inr (9, moF am known_h0 thrown_h0 wrong_h0 f3_16_198 at_h0 bad_h0 levels_h0 least_h0 found_h0)), ((am 4), .inr (8, [.ref a_all_m4, .int size_m4])), (a_all_m4, .inl (cI, n_a_all_m4, .inl b_a_all_m4))]) (lv' := [(3, .int v3_198), (2, .int v2_198), (0, .ref h0), (1, .int p1)]) [0, 1, 2, 3, 4, 5] rfl (by decide) [0, 1, 2, 3] rfl ?_
          exact L_Mo_token_234 l D cI cB cJ cS h0 am a_all_m4 p1 known_h0 thrown_h0 wrong_h0 lastEnd_h0 at_h0 bad_h0 levels_h0 least_h0 found_h0 size_m4 n_a_all_m4 b_a_all_m4 n_m15 b_m15 ret o_0_16 p e s m below meth c hr hnm v3_198 v2_198 f3_16_198 h
        · replace h := it_f c32 h
          refine j_iinc (v := v3_198 + 1) (lv' := [(3, .int (v3_198 + 1)), (2, .int v2_198), (0, .ref h0), (1, .int p1)]) d_Mo_token_228 0 rfl rfl (by decide) rfl ?_
          refine j_goto (tgt := 198) d_Mo_token_231 (by decide) ?_
          refine j_sub (w := [((am 15), .inl (cI, n_m15, .inl b_m15)), ((am 0), .inl (cS, 14, .inr (.inr (.inr (.inr (stA D 40)))))), ((am 1), .inl (cS, 27, .inr (.inr (.inr (.inr (stA D 54)))))), (h0, .inr (9, moF am known_h0 thrown_h0 wrong_h0 f3_16_198 at_h0 bad_h0 levels_h0 least_h0 found_h0)), ((am 4), .inr (8, [.ref a_all_m4, .int size_m4])), (a_all_m4, .inl (cI, n_a_all_m4, .inl b_a_all_m4))]) (lv' := [(3, .int (v3_198 + 1)), (2, .int v2_198), (0, .ref h0), (1, .int p1)]) [0, 1, 2, 3, 4, 5] rfl (by decide) [0, 1, 2, 3] rfl ?_
          exact ih_198 (v3_198 + 1) v2_198 f3_16_198 h
set_option maxHeartbeats 4000000 in
set_option maxRecDepth 100000 in
theorem L_Mo_token_86 (l : Launch) (D : va_G) (cI cB cJ cS : ClassId) (h0 : Nat) (am : Nat → Nat) (a_all_m4 : Nat) (p1 : Int32) (known_h0 : Int32) (thrown_h0 : Int32) (wrong_h0 : Int32) (lastEnd_h0 : Int32) (at_h0 : Int32) (bad_h0 : Int32) (levels_h0 : Int32) (least_h0 : Int32) (found_h0 : Int32) (size_m4 : Int32) (n_a_all_m4 : Nat) (b_a_all_m4 : Nat → Int32) (n_m15 : Nat) (b_m15 : Nat → Int32) (ret : Int32) (o_0_16 : Int32) (p : Program) (e : Env) (s : State) (m : MethodId) (below : List Frame) (meth : Method) (c : Code) (hr : meth.sig.returnType = (Option.some Jvm.ClassFile.FieldType.int)) (hnm : meth.name = y_Mo_token.name) : ∀ (k_86 : Nat) (v4_86 : Int32) (v3_86 : Int32) (v2_86 : Int32) (f3_16_86 : Int32), F_Mo_token_86 p1 known_h0 thrown_h0 wrong_h0 at_h0 bad_h0 levels_h0 least_h0 found_h0 size_m4 n_a_all_m4 b_a_all_m4  k_86 v4_86 v3_86 v2_86 f3_16_86 = some (ret, o_0_16) → J (KxOf p l e { frames := 5, cells := 0, slots := 0, locals := 109 } s m [.ref h0, .int p1].toArray below meth c D (gT cI cB cJ cS) [(h0, .inr (9, moF am known_h0 thrown_h0 wrong_h0 lastEnd_h0 at_h0 bad_h0 levels_h0 least_h0 found_h0)), ((am 4), .inr (8, [.ref a_all_m4, .int size_m4])), (a_all_m4, .inl (cI, n_a_all_m4, .inl b_a_all_m4)), ((am 15), .inl (cI, n_m15, .inl b_m15)), ((am 0), .inl (cS, 14, .inr (.inr (.inr (.inr (stA D 40)))))), ((am 1), .inl (cS, 27, .inr (.inr (.inr (.inr (stA D 54))))))] (fun v w => v = some (.int ret) ∧ w = [(h0, .inr (9, moF am known_h0 thrown_h0 wrong_h0 o_0_16 at_h0 bad_h0 levels_h0 least_h0 found_h0)), ((am 4), .inr (8, [.ref a_all_m4, .int size_m4])), (a_all_m4, .inl (cI, n_a_all_m4, .inl b_a_all_m4)), ((am 15), .inl (cI, n_m15, .inl b_m15)), ((am 0), .inl (cS, 14, .inr (.inr (.inr (.inr (stA D 40)))))), ((am 1), .inl (cS, 27, .inr (.inr (.inr (.inr (stA D 54))))))]) 0 0) prog_12_method_16_code 5 R_Mo 86 [(4, .int v4_86), (3, .int v3_86), (2, .int v2_86), (0, .ref h0), (1, .int p1)] [] [((am 15), .inl (cI, n_m15, .inl b_m15)), ((am 0), .inl (cS, 14, .inr (.inr (.inr (.inr (stA D 40)))))), ((am 1), .inl (cS, 27, .inr (.inr (.inr (.inr (stA D 54)))))), (h0, .inr (9, moF am known_h0 thrown_h0 wrong_h0 f3_16_86 at_h0 bad_h0 levels_h0 least_h0 found_h0)), ((am 4), .inr (8, [.ref a_all_m4, .int size_m4])), (a_all_m4, .inl (cI, n_a_all_m4, .inl b_a_all_m4))] 0 0 := by
  intro k_86
  induction k_86 with
  | zero => intro v4_86 v3_86 v2_86 f3_16_86 h; rw [F_Mo_token_86] at h; cases h
  | succ k_86 ih_86 =>
    intro v4_86 v3_86 v2_86 f3_16_86 h
    rw [F_Mo_token_86] at h
    refine j_iload d_Mo_token_86 0 rfl ?_
    refine j_aload_n d_Mo_token_88 rfl 3 rfl ?_
    refine j_get ig_Mo rfl 3 rfl 0 (by decide) rfl m_1113 rfl d_Mo_token_89 ?_
    refine j_alen (t0 := 3) 1 rfl rfl rfl d_Mo_token_92 ?_
    refine j_icmp_ge (tgt := 139) d_Mo_token_93 (by decide) (fun c33 => ?_) (fun c33 => ?_)
    · replace h := it_t c33 h
      refine j_iload_n d_Mo_token_139 rfl 1 rfl ?_
      refine j_iload_n d_Mo_token_140 rfl 4 rfl ?_
      refine j_isub d_Mo_token_141 ?_
      refine j_sipush (v := 255) d_Mo_token_142 (by decide) ?_
      refine j_icmp_le (tgt := 152) d_Mo_token_145 (by decide) (fun c34 => ?_) (fun c34 => ?_)
      · replace h := it_t c34 h
        refine j_iconst (v := 2) d_Mo_token_152 (by decide) ?_
        replace h := Option.some.inj h
        replace h := Prod.mk.inj h
        obtain ⟨h9, h⟩ := h
        subst h9
        subst h
        exact j_iret (w := [(h0, .inr (9, moF am known_h0 thrown_h0 wrong_h0 f3_16_86 at_h0 bad_h0 levels_h0 least_h0 found_h0)), ((am 4), .inr (8, [.ref a_all_m4, .int size_m4])), (a_all_m4, .inl (cI, n_a_all_m4, .inl b_a_all_m4)), ((am 15), .inl (cI, n_m15, .inl b_m15)), ((am 0), .inl (cS, 14, .inr (.inr (.inr (.inr (stA D 40)))))), ((am 1), .inl (cS, 27, .inr (.inr (.inr (.inr (stA D 54))))))]) hr d_Mo_token_153 [3, 4, 5, 0, 1, 2] rfl (by decide) ⟨rfl, rfl⟩
      · replace h := it_f c34 h
        refine j_iconst (v := 1) d_Mo_token_148 (by decide) ?_
        refine j_goto (tgt := 153) d_Mo_token_149 (by decide) ?_
        replace h := Option.some.inj h
        replace h := Prod.mk.inj h
        obtain ⟨h9, h⟩ := h
        subst h9
        subst h
        exact j_iret (w := [(h0, .inr (9, moF am known_h0 thrown_h0 wrong_h0 f3_16_86 at_h0 bad_h0 levels_h0 least_h0 found_h0)), ((am 4), .inr (8, [.ref a_all_m4, .int size_m4])), (a_all_m4, .inl (cI, n_a_all_m4, .inl b_a_all_m4)), ((am 15), .inl (cI, n_m15, .inl b_m15)), ((am 0), .inl (cS, 14, .inr (.inr (.inr (.inr (stA D 40)))))), ((am 1), .inl (cS, 27, .inr (.inr (.inr (.inr (stA D 54))))))]) hr d_Mo_token_153 [3, 4, 5, 0, 1, 2] rfl (by decide) ⟨rfl, rfl⟩
    · replace h := it_f c33 h
      refine j_aload_n d_Mo_token_96 rfl 3 rfl ?_
      refine j_get ig_Mo rfl 3 rfl 0 (by decide) rfl m_1113 rfl d_Mo_token_97 ?_
      refine j_iload d_Mo_token_100 0 rfl ?_
      replace h := inb_s h
      obtain ⟨i35, h⟩ := h
      refine j_aald (t0 := 3) 1 rfl rfl i35 d_Mo_token_102 ?_
      replace h := sin_s h
      obtain ⟨i36, h⟩ := h
      refine j_len (i := (40 + Int32.toNatClampNeg v4_86)) i36 k_Mo_231 ⟨Nat.le_of_ble_eq_true rfl, Nat.le_of_ble_eq_true rfl⟩ (Nat.le_of_ble_eq_true rfl) ⟨Nat.le_of_ble_eq_true rfl, Nat.le_of_ble_eq_true rfl⟩ d_Mo_token_103 ?_
      refine j_iload_n d_Mo_token_106 rfl 1 rfl ?_
      refine j_iload_n d_Mo_token_107 rfl 4 rfl ?_
      refine j_isub d_Mo_token_108 ?_
      refine j_icmp_ne (tgt := 133) d_Mo_token_109 (by decide) (fun c38 => ?_) (fun c38 => ?_)
      · replace h := it_f c38 h
        refine j_iinc (v := v4_86 + 1) (lv' := [(4, .int (v4_86 + 1)), (3, .int v3_86), (2, .int v2_86), (0, .ref h0), (1, .int p1)]) d_Mo_token_133 0 rfl rfl (by decide) rfl ?_
        refine j_goto (tgt := 86) d_Mo_token_136 (by decide) ?_
        refine j_sub (w := [((am 15), .inl (cI, n_m15, .inl b_m15)), ((am 0), .inl (cS, 14, .inr (.inr (.inr (.inr (stA D 40)))))), ((am 1), .inl (cS, 27, .inr (.inr (.inr (.inr (stA D 54)))))), (h0, .inr (9, moF am known_h0 thrown_h0 wrong_h0 f3_16_86 at_h0 bad_h0 levels_h0 least_h0 found_h0)), ((am 4), .inr (8, [.ref a_all_m4, .int size_m4])), (a_all_m4, .inl (cI, n_a_all_m4, .inl b_a_all_m4))]) (lv' := [(4, .int (v4_86 + 1)), (3, .int v3_86), (2, .int v2_86), (0, .ref h0), (1, .int p1)]) [0, 1, 2, 3, 4, 5] rfl (by decide) [0, 1, 2, 3, 4] rfl ?_
        exact ih_86 (v4_86 + 1) v3_86 v2_86 f3_16_86 h
      · replace h := it_t c38 h
        refine j_aload_n d_Mo_token_112 rfl 3 rfl ?_
        refine j_aload_n d_Mo_token_113 rfl 3 rfl ?_
        refine j_get ig_Mo rfl 3 rfl 0 (by decide) rfl m_1113 rfl d_Mo_token_114 ?_
        refine j_iload d_Mo_token_117 0 rfl ?_
        replace h := inb_s h
        obtain ⟨i39, h⟩ := h
        refine j_aald (t0 := 3) 1 rfl rfl i39 d_Mo_token_119 ?_
        refine j_iload_n d_Mo_token_120 rfl 4 rfl ?_
        replace h := bd_s h
        obtain ⟨r40, k42, h⟩ := h
        refine j_callV (n := 2) (As := [.ref (sA D (40 + Int32.toNatClampNeg v4_86)), .int p1]) (rest := []) (wr := [((am 15), .inl (cI, n_m15, .inl b_m15)), ((am 0), .inl (cS, 14, .inr (.inr (.inr (.inr (stA D 40)))))), ((am 1), .inl (cS, 27, .inr (.inr (.inr (.inr (stA D 54))))))]) (c_Mo_stands l D cI cB cJ cS h0 am a_all_m4 (40 + Int32.toNatClampNeg v4_86) p1 known_h0 thrown_h0 wrong_h0 f3_16_86 at_h0 bad_h0 levels_h0 least_h0 found_h0 size_m4 n_a_all_m4 b_a_all_m4  r40 k42) k_Mo_253 (by decide) ⟨Nat.le_of_ble_eq_true rfl, Nat.le_of_ble_eq_true rfl⟩ rfl 0 rfl [3, 4, 5] [0, 1, 2] rfl (by decide) rfl (by decide) (by decide) rfl rfl (Nat.le_of_ble_eq_true rfl) d_Mo_token_121 ⟨Nat.le_of_ble_eq_true rfl, Nat.le_of_ble_eq_true rfl⟩ (fun v w hq => ?_)
        obtain ⟨rfl, z41, rfl⟩ := hq
        refine j_norm (pc' := 124) (st' := [.int r40]) (ws' := [((am 15), .inl (cI, n_m15, .inl b_m15)), ((am 0), .inl (cS, 14, .inr (.inr (.inr (.inr (stA D 40)))))), ((am 1), .inl (cS, 27, .inr (.inr (.inr (.inr (stA D 54)))))), (h0, .inr (9, moF am known_h0 thrown_h0 wrong_h0 f3_16_86 at_h0 bad_h0 levels_h0 least_h0 found_h0)), ((am 4), .inr (8, [.ref a_all_m4, .int size_m4])), (a_all_m4, .inl (cI, n_a_all_m4, .inl b_a_all_m4))]) (cl' := 0) (sl' := 0) rfl rfl rfl rfl rfl rfl ?_
        refine j_if_eq (tgt := 133) d_Mo_token_124 (by decide) (fun c43 => ?_) (fun c43 => ?_)
        · replace h := it_t c43 h
          refine j_iinc (v := v4_86 + 1) (lv' := [(4, .int (v4_86 + 1)), (3, .int v3_86), (2, .int v2_86), (0, .ref h0), (1, .int p1)]) d_Mo_token_133 0 rfl rfl (by decide) rfl ?_
          refine j_goto (tgt := 86) d_Mo_token_136 (by decide) ?_
          refine j_sub (w := [((am 15), .inl (cI, n_m15, .inl b_m15)), ((am 0), .inl (cS, 14, .inr (.inr (.inr (.inr (stA D 40)))))), ((am 1), .inl (cS, 27, .inr (.inr (.inr (.inr (stA D 54)))))), (h0, .inr (9, moF am known_h0 thrown_h0 wrong_h0 f3_16_86 at_h0 bad_h0 levels_h0 least_h0 found_h0)), ((am 4), .inr (8, [.ref a_all_m4, .int size_m4])), (a_all_m4, .inl (cI, n_a_all_m4, .inl b_a_all_m4))]) (lv' := [(4, .int (v4_86 + 1)), (3, .int v3_86), (2, .int v2_86), (0, .ref h0), (1, .int p1)]) [0, 1, 2, 3, 4, 5] rfl (by decide) [0, 1, 2, 3, 4] rfl ?_
          exact ih_86 (v4_86 + 1) v3_86 v2_86 f3_16_86 h
        · replace h := it_f c43 h
          refine j_bipush (v := 10) d_Mo_token_127 (by decide) ?_
          refine j_iload d_Mo_token_129 0 rfl ?_
          refine j_iadd d_Mo_token_131 ?_
          replace h := Option.some.inj h
          replace h := Prod.mk.inj h
          obtain ⟨h9, h⟩ := h
          subst h9
          subst h
          exact j_iret (w := [(h0, .inr (9, moF am known_h0 thrown_h0 wrong_h0 f3_16_86 at_h0 bad_h0 levels_h0 least_h0 found_h0)), ((am 4), .inr (8, [.ref a_all_m4, .int size_m4])), (a_all_m4, .inl (cI, n_a_all_m4, .inl b_a_all_m4)), ((am 15), .inl (cI, n_m15, .inl b_m15)), ((am 0), .inl (cS, 14, .inr (.inr (.inr (.inr (stA D 40)))))), ((am 1), .inl (cS, 27, .inr (.inr (.inr (.inr (stA D 54))))))]) hr d_Mo_token_132 [3, 4, 5, 0, 1, 2] rfl (by decide) ⟨rfl, rfl⟩
set_option maxHeartbeats 4000000 in
set_option maxRecDepth 100000 in
theorem L_Mo_token_40 (l : Launch) (D : va_G) (cI cB cJ cS : ClassId) (h0 : Nat) (am : Nat → Nat) (a_all_m4 : Nat) (p1 : Int32) (known_h0 : Int32) (thrown_h0 : Int32) (wrong_h0 : Int32) (lastEnd_h0 : Int32) (at_h0 : Int32) (bad_h0 : Int32) (levels_h0 : Int32) (least_h0 : Int32) (found_h0 : Int32) (size_m4 : Int32) (n_a_all_m4 : Nat) (b_a_all_m4 : Nat → Int32) (n_m15 : Nat) (b_m15 : Nat → Int32) (ret : Int32) (o_0_16 : Int32) (p : Program) (e : Env) (s : State) (m : MethodId) (below : List Frame) (meth : Method) (c : Code) (hr : meth.sig.returnType = (Option.some Jvm.ClassFile.FieldType.int)) (hnm : meth.name = y_Mo_token.name) : ∀ (k_40 : Nat) (v3_40 : Int32) (v2_40 : Int32) (f3_16_40 : Int32), F_Mo_token_40 p1 known_h0 thrown_h0 wrong_h0 at_h0 bad_h0 levels_h0 least_h0 found_h0 size_m4 n_a_all_m4 b_a_all_m4  k_40 v3_40 v2_40 f3_16_40 = some (ret, o_0_16) → J (KxOf p l e { frames := 5, cells := 0, slots := 0, locals := 109 } s m [.ref h0, .int p1].toArray below meth c D (gT cI cB cJ cS) [(h0, .inr (9, moF am known_h0 thrown_h0 wrong_h0 lastEnd_h0 at_h0 bad_h0 levels_h0 least_h0 found_h0)), ((am 4), .inr (8, [.ref a_all_m4, .int size_m4])), (a_all_m4, .inl (cI, n_a_all_m4, .inl b_a_all_m4)), ((am 15), .inl (cI, n_m15, .inl b_m15)), ((am 0), .inl (cS, 14, .inr (.inr (.inr (.inr (stA D 40)))))), ((am 1), .inl (cS, 27, .inr (.inr (.inr (.inr (stA D 54))))))] (fun v w => v = some (.int ret) ∧ w = [(h0, .inr (9, moF am known_h0 thrown_h0 wrong_h0 o_0_16 at_h0 bad_h0 levels_h0 least_h0 found_h0)), ((am 4), .inr (8, [.ref a_all_m4, .int size_m4])), (a_all_m4, .inl (cI, n_a_all_m4, .inl b_a_all_m4)), ((am 15), .inl (cI, n_m15, .inl b_m15)), ((am 0), .inl (cS, 14, .inr (.inr (.inr (.inr (stA D 40)))))), ((am 1), .inl (cS, 27, .inr (.inr (.inr (.inr (stA D 54))))))]) 0 0) prog_12_method_16_code 5 R_Mo 40 [(3, .int v3_40), (2, .int v2_40), (0, .ref h0), (1, .int p1)] [] [((am 15), .inl (cI, n_m15, .inl b_m15)), ((am 0), .inl (cS, 14, .inr (.inr (.inr (.inr (stA D 40)))))), ((am 1), .inl (cS, 27, .inr (.inr (.inr (.inr (stA D 54)))))), (h0, .inr (9, moF am known_h0 thrown_h0 wrong_h0 f3_16_40 at_h0 bad_h0 levels_h0 least_h0 found_h0)), ((am 4), .inr (8, [.ref a_all_m4, .int size_m4])), (a_all_m4, .inl (cI, n_a_all_m4, .inl b_a_all_m4))] 0 0 := by
  intro k_40
  induction k_40 with
  | zero => intro v3_40 v2_40 f3_16_40 h; rw [F_Mo_token_40] at h; cases h
  | succ k_40 ih_40 =>
    intro v3_40 v2_40 f3_16_40 h
    rw [F_Mo_token_40] at h
    refine j_aload_n d_Mo_token_40 rfl 2 rfl ?_
    refine j_iload_n d_Mo_token_41 rfl 0 rfl ?_
    replace h := bd_s h
    obtain ⟨r44, k45, h⟩ := h
    refine j_callV (n := 1) (As := [.int v3_40]) (rest := []) (wr := [((am 15), .inl (cI, n_m15, .inl b_m15)), ((am 0), .inl (cS, 14, .inr (.inr (.inr (.inr (stA D 40)))))), ((am 1), .inl (cS, 27, .inr (.inr (.inr (.inr (stA D 54))))))]) (c_Mo_letter l D cI cB cJ cS h0 am a_all_m4 v3_40 known_h0 thrown_h0 wrong_h0 f3_16_40 at_h0 bad_h0 levels_h0 least_h0 found_h0 size_m4 n_a_all_m4 b_a_all_m4  r44 k45) k_Mo_222 (by decide) ⟨Nat.le_of_ble_eq_true rfl, Nat.le_of_ble_eq_true rfl⟩ rfl 0 rfl [3, 4, 5] [0, 1, 2] rfl (by decide) rfl (by decide) (by decide) rfl rfl (Nat.le_of_ble_eq_true rfl) d_Mo_token_42 ⟨Nat.le_of_ble_eq_true rfl, Nat.le_of_ble_eq_true rfl⟩ (fun v w hq => ?_)
    obtain ⟨rfl, rfl⟩ := hq
    refine j_norm (pc' := 45) (st' := [.int r44]) (ws' := [((am 15), .inl (cI, n_m15, .inl b_m15)), ((am 0), .inl (cS, 14, .inr (.inr (.inr (.inr (stA D 40)))))), ((am 1), .inl (cS, 27, .inr (.inr (.inr (.inr (stA D 54)))))), (h0, .inr (9, moF am known_h0 thrown_h0 wrong_h0 f3_16_40 at_h0 bad_h0 levels_h0 least_h0 found_h0)), ((am 4), .inr (8, [.ref a_all_m4, .int size_m4])), (a_all_m4, .inl (cI, n_a_all_m4, .inl b_a_all_m4))]) (cl' := 0) (sl' := 0) rfl rfl rfl rfl rfl rfl ?_
    obtain ⟨r46, k48⟩ : ∃ z, (F_Mo_isLetter r44) = z := ⟨_, rfl⟩
    replace h := nm_at k48 h
    refine j_callS (n := 1) (As := [.int r44]) (rest := []) (wr := [((am 15), .inl (cI, n_m15, .inl b_m15)), ((am 0), .inl (cS, 14, .inr (.inr (.inr (.inr (stA D 40)))))), ((am 1), .inl (cS, 27, .inr (.inr (.inr (.inr (stA D 54)))))), (h0, .inr (9, moF am known_h0 thrown_h0 wrong_h0 f3_16_40 at_h0 bad_h0 levels_h0 least_h0 found_h0)), ((am 4), .inr (8, [.ref a_all_m4, .int size_m4])), (a_all_m4, .inl (cI, n_a_all_m4, .inl b_a_all_m4))]) (c_Mo_isLetter l D cI cB cJ cS r44  r46 k48) k_Mo_250 (by decide) ⟨Nat.le_of_ble_eq_true rfl, Nat.le_of_ble_eq_true rfl⟩ [] [0, 1, 2, 3, 4, 5] rfl (by decide) rfl (by decide) (by decide) rfl rfl (Nat.le_of_ble_eq_true rfl) d_Mo_token_45 ⟨Nat.le_of_ble_eq_true rfl, Nat.le_of_ble_eq_true rfl⟩ (fun v w hq => ?_)
    obtain ⟨rfl, z47, rfl⟩ := hq
    refine j_norm (pc' := 48) (st' := [.int r46]) (ws' := [((am 15), .inl (cI, n_m15, .inl b_m15)), ((am 0), .inl (cS, 14, .inr (.inr (.inr (.inr (stA D 40)))))), ((am 1), .inl (cS, 27, .inr (.inr (.inr (.inr (stA D 54)))))), (h0, .inr (9, moF am known_h0 thrown_h0 wrong_h0 f3_16_40 at_h0 bad_h0 levels_h0 least_h0 found_h0)), ((am 4), .inr (8, [.ref a_all_m4, .int size_m4])), (a_all_m4, .inl (cI, n_a_all_m4, .inl b_a_all_m4))]) (cl' := 0) (sl' := 0) rfl rfl rfl rfl rfl rfl ?_
    refine j_if_ne (tgt := 72) d_Mo_token_48 (by decide) (fun c49 => ?_) (fun c49 => ?_)
    · replace h := it_f c49 h
      refine j_iinc (v := v3_40 + 1) (lv' := [(3, .int (v3_40 + 1)), (2, .int v2_40), (0, .ref h0), (1, .int p1)]) d_Mo_token_72 0 rfl rfl (by decide) rfl ?_
      refine j_goto (tgt := 40) d_Mo_token_75 (by decide) ?_
      refine j_sub (w := [((am 15), .inl (cI, n_m15, .inl b_m15)), ((am 0), .inl (cS, 14, .inr (.inr (.inr (.inr (stA D 40)))))), ((am 1), .inl (cS, 27, .inr (.inr (.inr (.inr (stA D 54)))))), (h0, .inr (9, moF am known_h0 thrown_h0 wrong_h0 f3_16_40 at_h0 bad_h0 levels_h0 least_h0 found_h0)), ((am 4), .inr (8, [.ref a_all_m4, .int size_m4])), (a_all_m4, .inl (cI, n_a_all_m4, .inl b_a_all_m4))]) (lv' := [(3, .int (v3_40 + 1)), (2, .int v2_40), (0, .ref h0), (1, .int p1)]) [0, 1, 2, 3, 4, 5] rfl (by decide) [0, 1, 2, 3] rfl ?_
      exact ih_40 (v3_40 + 1) v2_40 f3_16_40 h
    · replace h := it_t c49 h
      refine j_aload_n d_Mo_token_51 rfl 2 rfl ?_
      refine j_iload_n d_Mo_token_52 rfl 0 rfl ?_
      replace h := bd_s h
      obtain ⟨r50, k51, h⟩ := h
      refine j_callV (n := 1) (As := [.int v3_40]) (rest := []) (wr := [((am 15), .inl (cI, n_m15, .inl b_m15)), ((am 0), .inl (cS, 14, .inr (.inr (.inr (.inr (stA D 40)))))), ((am 1), .inl (cS, 27, .inr (.inr (.inr (.inr (stA D 54))))))]) (c_Mo_letter l D cI cB cJ cS h0 am a_all_m4 v3_40 known_h0 thrown_h0 wrong_h0 f3_16_40 at_h0 bad_h0 levels_h0 least_h0 found_h0 size_m4 n_a_all_m4 b_a_all_m4  r50 k51) k_Mo_222 (by decide) ⟨Nat.le_of_ble_eq_true rfl, Nat.le_of_ble_eq_true rfl⟩ rfl 0 rfl [3, 4, 5] [0, 1, 2] rfl (by decide) rfl (by decide) (by decide) rfl rfl (Nat.le_of_ble_eq_true rfl) d_Mo_token_53 ⟨Nat.le_of_ble_eq_true rfl, Nat.le_of_ble_eq_true rfl⟩ (fun v w hq => ?_)
      obtain ⟨rfl, rfl⟩ := hq
      refine j_norm (pc' := 56) (st' := [.int r50]) (ws' := [((am 15), .inl (cI, n_m15, .inl b_m15)), ((am 0), .inl (cS, 14, .inr (.inr (.inr (.inr (stA D 40)))))), ((am 1), .inl (cS, 27, .inr (.inr (.inr (.inr (stA D 54)))))), (h0, .inr (9, moF am known_h0 thrown_h0 wrong_h0 f3_16_40 at_h0 bad_h0 levels_h0 least_h0 found_h0)), ((am 4), .inr (8, [.ref a_all_m4, .int size_m4])), (a_all_m4, .inl (cI, n_a_all_m4, .inl b_a_all_m4))]) (cl' := 0) (sl' := 0) rfl rfl rfl rfl rfl rfl ?_
      obtain ⟨r52, k54⟩ : ∃ z, (F_Mo_isDigit r50) = z := ⟨_, rfl⟩
      replace h := nm_at k54 h
      refine j_callS (n := 1) (As := [.int r50]) (rest := []) (wr := [((am 15), .inl (cI, n_m15, .inl b_m15)), ((am 0), .inl (cS, 14, .inr (.inr (.inr (.inr (stA D 40)))))), ((am 1), .inl (cS, 27, .inr (.inr (.inr (.inr (stA D 54)))))), (h0, .inr (9, moF am known_h0 thrown_h0 wrong_h0 f3_16_40 at_h0 bad_h0 levels_h0 least_h0 found_h0)), ((am 4), .inr (8, [.ref a_all_m4, .int size_m4])), (a_all_m4, .inl (cI, n_a_all_m4, .inl b_a_all_m4))]) (c_Mo_isDigit l D cI cB cJ cS r50  r52 k54) k_Mo_225 (by decide) ⟨Nat.le_of_ble_eq_true rfl, Nat.le_of_ble_eq_true rfl⟩ [] [0, 1, 2, 3, 4, 5] rfl (by decide) rfl (by decide) (by decide) rfl rfl (Nat.le_of_ble_eq_true rfl) d_Mo_token_56 ⟨Nat.le_of_ble_eq_true rfl, Nat.le_of_ble_eq_true rfl⟩ (fun v w hq => ?_)
      obtain ⟨rfl, z53, rfl⟩ := hq
      refine j_norm (pc' := 59) (st' := [.int r52]) (ws' := [((am 15), .inl (cI, n_m15, .inl b_m15)), ((am 0), .inl (cS, 14, .inr (.inr (.inr (.inr (stA D 40)))))), ((am 1), .inl (cS, 27, .inr (.inr (.inr (.inr (stA D 54)))))), (h0, .inr (9, moF am known_h0 thrown_h0 wrong_h0 f3_16_40 at_h0 bad_h0 levels_h0 least_h0 found_h0)), ((am 4), .inr (8, [.ref a_all_m4, .int size_m4])), (a_all_m4, .inl (cI, n_a_all_m4, .inl b_a_all_m4))]) (cl' := 0) (sl' := 0) rfl rfl rfl rfl rfl rfl ?_
      refine j_if_ne (tgt := 72) d_Mo_token_59 (by decide) (fun c55 => ?_) (fun c55 => ?_)
      · replace h := it_f c55 h
        refine j_iinc (v := v3_40 + 1) (lv' := [(3, .int (v3_40 + 1)), (2, .int v2_40), (0, .ref h0), (1, .int p1)]) d_Mo_token_72 0 rfl rfl (by decide) rfl ?_
        refine j_goto (tgt := 40) d_Mo_token_75 (by decide) ?_
        refine j_sub (w := [((am 15), .inl (cI, n_m15, .inl b_m15)), ((am 0), .inl (cS, 14, .inr (.inr (.inr (.inr (stA D 40)))))), ((am 1), .inl (cS, 27, .inr (.inr (.inr (.inr (stA D 54)))))), (h0, .inr (9, moF am known_h0 thrown_h0 wrong_h0 f3_16_40 at_h0 bad_h0 levels_h0 least_h0 found_h0)), ((am 4), .inr (8, [.ref a_all_m4, .int size_m4])), (a_all_m4, .inl (cI, n_a_all_m4, .inl b_a_all_m4))]) (lv' := [(3, .int (v3_40 + 1)), (2, .int v2_40), (0, .ref h0), (1, .int p1)]) [0, 1, 2, 3, 4, 5] rfl (by decide) [0, 1, 2, 3] rfl ?_
        exact ih_40 (v3_40 + 1) v2_40 f3_16_40 h
      · replace h := it_t c55 h
        refine j_aload_n d_Mo_token_62 rfl 2 rfl ?_
        refine j_iload_n d_Mo_token_63 rfl 0 rfl ?_
        replace h := bd_s h
        obtain ⟨r56, k57, h⟩ := h
        refine j_callV (n := 1) (As := [.int v3_40]) (rest := []) (wr := [((am 15), .inl (cI, n_m15, .inl b_m15)), ((am 0), .inl (cS, 14, .inr (.inr (.inr (.inr (stA D 40)))))), ((am 1), .inl (cS, 27, .inr (.inr (.inr (.inr (stA D 54))))))]) (c_Mo_letter l D cI cB cJ cS h0 am a_all_m4 v3_40 known_h0 thrown_h0 wrong_h0 f3_16_40 at_h0 bad_h0 levels_h0 least_h0 found_h0 size_m4 n_a_all_m4 b_a_all_m4  r56 k57) k_Mo_222 (by decide) ⟨Nat.le_of_ble_eq_true rfl, Nat.le_of_ble_eq_true rfl⟩ rfl 0 rfl [3, 4, 5] [0, 1, 2] rfl (by decide) rfl (by decide) (by decide) rfl rfl (Nat.le_of_ble_eq_true rfl) d_Mo_token_64 ⟨Nat.le_of_ble_eq_true rfl, Nat.le_of_ble_eq_true rfl⟩ (fun v w hq => ?_)
        obtain ⟨rfl, rfl⟩ := hq
        refine j_norm (pc' := 67) (st' := [.int r56]) (ws' := [((am 15), .inl (cI, n_m15, .inl b_m15)), ((am 0), .inl (cS, 14, .inr (.inr (.inr (.inr (stA D 40)))))), ((am 1), .inl (cS, 27, .inr (.inr (.inr (.inr (stA D 54)))))), (h0, .inr (9, moF am known_h0 thrown_h0 wrong_h0 f3_16_40 at_h0 bad_h0 levels_h0 least_h0 found_h0)), ((am 4), .inr (8, [.ref a_all_m4, .int size_m4])), (a_all_m4, .inl (cI, n_a_all_m4, .inl b_a_all_m4))]) (cl' := 0) (sl' := 0) rfl rfl rfl rfl rfl rfl ?_
        refine j_bipush (v := 95) d_Mo_token_67 (by decide) ?_
        refine j_icmp_ne (tgt := 78) d_Mo_token_69 (by decide) (fun c58 => ?_) (fun c58 => ?_)
        · replace h := it_f c58 h
          refine j_aload_n d_Mo_token_78 rfl 2 rfl ?_
          refine j_iload_n d_Mo_token_79 rfl 0 rfl ?_
          refine j_put (ws' := [((am 15), .inl (cI, n_m15, .inl b_m15)), ((am 0), .inl (cS, 14, .inr (.inr (.inr (.inr (stA D 40)))))), ((am 1), .inl (cS, 27, .inr (.inr (.inr (.inr (stA D 54)))))), (h0, .inr (9, moF am known_h0 thrown_h0 wrong_h0 v3_40 at_h0 bad_h0 levels_h0 least_h0 found_h0)), ((am 4), .inr (8, [.ref a_all_m4, .int size_m4])), (a_all_m4, .inl (cI, n_a_all_m4, .inl b_a_all_m4))]) ig_Mo tk_Mo nm_Mo rfl 3 rfl 16 (by decide) rfl m_1129 rfl (tk_Mo 16 (by decide)) rfl rfl (Nat.le_of_ble_eq_true rfl) d_Mo_token_80 rfl ?_
          refine j_iconst (v := 0) d_Mo_token_83 (by decide) ?_
          refine j_istore (lv' := [(4, .int 0), (3, .int v3_40), (2, .int v2_40), (0, .ref h0), (1, .int p1)]) d_Mo_token_84 (by decide) rfl ?_
          refine j_sub (w := [((am 15), .inl (cI, n_m15, .inl b_m15)), ((am 0), .inl (cS, 14, .inr (.inr (.inr (.inr (stA D 40)))))), ((am 1), .inl (cS, 27, .inr (.inr (.inr (.inr (stA D 54)))))), (h0, .inr (9, moF am known_h0 thrown_h0 wrong_h0 v3_40 at_h0 bad_h0 levels_h0 least_h0 found_h0)), ((am 4), .inr (8, [.ref a_all_m4, .int size_m4])), (a_all_m4, .inl (cI, n_a_all_m4, .inl b_a_all_m4))]) (lv' := [(4, .int 0), (3, .int v3_40), (2, .int v2_40), (0, .ref h0), (1, .int p1)]) [0, 1, 2, 3, 4, 5] rfl (by decide) [0, 1, 2, 3, 4] rfl ?_
          exact L_Mo_token_86 l D cI cB cJ cS h0 am a_all_m4 p1 known_h0 thrown_h0 wrong_h0 lastEnd_h0 at_h0 bad_h0 levels_h0 least_h0 found_h0 size_m4 n_a_all_m4 b_a_all_m4 n_m15 b_m15 ret o_0_16 p e s m below meth c hr hnm FU 0 v3_40 v2_40 v3_40 h
        · replace h := it_t c58 h
          refine j_iinc (v := v3_40 + 1) (lv' := [(3, .int (v3_40 + 1)), (2, .int v2_40), (0, .ref h0), (1, .int p1)]) d_Mo_token_72 0 rfl rfl (by decide) rfl ?_
          refine j_goto (tgt := 40) d_Mo_token_75 (by decide) ?_
          refine j_sub (w := [((am 15), .inl (cI, n_m15, .inl b_m15)), ((am 0), .inl (cS, 14, .inr (.inr (.inr (.inr (stA D 40)))))), ((am 1), .inl (cS, 27, .inr (.inr (.inr (.inr (stA D 54)))))), (h0, .inr (9, moF am known_h0 thrown_h0 wrong_h0 f3_16_40 at_h0 bad_h0 levels_h0 least_h0 found_h0)), ((am 4), .inr (8, [.ref a_all_m4, .int size_m4])), (a_all_m4, .inl (cI, n_a_all_m4, .inl b_a_all_m4))]) (lv' := [(3, .int (v3_40 + 1)), (2, .int v2_40), (0, .ref h0), (1, .int p1)]) [0, 1, 2, 3, 4, 5] rfl (by decide) [0, 1, 2, 3] rfl ?_
          exact ih_40 (v3_40 + 1) v2_40 f3_16_40 h
set_option maxHeartbeats 4000000 in
set_option maxRecDepth 100000 in
theorem c_Mo_token (l : Launch) (D : va_G) (cI cB cJ cS : ClassId) (h0 : Nat) (am : Nat → Nat) (a_all_m4 : Nat) (p1 : Int32) (known_h0 : Int32) (thrown_h0 : Int32) (wrong_h0 : Int32) (lastEnd_h0 : Int32) (at_h0 : Int32) (bad_h0 : Int32) (levels_h0 : Int32) (least_h0 : Int32) (found_h0 : Int32) (size_m4 : Int32) (n_a_all_m4 : Nat) (b_a_all_m4 : Nat → Int32) (n_m15 : Nat) (b_m15 : Nat → Int32) (ret : Int32) (o_0_16 : Int32) (h : F_Mo_token p1 known_h0 thrown_h0 wrong_h0 lastEnd_h0 at_h0 bad_h0 levels_h0 least_h0 found_h0 size_m4 n_a_all_m4 b_a_all_m4 n_m15 b_m15 = some (ret, o_0_16)) : Ct l D (gT cI cB cJ cS) y_Mo_token prog_12_method_16_code 5 (Option.some Jvm.ClassFile.FieldType.int) 5 109 0 0 [.ref h0, .int p1] [(h0, .inr (9, moF am known_h0 thrown_h0 wrong_h0 lastEnd_h0 at_h0 bad_h0 levels_h0 least_h0 found_h0)), ((am 4), .inr (8, [.ref a_all_m4, .int size_m4])), (a_all_m4, .inl (cI, n_a_all_m4, .inl b_a_all_m4)), ((am 15), .inl (cI, n_m15, .inl b_m15)), ((am 0), .inl (cS, 14, .inr (.inr (.inr (.inr (stA D 40)))))), ((am 1), .inl (cS, 27, .inr (.inr (.inr (.inr (stA D 54))))))] (fun v w => v = some (.int ret) ∧ w = [(h0, .inr (9, moF am known_h0 thrown_h0 wrong_h0 o_0_16 at_h0 bad_h0 levels_h0 least_h0 found_h0)), ((am 4), .inr (8, [.ref a_all_m4, .int size_m4])), (a_all_m4, .inl (cI, n_a_all_m4, .inl b_a_all_m4)), ((am 15), .inl (cI, n_m15, .inl b_m15)), ((am 0), .inl (cS, 14, .inr (.inr (.inr (.inr (stA D 40)))))), ((am 1), .inl (cS, 27, .inr (.inr (.inr (.inr (stA D 54))))))]) := by
  refine Ct.mk (by decide) (Nat.le_of_ble_eq_true rfl) ?_
  intro p e s m below meth c hr hnm
  refine j_norm (pc' := 0) (lv' := [(0, .ref h0), (1, .int p1)]) (st' := []) (ws' := [(h0, .inr (9, moF am known_h0 thrown_h0 wrong_h0 lastEnd_h0 at_h0 bad_h0 levels_h0 least_h0 found_h0)), ((am 4), .inr (8, [.ref a_all_m4, .int size_m4])), (a_all_m4, .inl (cI, n_a_all_m4, .inl b_a_all_m4)), ((am 15), .inl (cI, n_m15, .inl b_m15)), ((am 0), .inl (cS, 14, .inr (.inr (.inr (.inr (stA D 40)))))), ((am 1), .inl (cS, 27, .inr (.inr (.inr (.inr (stA D 54))))))]) (cl' := 0) (sl' := 0) rfl rfl rfl rfl rfl rfl ?_
  unfold F_Mo_token at h
  refine j_aload_n d_Mo_token_0 rfl 0 rfl ?_
  refine j_iload_n d_Mo_token_1 rfl 1 rfl ?_
  replace h := bd_s h
  obtain ⟨r59, k60, h⟩ := h
  refine j_callV (n := 1) (As := [.int p1]) (rest := []) (wr := [((am 15), .inl (cI, n_m15, .inl b_m15)), ((am 0), .inl (cS, 14, .inr (.inr (.inr (.inr (stA D 40)))))), ((am 1), .inl (cS, 27, .inr (.inr (.inr (.inr (stA D 54))))))]) (c_Mo_letter l D cI cB cJ cS h0 am a_all_m4 p1 known_h0 thrown_h0 wrong_h0 lastEnd_h0 at_h0 bad_h0 levels_h0 least_h0 found_h0 size_m4 n_a_all_m4 b_a_all_m4  r59 k60) k_Mo_222 (by decide) ⟨Nat.le_of_ble_eq_true rfl, Nat.le_of_ble_eq_true rfl⟩ rfl 0 rfl [0, 1, 2] [3, 4, 5] rfl (by decide) rfl (by decide) (by decide) rfl rfl (Nat.le_of_ble_eq_true rfl) d_Mo_token_2 ⟨Nat.le_of_ble_eq_true rfl, Nat.le_of_ble_eq_true rfl⟩ (fun v w hq => ?_)
  obtain ⟨rfl, rfl⟩ := hq
  refine j_norm (pc' := 5) (st' := [.int r59]) (ws' := [((am 15), .inl (cI, n_m15, .inl b_m15)), ((am 0), .inl (cS, 14, .inr (.inr (.inr (.inr (stA D 40)))))), ((am 1), .inl (cS, 27, .inr (.inr (.inr (.inr (stA D 54)))))), (h0, .inr (9, moF am known_h0 thrown_h0 wrong_h0 lastEnd_h0 at_h0 bad_h0 levels_h0 least_h0 found_h0)), ((am 4), .inr (8, [.ref a_all_m4, .int size_m4])), (a_all_m4, .inl (cI, n_a_all_m4, .inl b_a_all_m4))]) (cl' := 0) (sl' := 0) rfl rfl rfl rfl rfl rfl ?_
  refine j_istore_n (lv' := [(2, .int r59), (0, .ref h0), (1, .int p1)]) d_Mo_token_5 rfl (by decide) rfl ?_
  refine j_aload_n d_Mo_token_6 rfl 1 rfl ?_
  refine j_iload_n d_Mo_token_7 rfl 2 rfl ?_
  refine j_iconst (v := 1) d_Mo_token_8 (by decide) ?_
  refine j_iadd d_Mo_token_9 ?_
  refine j_put (ws' := [((am 15), .inl (cI, n_m15, .inl b_m15)), ((am 0), .inl (cS, 14, .inr (.inr (.inr (.inr (stA D 40)))))), ((am 1), .inl (cS, 27, .inr (.inr (.inr (.inr (stA D 54)))))), (h0, .inr (9, moF am known_h0 thrown_h0 wrong_h0 (p1 + 1) at_h0 bad_h0 levels_h0 least_h0 found_h0)), ((am 4), .inr (8, [.ref a_all_m4, .int size_m4])), (a_all_m4, .inl (cI, n_a_all_m4, .inl b_a_all_m4))]) ig_Mo tk_Mo nm_Mo rfl 3 rfl 16 (by decide) rfl m_1129 rfl (tk_Mo 16 (by decide)) rfl rfl (Nat.le_of_ble_eq_true rfl) d_Mo_token_10 rfl ?_
  refine j_iload_n d_Mo_token_13 rfl 2 rfl ?_
  refine j_aload_n d_Mo_token_14 rfl 1 rfl ?_
  refine j_get ig_Mo rfl 3 rfl 4 (by decide) rfl m_1117 rfl d_Mo_token_15 ?_
  refine j_getN ig_Nm rfl 4 rfl 1 (by decide) rfl mn_13 rfl d_Mo_token_18 ?_
  refine j_icmp_lt (tgt := 31) d_Mo_token_21 (by decide) (fun c61 => ?_) (fun c61 => ?_)
  · replace h := it_t c61 h
    refine j_iload_n d_Mo_token_31 rfl 0 rfl ?_
    obtain ⟨r62, k64⟩ : ∃ z, (F_Mo_isLetter r59) = z := ⟨_, rfl⟩
    replace h := nm_at k64 h
    refine j_callS (n := 1) (As := [.int r59]) (rest := []) (wr := [((am 15), .inl (cI, n_m15, .inl b_m15)), ((am 0), .inl (cS, 14, .inr (.inr (.inr (.inr (stA D 40)))))), ((am 1), .inl (cS, 27, .inr (.inr (.inr (.inr (stA D 54)))))), (h0, .inr (9, moF am known_h0 thrown_h0 wrong_h0 (p1 + 1) at_h0 bad_h0 levels_h0 least_h0 found_h0)), ((am 4), .inr (8, [.ref a_all_m4, .int size_m4])), (a_all_m4, .inl (cI, n_a_all_m4, .inl b_a_all_m4))]) (c_Mo_isLetter l D cI cB cJ cS r59  r62 k64) k_Mo_250 (by decide) ⟨Nat.le_of_ble_eq_true rfl, Nat.le_of_ble_eq_true rfl⟩ [] [0, 1, 2, 3, 4, 5] rfl (by decide) rfl (by decide) (by decide) rfl rfl (Nat.le_of_ble_eq_true rfl) d_Mo_token_32 ⟨Nat.le_of_ble_eq_true rfl, Nat.le_of_ble_eq_true rfl⟩ (fun v w hq => ?_)
    obtain ⟨rfl, z63, rfl⟩ := hq
    refine j_norm (pc' := 35) (st' := [.int r62]) (ws' := [((am 15), .inl (cI, n_m15, .inl b_m15)), ((am 0), .inl (cS, 14, .inr (.inr (.inr (.inr (stA D 40)))))), ((am 1), .inl (cS, 27, .inr (.inr (.inr (.inr (stA D 54)))))), (h0, .inr (9, moF am known_h0 thrown_h0 wrong_h0 (p1 + 1) at_h0 bad_h0 levels_h0 least_h0 found_h0)), ((am 4), .inr (8, [.ref a_all_m4, .int size_m4])), (a_all_m4, .inl (cI, n_a_all_m4, .inl b_a_all_m4))]) (cl' := 0) (sl' := 0) rfl rfl rfl rfl rfl rfl ?_
    refine j_if_eq (tgt := 154) d_Mo_token_35 (by decide) (fun c65 => ?_) (fun c65 => ?_)
    · replace h := it_t c65 h
      refine j_iload_n d_Mo_token_154 rfl 0 rfl ?_
      obtain ⟨r66, k68⟩ : ∃ z, (F_Mo_isDigit r59) = z := ⟨_, rfl⟩
      replace h := nm_at k68 h
      refine j_callS (n := 1) (As := [.int r59]) (rest := []) (wr := [((am 15), .inl (cI, n_m15, .inl b_m15)), ((am 0), .inl (cS, 14, .inr (.inr (.inr (.inr (stA D 40)))))), ((am 1), .inl (cS, 27, .inr (.inr (.inr (.inr (stA D 54)))))), (h0, .inr (9, moF am known_h0 thrown_h0 wrong_h0 (p1 + 1) at_h0 bad_h0 levels_h0 least_h0 found_h0)), ((am 4), .inr (8, [.ref a_all_m4, .int size_m4])), (a_all_m4, .inl (cI, n_a_all_m4, .inl b_a_all_m4))]) (c_Mo_isDigit l D cI cB cJ cS r59  r66 k68) k_Mo_225 (by decide) ⟨Nat.le_of_ble_eq_true rfl, Nat.le_of_ble_eq_true rfl⟩ [] [0, 1, 2, 3, 4, 5] rfl (by decide) rfl (by decide) (by decide) rfl rfl (Nat.le_of_ble_eq_true rfl) d_Mo_token_155 ⟨Nat.le_of_ble_eq_true rfl, Nat.le_of_ble_eq_true rfl⟩ (fun v w hq => ?_)
      obtain ⟨rfl, z67, rfl⟩ := hq
      refine j_norm (pc' := 158) (st' := [.int r66]) (ws' := [((am 15), .inl (cI, n_m15, .inl b_m15)), ((am 0), .inl (cS, 14, .inr (.inr (.inr (.inr (stA D 40)))))), ((am 1), .inl (cS, 27, .inr (.inr (.inr (.inr (stA D 54)))))), (h0, .inr (9, moF am known_h0 thrown_h0 wrong_h0 (p1 + 1) at_h0 bad_h0 levels_h0 least_h0 found_h0)), ((am 4), .inr (8, [.ref a_all_m4, .int size_m4])), (a_all_m4, .inl (cI, n_a_all_m4, .inl b_a_all_m4))]) (cl' := 0) (sl' := 0) rfl rfl rfl rfl rfl rfl ?_
      refine j_if_eq (tgt := 188) d_Mo_token_158 (by decide) (fun c69 => ?_) (fun c69 => ?_)
      · replace h := it_t c69 h
        refine j_iload_n d_Mo_token_188 rfl 0 rfl ?_
        refine j_bipush (v := 34) d_Mo_token_189 (by decide) ?_
        refine j_icmp_ne (tgt := 268) d_Mo_token_191 (by decide) (fun c70 => ?_) (fun c70 => ?_)
        · replace h := it_f c70 h
          refine j_iconst (v := (-1)) d_Mo_token_268 (by decide) ?_
          refine j_istore_n (lv' := [(3, .int (-1)), (2, .int r59), (0, .ref h0), (1, .int p1)]) d_Mo_token_269 rfl (by decide) rfl ?_
          refine j_iconst (v := 0) d_Mo_token_270 (by decide) ?_
          refine j_istore (lv' := [(4, .int 0), (3, .int (-1)), (2, .int r59), (0, .ref h0), (1, .int p1)]) d_Mo_token_271 (by decide) rfl ?_
          refine j_sub (w := [((am 15), .inl (cI, n_m15, .inl b_m15)), ((am 0), .inl (cS, 14, .inr (.inr (.inr (.inr (stA D 40)))))), ((am 1), .inl (cS, 27, .inr (.inr (.inr (.inr (stA D 54)))))), (h0, .inr (9, moF am known_h0 thrown_h0 wrong_h0 (p1 + 1) at_h0 bad_h0 levels_h0 least_h0 found_h0)), ((am 4), .inr (8, [.ref a_all_m4, .int size_m4])), (a_all_m4, .inl (cI, n_a_all_m4, .inl b_a_all_m4))]) (lv' := [(4, .int 0), (3, .int (-1)), (2, .int r59), (0, .ref h0), (1, .int p1)]) [0, 1, 2, 3, 4, 5] rfl (by decide) [0, 1, 2, 3, 4] rfl ?_
          exact L_Mo_token_273 l D cI cB cJ cS h0 am a_all_m4 p1 known_h0 thrown_h0 wrong_h0 lastEnd_h0 at_h0 bad_h0 levels_h0 least_h0 found_h0 size_m4 n_a_all_m4 b_a_all_m4 n_m15 b_m15 ret o_0_16 p e s m below meth c hr hnm FU 0 (-1) r59 (p1 + 1) h
        · replace h := it_t c70 h
          refine j_iload_n d_Mo_token_194 rfl 2 rfl ?_
          refine j_iconst (v := 1) d_Mo_token_195 (by decide) ?_
          refine j_iadd d_Mo_token_196 ?_
          refine j_istore_n (lv' := [(3, .int (p1 + 1)), (2, .int r59), (0, .ref h0), (1, .int p1)]) d_Mo_token_197 rfl (by decide) rfl ?_
          refine j_sub (w := [((am 15), .inl (cI, n_m15, .inl b_m15)), ((am 0), .inl (cS, 14, .inr (.inr (.inr (.inr (stA D 40)))))), ((am 1), .inl (cS, 27, .inr (.inr (.inr (.inr (stA D 54)))))), (h0, .inr (9, moF am known_h0 thrown_h0 wrong_h0 (p1 + 1) at_h0 bad_h0 levels_h0 least_h0 found_h0)), ((am 4), .inr (8, [.ref a_all_m4, .int size_m4])), (a_all_m4, .inl (cI, n_a_all_m4, .inl b_a_all_m4))]) (lv' := [(3, .int (p1 + 1)), (2, .int r59), (0, .ref h0), (1, .int p1)]) [0, 1, 2, 3, 4, 5] rfl (by decide) [0, 1, 2, 3] rfl ?_
          exact L_Mo_token_198 l D cI cB cJ cS h0 am a_all_m4 p1 known_h0 thrown_h0 wrong_h0 lastEnd_h0 at_h0 bad_h0 levels_h0 least_h0 found_h0 size_m4 n_a_all_m4 b_a_all_m4 n_m15 b_m15 ret o_0_16 p e s m below meth c hr hnm FU (p1 + 1) r59 (p1 + 1) h
      · replace h := it_f c69 h
        refine j_aload_n d_Mo_token_161 rfl 1 rfl ?_
        refine j_aload_n d_Mo_token_162 rfl 1 rfl ?_
        refine j_iload_n d_Mo_token_163 rfl 2 rfl ?_
        replace h := bd_s h
        obtain ⟨r71, k72, h⟩ := h
        refine j_callV (n := 1) (As := [.int p1]) (rest := [.ref h0]) (wr := [((am 15), .inl (cI, n_m15, .inl b_m15)), ((am 0), .inl (cS, 14, .inr (.inr (.inr (.inr (stA D 40)))))), ((am 1), .inl (cS, 27, .inr (.inr (.inr (.inr (stA D 54))))))]) (c_Mo_numeralEnd l D cI cB cJ cS h0 am a_all_m4 p1 known_h0 thrown_h0 wrong_h0 (p1 + 1) at_h0 bad_h0 levels_h0 least_h0 found_h0 size_m4 n_a_all_m4 b_a_all_m4  r71 k72) k_Mo_257 (by decide) ⟨Nat.le_of_ble_eq_true rfl, Nat.le_of_ble_eq_true rfl⟩ rfl 0 rfl [3, 4, 5] [0, 1, 2] rfl (by decide) rfl (by decide) (by decide) rfl rfl (Nat.le_of_ble_eq_true rfl) d_Mo_token_164 ⟨Nat.le_of_ble_eq_true rfl, Nat.le_of_ble_eq_true rfl⟩ (fun v w hq => ?_)
        obtain ⟨rfl, rfl⟩ := hq
        refine j_norm (pc' := 167) (st' := [.int r71, .ref h0]) (ws' := [((am 15), .inl (cI, n_m15, .inl b_m15)), ((am 0), .inl (cS, 14, .inr (.inr (.inr (.inr (stA D 40)))))), ((am 1), .inl (cS, 27, .inr (.inr (.inr (.inr (stA D 54)))))), (h0, .inr (9, moF am known_h0 thrown_h0 wrong_h0 (p1 + 1) at_h0 bad_h0 levels_h0 least_h0 found_h0)), ((am 4), .inr (8, [.ref a_all_m4, .int size_m4])), (a_all_m4, .inl (cI, n_a_all_m4, .inl b_a_all_m4))]) (cl' := 0) (sl' := 0) rfl rfl rfl rfl rfl rfl ?_
        refine j_put (ws' := [((am 15), .inl (cI, n_m15, .inl b_m15)), ((am 0), .inl (cS, 14, .inr (.inr (.inr (.inr (stA D 40)))))), ((am 1), .inl (cS, 27, .inr (.inr (.inr (.inr (stA D 54)))))), (h0, .inr (9, moF am known_h0 thrown_h0 wrong_h0 r71 at_h0 bad_h0 levels_h0 least_h0 found_h0)), ((am 4), .inr (8, [.ref a_all_m4, .int size_m4])), (a_all_m4, .inl (cI, n_a_all_m4, .inl b_a_all_m4))]) ig_Mo tk_Mo nm_Mo rfl 3 rfl 16 (by decide) rfl m_1129 rfl (tk_Mo 16 (by decide)) rfl rfl (Nat.le_of_ble_eq_true rfl) d_Mo_token_167 rfl ?_
        refine j_aload_n d_Mo_token_170 rfl 1 rfl ?_
        refine j_iload_n d_Mo_token_171 rfl 2 rfl ?_
        refine j_aload_n d_Mo_token_172 rfl 1 rfl ?_
        refine j_get ig_Mo rfl 3 rfl 16 (by decide) rfl m_1129 rfl d_Mo_token_173 ?_
        replace h := bd_s h
        obtain ⟨r73, k75, h⟩ := h
        refine j_callV (n := 2) (As := [.int p1, .int r71]) (rest := []) (wr := [((am 0), .inl (cS, 14, .inr (.inr (.inr (.inr (stA D 40)))))), ((am 1), .inl (cS, 27, .inr (.inr (.inr (.inr (stA D 54))))))]) (c_Mo_isFinite l D cI cB cJ cS h0 am a_all_m4 p1 r71 known_h0 thrown_h0 wrong_h0 r71 at_h0 bad_h0 levels_h0 least_h0 found_h0 size_m4 n_a_all_m4 b_a_all_m4 n_m15 b_m15  r73 k75) k_Mo_260 (by decide) ⟨Nat.le_of_ble_eq_true rfl, Nat.le_of_ble_eq_true rfl⟩ rfl 0 rfl [3, 4, 5, 0] [1, 2] rfl (by decide) rfl (by decide) (by decide) rfl rfl (Nat.le_of_ble_eq_true rfl) d_Mo_token_176 ⟨Nat.le_of_ble_eq_true rfl, Nat.le_of_ble_eq_true rfl⟩ (fun v w hq => ?_)
        obtain ⟨rfl, z74, rfl⟩ := hq
        refine j_norm (pc' := 179) (st' := [.int r73]) (ws' := [((am 0), .inl (cS, 14, .inr (.inr (.inr (.inr (stA D 40)))))), ((am 1), .inl (cS, 27, .inr (.inr (.inr (.inr (stA D 54)))))), (h0, .inr (9, moF am known_h0 thrown_h0 wrong_h0 r71 at_h0 bad_h0 levels_h0 least_h0 found_h0)), ((am 4), .inr (8, [.ref a_all_m4, .int size_m4])), (a_all_m4, .inl (cI, n_a_all_m4, .inl b_a_all_m4)), ((am 15), .inl (cI, n_m15, .inl b_m15))]) (cl' := 0) (sl' := 0) rfl rfl rfl rfl rfl rfl ?_
        refine j_if_eq (tgt := 186) d_Mo_token_179 (by decide) (fun c76 => ?_) (fun c76 => ?_)
        · replace h := it_t c76 h
          refine j_iconst (v := 1) d_Mo_token_186 (by decide) ?_
          replace h := Option.some.inj h
          replace h := Prod.mk.inj h
          obtain ⟨h9, h⟩ := h
          subst h9
          subst h
          exact j_iret (w := [(h0, .inr (9, moF am known_h0 thrown_h0 wrong_h0 r71 at_h0 bad_h0 levels_h0 least_h0 found_h0)), ((am 4), .inr (8, [.ref a_all_m4, .int size_m4])), (a_all_m4, .inl (cI, n_a_all_m4, .inl b_a_all_m4)), ((am 15), .inl (cI, n_m15, .inl b_m15)), ((am 0), .inl (cS, 14, .inr (.inr (.inr (.inr (stA D 40)))))), ((am 1), .inl (cS, 27, .inr (.inr (.inr (.inr (stA D 54))))))]) hr d_Mo_token_187 [2, 3, 4, 5, 0, 1] rfl (by decide) ⟨rfl, rfl⟩
        · replace h := it_f c76 h
          refine j_iconst (v := 3) d_Mo_token_182 (by decide) ?_
          refine j_goto (tgt := 187) d_Mo_token_183 (by decide) ?_
          replace h := Option.some.inj h
          replace h := Prod.mk.inj h
          obtain ⟨h9, h⟩ := h
          subst h9
          subst h
          exact j_iret (w := [(h0, .inr (9, moF am known_h0 thrown_h0 wrong_h0 r71 at_h0 bad_h0 levels_h0 least_h0 found_h0)), ((am 4), .inr (8, [.ref a_all_m4, .int size_m4])), (a_all_m4, .inl (cI, n_a_all_m4, .inl b_a_all_m4)), ((am 15), .inl (cI, n_m15, .inl b_m15)), ((am 0), .inl (cS, 14, .inr (.inr (.inr (.inr (stA D 40)))))), ((am 1), .inl (cS, 27, .inr (.inr (.inr (.inr (stA D 54))))))]) hr d_Mo_token_187 [2, 3, 4, 5, 0, 1] rfl (by decide) ⟨rfl, rfl⟩
    · replace h := it_f c65 h
      refine j_iload_n d_Mo_token_38 rfl 2 rfl ?_
      refine j_istore_n (lv' := [(3, .int p1), (2, .int r59), (0, .ref h0), (1, .int p1)]) d_Mo_token_39 rfl (by decide) rfl ?_
      refine j_sub (w := [((am 15), .inl (cI, n_m15, .inl b_m15)), ((am 0), .inl (cS, 14, .inr (.inr (.inr (.inr (stA D 40)))))), ((am 1), .inl (cS, 27, .inr (.inr (.inr (.inr (stA D 54)))))), (h0, .inr (9, moF am known_h0 thrown_h0 wrong_h0 (p1 + 1) at_h0 bad_h0 levels_h0 least_h0 found_h0)), ((am 4), .inr (8, [.ref a_all_m4, .int size_m4])), (a_all_m4, .inl (cI, n_a_all_m4, .inl b_a_all_m4))]) (lv' := [(3, .int p1), (2, .int r59), (0, .ref h0), (1, .int p1)]) [0, 1, 2, 3, 4, 5] rfl (by decide) [0, 1, 2, 3] rfl ?_
      exact L_Mo_token_40 l D cI cB cJ cS h0 am a_all_m4 p1 known_h0 thrown_h0 wrong_h0 lastEnd_h0 at_h0 bad_h0 levels_h0 least_h0 found_h0 size_m4 n_a_all_m4 b_a_all_m4 n_m15 b_m15 ret o_0_16 p e s m below meth c hr hnm FU p1 r59 (p1 + 1) h
  · replace h := it_f c61 h
    refine j_aload_n d_Mo_token_24 rfl 1 rfl ?_
    refine j_iload_n d_Mo_token_25 rfl 2 rfl ?_
    refine j_put (ws' := [((am 15), .inl (cI, n_m15, .inl b_m15)), ((am 0), .inl (cS, 14, .inr (.inr (.inr (.inr (stA D 40)))))), ((am 1), .inl (cS, 27, .inr (.inr (.inr (.inr (stA D 54)))))), (h0, .inr (9, moF am known_h0 thrown_h0 wrong_h0 p1 at_h0 bad_h0 levels_h0 least_h0 found_h0)), ((am 4), .inr (8, [.ref a_all_m4, .int size_m4])), (a_all_m4, .inl (cI, n_a_all_m4, .inl b_a_all_m4))]) ig_Mo tk_Mo nm_Mo rfl 3 rfl 16 (by decide) rfl m_1129 rfl (tk_Mo 16 (by decide)) rfl rfl (Nat.le_of_ble_eq_true rfl) d_Mo_token_26 rfl ?_
    refine j_iconst (v := 0) d_Mo_token_29 (by decide) ?_
    replace h := Option.some.inj h
    replace h := Prod.mk.inj h
    obtain ⟨h9, h⟩ := h
    subst h9
    subst h
    exact j_iret (w := [(h0, .inr (9, moF am known_h0 thrown_h0 wrong_h0 p1 at_h0 bad_h0 levels_h0 least_h0 found_h0)), ((am 4), .inr (8, [.ref a_all_m4, .int size_m4])), (a_all_m4, .inl (cI, n_a_all_m4, .inl b_a_all_m4)), ((am 15), .inl (cI, n_m15, .inl b_m15)), ((am 0), .inl (cS, 14, .inr (.inr (.inr (.inr (stA D 40)))))), ((am 1), .inl (cS, 27, .inr (.inr (.inr (.inr (stA D 54))))))]) hr d_Mo_token_30 [3, 4, 5, 0, 1, 2] rfl (by decide) ⟨rfl, rfl⟩
