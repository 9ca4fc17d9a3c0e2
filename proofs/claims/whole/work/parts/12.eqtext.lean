def F_Sc_skipBlanks_2 (size_a_text_h0 : Int32) (n_a_bytes_a_text_h0 : Nat) (b_a_bytes_a_text_h0 : Nat → Int32) : Nat → Int32 → Int32 → Option (Int32)
  | 0, _, _ => none
  | k_2 + 1, v1_2, f0_1_2 =>
    if size_a_text_h0 ≤ f0_1_2 then (some f0_1_2)
    else (Option.bind (F_Rw_at f0_1_2 size_a_text_h0 n_a_bytes_a_text_h0 b_a_bytes_a_text_h0) fun r3 =>
      if r3 = 10 then (F_Sc_skipBlanks_2 size_a_text_h0 n_a_bytes_a_text_h0 b_a_bytes_a_text_h0  k_2 0 (f0_1_2 + 1))
      else if r3 = 37 then (F_Sc_skipBlanks_2 size_a_text_h0 n_a_bytes_a_text_h0 b_a_bytes_a_text_h0  k_2 1 (f0_1_2 + 1))
      else if v1_2 = 0 then (if r3 = 9 then (F_Sc_skipBlanks_2 size_a_text_h0 n_a_bytes_a_text_h0 b_a_bytes_a_text_h0  k_2 v1_2 (f0_1_2 + 1))
        else if r3 = 13 then (F_Sc_skipBlanks_2 size_a_text_h0 n_a_bytes_a_text_h0 b_a_bytes_a_text_h0  k_2 v1_2 (f0_1_2 + 1))
        else if r3 = 32 then (F_Sc_skipBlanks_2 size_a_text_h0 n_a_bytes_a_text_h0 b_a_bytes_a_text_h0  k_2 v1_2 (f0_1_2 + 1))
        else (some f0_1_2))
      else (F_Sc_skipBlanks_2 size_a_text_h0 n_a_bytes_a_text_h0 b_a_bytes_a_text_h0  k_2 v1_2 (f0_1_2 + 1)))
def F_Sc_skipBlanks (next_h0 : Int32) (kind_h0 : Int32) (start_h0 : Int32) (width_h0 : Int32) (size_a_text_h0 : Int32) (n_a_bytes_a_text_h0 : Nat) (b_a_bytes_a_text_h0 : Nat → Int32) : Option (Int32) :=
  F_Sc_skipBlanks_2 size_a_text_h0 n_a_bytes_a_text_h0 b_a_bytes_a_text_h0  FU 0 next_h0
theorem d_Sc_skipBlanks_0 : decode prog_8_method_9_code 0 = .ok (.iconst 0, 1) := by decide +kernel
theorem d_Sc_skipBlanks_1 : decode prog_8_method_9_code 1 = .ok (.istore_n 1, 1) := by decide +kernel
theorem d_Sc_skipBlanks_2 : decode prog_8_method_9_code 2 = .ok (.aload_n 0, 1) := by decide +kernel
theorem d_Sc_skipBlanks_3 : decode prog_8_method_9_code 3 = .ok (.getfield 18, 3) := by decide +kernel
theorem d_Sc_skipBlanks_6 : decode prog_8_method_9_code 6 = .ok (.aload_n 0, 1) := by decide +kernel
theorem d_Sc_skipBlanks_7 : decode prog_8_method_9_code 7 = .ok (.getfield 12, 3) := by decide +kernel
theorem d_Sc_skipBlanks_10 : decode prog_8_method_9_code 10 = .ok (.invokevirtual 58, 3) := by decide +kernel
theorem d_Sc_skipBlanks_13 : decode prog_8_method_9_code 13 = .ok (.if_icmp .ge 73, 3) := by decide +kernel
theorem d_Sc_skipBlanks_16 : decode prog_8_method_9_code 16 = .ok (.aload_n 0, 1) := by decide +kernel
theorem d_Sc_skipBlanks_17 : decode prog_8_method_9_code 17 = .ok (.getfield 12, 3) := by decide +kernel
theorem d_Sc_skipBlanks_20 : decode prog_8_method_9_code 20 = .ok (.aload_n 0, 1) := by decide +kernel
theorem d_Sc_skipBlanks_21 : decode prog_8_method_9_code 21 = .ok (.getfield 18, 3) := by decide +kernel
theorem d_Sc_skipBlanks_24 : decode prog_8_method_9_code 24 = .ok (.invokevirtual 34, 3) := by decide +kernel
theorem d_Sc_skipBlanks_27 : decode prog_8_method_9_code 27 = .ok (.istore_n 2, 1) := by decide +kernel
theorem d_Sc_skipBlanks_28 : decode prog_8_method_9_code 28 = .ok (.iload_n 2, 1) := by decide +kernel
theorem d_Sc_skipBlanks_29 : decode prog_8_method_9_code 29 = .ok (.bipush 10, 2) := by decide +kernel
theorem d_Sc_skipBlanks_31 : decode prog_8_method_9_code 31 = .ok (.if_icmp .ne 8, 3) := by decide +kernel
theorem d_Sc_skipBlanks_34 : decode prog_8_method_9_code 34 = .ok (.iconst 0, 1) := by decide +kernel
theorem d_Sc_skipBlanks_35 : decode prog_8_method_9_code 35 = .ok (.istore_n 1, 1) := by decide +kernel
theorem d_Sc_skipBlanks_36 : decode prog_8_method_9_code 36 = .ok (.goto 37, 3) := by decide +kernel
theorem d_Sc_skipBlanks_39 : decode prog_8_method_9_code 39 = .ok (.iload_n 2, 1) := by decide +kernel
theorem d_Sc_skipBlanks_40 : decode prog_8_method_9_code 40 = .ok (.bipush 37, 2) := by decide +kernel
theorem d_Sc_skipBlanks_42 : decode prog_8_method_9_code 42 = .ok (.if_icmp .ne 8, 3) := by decide +kernel
theorem d_Sc_skipBlanks_45 : decode prog_8_method_9_code 45 = .ok (.iconst 1, 1) := by decide +kernel
theorem d_Sc_skipBlanks_46 : decode prog_8_method_9_code 46 = .ok (.istore_n 1, 1) := by decide +kernel
theorem d_Sc_skipBlanks_47 : decode prog_8_method_9_code 47 = .ok (.goto 26, 3) := by decide +kernel
theorem d_Sc_skipBlanks_50 : decode prog_8_method_9_code 50 = .ok (.iload_n 1, 1) := by decide +kernel
theorem d_Sc_skipBlanks_51 : decode prog_8_method_9_code 51 = .ok (.ifCond .ne 22, 3) := by decide +kernel
theorem d_Sc_skipBlanks_54 : decode prog_8_method_9_code 54 = .ok (.iload_n 2, 1) := by decide +kernel
theorem d_Sc_skipBlanks_55 : decode prog_8_method_9_code 55 = .ok (.bipush 9, 2) := by decide +kernel
theorem d_Sc_skipBlanks_57 : decode prog_8_method_9_code 57 = .ok (.if_icmp .eq 16, 3) := by decide +kernel
theorem d_Sc_skipBlanks_60 : decode prog_8_method_9_code 60 = .ok (.iload_n 2, 1) := by decide +kernel
theorem d_Sc_skipBlanks_61 : decode prog_8_method_9_code 61 = .ok (.bipush 13, 2) := by decide +kernel
theorem d_Sc_skipBlanks_63 : decode prog_8_method_9_code 63 = .ok (.if_icmp .eq 10, 3) := by decide +kernel
theorem d_Sc_skipBlanks_66 : decode prog_8_method_9_code 66 = .ok (.iload_n 2, 1) := by decide +kernel
theorem d_Sc_skipBlanks_67 : decode prog_8_method_9_code 67 = .ok (.bipush 32, 2) := by decide +kernel
theorem d_Sc_skipBlanks_69 : decode prog_8_method_9_code 69 = .ok (.if_icmp .eq 4, 3) := by decide +kernel
theorem d_Sc_skipBlanks_72 : decode prog_8_method_9_code 72 = .ok (.return_, 1) := by decide +kernel
theorem d_Sc_skipBlanks_73 : decode prog_8_method_9_code 73 = .ok (.aload_n 0, 1) := by decide +kernel
theorem d_Sc_skipBlanks_74 : decode prog_8_method_9_code 74 = .ok (.dup, 1) := by decide +kernel
theorem d_Sc_skipBlanks_75 : decode prog_8_method_9_code 75 = .ok (.getfield 18, 3) := by decide +kernel
theorem d_Sc_skipBlanks_78 : decode prog_8_method_9_code 78 = .ok (.iconst 1, 1) := by decide +kernel
theorem d_Sc_skipBlanks_79 : decode prog_8_method_9_code 79 = .ok (.iadd, 1) := by decide +kernel
theorem d_Sc_skipBlanks_80 : decode prog_8_method_9_code 80 = .ok (.putfield 18, 3) := by decide +kernel
theorem d_Sc_skipBlanks_83 : decode prog_8_method_9_code 83 = .ok (.goto (-81), 3) := by decide +kernel
theorem d_Sc_skipBlanks_86 : decode prog_8_method_9_code 86 = .ok (.return_, 1) := by decide +kernel
set_option maxHeartbeats 4000000 in
set_option maxRecDepth 100000 in
theorem L_Sc_skipBlanks_2 (l : Launch) (D : va_G) (cI cB cJ cS : ClassId) (h0 : Nat) (a_text_h0 : Nat) (a_bytes_a_text_h0 : Nat) (next_h0 : Int32) (kind_h0 : Int32) (start_h0 : Int32) (width_h0 : Int32) (size_a_text_h0 : Int32) (n_a_bytes_a_text_h0 : Nat) (b_a_bytes_a_text_h0 : Nat → Int32) (o_0_1 : Int32) (p : Program) (e : Env) (s : State) (m : MethodId) (below : List Frame) (meth : Method) (c : Code) (hr : meth.sig.returnType = (Option.none : Option Jvm.ClassFile.FieldType)) (hnm : meth.name = y_Sc_skipBlanks.name) : ∀ (k_2 : Nat) (v1_2 : Int32) (f0_1_2 : Int32) (hz_v1_2 : zb v1_2), F_Sc_skipBlanks_2 size_a_text_h0 n_a_bytes_a_text_h0 b_a_bytes_a_text_h0  k_2 v1_2 f0_1_2 = some o_0_1 → J (KxOf p l e { frames := 1, cells := 0, slots := 0, locals := 21 } s m [.ref h0].toArray below meth c D (gT cI cB cJ cS) [(h0, .inr (4, [.ref a_text_h0, .int next_h0, .int kind_h0, .int start_h0, .int width_h0])), (a_text_h0, .inr (3, [.ref a_bytes_a_text_h0, .int size_a_text_h0])), (a_bytes_a_text_h0, .inl (cB, n_a_bytes_a_text_h0, .inl b_a_bytes_a_text_h0))] (fun v w => v = none ∧ w = [(h0, .inr (4, [.ref a_text_h0, .int o_0_1, .int kind_h0, .int start_h0, .int width_h0])), (a_text_h0, .inr (3, [.ref a_bytes_a_text_h0, .int size_a_text_h0])), (a_bytes_a_text_h0, .inl (cB, n_a_bytes_a_text_h0, .inl b_a_bytes_a_text_h0))]) 0 0) prog_8_method_9_code 3 R_Sc 2 [(1, .int v1_2), (0, .ref h0)] [] [(h0, .inr (4, [.ref a_text_h0, .int f0_1_2, .int kind_h0, .int start_h0, .int width_h0])), (a_text_h0, .inr (3, [.ref a_bytes_a_text_h0, .int size_a_text_h0])), (a_bytes_a_text_h0, .inl (cB, n_a_bytes_a_text_h0, .inl b_a_bytes_a_text_h0))] 0 0 := by
  intro k_2
  induction k_2 with
  | zero => intro v1_2 f0_1_2 hz_v1_2 h; rw [F_Sc_skipBlanks_2] at h; cases h
  | succ k_2 ih_2 =>
    intro v1_2 f0_1_2 hz_v1_2 h
    rw [F_Sc_skipBlanks_2] at h
    refine j_aload_n d_Sc_skipBlanks_2 rfl 1 rfl ?_
    refine j_get ig_Sc rfl 0 rfl 1 (by decide) rfl m_58 rfl d_Sc_skipBlanks_3 ?_
    refine j_aload_n d_Sc_skipBlanks_6 rfl 1 rfl ?_
    refine j_get ig_Sc rfl 0 rfl 0 (by decide) rfl m_57 rfl d_Sc_skipBlanks_7 ?_
    refine j_callV (n := 0) (As := []) (rest := [.int f0_1_2]) (wr := [(h0, .inr (4, [.ref a_text_h0, .int f0_1_2, .int kind_h0, .int start_h0, .int width_h0])), (a_bytes_a_text_h0, .inl (cB, n_a_bytes_a_text_h0, .inl b_a_bytes_a_text_h0))]) (c_Rw_size l D cI cB cJ cS a_text_h0 a_bytes_a_text_h0 size_a_text_h0  ) k_Sc_58 (by decide) ⟨Nat.le_of_ble_eq_true rfl, Nat.le_of_ble_eq_true rfl⟩ rfl 0 rfl [1] [0, 2] rfl (by decide) rfl (by decide) (by decide) rfl rfl (Nat.le_of_ble_eq_true rfl) d_Sc_skipBlanks_10 ⟨Nat.le_of_ble_eq_true rfl, Nat.le_of_ble_eq_true rfl⟩ (fun v w hq => ?_)
    obtain ⟨rfl, rfl⟩ := hq
    refine j_norm (pc' := 13) (st' := [.int size_a_text_h0, .int f0_1_2]) (ws' := [(h0, .inr (4, [.ref a_text_h0, .int f0_1_2, .int kind_h0, .int start_h0, .int width_h0])), (a_bytes_a_text_h0, .inl (cB, n_a_bytes_a_text_h0, .inl b_a_bytes_a_text_h0)), (a_text_h0, .inr (3, [.ref a_bytes_a_text_h0, .int size_a_text_h0]))]) (cl' := 0) (sl' := 0) rfl rfl rfl rfl rfl rfl ?_
    refine j_icmp_ge (tgt := 86) d_Sc_skipBlanks_13 (by decide) (fun c2 => ?_) (fun c2 => ?_)
    · replace h := it_t c2 h
      replace h := Option.some.inj h
      subst h
      exact j_vret (w := [(h0, .inr (4, [.ref a_text_h0, .int f0_1_2, .int kind_h0, .int start_h0, .int width_h0])), (a_text_h0, .inr (3, [.ref a_bytes_a_text_h0, .int size_a_text_h0])), (a_bytes_a_text_h0, .inl (cB, n_a_bytes_a_text_h0, .inl b_a_bytes_a_text_h0))]) hr d_Sc_skipBlanks_86 [0, 2, 1] rfl (by decide) ⟨rfl, rfl⟩
    · replace h := it_f c2 h
      refine j_aload_n d_Sc_skipBlanks_16 rfl 1 rfl ?_
      refine j_get ig_Sc rfl 0 rfl 0 (by decide) rfl m_57 rfl d_Sc_skipBlanks_17 ?_
      refine j_aload_n d_Sc_skipBlanks_20 rfl 1 rfl ?_
      refine j_get ig_Sc rfl 0 rfl 1 (by decide) rfl m_58 rfl d_Sc_skipBlanks_21 ?_
      replace h := bd_s h
      obtain ⟨r3, k4, h⟩ := h
      refine j_callV (n := 1) (As := [.int f0_1_2]) (rest := []) (wr := [(h0, .inr (4, [.ref a_text_h0, .int f0_1_2, .int kind_h0, .int start_h0, .int width_h0]))]) (c_Rw_at l D cI cB cJ cS a_text_h0 a_bytes_a_text_h0 f0_1_2 size_a_text_h0 n_a_bytes_a_text_h0 b_a_bytes_a_text_h0  r3 k4) k_Sc_34 (by decide) ⟨Nat.le_of_ble_eq_true rfl, Nat.le_of_ble_eq_true rfl⟩ rfl 0 rfl [2, 1] [0] rfl (by decide) rfl (by decide) (by decide) rfl rfl (Nat.le_of_ble_eq_true rfl) d_Sc_skipBlanks_24 ⟨Nat.le_of_ble_eq_true rfl, Nat.le_of_ble_eq_true rfl⟩ (fun v w hq => ?_)
      obtain ⟨rfl, rfl⟩ := hq
      refine j_norm (pc' := 27) (st' := [.int r3]) (ws' := [(h0, .inr (4, [.ref a_text_h0, .int f0_1_2, .int kind_h0, .int start_h0, .int width_h0])), (a_text_h0, .inr (3, [.ref a_bytes_a_text_h0, .int size_a_text_h0])), (a_bytes_a_text_h0, .inl (cB, n_a_bytes_a_text_h0, .inl b_a_bytes_a_text_h0))]) (cl' := 0) (sl' := 0) rfl rfl rfl rfl rfl rfl ?_
      refine j_istore_n (lv' := [(2, .int r3), (1, .int v1_2), (0, .ref h0)]) d_Sc_skipBlanks_27 rfl (by decide) rfl ?_
      refine j_iload_n d_Sc_skipBlanks_28 rfl 0 rfl ?_
      refine j_bipush (v := 10) d_Sc_skipBlanks_29 (by decide) ?_
      refine j_icmp_ne (tgt := 39) d_Sc_skipBlanks_31 (by decide) (fun c5 => ?_) (fun c5 => ?_)
      · replace h := it_f c5 h
        refine j_iload_n d_Sc_skipBlanks_39 rfl 0 rfl ?_
        refine j_bipush (v := 37) d_Sc_skipBlanks_40 (by decide) ?_
        refine j_icmp_ne (tgt := 50) d_Sc_skipBlanks_42 (by decide) (fun c6 => ?_) (fun c6 => ?_)
        · replace h := it_f c6 h
          refine j_iload_n d_Sc_skipBlanks_50 rfl 1 rfl ?_
          refine j_if_ne (tgt := 73) d_Sc_skipBlanks_51 (by decide) (fun c7 => ?_) (fun c7 => ?_)
          · replace h := it_f c7 h
            refine j_aload_n d_Sc_skipBlanks_73 rfl 2 rfl ?_
            refine j_dup rfl d_Sc_skipBlanks_74 ?_
            refine j_get ig_Sc rfl 0 rfl 1 (by decide) rfl m_58 rfl d_Sc_skipBlanks_75 ?_
            refine j_iconst (v := 1) d_Sc_skipBlanks_78 (by decide) ?_
            refine j_iadd d_Sc_skipBlanks_79 ?_
            refine j_put (ws' := [(h0, .inr (4, [.ref a_text_h0, .int (f0_1_2 + 1), .int kind_h0, .int start_h0, .int width_h0])), (a_text_h0, .inr (3, [.ref a_bytes_a_text_h0, .int size_a_text_h0])), (a_bytes_a_text_h0, .inl (cB, n_a_bytes_a_text_h0, .inl b_a_bytes_a_text_h0))]) ig_Sc tk_Sc nm_Sc rfl 0 rfl 1 (by decide) rfl m_58 rfl (tk_Sc 1 (by decide)) rfl rfl (Nat.le_of_ble_eq_true rfl) d_Sc_skipBlanks_80 rfl ?_
            refine j_goto (tgt := 2) d_Sc_skipBlanks_83 (by decide) ?_
            refine j_sub (w := [(h0, .inr (4, [.ref a_text_h0, .int (f0_1_2 + 1), .int kind_h0, .int start_h0, .int width_h0])), (a_text_h0, .inr (3, [.ref a_bytes_a_text_h0, .int size_a_text_h0])), (a_bytes_a_text_h0, .inl (cB, n_a_bytes_a_text_h0, .inl b_a_bytes_a_text_h0))]) (lv' := [(1, .int v1_2), (0, .ref h0)]) [0, 1, 2] rfl (by decide) [1, 2] rfl ?_
            exact ih_2 v1_2 (f0_1_2 + 1) hz_v1_2 h
          · replace h := it_t c7 h
            refine j_iload_n d_Sc_skipBlanks_54 rfl 0 rfl ?_
            refine j_bipush (v := 9) d_Sc_skipBlanks_55 (by decide) ?_
            refine j_icmp_eq (tgt := 73) d_Sc_skipBlanks_57 (by decide) (fun c8 => ?_) (fun c8 => ?_)
            · replace h := it_t c8 h
              refine j_aload_n d_Sc_skipBlanks_73 rfl 2 rfl ?_
              refine j_dup rfl d_Sc_skipBlanks_74 ?_
              refine j_get ig_Sc rfl 0 rfl 1 (by decide) rfl m_58 rfl d_Sc_skipBlanks_75 ?_
              refine j_iconst (v := 1) d_Sc_skipBlanks_78 (by decide) ?_
              refine j_iadd d_Sc_skipBlanks_79 ?_
              refine j_put (ws' := [(h0, .inr (4, [.ref a_text_h0, .int (f0_1_2 + 1), .int kind_h0, .int start_h0, .int width_h0])), (a_text_h0, .inr (3, [.ref a_bytes_a_text_h0, .int size_a_text_h0])), (a_bytes_a_text_h0, .inl (cB, n_a_bytes_a_text_h0, .inl b_a_bytes_a_text_h0))]) ig_Sc tk_Sc nm_Sc rfl 0 rfl 1 (by decide) rfl m_58 rfl (tk_Sc 1 (by decide)) rfl rfl (Nat.le_of_ble_eq_true rfl) d_Sc_skipBlanks_80 rfl ?_
              refine j_goto (tgt := 2) d_Sc_skipBlanks_83 (by decide) ?_
              refine j_sub (w := [(h0, .inr (4, [.ref a_text_h0, .int (f0_1_2 + 1), .int kind_h0, .int start_h0, .int width_h0])), (a_text_h0, .inr (3, [.ref a_bytes_a_text_h0, .int size_a_text_h0])), (a_bytes_a_text_h0, .inl (cB, n_a_bytes_a_text_h0, .inl b_a_bytes_a_text_h0))]) (lv' := [(1, .int v1_2), (0, .ref h0)]) [0, 1, 2] rfl (by decide) [1, 2] rfl ?_
              exact ih_2 v1_2 (f0_1_2 + 1) hz_v1_2 h
            · replace h := it_f c8 h
              refine j_iload_n d_Sc_skipBlanks_60 rfl 0 rfl ?_
              refine j_bipush (v := 13) d_Sc_skipBlanks_61 (by decide) ?_
              refine j_icmp_eq (tgt := 73) d_Sc_skipBlanks_63 (by decide) (fun c9 => ?_) (fun c9 => ?_)
              · replace h := it_t c9 h
                refine j_aload_n d_Sc_skipBlanks_73 rfl 2 rfl ?_
                refine j_dup rfl d_Sc_skipBlanks_74 ?_
                refine j_get ig_Sc rfl 0 rfl 1 (by decide) rfl m_58 rfl d_Sc_skipBlanks_75 ?_
                refine j_iconst (v := 1) d_Sc_skipBlanks_78 (by decide) ?_
                refine j_iadd d_Sc_skipBlanks_79 ?_
                refine j_put (ws' := [(h0, .inr (4, [.ref a_text_h0, .int (f0_1_2 + 1), .int kind_h0, .int start_h0, .int width_h0])), (a_text_h0, .inr (3, [.ref a_bytes_a_text_h0, .int size_a_text_h0])), (a_bytes_a_text_h0, .inl (cB, n_a_bytes_a_text_h0, .inl b_a_bytes_a_text_h0))]) ig_Sc tk_Sc nm_Sc rfl 0 rfl 1 (by decide) rfl m_58 rfl (tk_Sc 1 (by decide)) rfl rfl (Nat.le_of_ble_eq_true rfl) d_Sc_skipBlanks_80 rfl ?_
                refine j_goto (tgt := 2) d_Sc_skipBlanks_83 (by decide) ?_
                refine j_sub (w := [(h0, .inr (4, [.ref a_text_h0, .int (f0_1_2 + 1), .int kind_h0, .int start_h0, .int width_h0])), (a_text_h0, .inr (3, [.ref a_bytes_a_text_h0, .int size_a_text_h0])), (a_bytes_a_text_h0, .inl (cB, n_a_bytes_a_text_h0, .inl b_a_bytes_a_text_h0))]) (lv' := [(1, .int v1_2), (0, .ref h0)]) [0, 1, 2] rfl (by decide) [1, 2] rfl ?_
                exact ih_2 v1_2 (f0_1_2 + 1) hz_v1_2 h
              · replace h := it_f c9 h
                refine j_iload_n d_Sc_skipBlanks_66 rfl 0 rfl ?_
                refine j_bipush (v := 32) d_Sc_skipBlanks_67 (by decide) ?_
                refine j_icmp_eq (tgt := 73) d_Sc_skipBlanks_69 (by decide) (fun c10 => ?_) (fun c10 => ?_)
                · replace h := it_t c10 h
                  refine j_aload_n d_Sc_skipBlanks_73 rfl 2 rfl ?_
                  refine j_dup rfl d_Sc_skipBlanks_74 ?_
                  refine j_get ig_Sc rfl 0 rfl 1 (by decide) rfl m_58 rfl d_Sc_skipBlanks_75 ?_
                  refine j_iconst (v := 1) d_Sc_skipBlanks_78 (by decide) ?_
                  refine j_iadd d_Sc_skipBlanks_79 ?_
                  refine j_put (ws' := [(h0, .inr (4, [.ref a_text_h0, .int (f0_1_2 + 1), .int kind_h0, .int start_h0, .int width_h0])), (a_text_h0, .inr (3, [.ref a_bytes_a_text_h0, .int size_a_text_h0])), (a_bytes_a_text_h0, .inl (cB, n_a_bytes_a_text_h0, .inl b_a_bytes_a_text_h0))]) ig_Sc tk_Sc nm_Sc rfl 0 rfl 1 (by decide) rfl m_58 rfl (tk_Sc 1 (by decide)) rfl rfl (Nat.le_of_ble_eq_true rfl) d_Sc_skipBlanks_80 rfl ?_
                  refine j_goto (tgt := 2) d_Sc_skipBlanks_83 (by decide) ?_
                  refine j_sub (w := [(h0, .inr (4, [.ref a_text_h0, .int (f0_1_2 + 1), .int kind_h0, .int start_h0, .int width_h0])), (a_text_h0, .inr (3, [.ref a_bytes_a_text_h0, .int size_a_text_h0])), (a_bytes_a_text_h0, .inl (cB, n_a_bytes_a_text_h0, .inl b_a_bytes_a_text_h0))]) (lv' := [(1, .int v1_2), (0, .ref h0)]) [0, 1, 2] rfl (by decide) [1, 2] rfl ?_
                  exact ih_2 v1_2 (f0_1_2 + 1) hz_v1_2 h
                · replace h := it_f c10 h
                  replace h := Option.some.inj h
                  subst h
                  exact j_vret (w := [(h0, .inr (4, [.ref a_text_h0, .int f0_1_2, .int kind_h0, .int start_h0, .int width_h0])), (a_text_h0, .inr (3, [.ref a_bytes_a_text_h0, .int size_a_text_h0])), (a_bytes_a_text_h0, .inl (cB, n_a_bytes_a_text_h0, .inl b_a_bytes_a_text_h0))]) hr d_Sc_skipBlanks_72 [0, 1, 2] rfl (by decide) ⟨rfl, rfl⟩
        · replace h := it_t c6 h
          refine j_iconst (v := 1) d_Sc_skipBlanks_45 (by decide) ?_
          refine j_istore_n (lv' := [(1, .int 1), (2, .int r3), (0, .ref h0)]) d_Sc_skipBlanks_46 rfl (by decide) rfl ?_
          refine j_goto (tgt := 73) d_Sc_skipBlanks_47 (by decide) ?_
          refine j_aload_n d_Sc_skipBlanks_73 rfl 2 rfl ?_
          refine j_dup rfl d_Sc_skipBlanks_74 ?_
          refine j_get ig_Sc rfl 0 rfl 1 (by decide) rfl m_58 rfl d_Sc_skipBlanks_75 ?_
          refine j_iconst (v := 1) d_Sc_skipBlanks_78 (by decide) ?_
          refine j_iadd d_Sc_skipBlanks_79 ?_
          refine j_put (ws' := [(h0, .inr (4, [.ref a_text_h0, .int (f0_1_2 + 1), .int kind_h0, .int start_h0, .int width_h0])), (a_text_h0, .inr (3, [.ref a_bytes_a_text_h0, .int size_a_text_h0])), (a_bytes_a_text_h0, .inl (cB, n_a_bytes_a_text_h0, .inl b_a_bytes_a_text_h0))]) ig_Sc tk_Sc nm_Sc rfl 0 rfl 1 (by decide) rfl m_58 rfl (tk_Sc 1 (by decide)) rfl rfl (Nat.le_of_ble_eq_true rfl) d_Sc_skipBlanks_80 rfl ?_
          refine j_goto (tgt := 2) d_Sc_skipBlanks_83 (by decide) ?_
          refine j_sub (w := [(h0, .inr (4, [.ref a_text_h0, .int (f0_1_2 + 1), .int kind_h0, .int start_h0, .int width_h0])), (a_text_h0, .inr (3, [.ref a_bytes_a_text_h0, .int size_a_text_h0])), (a_bytes_a_text_h0, .inl (cB, n_a_bytes_a_text_h0, .inl b_a_bytes_a_text_h0))]) (lv' := [(1, .int 1), (0, .ref h0)]) [0, 1, 2] rfl (by decide) [0, 2] rfl ?_
          exact ih_2 1 (f0_1_2 + 1) zb1 h
      · replace h := it_t c5 h
        refine j_iconst (v := 0) d_Sc_skipBlanks_34 (by decide) ?_
        refine j_istore_n (lv' := [(1, .int 0), (2, .int r3), (0, .ref h0)]) d_Sc_skipBlanks_35 rfl (by decide) rfl ?_
        refine j_goto (tgt := 73) d_Sc_skipBlanks_36 (by decide) ?_
        refine j_aload_n d_Sc_skipBlanks_73 rfl 2 rfl ?_
        refine j_dup rfl d_Sc_skipBlanks_74 ?_
        refine j_get ig_Sc rfl 0 rfl 1 (by decide) rfl m_58 rfl d_Sc_skipBlanks_75 ?_
        refine j_iconst (v := 1) d_Sc_skipBlanks_78 (by decide) ?_
        refine j_iadd d_Sc_skipBlanks_79 ?_
        refine j_put (ws' := [(h0, .inr (4, [.ref a_text_h0, .int (f0_1_2 + 1), .int kind_h0, .int start_h0, .int width_h0])), (a_text_h0, .inr (3, [.ref a_bytes_a_text_h0, .int size_a_text_h0])), (a_bytes_a_text_h0, .inl (cB, n_a_bytes_a_text_h0, .inl b_a_bytes_a_text_h0))]) ig_Sc tk_Sc nm_Sc rfl 0 rfl 1 (by decide) rfl m_58 rfl (tk_Sc 1 (by decide)) rfl rfl (Nat.le_of_ble_eq_true rfl) d_Sc_skipBlanks_80 rfl ?_
        refine j_goto (tgt := 2) d_Sc_skipBlanks_83 (by decide) ?_
        refine j_sub (w := [(h0, .inr (4, [.ref a_text_h0, .int (f0_1_2 + 1), .int kind_h0, .int start_h0, .int width_h0])), (a_text_h0, .inr (3, [.ref a_bytes_a_text_h0, .int size_a_text_h0])), (a_bytes_a_text_h0, .inl (cB, n_a_bytes_a_text_h0, .inl b_a_bytes_a_text_h0))]) (lv' := [(1, .int 0), (0, .ref h0)]) [0, 1, 2] rfl (by decide) [0, 2] rfl ?_
        exact ih_2 0 (f0_1_2 + 1) zb0 h
set_option maxHeartbeats 4000000 in
set_option maxRecDepth 100000 in
theorem c_Sc_skipBlanks (l : Launch) (D : va_G) (cI cB cJ cS : ClassId) (h0 : Nat) (a_text_h0 : Nat) (a_bytes_a_text_h0 : Nat) (next_h0 : Int32) (kind_h0 : Int32) (start_h0 : Int32) (width_h0 : Int32) (size_a_text_h0 : Int32) (n_a_bytes_a_text_h0 : Nat) (b_a_bytes_a_text_h0 : Nat → Int32) (o_0_1 : Int32) (h : F_Sc_skipBlanks next_h0 kind_h0 start_h0 width_h0 size_a_text_h0 n_a_bytes_a_text_h0 b_a_bytes_a_text_h0 = some o_0_1) : Ct l D (gT cI cB cJ cS) y_Sc_skipBlanks prog_8_method_9_code 3 (Option.none : Option Jvm.ClassFile.FieldType) 1 21 0 0 [.ref h0] [(h0, .inr (4, [.ref a_text_h0, .int next_h0, .int kind_h0, .int start_h0, .int width_h0])), (a_text_h0, .inr (3, [.ref a_bytes_a_text_h0, .int size_a_text_h0])), (a_bytes_a_text_h0, .inl (cB, n_a_bytes_a_text_h0, .inl b_a_bytes_a_text_h0))] (fun v w => v = none ∧ w = [(h0, .inr (4, [.ref a_text_h0, .int o_0_1, .int kind_h0, .int start_h0, .int width_h0])), (a_text_h0, .inr (3, [.ref a_bytes_a_text_h0, .int size_a_text_h0])), (a_bytes_a_text_h0, .inl (cB, n_a_bytes_a_text_h0, .inl b_a_bytes_a_text_h0))]) := by
  refine Ct.mk (by decide) (Nat.le_of_ble_eq_true rfl) ?_
  intro p e s m below meth c hr hnm
  refine j_norm (pc' := 0) (lv' := [(0, .ref h0)]) (st' := []) (ws' := [(h0, .inr (4, [.ref a_text_h0, .int next_h0, .int kind_h0, .int start_h0, .int width_h0])), (a_text_h0, .inr (3, [.ref a_bytes_a_text_h0, .int size_a_text_h0])), (a_bytes_a_text_h0, .inl (cB, n_a_bytes_a_text_h0, .inl b_a_bytes_a_text_h0))]) (cl' := 0) (sl' := 0) rfl rfl rfl rfl rfl rfl ?_
  unfold F_Sc_skipBlanks at h
  refine j_iconst (v := 0) d_Sc_skipBlanks_0 (by decide) ?_
  refine j_istore_n (lv' := [(1, .int 0), (0, .ref h0)]) d_Sc_skipBlanks_1 rfl (by decide) rfl ?_
  refine j_sub (w := [(h0, .inr (4, [.ref a_text_h0, .int next_h0, .int kind_h0, .int start_h0, .int width_h0])), (a_text_h0, .inr (3, [.ref a_bytes_a_text_h0, .int size_a_text_h0])), (a_bytes_a_text_h0, .inl (cB, n_a_bytes_a_text_h0, .inl b_a_bytes_a_text_h0))]) (lv' := [(1, .int 0), (0, .ref h0)]) [0, 1, 2] rfl (by decide) [0, 1] rfl ?_
  exact L_Sc_skipBlanks_2 l D cI cB cJ cS h0 a_text_h0 a_bytes_a_text_h0 next_h0 kind_h0 start_h0 width_h0 size_a_text_h0 n_a_bytes_a_text_h0 b_a_bytes_a_text_h0 o_0_1 p e s m below meth c hr hnm FU 0 next_h0 zb0 h
def F_Sc_isLetter_12 (p1 : Int32) : (Int32) :=
    if p1 < 97 then 0
    else if 122 < p1 then 0
    else 1
def F_Sc_isLetter (p1 : Int32) : (Int32) :=
  if p1 < 65 then (F_Sc_isLetter_12 p1   )
  else if p1 ≤ 90 then 1
  else (F_Sc_isLetter_12 p1   )
theorem d_Sc_isLetter_0 : decode prog_8_method_10_code 0 = .ok (.iload_n 0, 1) := by decide +kernel
theorem d_Sc_isLetter_1 : decode prog_8_method_10_code 1 = .ok (.bipush 65, 2) := by decide +kernel
theorem d_Sc_isLetter_3 : decode prog_8_method_10_code 3 = .ok (.if_icmp .lt 9, 3) := by decide +kernel
theorem d_Sc_isLetter_6 : decode prog_8_method_10_code 6 = .ok (.iload_n 0, 1) := by decide +kernel
theorem d_Sc_isLetter_7 : decode prog_8_method_10_code 7 = .ok (.bipush 90, 2) := by decide +kernel
theorem d_Sc_isLetter_9 : decode prog_8_method_10_code 9 = .ok (.if_icmp .le 15, 3) := by decide +kernel
theorem d_Sc_isLetter_12 : decode prog_8_method_10_code 12 = .ok (.iload_n 0, 1) := by decide +kernel
theorem d_Sc_isLetter_13 : decode prog_8_method_10_code 13 = .ok (.bipush 97, 2) := by decide +kernel
theorem d_Sc_isLetter_15 : decode prog_8_method_10_code 15 = .ok (.if_icmp .lt 13, 3) := by decide +kernel
theorem d_Sc_isLetter_18 : decode prog_8_method_10_code 18 = .ok (.iload_n 0, 1) := by decide +kernel
theorem d_Sc_isLetter_19 : decode prog_8_method_10_code 19 = .ok (.bipush 122, 2) := by decide +kernel
theorem d_Sc_isLetter_21 : decode prog_8_method_10_code 21 = .ok (.if_icmp .gt 7, 3) := by decide +kernel
theorem d_Sc_isLetter_24 : decode prog_8_method_10_code 24 = .ok (.iconst 1, 1) := by decide +kernel
theorem d_Sc_isLetter_25 : decode prog_8_method_10_code 25 = .ok (.goto 4, 3) := by decide +kernel
theorem d_Sc_isLetter_28 : decode prog_8_method_10_code 28 = .ok (.iconst 0, 1) := by decide +kernel
theorem d_Sc_isLetter_29 : decode prog_8_method_10_code 29 = .ok (.ireturn, 1) := by decide +kernel
set_option maxHeartbeats 4000000 in
set_option maxRecDepth 100000 in
theorem L_Sc_isLetter_12 (l : Launch) (D : va_G) (cI cB cJ cS : ClassId) (p1 : Int32) (ret : Int32) (p : Program) (e : Env) (s : State) (m : MethodId) (below : List Frame) (meth : Method) (c : Code) (hr : meth.sig.returnType = (Option.some Jvm.ClassFile.FieldType.boolean)) (hnm : meth.name = y_Sc_isLetter.name) : F_Sc_isLetter_12 p1    = ret → J (KxOf p l e { frames := 0, cells := 0, slots := 0, locals := 0 } s m [.int p1].toArray below meth c D (gT cI cB cJ cS) [] (fun v w => v = some (.int ret) ∧ zb ret ∧ w = []) 0 0) prog_8_method_10_code 1 R_Sc 12 [(0, .int p1)] [] [] 0 0 := by
  intro  h
  unfold F_Sc_isLetter_12 at h
  refine j_iload_n d_Sc_isLetter_12 rfl 0 rfl ?_
  refine j_bipush (v := 97) d_Sc_isLetter_13 (by decide) ?_
  refine j_icmp_lt (tgt := 28) d_Sc_isLetter_15 (by decide) (fun c1 => ?_) (fun c1 => ?_)
  · replace h := it_t c1 h
    refine j_iconst (v := 0) d_Sc_isLetter_28 (by decide) ?_
    subst h
    exact j_zret (w := []) hr (zb_n zb0) d_Sc_isLetter_29 [] rfl (by decide) ⟨rfl, zb0, rfl⟩
  · replace h := it_f c1 h
    refine j_iload_n d_Sc_isLetter_18 rfl 0 rfl ?_
    refine j_bipush (v := 122) d_Sc_isLetter_19 (by decide) ?_
    refine j_icmp_gt (tgt := 28) d_Sc_isLetter_21 (by decide) (fun c2 => ?_) (fun c2 => ?_)
    · replace h := it_t c2 h
      refine j_iconst (v := 0) d_Sc_isLetter_28 (by decide) ?_
      subst h
      exact j_zret (w := []) hr (zb_n zb0) d_Sc_isLetter_29 [] rfl (by decide) ⟨rfl, zb0, rfl⟩
    · replace h := it_f c2 h
      refine j_iconst (v := 1) d_Sc_isLetter_24 (by decide) ?_
      refine j_goto (tgt := 29) d_Sc_isLetter_25 (by decide) ?_
      subst h
      exact j_zret (w := []) hr (zb_n zb1) d_Sc_isLetter_29 [] rfl (by decide) ⟨rfl, zb1, rfl⟩
set_option maxHeartbeats 4000000 in
set_option maxRecDepth 100000 in
theorem c_Sc_isLetter (l : Launch) (D : va_G) (cI cB cJ cS : ClassId) (p1 : Int32) (ret : Int32) (h : F_Sc_isLetter p1 = ret) : Ct l D (gT cI cB cJ cS) y_Sc_isLetter prog_8_method_10_code 1 (Option.some Jvm.ClassFile.FieldType.boolean) 0 0 0 0 [.int p1] [] (fun v w => v = some (.int ret) ∧ zb ret ∧ w = []) := by
  refine Ct.mk (by decide) (Nat.le_of_ble_eq_true rfl) ?_
  intro p e s m below meth c hr hnm
  refine j_norm (pc' := 0) (lv' := [(0, .int p1)]) (st' := []) (ws' := []) (cl' := 0) (sl' := 0) rfl rfl rfl rfl rfl rfl ?_
  unfold F_Sc_isLetter at h
  refine j_iload_n d_Sc_isLetter_0 rfl 0 rfl ?_
  refine j_bipush (v := 65) d_Sc_isLetter_1 (by decide) ?_
  refine j_icmp_lt (tgt := 12) d_Sc_isLetter_3 (by decide) (fun c3 => ?_) (fun c3 => ?_)
  · replace h := it_t c3 h
    refine j_sub (w := []) (lv' := [(0, .int p1)]) [] rfl (by decide) [0] rfl ?_
    exact L_Sc_isLetter_12 l D cI cB cJ cS p1 ret p e s m below meth c hr hnm  h
  · replace h := it_f c3 h
    refine j_iload_n d_Sc_isLetter_6 rfl 0 rfl ?_
    refine j_bipush (v := 90) d_Sc_isLetter_7 (by decide) ?_
    refine j_icmp_le (tgt := 24) d_Sc_isLetter_9 (by decide) (fun c4 => ?_) (fun c4 => ?_)
    · replace h := it_t c4 h
      refine j_iconst (v := 1) d_Sc_isLetter_24 (by decide) ?_
      refine j_goto (tgt := 29) d_Sc_isLetter_25 (by decide) ?_
      subst h
      exact j_zret (w := []) hr (zb_n zb1) d_Sc_isLetter_29 [] rfl (by decide) ⟨rfl, zb1, rfl⟩
    · replace h := it_f c4 h
      refine j_sub (w := []) (lv' := [(0, .int p1)]) [] rfl (by decide) [0] rfl ?_
      exact L_Sc_isLetter_12 l D cI cB cJ cS p1 ret p e s m below meth c hr hnm  h
def F_Sc_isDigit (p1 : Int32) : (Int32) :=
  if p1 < 48 then 0
  else if 57 < p1 then 0
  else 1
theorem d_Sc_isDigit_0 : decode prog_8_method_11_code 0 = .ok (.iload_n 0, 1) := by decide +kernel
theorem d_Sc_isDigit_1 : decode prog_8_method_11_code 1 = .ok (.bipush 48, 2) := by decide +kernel
theorem d_Sc_isDigit_3 : decode prog_8_method_11_code 3 = .ok (.if_icmp .lt 13, 3) := by decide +kernel
theorem d_Sc_isDigit_6 : decode prog_8_method_11_code 6 = .ok (.iload_n 0, 1) := by decide +kernel
theorem d_Sc_isDigit_7 : decode prog_8_method_11_code 7 = .ok (.bipush 57, 2) := by decide +kernel
theorem d_Sc_isDigit_9 : decode prog_8_method_11_code 9 = .ok (.if_icmp .gt 7, 3) := by decide +kernel
theorem d_Sc_isDigit_12 : decode prog_8_method_11_code 12 = .ok (.iconst 1, 1) := by decide +kernel
theorem d_Sc_isDigit_13 : decode prog_8_method_11_code 13 = .ok (.goto 4, 3) := by decide +kernel
theorem d_Sc_isDigit_16 : decode prog_8_method_11_code 16 = .ok (.iconst 0, 1) := by decide +kernel
theorem d_Sc_isDigit_17 : decode prog_8_method_11_code 17 = .ok (.ireturn, 1) := by decide +kernel
set_option maxHeartbeats 4000000 in
set_option maxRecDepth 100000 in
theorem c_Sc_isDigit (l : Launch) (D : va_G) (cI cB cJ cS : ClassId) (p1 : Int32) (ret : Int32) (h : F_Sc_isDigit p1 = ret) : Ct l D (gT cI cB cJ cS) y_Sc_isDigit prog_8_method_11_code 1 (Option.some Jvm.ClassFile.FieldType.boolean) 0 0 0 0 [.int p1] [] (fun v w => v = some (.int ret) ∧ zb ret ∧ w = []) := by
  refine Ct.mk (by decide) (Nat.le_of_ble_eq_true rfl) ?_
  intro p e s m below meth c hr hnm
  refine j_norm (pc' := 0) (lv' := [(0, .int p1)]) (st' := []) (ws' := []) (cl' := 0) (sl' := 0) rfl rfl rfl rfl rfl rfl ?_
  unfold F_Sc_isDigit at h
  refine j_iload_n d_Sc_isDigit_0 rfl 0 rfl ?_
  refine j_bipush (v := 48) d_Sc_isDigit_1 (by decide) ?_
  refine j_icmp_lt (tgt := 16) d_Sc_isDigit_3 (by decide) (fun c1 => ?_) (fun c1 => ?_)
  · replace h := it_t c1 h
    refine j_iconst (v := 0) d_Sc_isDigit_16 (by decide) ?_
    subst h
    exact j_zret (w := []) hr (zb_n zb0) d_Sc_isDigit_17 [] rfl (by decide) ⟨rfl, zb0, rfl⟩
  · replace h := it_f c1 h
    refine j_iload_n d_Sc_isDigit_6 rfl 0 rfl ?_
    refine j_bipush (v := 57) d_Sc_isDigit_7 (by decide) ?_
    refine j_icmp_gt (tgt := 16) d_Sc_isDigit_9 (by decide) (fun c2 => ?_) (fun c2 => ?_)
    · replace h := it_t c2 h
      refine j_iconst (v := 0) d_Sc_isDigit_16 (by decide) ?_
      subst h
      exact j_zret (w := []) hr (zb_n zb0) d_Sc_isDigit_17 [] rfl (by decide) ⟨rfl, zb0, rfl⟩
    · replace h := it_f c2 h
      refine j_iconst (v := 1) d_Sc_isDigit_12 (by decide) ?_
      refine j_goto (tgt := 17) d_Sc_isDigit_13 (by decide) ?_
      subst h
      exact j_zret (w := []) hr (zb_n zb1) d_Sc_isDigit_17 [] rfl (by decide) ⟨rfl, zb1, rfl⟩
def F_Sc_is_15 (s1 : Nat) (start_h0 : Int32) (size_a_text_h0 : Int32) (n_a_bytes_a_text_h0 : Nat) (b_a_bytes_a_text_h0 : Nat → Int32) : Nat → Int32 → Option (Int32)
  | 0, _ => none
  | k_15 + 1, v2_15 =>
    sin s1 (if (nI (gB s1).length) ≤ v2_15 then (some 1)
    else (sin s1 (inb v2_15 (gB s1).length (Option.bind (F_Rw_at (start_h0 + v2_15) size_a_text_h0 n_a_bytes_a_text_h0 b_a_bytes_a_text_h0) fun r6 =>
      if (sch s1 v2_15) = r6 then (F_Sc_is_15 s1 start_h0 size_a_text_h0 n_a_bytes_a_text_h0 b_a_bytes_a_text_h0  k_15 (v2_15 + 1))
      else (some 0)))))
def F_Sc_is (s1 : Nat) (next_h0 : Int32) (kind_h0 : Int32) (start_h0 : Int32) (width_h0 : Int32) (size_a_text_h0 : Int32) (n_a_bytes_a_text_h0 : Nat) (b_a_bytes_a_text_h0 : Nat → Int32) : Option (Int32) :=
  sin s1 (if (nI (gB s1).length) = width_h0 then (F_Sc_is_15 s1 start_h0 size_a_text_h0 n_a_bytes_a_text_h0 b_a_bytes_a_text_h0  FU 0)
  else (some 0))
theorem d_Sc_is_0 : decode prog_8_method_14_code 0 = .ok (.aload_n 1, 1) := by decide +kernel
theorem d_Sc_is_1 : decode prog_8_method_14_code 1 = .ok (.invokevirtual 97, 3) := by decide +kernel
theorem d_Sc_is_4 : decode prog_8_method_14_code 4 = .ok (.aload_n 0, 1) := by decide +kernel
theorem d_Sc_is_5 : decode prog_8_method_14_code 5 = .ok (.getfield 28, 3) := by decide +kernel
theorem d_Sc_is_8 : decode prog_8_method_14_code 8 = .ok (.if_icmp .eq 5, 3) := by decide +kernel
theorem d_Sc_is_11 : decode prog_8_method_14_code 11 = .ok (.iconst 0, 1) := by decide +kernel
theorem d_Sc_is_12 : decode prog_8_method_14_code 12 = .ok (.ireturn, 1) := by decide +kernel
theorem d_Sc_is_13 : decode prog_8_method_14_code 13 = .ok (.iconst 0, 1) := by decide +kernel
theorem d_Sc_is_14 : decode prog_8_method_14_code 14 = .ok (.istore_n 2, 1) := by decide +kernel
theorem d_Sc_is_15 : decode prog_8_method_14_code 15 = .ok (.iload_n 2, 1) := by decide +kernel
theorem d_Sc_is_16 : decode prog_8_method_14_code 16 = .ok (.aload_n 1, 1) := by decide +kernel
theorem d_Sc_is_17 : decode prog_8_method_14_code 17 = .ok (.invokevirtual 97, 3) := by decide +kernel
theorem d_Sc_is_20 : decode prog_8_method_14_code 20 = .ok (.if_icmp .ge 32, 3) := by decide +kernel
theorem d_Sc_is_23 : decode prog_8_method_14_code 23 = .ok (.aload_n 1, 1) := by decide +kernel
theorem d_Sc_is_24 : decode prog_8_method_14_code 24 = .ok (.iload_n 2, 1) := by decide +kernel
theorem d_Sc_is_25 : decode prog_8_method_14_code 25 = .ok (.invokevirtual 102, 3) := by decide +kernel
theorem d_Sc_is_28 : decode prog_8_method_14_code 28 = .ok (.aload_n 0, 1) := by decide +kernel
theorem d_Sc_is_29 : decode prog_8_method_14_code 29 = .ok (.getfield 12, 3) := by decide +kernel
theorem d_Sc_is_32 : decode prog_8_method_14_code 32 = .ok (.aload_n 0, 1) := by decide +kernel
theorem d_Sc_is_33 : decode prog_8_method_14_code 33 = .ok (.getfield 25, 3) := by decide +kernel
theorem d_Sc_is_36 : decode prog_8_method_14_code 36 = .ok (.iload_n 2, 1) := by decide +kernel
theorem d_Sc_is_37 : decode prog_8_method_14_code 37 = .ok (.iadd, 1) := by decide +kernel
theorem d_Sc_is_38 : decode prog_8_method_14_code 38 = .ok (.invokevirtual 34, 3) := by decide +kernel
theorem d_Sc_is_41 : decode prog_8_method_14_code 41 = .ok (.if_icmp .eq 5, 3) := by decide +kernel
theorem d_Sc_is_44 : decode prog_8_method_14_code 44 = .ok (.iconst 0, 1) := by decide +kernel
theorem d_Sc_is_45 : decode prog_8_method_14_code 45 = .ok (.ireturn, 1) := by decide +kernel
theorem d_Sc_is_46 : decode prog_8_method_14_code 46 = .ok (.iinc 2 1, 3) := by decide +kernel
theorem d_Sc_is_49 : decode prog_8_method_14_code 49 = .ok (.goto (-34), 3) := by decide +kernel
theorem d_Sc_is_52 : decode prog_8_method_14_code 52 = .ok (.iconst 1, 1) := by decide +kernel
theorem d_Sc_is_53 : decode prog_8_method_14_code 53 = .ok (.ireturn, 1) := by decide +kernel
set_option maxHeartbeats 4000000 in
set_option maxRecDepth 100000 in
theorem L_Sc_is_15 (l : Launch) (D : va_G) (cI cB cJ cS : ClassId) (h0 : Nat) (a_text_h0 : Nat) (a_bytes_a_text_h0 : Nat) (s1 : Nat) (next_h0 : Int32) (kind_h0 : Int32) (start_h0 : Int32) (width_h0 : Int32) (size_a_text_h0 : Int32) (n_a_bytes_a_text_h0 : Nat) (b_a_bytes_a_text_h0 : Nat → Int32) (ret : Int32) (p : Program) (e : Env) (s : State) (m : MethodId) (below : List Frame) (meth : Method) (c : Code) (hr : meth.sig.returnType = (Option.some Jvm.ClassFile.FieldType.boolean)) (hnm : meth.name = y_Sc_is.name) : ∀ (k_15 : Nat) (v2_15 : Int32), F_Sc_is_15 s1 start_h0 size_a_text_h0 n_a_bytes_a_text_h0 b_a_bytes_a_text_h0  k_15 v2_15 = some ret → J (KxOf p l e { frames := 4, cells := 0, slots := 0, locals := 85 } s m [.ref h0, .ref (sA D s1)].toArray below meth c D (gT cI cB cJ cS) [(h0, .inr (4, [.ref a_text_h0, .int next_h0, .int kind_h0, .int start_h0, .int width_h0])), (a_text_h0, .inr (3, [.ref a_bytes_a_text_h0, .int size_a_text_h0])), (a_bytes_a_text_h0, .inl (cB, n_a_bytes_a_text_h0, .inl b_a_bytes_a_text_h0))] (fun v w => v = some (.int ret) ∧ zb ret ∧ w = [(h0, .inr (4, [.ref a_text_h0, .int next_h0, .int kind_h0, .int start_h0, .int width_h0])), (a_text_h0, .inr (3, [.ref a_bytes_a_text_h0, .int size_a_text_h0])), (a_bytes_a_text_h0, .inl (cB, n_a_bytes_a_text_h0, .inl b_a_bytes_a_text_h0))]) 0 0) prog_8_method_14_code 3 R_Sc 15 [(2, .int v2_15), (0, .ref h0), (1, .ref (sA D s1))] [] [(h0, .inr (4, [.ref a_text_h0, .int next_h0, .int kind_h0, .int start_h0, .int width_h0])), (a_text_h0, .inr (3, [.ref a_bytes_a_text_h0, .int size_a_text_h0])), (a_bytes_a_text_h0, .inl (cB, n_a_bytes_a_text_h0, .inl b_a_bytes_a_text_h0))] 0 0 := by
  intro k_15
  induction k_15 with
  | zero => intro v2_15 h; rw [F_Sc_is_15] at h; cases h
  | succ k_15 ih_15 =>
    intro v2_15 h
    rw [F_Sc_is_15] at h
    refine j_iload_n d_Sc_is_15 rfl 0 rfl ?_
    refine j_aload_n d_Sc_is_16 rfl 2 rfl ?_
    replace h := sin_s h
    obtain ⟨i1, h⟩ := h
    refine j_len (i := s1) i1 k_Sc_97 ⟨Nat.le_of_ble_eq_true rfl, Nat.le_of_ble_eq_true rfl⟩ (Nat.le_of_ble_eq_true rfl) ⟨Nat.le_of_ble_eq_true rfl, Nat.le_of_ble_eq_true rfl⟩ d_Sc_is_17 ?_
    refine j_icmp_ge (tgt := 52) d_Sc_is_20 (by decide) (fun c3 => ?_) (fun c3 => ?_)
    · replace h := it_t c3 h
      refine j_iconst (v := 1) d_Sc_is_52 (by decide) ?_
      replace h := Option.some.inj h
      subst h
      exact j_zret (w := [(h0, .inr (4, [.ref a_text_h0, .int next_h0, .int kind_h0, .int start_h0, .int width_h0])), (a_text_h0, .inr (3, [.ref a_bytes_a_text_h0, .int size_a_text_h0])), (a_bytes_a_text_h0, .inl (cB, n_a_bytes_a_text_h0, .inl b_a_bytes_a_text_h0))]) hr (zb_n zb1) d_Sc_is_53 [0, 1, 2] rfl (by decide) ⟨rfl, zb1, rfl⟩
    · replace h := it_f c3 h
      refine j_aload_n d_Sc_is_23 rfl 2 rfl ?_
      refine j_iload_n d_Sc_is_24 rfl 0 rfl ?_
      replace h := sin_s h
      obtain ⟨i4, h⟩ := h
      replace h := inb_s h
      obtain ⟨i5, h⟩ := h
      refine j_chr (i := s1) i4 i5 k_Sc_102 ⟨Nat.le_of_ble_eq_true rfl, Nat.le_of_ble_eq_true rfl⟩ (Nat.le_of_ble_eq_true rfl) ⟨Nat.le_of_ble_eq_true rfl, Nat.le_of_ble_eq_true rfl⟩ d_Sc_is_25 ?_
      refine j_aload_n d_Sc_is_28 rfl 1 rfl ?_
      refine j_get ig_Sc rfl 0 rfl 0 (by decide) rfl m_57 rfl d_Sc_is_29 ?_
      refine j_aload_n d_Sc_is_32 rfl 1 rfl ?_
      refine j_get ig_Sc rfl 0 rfl 3 (by decide) rfl m_60 rfl d_Sc_is_33 ?_
      refine j_iload_n d_Sc_is_36 rfl 0 rfl ?_
      refine j_iadd d_Sc_is_37 ?_
      replace h := bd_s h
      obtain ⟨r6, k7, h⟩ := h
      refine j_callV (n := 1) (As := [.int (start_h0 + v2_15)]) (rest := [.int (sch s1 v2_15)]) (wr := [(h0, .inr (4, [.ref a_text_h0, .int next_h0, .int kind_h0, .int start_h0, .int width_h0]))]) (c_Rw_at l D cI cB cJ cS a_text_h0 a_bytes_a_text_h0 (start_h0 + v2_15) size_a_text_h0 n_a_bytes_a_text_h0 b_a_bytes_a_text_h0  r6 k7) k_Sc_34 (by decide) ⟨Nat.le_of_ble_eq_true rfl, Nat.le_of_ble_eq_true rfl⟩ rfl 0 rfl [1, 2] [0] rfl (by decide) rfl (by decide) (by decide) rfl rfl (Nat.le_of_ble_eq_true rfl) d_Sc_is_38 ⟨Nat.le_of_ble_eq_true rfl, Nat.le_of_ble_eq_true rfl⟩ (fun v w hq => ?_)
      obtain ⟨rfl, rfl⟩ := hq
      refine j_norm (pc' := 41) (st' := [.int r6, .int (sch s1 v2_15)]) (ws' := [(h0, .inr (4, [.ref a_text_h0, .int next_h0, .int kind_h0, .int start_h0, .int width_h0])), (a_text_h0, .inr (3, [.ref a_bytes_a_text_h0, .int size_a_text_h0])), (a_bytes_a_text_h0, .inl (cB, n_a_bytes_a_text_h0, .inl b_a_bytes_a_text_h0))]) (cl' := 0) (sl' := 0) rfl rfl rfl rfl rfl rfl ?_
      refine j_icmp_eq (tgt := 46) d_Sc_is_41 (by decide) (fun c8 => ?_) (fun c8 => ?_)
      · replace h := it_t c8 h
        refine j_iinc (v := v2_15 + 1) (lv' := [(2, .int (v2_15 + 1)), (0, .ref h0), (1, .ref (sA D s1))]) d_Sc_is_46 0 rfl rfl (by decide) rfl ?_
        refine j_goto (tgt := 15) d_Sc_is_49 (by decide) ?_
        refine j_sub (w := [(h0, .inr (4, [.ref a_text_h0, .int next_h0, .int kind_h0, .int start_h0, .int width_h0])), (a_text_h0, .inr (3, [.ref a_bytes_a_text_h0, .int size_a_text_h0])), (a_bytes_a_text_h0, .inl (cB, n_a_bytes_a_text_h0, .inl b_a_bytes_a_text_h0))]) (lv' := [(2, .int (v2_15 + 1)), (0, .ref h0), (1, .ref (sA D s1))]) [0, 1, 2] rfl (by decide) [0, 1, 2] rfl ?_
        exact ih_15 (v2_15 + 1) h
      · replace h := it_f c8 h
        refine j_iconst (v := 0) d_Sc_is_44 (by decide) ?_
        replace h := Option.some.inj h
        subst h
        exact j_zret (w := [(h0, .inr (4, [.ref a_text_h0, .int next_h0, .int kind_h0, .int start_h0, .int width_h0])), (a_text_h0, .inr (3, [.ref a_bytes_a_text_h0, .int size_a_text_h0])), (a_bytes_a_text_h0, .inl (cB, n_a_bytes_a_text_h0, .inl b_a_bytes_a_text_h0))]) hr (zb_n zb0) d_Sc_is_45 [0, 1, 2] rfl (by decide) ⟨rfl, zb0, rfl⟩
set_option maxHeartbeats 4000000 in
set_option maxRecDepth 100000 in
theorem c_Sc_is (l : Launch) (D : va_G) (cI cB cJ cS : ClassId) (h0 : Nat) (a_text_h0 : Nat) (a_bytes_a_text_h0 : Nat) (s1 : Nat) (next_h0 : Int32) (kind_h0 : Int32) (start_h0 : Int32) (width_h0 : Int32) (size_a_text_h0 : Int32) (n_a_bytes_a_text_h0 : Nat) (b_a_bytes_a_text_h0 : Nat → Int32) (ret : Int32) (h : F_Sc_is s1 next_h0 kind_h0 start_h0 width_h0 size_a_text_h0 n_a_bytes_a_text_h0 b_a_bytes_a_text_h0 = some ret) : Ct l D (gT cI cB cJ cS) y_Sc_is prog_8_method_14_code 3 (Option.some Jvm.ClassFile.FieldType.boolean) 4 85 0 0 [.ref h0, .ref (sA D s1)] [(h0, .inr (4, [.ref a_text_h0, .int next_h0, .int kind_h0, .int start_h0, .int width_h0])), (a_text_h0, .inr (3, [.ref a_bytes_a_text_h0, .int size_a_text_h0])), (a_bytes_a_text_h0, .inl (cB, n_a_bytes_a_text_h0, .inl b_a_bytes_a_text_h0))] (fun v w => v = some (.int ret) ∧ zb ret ∧ w = [(h0, .inr (4, [.ref a_text_h0, .int next_h0, .int kind_h0, .int start_h0, .int width_h0])), (a_text_h0, .inr (3, [.ref a_bytes_a_text_h0, .int size_a_text_h0])), (a_bytes_a_text_h0, .inl (cB, n_a_bytes_a_text_h0, .inl b_a_bytes_a_text_h0))]) := by
  refine Ct.mk (by decide) (Nat.le_of_ble_eq_true rfl) ?_
  intro p e s m below meth c hr hnm
  refine j_norm (pc' := 0) (lv' := [(0, .ref h0), (1, .ref (sA D s1))]) (st' := []) (ws' := [(h0, .inr (4, [.ref a_text_h0, .int next_h0, .int kind_h0, .int start_h0, .int width_h0])), (a_text_h0, .inr (3, [.ref a_bytes_a_text_h0, .int size_a_text_h0])), (a_bytes_a_text_h0, .inl (cB, n_a_bytes_a_text_h0, .inl b_a_bytes_a_text_h0))]) (cl' := 0) (sl' := 0) rfl rfl rfl rfl rfl rfl ?_
  unfold F_Sc_is at h
  refine j_aload_n d_Sc_is_0 rfl 1 rfl ?_
  replace h := sin_s h
  obtain ⟨i9, h⟩ := h
  refine j_len (i := s1) i9 k_Sc_97 ⟨Nat.le_of_ble_eq_true rfl, Nat.le_of_ble_eq_true rfl⟩ (Nat.le_of_ble_eq_true rfl) ⟨Nat.le_of_ble_eq_true rfl, Nat.le_of_ble_eq_true rfl⟩ d_Sc_is_1 ?_
  refine j_aload_n d_Sc_is_4 rfl 0 rfl ?_
  refine j_get ig_Sc rfl 0 rfl 4 (by decide) rfl m_61 rfl d_Sc_is_5 ?_
  refine j_icmp_eq (tgt := 13) d_Sc_is_8 (by decide) (fun c11 => ?_) (fun c11 => ?_)
  · replace h := it_t c11 h
    refine j_iconst (v := 0) d_Sc_is_13 (by decide) ?_
    refine j_istore_n (lv' := [(2, .int 0), (0, .ref h0), (1, .ref (sA D s1))]) d_Sc_is_14 rfl (by decide) rfl ?_
    refine j_sub (w := [(h0, .inr (4, [.ref a_text_h0, .int next_h0, .int kind_h0, .int start_h0, .int width_h0])), (a_text_h0, .inr (3, [.ref a_bytes_a_text_h0, .int size_a_text_h0])), (a_bytes_a_text_h0, .inl (cB, n_a_bytes_a_text_h0, .inl b_a_bytes_a_text_h0))]) (lv' := [(2, .int 0), (0, .ref h0), (1, .ref (sA D s1))]) [0, 1, 2] rfl (by decide) [0, 1, 2] rfl ?_
    exact L_Sc_is_15 l D cI cB cJ cS h0 a_text_h0 a_bytes_a_text_h0 s1 next_h0 kind_h0 start_h0 width_h0 size_a_text_h0 n_a_bytes_a_text_h0 b_a_bytes_a_text_h0 ret p e s m below meth c hr hnm FU 0 h
  · replace h := it_f c11 h
    refine j_iconst (v := 0) d_Sc_is_11 (by decide) ?_
    replace h := Option.some.inj h
    subst h
    exact j_zret (w := [(h0, .inr (4, [.ref a_text_h0, .int next_h0, .int kind_h0, .int start_h0, .int width_h0])), (a_text_h0, .inr (3, [.ref a_bytes_a_text_h0, .int size_a_text_h0])), (a_bytes_a_text_h0, .inl (cB, n_a_bytes_a_text_h0, .inl b_a_bytes_a_text_h0))]) hr (zb_n zb0) d_Sc_is_12 [0, 1, 2] rfl (by decide) ⟨rfl, zb0, rfl⟩
def F_Sc_scanText_96 (start_h0 : Int32) (v1_96 : Int32) (t0_96 : Int32) : Option (Int32 × Int32) :=
    (some (t0_96, (v1_96 - start_h0) + 1))
def F_Sc_scanText_63 (start_h0 : Int32) (size_a_text_h0 : Int32) (n_a_bytes_a_text_h0 : Nat) (b_a_bytes_a_text_h0 : Nat → Int32) (v1_63 : Int32) : Option (Int32 × Int32) :=
    Option.bind (F_Rw_at v1_63 size_a_text_h0 n_a_bytes_a_text_h0 b_a_bytes_a_text_h0) fun r1 =>
    if r1 = 34 then (if 4096 < ((v1_63 - start_h0) - 1) then (F_Sc_scanText_96 start_h0   v1_63 1)
      else (F_Sc_scanText_96 start_h0   v1_63 4))
    else (F_Sc_scanText_96 start_h0   v1_63 1)
def F_Sc_scanText_7 (start_h0 : Int32) (size_a_text_h0 : Int32) (n_a_bytes_a_text_h0 : Nat) (b_a_bytes_a_text_h0 : Nat → Int32) : Nat → Int32 → Option (Int32 × Int32)
  | 0, _ => none
  | k_7 + 1, v1_7 =>
    if size_a_text_h0 ≤ v1_7 then (F_Sc_scanText_63 start_h0 size_a_text_h0 n_a_bytes_a_text_h0 b_a_bytes_a_text_h0   v1_7)
    else (Option.bind (F_Rw_at v1_7 size_a_text_h0 n_a_bytes_a_text_h0 b_a_bytes_a_text_h0) fun r7 =>
      if r7 < 32 then (F_Sc_scanText_63 start_h0 size_a_text_h0 n_a_bytes_a_text_h0 b_a_bytes_a_text_h0   v1_7)
      else (Option.bind (F_Rw_at v1_7 size_a_text_h0 n_a_bytes_a_text_h0 b_a_bytes_a_text_h0) fun r10 =>
        if 126 < r10 then (F_Sc_scanText_63 start_h0 size_a_text_h0 n_a_bytes_a_text_h0 b_a_bytes_a_text_h0   v1_7)
        else (Option.bind (F_Rw_at v1_7 size_a_text_h0 n_a_bytes_a_text_h0 b_a_bytes_a_text_h0) fun r13 =>
          if r13 = 34 then (F_Sc_scanText_63 start_h0 size_a_text_h0 n_a_bytes_a_text_h0 b_a_bytes_a_text_h0   v1_7)
          else (F_Sc_scanText_7 start_h0 size_a_text_h0 n_a_bytes_a_text_h0 b_a_bytes_a_text_h0  k_7 (v1_7 + 1)))))
def F_Sc_scanText (next_h0 : Int32) (kind_h0 : Int32) (start_h0 : Int32) (width_h0 : Int32) (size_a_text_h0 : Int32) (n_a_bytes_a_text_h0 : Nat) (b_a_bytes_a_text_h0 : Nat → Int32) : Option (Int32 × Int32) :=
  F_Sc_scanText_7 start_h0 size_a_text_h0 n_a_bytes_a_text_h0 b_a_bytes_a_text_h0  FU (start_h0 + 1)
theorem d_Sc_scanText_0 : decode prog_8_method_15_code 0 = .ok (.aload_n 0, 1) := by decide +kernel
theorem d_Sc_scanText_1 : decode prog_8_method_15_code 1 = .ok (.getfield 25, 3) := by decide +kernel
theorem d_Sc_scanText_4 : decode prog_8_method_15_code 4 = .ok (.iconst 1, 1) := by decide +kernel
theorem d_Sc_scanText_5 : decode prog_8_method_15_code 5 = .ok (.iadd, 1) := by decide +kernel
theorem d_Sc_scanText_6 : decode prog_8_method_15_code 6 = .ok (.istore_n 1, 1) := by decide +kernel
theorem d_Sc_scanText_7 : decode prog_8_method_15_code 7 = .ok (.iload_n 1, 1) := by decide +kernel
theorem d_Sc_scanText_8 : decode prog_8_method_15_code 8 = .ok (.aload_n 0, 1) := by decide +kernel
theorem d_Sc_scanText_9 : decode prog_8_method_15_code 9 = .ok (.getfield 12, 3) := by decide +kernel
theorem d_Sc_scanText_12 : decode prog_8_method_15_code 12 = .ok (.invokevirtual 58, 3) := by decide +kernel
theorem d_Sc_scanText_15 : decode prog_8_method_15_code 15 = .ok (.if_icmp .ge 48, 3) := by decide +kernel
theorem d_Sc_scanText_18 : decode prog_8_method_15_code 18 = .ok (.aload_n 0, 1) := by decide +kernel
theorem d_Sc_scanText_19 : decode prog_8_method_15_code 19 = .ok (.getfield 12, 3) := by decide +kernel
theorem d_Sc_scanText_22 : decode prog_8_method_15_code 22 = .ok (.iload_n 1, 1) := by decide +kernel
theorem d_Sc_scanText_23 : decode prog_8_method_15_code 23 = .ok (.invokevirtual 34, 3) := by decide +kernel
theorem d_Sc_scanText_26 : decode prog_8_method_15_code 26 = .ok (.bipush 32, 2) := by decide +kernel
theorem d_Sc_scanText_28 : decode prog_8_method_15_code 28 = .ok (.if_icmp .lt 35, 3) := by decide +kernel
theorem d_Sc_scanText_31 : decode prog_8_method_15_code 31 = .ok (.aload_n 0, 1) := by decide +kernel
theorem d_Sc_scanText_32 : decode prog_8_method_15_code 32 = .ok (.getfield 12, 3) := by decide +kernel
theorem d_Sc_scanText_35 : decode prog_8_method_15_code 35 = .ok (.iload_n 1, 1) := by decide +kernel
theorem d_Sc_scanText_36 : decode prog_8_method_15_code 36 = .ok (.invokevirtual 34, 3) := by decide +kernel
theorem d_Sc_scanText_39 : decode prog_8_method_15_code 39 = .ok (.bipush 126, 2) := by decide +kernel
theorem d_Sc_scanText_41 : decode prog_8_method_15_code 41 = .ok (.if_icmp .gt 22, 3) := by decide +kernel
theorem d_Sc_scanText_44 : decode prog_8_method_15_code 44 = .ok (.aload_n 0, 1) := by decide +kernel
theorem d_Sc_scanText_45 : decode prog_8_method_15_code 45 = .ok (.getfield 12, 3) := by decide +kernel
theorem d_Sc_scanText_48 : decode prog_8_method_15_code 48 = .ok (.iload_n 1, 1) := by decide +kernel
theorem d_Sc_scanText_49 : decode prog_8_method_15_code 49 = .ok (.invokevirtual 34, 3) := by decide +kernel
theorem d_Sc_scanText_52 : decode prog_8_method_15_code 52 = .ok (.bipush 34, 2) := by decide +kernel
theorem d_Sc_scanText_54 : decode prog_8_method_15_code 54 = .ok (.if_icmp .eq 9, 3) := by decide +kernel
theorem d_Sc_scanText_57 : decode prog_8_method_15_code 57 = .ok (.iinc 1 1, 3) := by decide +kernel
theorem d_Sc_scanText_60 : decode prog_8_method_15_code 60 = .ok (.goto (-53), 3) := by decide +kernel
theorem d_Sc_scanText_63 : decode prog_8_method_15_code 63 = .ok (.aload_n 0, 1) := by decide +kernel
theorem d_Sc_scanText_64 : decode prog_8_method_15_code 64 = .ok (.aload_n 0, 1) := by decide +kernel
theorem d_Sc_scanText_65 : decode prog_8_method_15_code 65 = .ok (.getfield 12, 3) := by decide +kernel
theorem d_Sc_scanText_68 : decode prog_8_method_15_code 68 = .ok (.iload_n 1, 1) := by decide +kernel
theorem d_Sc_scanText_69 : decode prog_8_method_15_code 69 = .ok (.invokevirtual 34, 3) := by decide +kernel
theorem d_Sc_scanText_72 : decode prog_8_method_15_code 72 = .ok (.bipush 34, 2) := by decide +kernel
theorem d_Sc_scanText_74 : decode prog_8_method_15_code 74 = .ok (.if_icmp .ne 21, 3) := by decide +kernel
theorem d_Sc_scanText_77 : decode prog_8_method_15_code 77 = .ok (.iload_n 1, 1) := by decide +kernel
theorem d_Sc_scanText_78 : decode prog_8_method_15_code 78 = .ok (.aload_n 0, 1) := by decide +kernel
theorem d_Sc_scanText_79 : decode prog_8_method_15_code 79 = .ok (.getfield 25, 3) := by decide +kernel
theorem d_Sc_scanText_82 : decode prog_8_method_15_code 82 = .ok (.isub, 1) := by decide +kernel
theorem d_Sc_scanText_83 : decode prog_8_method_15_code 83 = .ok (.iconst 1, 1) := by decide +kernel
theorem d_Sc_scanText_84 : decode prog_8_method_15_code 84 = .ok (.isub, 1) := by decide +kernel
theorem d_Sc_scanText_85 : decode prog_8_method_15_code 85 = .ok (.sipush 4096, 3) := by decide +kernel
theorem d_Sc_scanText_88 : decode prog_8_method_15_code 88 = .ok (.if_icmp .gt 7, 3) := by decide +kernel
theorem d_Sc_scanText_91 : decode prog_8_method_15_code 91 = .ok (.iconst 4, 1) := by decide +kernel
theorem d_Sc_scanText_92 : decode prog_8_method_15_code 92 = .ok (.goto 4, 3) := by decide +kernel
theorem d_Sc_scanText_95 : decode prog_8_method_15_code 95 = .ok (.iconst 1, 1) := by decide +kernel
theorem d_Sc_scanText_96 : decode prog_8_method_15_code 96 = .ok (.putfield 22, 3) := by decide +kernel
theorem d_Sc_scanText_99 : decode prog_8_method_15_code 99 = .ok (.aload_n 0, 1) := by decide +kernel
theorem d_Sc_scanText_100 : decode prog_8_method_15_code 100 = .ok (.iload_n 1, 1) := by decide +kernel
theorem d_Sc_scanText_101 : decode prog_8_method_15_code 101 = .ok (.aload_n 0, 1) := by decide +kernel
theorem d_Sc_scanText_102 : decode prog_8_method_15_code 102 = .ok (.getfield 25, 3) := by decide +kernel
theorem d_Sc_scanText_105 : decode prog_8_method_15_code 105 = .ok (.isub, 1) := by decide +kernel
theorem d_Sc_scanText_106 : decode prog_8_method_15_code 106 = .ok (.iconst 1, 1) := by decide +kernel
theorem d_Sc_scanText_107 : decode prog_8_method_15_code 107 = .ok (.iadd, 1) := by decide +kernel
theorem d_Sc_scanText_108 : decode prog_8_method_15_code 108 = .ok (.putfield 28, 3) := by decide +kernel
theorem d_Sc_scanText_111 : decode prog_8_method_15_code 111 = .ok (.return_, 1) := by decide +kernel
set_option maxHeartbeats 4000000 in
set_option maxRecDepth 100000 in
theorem L_Sc_scanText_96 (l : Launch) (D : va_G) (cI cB cJ cS : ClassId) (h0 : Nat) (a_text_h0 : Nat) (a_bytes_a_text_h0 : Nat) (next_h0 : Int32) (kind_h0 : Int32) (start_h0 : Int32) (width_h0 : Int32) (size_a_text_h0 : Int32) (n_a_bytes_a_text_h0 : Nat) (b_a_bytes_a_text_h0 : Nat → Int32) (o_0_2 : Int32) (o_0_4 : Int32) (p : Program) (e : Env) (s : State) (m : MethodId) (below : List Frame) (meth : Method) (c : Code) (hr : meth.sig.returnType = (Option.none : Option Jvm.ClassFile.FieldType)) (hnm : meth.name = y_Sc_scanText.name) : ∀ (v1_96 : Int32) (t0_96 : Int32), F_Sc_scanText_96 start_h0   v1_96 t0_96 = some (o_0_2, o_0_4) → J (KxOf p l e { frames := 1, cells := 0, slots := 0, locals := 21 } s m [.ref h0].toArray below meth c D (gT cI cB cJ cS) [(h0, .inr (4, [.ref a_text_h0, .int next_h0, .int kind_h0, .int start_h0, .int width_h0])), (a_text_h0, .inr (3, [.ref a_bytes_a_text_h0, .int size_a_text_h0])), (a_bytes_a_text_h0, .inl (cB, n_a_bytes_a_text_h0, .inl b_a_bytes_a_text_h0))] (fun v w => v = none ∧ w = [(h0, .inr (4, [.ref a_text_h0, .int next_h0, .int o_0_2, .int start_h0, .int o_0_4])), (a_text_h0, .inr (3, [.ref a_bytes_a_text_h0, .int size_a_text_h0])), (a_bytes_a_text_h0, .inl (cB, n_a_bytes_a_text_h0, .inl b_a_bytes_a_text_h0))]) 0 0) prog_8_method_15_code 2 R_Sc 96 [(1, .int v1_96), (0, .ref h0)] [.int t0_96, .ref h0] [(h0, .inr (4, [.ref a_text_h0, .int next_h0, .int kind_h0, .int start_h0, .int width_h0])), (a_text_h0, .inr (3, [.ref a_bytes_a_text_h0, .int size_a_text_h0])), (a_bytes_a_text_h0, .inl (cB, n_a_bytes_a_text_h0, .inl b_a_bytes_a_text_h0))] 0 0 := by
  intro v1_96 t0_96 h
  unfold F_Sc_scanText_96 at h
  refine j_put (ws' := [(h0, .inr (4, [.ref a_text_h0, .int next_h0, .int t0_96, .int start_h0, .int width_h0])), (a_text_h0, .inr (3, [.ref a_bytes_a_text_h0, .int size_a_text_h0])), (a_bytes_a_text_h0, .inl (cB, n_a_bytes_a_text_h0, .inl b_a_bytes_a_text_h0))]) ig_Sc tk_Sc nm_Sc rfl 0 rfl 2 (by decide) rfl m_59 rfl (tk_Sc 2 (by decide)) rfl rfl (Nat.le_of_ble_eq_true rfl) d_Sc_scanText_96 rfl ?_
  refine j_aload_n d_Sc_scanText_99 rfl 1 rfl ?_
  refine j_iload_n d_Sc_scanText_100 rfl 0 rfl ?_
  refine j_aload_n d_Sc_scanText_101 rfl 1 rfl ?_
  refine j_get ig_Sc rfl 0 rfl 3 (by decide) rfl m_60 rfl d_Sc_scanText_102 ?_
  refine j_isub d_Sc_scanText_105 ?_
  refine j_iconst (v := 1) d_Sc_scanText_106 (by decide) ?_
  refine j_iadd d_Sc_scanText_107 ?_
  refine j_put (ws' := [(h0, .inr (4, [.ref a_text_h0, .int next_h0, .int t0_96, .int start_h0, .int ((v1_96 - start_h0) + 1)])), (a_text_h0, .inr (3, [.ref a_bytes_a_text_h0, .int size_a_text_h0])), (a_bytes_a_text_h0, .inl (cB, n_a_bytes_a_text_h0, .inl b_a_bytes_a_text_h0))]) ig_Sc tk_Sc nm_Sc rfl 0 rfl 4 (by decide) rfl m_61 rfl (tk_Sc 4 (by decide)) rfl rfl (Nat.le_of_ble_eq_true rfl) d_Sc_scanText_108 rfl ?_
  replace h := Option.some.inj h
  replace h := Prod.mk.inj h
  obtain ⟨h9, h⟩ := h
  subst h9
  subst h
  exact j_vret (w := [(h0, .inr (4, [.ref a_text_h0, .int next_h0, .int t0_96, .int start_h0, .int ((v1_96 - start_h0) + 1)])), (a_text_h0, .inr (3, [.ref a_bytes_a_text_h0, .int size_a_text_h0])), (a_bytes_a_text_h0, .inl (cB, n_a_bytes_a_text_h0, .inl b_a_bytes_a_text_h0))]) hr d_Sc_scanText_111 [0, 1, 2] rfl (by decide) ⟨rfl, rfl⟩
set_option maxHeartbeats 4000000 in
set_option maxRecDepth 100000 in
theorem L_Sc_scanText_63 (l : Launch) (D : va_G) (cI cB cJ cS : ClassId) (h0 : Nat) (a_text_h0 : Nat) (a_bytes_a_text_h0 : Nat) (next_h0 : Int32) (kind_h0 : Int32) (start_h0 : Int32) (width_h0 : Int32) (size_a_text_h0 : Int32) (n_a_bytes_a_text_h0 : Nat) (b_a_bytes_a_text_h0 : Nat → Int32) (o_0_2 : Int32) (o_0_4 : Int32) (p : Program) (e : Env) (s : State) (m : MethodId) (below : List Frame) (meth : Method) (c : Code) (hr : meth.sig.returnType = (Option.none : Option Jvm.ClassFile.FieldType)) (hnm : meth.name = y_Sc_scanText.name) : ∀ (v1_63 : Int32), F_Sc_scanText_63 start_h0 size_a_text_h0 n_a_bytes_a_text_h0 b_a_bytes_a_text_h0   v1_63 = some (o_0_2, o_0_4) → J (KxOf p l e { frames := 1, cells := 0, slots := 0, locals := 21 } s m [.ref h0].toArray below meth c D (gT cI cB cJ cS) [(h0, .inr (4, [.ref a_text_h0, .int next_h0, .int kind_h0, .int start_h0, .int width_h0])), (a_text_h0, .inr (3, [.ref a_bytes_a_text_h0, .int size_a_text_h0])), (a_bytes_a_text_h0, .inl (cB, n_a_bytes_a_text_h0, .inl b_a_bytes_a_text_h0))] (fun v w => v = none ∧ w = [(h0, .inr (4, [.ref a_text_h0, .int next_h0, .int o_0_2, .int start_h0, .int o_0_4])), (a_text_h0, .inr (3, [.ref a_bytes_a_text_h0, .int size_a_text_h0])), (a_bytes_a_text_h0, .inl (cB, n_a_bytes_a_text_h0, .inl b_a_bytes_a_text_h0))]) 0 0) prog_8_method_15_code 2 R_Sc 63 [(1, .int v1_63), (0, .ref h0)] [] [(h0, .inr (4, [.ref a_text_h0, .int next_h0, .int kind_h0, .int start_h0, .int width_h0])), (a_bytes_a_text_h0, .inl (cB, n_a_bytes_a_text_h0, .inl b_a_bytes_a_text_h0)), (a_text_h0, .inr (3, [.ref a_bytes_a_text_h0, .int size_a_text_h0]))] 0 0 := by
  intro v1_63 h
  unfold F_Sc_scanText_63 at h
  refine j_aload_n d_Sc_scanText_63 rfl 1 rfl ?_
  refine j_aload_n d_Sc_scanText_64 rfl 1 rfl ?_
  refine j_get ig_Sc rfl 0 rfl 0 (by decide) rfl m_57 rfl d_Sc_scanText_65 ?_
  refine j_iload_n d_Sc_scanText_68 rfl 0 rfl ?_
  replace h := bd_s h
  obtain ⟨r1, k2, h⟩ := h
  refine j_callV (n := 1) (As := [.int v1_63]) (rest := [.ref h0]) (wr := [(h0, .inr (4, [.ref a_text_h0, .int next_h0, .int kind_h0, .int start_h0, .int width_h0]))]) (c_Rw_at l D cI cB cJ cS a_text_h0 a_bytes_a_text_h0 v1_63 size_a_text_h0 n_a_bytes_a_text_h0 b_a_bytes_a_text_h0  r1 k2) k_Sc_34 (by decide) ⟨Nat.le_of_ble_eq_true rfl, Nat.le_of_ble_eq_true rfl⟩ rfl 0 rfl [2, 1] [0] rfl (by decide) rfl (by decide) (by decide) rfl rfl (Nat.le_of_ble_eq_true rfl) d_Sc_scanText_69 ⟨Nat.le_of_ble_eq_true rfl, Nat.le_of_ble_eq_true rfl⟩ (fun v w hq => ?_)
  obtain ⟨rfl, rfl⟩ := hq
  refine j_norm (pc' := 72) (st' := [.int r1, .ref h0]) (ws' := [(h0, .inr (4, [.ref a_text_h0, .int next_h0, .int kind_h0, .int start_h0, .int width_h0])), (a_text_h0, .inr (3, [.ref a_bytes_a_text_h0, .int size_a_text_h0])), (a_bytes_a_text_h0, .inl (cB, n_a_bytes_a_text_h0, .inl b_a_bytes_a_text_h0))]) (cl' := 0) (sl' := 0) rfl rfl rfl rfl rfl rfl ?_
  refine j_bipush (v := 34) d_Sc_scanText_72 (by decide) ?_
  refine j_icmp_ne (tgt := 95) d_Sc_scanText_74 (by decide) (fun c3 => ?_) (fun c3 => ?_)
  · replace h := it_f c3 h
    refine j_iconst (v := 1) d_Sc_scanText_95 (by decide) ?_
    refine j_sub (w := [(h0, .inr (4, [.ref a_text_h0, .int next_h0, .int kind_h0, .int start_h0, .int width_h0])), (a_text_h0, .inr (3, [.ref a_bytes_a_text_h0, .int size_a_text_h0])), (a_bytes_a_text_h0, .inl (cB, n_a_bytes_a_text_h0, .inl b_a_bytes_a_text_h0))]) (lv' := [(1, .int v1_63), (0, .ref h0)]) [0, 1, 2] rfl (by decide) [0, 1] rfl ?_
    exact L_Sc_scanText_96 l D cI cB cJ cS h0 a_text_h0 a_bytes_a_text_h0 next_h0 kind_h0 start_h0 width_h0 size_a_text_h0 n_a_bytes_a_text_h0 b_a_bytes_a_text_h0 o_0_2 o_0_4 p e s m below meth c hr hnm v1_63 1 h
  · replace h := it_t c3 h
    refine j_iload_n d_Sc_scanText_77 rfl 0 rfl ?_
    refine j_aload_n d_Sc_scanText_78 rfl 1 rfl ?_
    refine j_get ig_Sc rfl 0 rfl 3 (by decide) rfl m_60 rfl d_Sc_scanText_79 ?_
    refine j_isub d_Sc_scanText_82 ?_
    refine j_iconst (v := 1) d_Sc_scanText_83 (by decide) ?_
    refine j_isub d_Sc_scanText_84 ?_
    refine j_sipush (v := 4096) d_Sc_scanText_85 (by decide) ?_
    refine j_icmp_gt (tgt := 95) d_Sc_scanText_88 (by decide) (fun c4 => ?_) (fun c4 => ?_)
    · replace h := it_t c4 h
      refine j_iconst (v := 1) d_Sc_scanText_95 (by decide) ?_
      refine j_sub (w := [(h0, .inr (4, [.ref a_text_h0, .int next_h0, .int kind_h0, .int start_h0, .int width_h0])), (a_text_h0, .inr (3, [.ref a_bytes_a_text_h0, .int size_a_text_h0])), (a_bytes_a_text_h0, .inl (cB, n_a_bytes_a_text_h0, .inl b_a_bytes_a_text_h0))]) (lv' := [(1, .int v1_63), (0, .ref h0)]) [0, 1, 2] rfl (by decide) [0, 1] rfl ?_
      exact L_Sc_scanText_96 l D cI cB cJ cS h0 a_text_h0 a_bytes_a_text_h0 next_h0 kind_h0 start_h0 width_h0 size_a_text_h0 n_a_bytes_a_text_h0 b_a_bytes_a_text_h0 o_0_2 o_0_4 p e s m below meth c hr hnm v1_63 1 h
    · replace h := it_f c4 h
      refine j_iconst (v := 4) d_Sc_scanText_91 (by decide) ?_
      refine j_goto (tgt := 96) d_Sc_scanText_92 (by decide) ?_
      refine j_sub (w := [(h0, .inr (4, [.ref a_text_h0, .int next_h0, .int kind_h0, .int start_h0, .int width_h0])), (a_text_h0, .inr (3, [.ref a_bytes_a_text_h0, .int size_a_text_h0])), (a_bytes_a_text_h0, .inl (cB, n_a_bytes_a_text_h0, .inl b_a_bytes_a_text_h0))]) (lv' := [(1, .int v1_63), (0, .ref h0)]) [0, 1, 2] rfl (by decide) [0, 1] rfl ?_
      exact L_Sc_scanText_96 l D cI cB cJ cS h0 a_text_h0 a_bytes_a_text_h0 next_h0 kind_h0 start_h0 width_h0 size_a_text_h0 n_a_bytes_a_text_h0 b_a_bytes_a_text_h0 o_0_2 o_0_4 p e s m below meth c hr hnm v1_63 4 h
set_option maxHeartbeats 4000000 in
set_option maxRecDepth 100000 in
theorem L_Sc_scanText_7 (l : Launch) (D : va_G) (cI cB cJ cS : ClassId) (h0 : Nat) (a_text_h0 : Nat) (a_bytes_a_text_h0 : Nat) (next_h0 : Int32) (kind_h0 : Int32) (start_h0 : Int32) (width_h0 : Int32) (size_a_text_h0 : Int32) (n_a_bytes_a_text_h0 : Nat) (b_a_bytes_a_text_h0 : Nat → Int32) (o_0_2 : Int32) (o_0_4 : Int32) (p : Program) (e : Env) (s : State) (m : MethodId) (below : List Frame) (meth : Method) (c : Code) (hr : meth.sig.returnType = (Option.none : Option Jvm.ClassFile.FieldType)) (hnm : meth.name = y_Sc_scanText.name) : ∀ (k_7 : Nat) (v1_7 : Int32), F_Sc_scanText_7 start_h0 size_a_text_h0 n_a_bytes_a_text_h0 b_a_bytes_a_text_h0  k_7 v1_7 = some (o_0_2, o_0_4) → J (KxOf p l e { frames := 1, cells := 0, slots := 0, locals := 21 } s m [.ref h0].toArray below meth c D (gT cI cB cJ cS) [(h0, .inr (4, [.ref a_text_h0, .int next_h0, .int kind_h0, .int start_h0, .int width_h0])), (a_text_h0, .inr (3, [.ref a_bytes_a_text_h0, .int size_a_text_h0])), (a_bytes_a_text_h0, .inl (cB, n_a_bytes_a_text_h0, .inl b_a_bytes_a_text_h0))] (fun v w => v = none ∧ w = [(h0, .inr (4, [.ref a_text_h0, .int next_h0, .int o_0_2, .int start_h0, .int o_0_4])), (a_text_h0, .inr (3, [.ref a_bytes_a_text_h0, .int size_a_text_h0])), (a_bytes_a_text_h0, .inl (cB, n_a_bytes_a_text_h0, .inl b_a_bytes_a_text_h0))]) 0 0) prog_8_method_15_code 2 R_Sc 7 [(1, .int v1_7), (0, .ref h0)] [] [(h0, .inr (4, [.ref a_text_h0, .int next_h0, .int kind_h0, .int start_h0, .int width_h0])), (a_text_h0, .inr (3, [.ref a_bytes_a_text_h0, .int size_a_text_h0])), (a_bytes_a_text_h0, .inl (cB, n_a_bytes_a_text_h0, .inl b_a_bytes_a_text_h0))] 0 0 := by
  intro k_7
  induction k_7 with
  | zero => intro v1_7 h; rw [F_Sc_scanText_7] at h; cases h
  | succ k_7 ih_7 =>
    intro v1_7 h
    rw [F_Sc_scanText_7] at h
    refine j_iload_n d_Sc_scanText_7 rfl 0 rfl ?_
    refine j_aload_n d_Sc_scanText_8 rfl 1 rfl ?_
    refine j_get ig_Sc rfl 0 rfl 0 (by decide) rfl m_57 rfl d_Sc_scanText_9 ?_
    refine j_callV (n := 0) (As := []) (rest := [.int v1_7]) (wr := [(h0, .inr (4, [.ref a_text_h0, .int next_h0, .int kind_h0, .int start_h0, .int width_h0])), (a_bytes_a_text_h0, .inl (cB, n_a_bytes_a_text_h0, .inl b_a_bytes_a_text_h0))]) (c_Rw_size l D cI cB cJ cS a_text_h0 a_bytes_a_text_h0 size_a_text_h0  ) k_Sc_58 (by decide) ⟨Nat.le_of_ble_eq_true rfl, Nat.le_of_ble_eq_true rfl⟩ rfl 0 rfl [1] [0, 2] rfl (by decide) rfl (by decide) (by decide) rfl rfl (Nat.le_of_ble_eq_true rfl) d_Sc_scanText_12 ⟨Nat.le_of_ble_eq_true rfl, Nat.le_of_ble_eq_true rfl⟩ (fun v w hq => ?_)
    obtain ⟨rfl, rfl⟩ := hq
    refine j_norm (pc' := 15) (st' := [.int size_a_text_h0, .int v1_7]) (ws' := [(h0, .inr (4, [.ref a_text_h0, .int next_h0, .int kind_h0, .int start_h0, .int width_h0])), (a_bytes_a_text_h0, .inl (cB, n_a_bytes_a_text_h0, .inl b_a_bytes_a_text_h0)), (a_text_h0, .inr (3, [.ref a_bytes_a_text_h0, .int size_a_text_h0]))]) (cl' := 0) (sl' := 0) rfl rfl rfl rfl rfl rfl ?_
    refine j_icmp_ge (tgt := 63) d_Sc_scanText_15 (by decide) (fun c6 => ?_) (fun c6 => ?_)
    · replace h := it_t c6 h
      refine j_sub (w := [(h0, .inr (4, [.ref a_text_h0, .int next_h0, .int kind_h0, .int start_h0, .int width_h0])), (a_bytes_a_text_h0, .inl (cB, n_a_bytes_a_text_h0, .inl b_a_bytes_a_text_h0)), (a_text_h0, .inr (3, [.ref a_bytes_a_text_h0, .int size_a_text_h0]))]) (lv' := [(1, .int v1_7), (0, .ref h0)]) [0, 1, 2] rfl (by decide) [0, 1] rfl ?_
      exact L_Sc_scanText_63 l D cI cB cJ cS h0 a_text_h0 a_bytes_a_text_h0 next_h0 kind_h0 start_h0 width_h0 size_a_text_h0 n_a_bytes_a_text_h0 b_a_bytes_a_text_h0 o_0_2 o_0_4 p e s m below meth c hr hnm v1_7 h
    · replace h := it_f c6 h
      refine j_aload_n d_Sc_scanText_18 rfl 1 rfl ?_
      refine j_get ig_Sc rfl 0 rfl 0 (by decide) rfl m_57 rfl d_Sc_scanText_19 ?_
      refine j_iload_n d_Sc_scanText_22 rfl 0 rfl ?_
      replace h := bd_s h
      obtain ⟨r7, k8, h⟩ := h
      refine j_callV (n := 1) (As := [.int v1_7]) (rest := []) (wr := [(h0, .inr (4, [.ref a_text_h0, .int next_h0, .int kind_h0, .int start_h0, .int width_h0]))]) (c_Rw_at l D cI cB cJ cS a_text_h0 a_bytes_a_text_h0 v1_7 size_a_text_h0 n_a_bytes_a_text_h0 b_a_bytes_a_text_h0  r7 k8) k_Sc_34 (by decide) ⟨Nat.le_of_ble_eq_true rfl, Nat.le_of_ble_eq_true rfl⟩ rfl 0 rfl [2, 1] [0] rfl (by decide) rfl (by decide) (by decide) rfl rfl (Nat.le_of_ble_eq_true rfl) d_Sc_scanText_23 ⟨Nat.le_of_ble_eq_true rfl, Nat.le_of_ble_eq_true rfl⟩ (fun v w hq => ?_)
      obtain ⟨rfl, rfl⟩ := hq
      refine j_norm (pc' := 26) (st' := [.int r7]) (ws' := [(h0, .inr (4, [.ref a_text_h0, .int next_h0, .int kind_h0, .int start_h0, .int width_h0])), (a_text_h0, .inr (3, [.ref a_bytes_a_text_h0, .int size_a_text_h0])), (a_bytes_a_text_h0, .inl (cB, n_a_bytes_a_text_h0, .inl b_a_bytes_a_text_h0))]) (cl' := 0) (sl' := 0) rfl rfl rfl rfl rfl rfl ?_
      refine j_bipush (v := 32) d_Sc_scanText_26 (by decide) ?_
      refine j_icmp_lt (tgt := 63) d_Sc_scanText_28 (by decide) (fun c9 => ?_) (fun c9 => ?_)
      · replace h := it_t c9 h
        refine j_sub (w := [(h0, .inr (4, [.ref a_text_h0, .int next_h0, .int kind_h0, .int start_h0, .int width_h0])), (a_bytes_a_text_h0, .inl (cB, n_a_bytes_a_text_h0, .inl b_a_bytes_a_text_h0)), (a_text_h0, .inr (3, [.ref a_bytes_a_text_h0, .int size_a_text_h0]))]) (lv' := [(1, .int v1_7), (0, .ref h0)]) [0, 2, 1] rfl (by decide) [0, 1] rfl ?_
        exact L_Sc_scanText_63 l D cI cB cJ cS h0 a_text_h0 a_bytes_a_text_h0 next_h0 kind_h0 start_h0 width_h0 size_a_text_h0 n_a_bytes_a_text_h0 b_a_bytes_a_text_h0 o_0_2 o_0_4 p e s m below meth c hr hnm v1_7 h
      · replace h := it_f c9 h
        refine j_aload_n d_Sc_scanText_31 rfl 1 rfl ?_
        refine j_get ig_Sc rfl 0 rfl 0 (by decide) rfl m_57 rfl d_Sc_scanText_32 ?_
        refine j_iload_n d_Sc_scanText_35 rfl 0 rfl ?_
        replace h := bd_s h
        obtain ⟨r10, k11, h⟩ := h
        refine j_callV (n := 1) (As := [.int v1_7]) (rest := []) (wr := [(h0, .inr (4, [.ref a_text_h0, .int next_h0, .int kind_h0, .int start_h0, .int width_h0]))]) (c_Rw_at l D cI cB cJ cS a_text_h0 a_bytes_a_text_h0 v1_7 size_a_text_h0 n_a_bytes_a_text_h0 b_a_bytes_a_text_h0  r10 k11) k_Sc_34 (by decide) ⟨Nat.le_of_ble_eq_true rfl, Nat.le_of_ble_eq_true rfl⟩ rfl 0 rfl [1, 2] [0] rfl (by decide) rfl (by decide) (by decide) rfl rfl (Nat.le_of_ble_eq_true rfl) d_Sc_scanText_36 ⟨Nat.le_of_ble_eq_true rfl, Nat.le_of_ble_eq_true rfl⟩ (fun v w hq => ?_)
        obtain ⟨rfl, rfl⟩ := hq
        refine j_norm (pc' := 39) (st' := [.int r10]) (ws' := [(h0, .inr (4, [.ref a_text_h0, .int next_h0, .int kind_h0, .int start_h0, .int width_h0])), (a_text_h0, .inr (3, [.ref a_bytes_a_text_h0, .int size_a_text_h0])), (a_bytes_a_text_h0, .inl (cB, n_a_bytes_a_text_h0, .inl b_a_bytes_a_text_h0))]) (cl' := 0) (sl' := 0) rfl rfl rfl rfl rfl rfl ?_
        refine j_bipush (v := 126) d_Sc_scanText_39 (by decide) ?_
        refine j_icmp_gt (tgt := 63) d_Sc_scanText_41 (by decide) (fun c12 => ?_) (fun c12 => ?_)
        · replace h := it_t c12 h
          refine j_sub (w := [(h0, .inr (4, [.ref a_text_h0, .int next_h0, .int kind_h0, .int start_h0, .int width_h0])), (a_bytes_a_text_h0, .inl (cB, n_a_bytes_a_text_h0, .inl b_a_bytes_a_text_h0)), (a_text_h0, .inr (3, [.ref a_bytes_a_text_h0, .int size_a_text_h0]))]) (lv' := [(1, .int v1_7), (0, .ref h0)]) [0, 2, 1] rfl (by decide) [0, 1] rfl ?_
          exact L_Sc_scanText_63 l D cI cB cJ cS h0 a_text_h0 a_bytes_a_text_h0 next_h0 kind_h0 start_h0 width_h0 size_a_text_h0 n_a_bytes_a_text_h0 b_a_bytes_a_text_h0 o_0_2 o_0_4 p e s m below meth c hr hnm v1_7 h
        · replace h := it_f c12 h
          refine j_aload_n d_Sc_scanText_44 rfl 1 rfl ?_
          refine j_get ig_Sc rfl 0 rfl 0 (by decide) rfl m_57 rfl d_Sc_scanText_45 ?_
          refine j_iload_n d_Sc_scanText_48 rfl 0 rfl ?_
          replace h := bd_s h
          obtain ⟨r13, k14, h⟩ := h
          refine j_callV (n := 1) (As := [.int v1_7]) (rest := []) (wr := [(h0, .inr (4, [.ref a_text_h0, .int next_h0, .int kind_h0, .int start_h0, .int width_h0]))]) (c_Rw_at l D cI cB cJ cS a_text_h0 a_bytes_a_text_h0 v1_7 size_a_text_h0 n_a_bytes_a_text_h0 b_a_bytes_a_text_h0  r13 k14) k_Sc_34 (by decide) ⟨Nat.le_of_ble_eq_true rfl, Nat.le_of_ble_eq_true rfl⟩ rfl 0 rfl [1, 2] [0] rfl (by decide) rfl (by decide) (by decide) rfl rfl (Nat.le_of_ble_eq_true rfl) d_Sc_scanText_49 ⟨Nat.le_of_ble_eq_true rfl, Nat.le_of_ble_eq_true rfl⟩ (fun v w hq => ?_)
          obtain ⟨rfl, rfl⟩ := hq
          refine j_norm (pc' := 52) (st' := [.int r13]) (ws' := [(h0, .inr (4, [.ref a_text_h0, .int next_h0, .int kind_h0, .int start_h0, .int width_h0])), (a_text_h0, .inr (3, [.ref a_bytes_a_text_h0, .int size_a_text_h0])), (a_bytes_a_text_h0, .inl (cB, n_a_bytes_a_text_h0, .inl b_a_bytes_a_text_h0))]) (cl' := 0) (sl' := 0) rfl rfl rfl rfl rfl rfl ?_
          refine j_bipush (v := 34) d_Sc_scanText_52 (by decide) ?_
          refine j_icmp_eq (tgt := 63) d_Sc_scanText_54 (by decide) (fun c15 => ?_) (fun c15 => ?_)
          · replace h := it_t c15 h
            refine j_sub (w := [(h0, .inr (4, [.ref a_text_h0, .int next_h0, .int kind_h0, .int start_h0, .int width_h0])), (a_bytes_a_text_h0, .inl (cB, n_a_bytes_a_text_h0, .inl b_a_bytes_a_text_h0)), (a_text_h0, .inr (3, [.ref a_bytes_a_text_h0, .int size_a_text_h0]))]) (lv' := [(1, .int v1_7), (0, .ref h0)]) [0, 2, 1] rfl (by decide) [0, 1] rfl ?_
            exact L_Sc_scanText_63 l D cI cB cJ cS h0 a_text_h0 a_bytes_a_text_h0 next_h0 kind_h0 start_h0 width_h0 size_a_text_h0 n_a_bytes_a_text_h0 b_a_bytes_a_text_h0 o_0_2 o_0_4 p e s m below meth c hr hnm v1_7 h
          · replace h := it_f c15 h
            refine j_iinc (v := v1_7 + 1) (lv' := [(1, .int (v1_7 + 1)), (0, .ref h0)]) d_Sc_scanText_57 0 rfl rfl (by decide) rfl ?_
            refine j_goto (tgt := 7) d_Sc_scanText_60 (by decide) ?_
            refine j_sub (w := [(h0, .inr (4, [.ref a_text_h0, .int next_h0, .int kind_h0, .int start_h0, .int width_h0])), (a_text_h0, .inr (3, [.ref a_bytes_a_text_h0, .int size_a_text_h0])), (a_bytes_a_text_h0, .inl (cB, n_a_bytes_a_text_h0, .inl b_a_bytes_a_text_h0))]) (lv' := [(1, .int (v1_7 + 1)), (0, .ref h0)]) [0, 1, 2] rfl (by decide) [0, 1] rfl ?_
            exact ih_7 (v1_7 + 1) h
set_option maxHeartbeats 4000000 in
set_option maxRecDepth 100000 in
theorem c_Sc_scanText (l : Launch) (D : va_G) (cI cB cJ cS : ClassId) (h0 : Nat) (a_text_h0 : Nat) (a_bytes_a_text_h0 : Nat) (next_h0 : Int32) (kind_h0 : Int32) (start_h0 : Int32) (width_h0 : Int32) (size_a_text_h0 : Int32) (n_a_bytes_a_text_h0 : Nat) (b_a_bytes_a_text_h0 : Nat → Int32) (o_0_2 : Int32) (o_0_4 : Int32) (h : F_Sc_scanText next_h0 kind_h0 start_h0 width_h0 size_a_text_h0 n_a_bytes_a_text_h0 b_a_bytes_a_text_h0 = some (o_0_2, o_0_4)) : Ct l D (gT cI cB cJ cS) y_Sc_scanText prog_8_method_15_code 2 (Option.none : Option Jvm.ClassFile.FieldType) 1 21 0 0 [.ref h0] [(h0, .inr (4, [.ref a_text_h0, .int next_h0, .int kind_h0, .int start_h0, .int width_h0])), (a_text_h0, .inr (3, [.ref a_bytes_a_text_h0, .int size_a_text_h0])), (a_bytes_a_text_h0, .inl (cB, n_a_bytes_a_text_h0, .inl b_a_bytes_a_text_h0))] (fun v w => v = none ∧ w = [(h0, .inr (4, [.ref a_text_h0, .int next_h0, .int o_0_2, .int start_h0, .int o_0_4])), (a_text_h0, .inr (3, [.ref a_bytes_a_text_h0, .int size_a_text_h0])), (a_bytes_a_text_h0, .inl (cB, n_a_bytes_a_text_h0, .inl b_a_bytes_a_text_h0))]) := by
  refine Ct.mk (by decide) (Nat.le_of_ble_eq_true rfl) ?_
  intro p e s m below meth c hr hnm
  refine j_norm (pc' := 0) (lv' := [(0, .ref h0)]) (st' := []) (ws' := [(h0, .inr (4, [.ref a_text_h0, .int next_h0, .int kind_h0, .int start_h0, .int width_h0])), (a_text_h0, .inr (3, [.ref a_bytes_a_text_h0, .int size_a_text_h0])), (a_bytes_a_text_h0, .inl (cB, n_a_bytes_a_text_h0, .inl b_a_bytes_a_text_h0))]) (cl' := 0) (sl' := 0) rfl rfl rfl rfl rfl rfl ?_
  unfold F_Sc_scanText at h
  refine j_aload_n d_Sc_scanText_0 rfl 0 rfl ?_
  refine j_get ig_Sc rfl 0 rfl 3 (by decide) rfl m_60 rfl d_Sc_scanText_1 ?_
  refine j_iconst (v := 1) d_Sc_scanText_4 (by decide) ?_
  refine j_iadd d_Sc_scanText_5 ?_
  refine j_istore_n (lv' := [(1, .int (start_h0 + 1)), (0, .ref h0)]) d_Sc_scanText_6 rfl (by decide) rfl ?_
  refine j_sub (w := [(h0, .inr (4, [.ref a_text_h0, .int next_h0, .int kind_h0, .int start_h0, .int width_h0])), (a_text_h0, .inr (3, [.ref a_bytes_a_text_h0, .int size_a_text_h0])), (a_bytes_a_text_h0, .inl (cB, n_a_bytes_a_text_h0, .inl b_a_bytes_a_text_h0))]) (lv' := [(1, .int (start_h0 + 1)), (0, .ref h0)]) [0, 1, 2] rfl (by decide) [0, 1] rfl ?_
  exact L_Sc_scanText_7 l D cI cB cJ cS h0 a_text_h0 a_bytes_a_text_h0 next_h0 kind_h0 start_h0 width_h0 size_a_text_h0 n_a_bytes_a_text_h0 b_a_bytes_a_text_h0 o_0_2 o_0_4 p e s m below meth c hr hnm FU (start_h0 + 1) h
def F_Sc_digitsEnd_2 (size_a_text_h0 : Int32) (n_a_bytes_a_text_h0 : Nat) (b_a_bytes_a_text_h0 : Nat → Int32) : Nat → Int32 → Option (Int32)
  | 0, _ => none
  | k_2 + 1, v2_2 =>
    if size_a_text_h0 ≤ v2_2 then (some v2_2)
    else (Option.bind (F_Rw_at v2_2 size_a_text_h0 n_a_bytes_a_text_h0 b_a_bytes_a_text_h0) fun r3 =>
      nm (F_Sc_isDigit r3) fun r5 =>
      if r5 = 0 then (some v2_2)
      else (F_Sc_digitsEnd_2 size_a_text_h0 n_a_bytes_a_text_h0 b_a_bytes_a_text_h0  k_2 (v2_2 + 1)))
def F_Sc_digitsEnd (p1 : Int32) (next_h0 : Int32) (kind_h0 : Int32) (start_h0 : Int32) (width_h0 : Int32) (size_a_text_h0 : Int32) (n_a_bytes_a_text_h0 : Nat) (b_a_bytes_a_text_h0 : Nat → Int32) : Option (Int32) :=
  F_Sc_digitsEnd_2 size_a_text_h0 n_a_bytes_a_text_h0 b_a_bytes_a_text_h0  FU p1
theorem d_Sc_digitsEnd_0 : decode prog_8_method_17_code 0 = .ok (.iload_n 1, 1) := by decide +kernel
theorem d_Sc_digitsEnd_1 : decode prog_8_method_17_code 1 = .ok (.istore_n 2, 1) := by decide +kernel
theorem d_Sc_digitsEnd_2 : decode prog_8_method_17_code 2 = .ok (.iload_n 2, 1) := by decide +kernel
theorem d_Sc_digitsEnd_3 : decode prog_8_method_17_code 3 = .ok (.aload_n 0, 1) := by decide +kernel
theorem d_Sc_digitsEnd_4 : decode prog_8_method_17_code 4 = .ok (.getfield 12, 3) := by decide +kernel
theorem d_Sc_digitsEnd_7 : decode prog_8_method_17_code 7 = .ok (.invokevirtual 58, 3) := by decide +kernel
theorem d_Sc_digitsEnd_10 : decode prog_8_method_17_code 10 = .ok (.if_icmp .ge 23, 3) := by decide +kernel
theorem d_Sc_digitsEnd_13 : decode prog_8_method_17_code 13 = .ok (.aload_n 0, 1) := by decide +kernel
theorem d_Sc_digitsEnd_14 : decode prog_8_method_17_code 14 = .ok (.getfield 12, 3) := by decide +kernel
theorem d_Sc_digitsEnd_17 : decode prog_8_method_17_code 17 = .ok (.iload_n 2, 1) := by decide +kernel
theorem d_Sc_digitsEnd_18 : decode prog_8_method_17_code 18 = .ok (.invokevirtual 34, 3) := by decide +kernel
theorem d_Sc_digitsEnd_21 : decode prog_8_method_17_code 21 = .ok (.invokestatic 45, 3) := by decide +kernel
theorem d_Sc_digitsEnd_24 : decode prog_8_method_17_code 24 = .ok (.ifCond .eq 9, 3) := by decide +kernel
theorem d_Sc_digitsEnd_27 : decode prog_8_method_17_code 27 = .ok (.iinc 2 1, 3) := by decide +kernel
theorem d_Sc_digitsEnd_30 : decode prog_8_method_17_code 30 = .ok (.goto (-28), 3) := by decide +kernel
theorem d_Sc_digitsEnd_33 : decode prog_8_method_17_code 33 = .ok (.iload_n 2, 1) := by decide +kernel
theorem d_Sc_digitsEnd_34 : decode prog_8_method_17_code 34 = .ok (.ireturn, 1) := by decide +kernel
set_option maxHeartbeats 4000000 in
set_option maxRecDepth 100000 in
theorem L_Sc_digitsEnd_2 (l : Launch) (D : va_G) (cI cB cJ cS : ClassId) (h0 : Nat) (a_text_h0 : Nat) (a_bytes_a_text_h0 : Nat) (p1 : Int32) (next_h0 : Int32) (kind_h0 : Int32) (start_h0 : Int32) (width_h0 : Int32) (size_a_text_h0 : Int32) (n_a_bytes_a_text_h0 : Nat) (b_a_bytes_a_text_h0 : Nat → Int32) (ret : Int32) (p : Program) (e : Env) (s : State) (m : MethodId) (below : List Frame) (meth : Method) (c : Code) (hr : meth.sig.returnType = (Option.some Jvm.ClassFile.FieldType.int)) (hnm : meth.name = y_Sc_digitsEnd.name) : ∀ (k_2 : Nat) (v2_2 : Int32), F_Sc_digitsEnd_2 size_a_text_h0 n_a_bytes_a_text_h0 b_a_bytes_a_text_h0  k_2 v2_2 = some ret → J (KxOf p l e { frames := 1, cells := 0, slots := 0, locals := 21 } s m [.ref h0, .int p1].toArray below meth c D (gT cI cB cJ cS) [(h0, .inr (4, [.ref a_text_h0, .int next_h0, .int kind_h0, .int start_h0, .int width_h0])), (a_text_h0, .inr (3, [.ref a_bytes_a_text_h0, .int size_a_text_h0])), (a_bytes_a_text_h0, .inl (cB, n_a_bytes_a_text_h0, .inl b_a_bytes_a_text_h0))] (fun v w => v = some (.int ret) ∧ w = [(h0, .inr (4, [.ref a_text_h0, .int next_h0, .int kind_h0, .int start_h0, .int width_h0])), (a_text_h0, .inr (3, [.ref a_bytes_a_text_h0, .int size_a_text_h0])), (a_bytes_a_text_h0, .inl (cB, n_a_bytes_a_text_h0, .inl b_a_bytes_a_text_h0))]) 0 0) prog_8_method_17_code 3 R_Sc 2 [(2, .int v2_2), (0, .ref h0), (1, .int p1)] [] [(h0, .inr (4, [.ref a_text_h0, .int next_h0, .int kind_h0, .int start_h0, .int width_h0])), (a_text_h0, .inr (3, [.ref a_bytes_a_text_h0, .int size_a_text_h0])), (a_bytes_a_text_h0, .inl (cB, n_a_bytes_a_text_h0, .inl b_a_bytes_a_text_h0))] 0 0 := by
  intro k_2
  induction k_2 with
  | zero => intro v2_2 h; rw [F_Sc_digitsEnd_2] at h; cases h
  | succ k_2 ih_2 =>
    intro v2_2 h
    rw [F_Sc_digitsEnd_2] at h
    refine j_iload_n d_Sc_digitsEnd_2 rfl 0 rfl ?_
    refine j_aload_n d_Sc_digitsEnd_3 rfl 1 rfl ?_
    refine j_get ig_Sc rfl 0 rfl 0 (by decide) rfl m_57 rfl d_Sc_digitsEnd_4 ?_
    refine j_callV (n := 0) (As := []) (rest := [.int v2_2]) (wr := [(h0, .inr (4, [.ref a_text_h0, .int next_h0, .int kind_h0, .int start_h0, .int width_h0])), (a_bytes_a_text_h0, .inl (cB, n_a_bytes_a_text_h0, .inl b_a_bytes_a_text_h0))]) (c_Rw_size l D cI cB cJ cS a_text_h0 a_bytes_a_text_h0 size_a_text_h0  ) k_Sc_58 (by decide) ⟨Nat.le_of_ble_eq_true rfl, Nat.le_of_ble_eq_true rfl⟩ rfl 0 rfl [1] [0, 2] rfl (by decide) rfl (by decide) (by decide) rfl rfl (Nat.le_of_ble_eq_true rfl) d_Sc_digitsEnd_7 ⟨Nat.le_of_ble_eq_true rfl, Nat.le_of_ble_eq_true rfl⟩ (fun v w hq => ?_)
    obtain ⟨rfl, rfl⟩ := hq
    refine j_norm (pc' := 10) (st' := [.int size_a_text_h0, .int v2_2]) (ws' := [(h0, .inr (4, [.ref a_text_h0, .int next_h0, .int kind_h0, .int start_h0, .int width_h0])), (a_bytes_a_text_h0, .inl (cB, n_a_bytes_a_text_h0, .inl b_a_bytes_a_text_h0)), (a_text_h0, .inr (3, [.ref a_bytes_a_text_h0, .int size_a_text_h0]))]) (cl' := 0) (sl' := 0) rfl rfl rfl rfl rfl rfl ?_
    refine j_icmp_ge (tgt := 33) d_Sc_digitsEnd_10 (by decide) (fun c2 => ?_) (fun c2 => ?_)
    · replace h := it_t c2 h
      refine j_iload_n d_Sc_digitsEnd_33 rfl 0 rfl ?_
      replace h := Option.some.inj h
      subst h
      exact j_iret (w := [(h0, .inr (4, [.ref a_text_h0, .int next_h0, .int kind_h0, .int start_h0, .int width_h0])), (a_text_h0, .inr (3, [.ref a_bytes_a_text_h0, .int size_a_text_h0])), (a_bytes_a_text_h0, .inl (cB, n_a_bytes_a_text_h0, .inl b_a_bytes_a_text_h0))]) hr d_Sc_digitsEnd_34 [0, 2, 1] rfl (by decide) ⟨rfl, rfl⟩
    · replace h := it_f c2 h
      refine j_aload_n d_Sc_digitsEnd_13 rfl 1 rfl ?_
      refine j_get ig_Sc rfl 0 rfl 0 (by decide) rfl m_57 rfl d_Sc_digitsEnd_14 ?_
      refine j_iload_n d_Sc_digitsEnd_17 rfl 0 rfl ?_
      replace h := bd_s h
      obtain ⟨r3, k4, h⟩ := h
      refine j_callV (n := 1) (As := [.int v2_2]) (rest := []) (wr := [(h0, .inr (4, [.ref a_text_h0, .int next_h0, .int kind_h0, .int start_h0, .int width_h0]))]) (c_Rw_at l D cI cB cJ cS a_text_h0 a_bytes_a_text_h0 v2_2 size_a_text_h0 n_a_bytes_a_text_h0 b_a_bytes_a_text_h0  r3 k4) k_Sc_34 (by decide) ⟨Nat.le_of_ble_eq_true rfl, Nat.le_of_ble_eq_true rfl⟩ rfl 0 rfl [2, 1] [0] rfl (by decide) rfl (by decide) (by decide) rfl rfl (Nat.le_of_ble_eq_true rfl) d_Sc_digitsEnd_18 ⟨Nat.le_of_ble_eq_true rfl, Nat.le_of_ble_eq_true rfl⟩ (fun v w hq => ?_)
      obtain ⟨rfl, rfl⟩ := hq
      refine j_norm (pc' := 21) (st' := [.int r3]) (ws' := [(h0, .inr (4, [.ref a_text_h0, .int next_h0, .int kind_h0, .int start_h0, .int width_h0])), (a_text_h0, .inr (3, [.ref a_bytes_a_text_h0, .int size_a_text_h0])), (a_bytes_a_text_h0, .inl (cB, n_a_bytes_a_text_h0, .inl b_a_bytes_a_text_h0))]) (cl' := 0) (sl' := 0) rfl rfl rfl rfl rfl rfl ?_
      obtain ⟨r5, k7⟩ : ∃ z, (F_Sc_isDigit r3) = z := ⟨_, rfl⟩
      replace h := nm_at k7 h
      refine j_callS (n := 1) (As := [.int r3]) (rest := []) (wr := [(h0, .inr (4, [.ref a_text_h0, .int next_h0, .int kind_h0, .int start_h0, .int width_h0])), (a_text_h0, .inr (3, [.ref a_bytes_a_text_h0, .int size_a_text_h0])), (a_bytes_a_text_h0, .inl (cB, n_a_bytes_a_text_h0, .inl b_a_bytes_a_text_h0))]) (c_Sc_isDigit l D cI cB cJ cS r3  r5 k7) k_Sc_45 (by decide) ⟨Nat.le_of_ble_eq_true rfl, Nat.le_of_ble_eq_true rfl⟩ [] [0, 1, 2] rfl (by decide) rfl (by decide) (by decide) rfl rfl (Nat.le_of_ble_eq_true rfl) d_Sc_digitsEnd_21 ⟨Nat.le_of_ble_eq_true rfl, Nat.le_of_ble_eq_true rfl⟩ (fun v w hq => ?_)
      obtain ⟨rfl, z6, rfl⟩ := hq
      refine j_norm (pc' := 24) (st' := [.int r5]) (ws' := [(h0, .inr (4, [.ref a_text_h0, .int next_h0, .int kind_h0, .int start_h0, .int width_h0])), (a_text_h0, .inr (3, [.ref a_bytes_a_text_h0, .int size_a_text_h0])), (a_bytes_a_text_h0, .inl (cB, n_a_bytes_a_text_h0, .inl b_a_bytes_a_text_h0))]) (cl' := 0) (sl' := 0) rfl rfl rfl rfl rfl rfl ?_
      refine j_if_eq (tgt := 33) d_Sc_digitsEnd_24 (by decide) (fun c8 => ?_) (fun c8 => ?_)
      · replace h := it_t c8 h
        refine j_iload_n d_Sc_digitsEnd_33 rfl 0 rfl ?_
        replace h := Option.some.inj h
        subst h
        exact j_iret (w := [(h0, .inr (4, [.ref a_text_h0, .int next_h0, .int kind_h0, .int start_h0, .int width_h0])), (a_text_h0, .inr (3, [.ref a_bytes_a_text_h0, .int size_a_text_h0])), (a_bytes_a_text_h0, .inl (cB, n_a_bytes_a_text_h0, .inl b_a_bytes_a_text_h0))]) hr d_Sc_digitsEnd_34 [0, 1, 2] rfl (by decide) ⟨rfl, rfl⟩
      · replace h := it_f c8 h
        refine j_iinc (v := v2_2 + 1) (lv' := [(2, .int (v2_2 + 1)), (0, .ref h0), (1, .int p1)]) d_Sc_digitsEnd_27 0 rfl rfl (by decide) rfl ?_
        refine j_goto (tgt := 2) d_Sc_digitsEnd_30 (by decide) ?_
        refine j_sub (w := [(h0, .inr (4, [.ref a_text_h0, .int next_h0, .int kind_h0, .int start_h0, .int width_h0])), (a_text_h0, .inr (3, [.ref a_bytes_a_text_h0, .int size_a_text_h0])), (a_bytes_a_text_h0, .inl (cB, n_a_bytes_a_text_h0, .inl b_a_bytes_a_text_h0))]) (lv' := [(2, .int (v2_2 + 1)), (0, .ref h0), (1, .int p1)]) [0, 1, 2] rfl (by decide) [0, 1, 2] rfl ?_
        exact ih_2 (v2_2 + 1) h
set_option maxHeartbeats 4000000 in
set_option maxRecDepth 100000 in
theorem c_Sc_digitsEnd (l : Launch) (D : va_G) (cI cB cJ cS : ClassId) (h0 : Nat) (a_text_h0 : Nat) (a_bytes_a_text_h0 : Nat) (p1 : Int32) (next_h0 : Int32) (kind_h0 : Int32) (start_h0 : Int32) (width_h0 : Int32) (size_a_text_h0 : Int32) (n_a_bytes_a_text_h0 : Nat) (b_a_bytes_a_text_h0 : Nat → Int32) (ret : Int32) (h : F_Sc_digitsEnd p1 next_h0 kind_h0 start_h0 width_h0 size_a_text_h0 n_a_bytes_a_text_h0 b_a_bytes_a_text_h0 = some ret) : Ct l D (gT cI cB cJ cS) y_Sc_digitsEnd prog_8_method_17_code 3 (Option.some Jvm.ClassFile.FieldType.int) 1 21 0 0 [.ref h0, .int p1] [(h0, .inr (4, [.ref a_text_h0, .int next_h0, .int kind_h0, .int start_h0, .int width_h0])), (a_text_h0, .inr (3, [.ref a_bytes_a_text_h0, .int size_a_text_h0])), (a_bytes_a_text_h0, .inl (cB, n_a_bytes_a_text_h0, .inl b_a_bytes_a_text_h0))] (fun v w => v = some (.int ret) ∧ w = [(h0, .inr (4, [.ref a_text_h0, .int next_h0, .int kind_h0, .int start_h0, .int width_h0])), (a_text_h0, .inr (3, [.ref a_bytes_a_text_h0, .int size_a_text_h0])), (a_bytes_a_text_h0, .inl (cB, n_a_bytes_a_text_h0, .inl b_a_bytes_a_text_h0))]) := by
  refine Ct.mk (by decide) (Nat.le_of_ble_eq_true rfl) ?_
  intro p e s m below meth c hr hnm
  refine j_norm (pc' := 0) (lv' := [(0, .ref h0), (1, .int p1)]) (st' := []) (ws' := [(h0, .inr (4, [.ref a_text_h0, .int next_h0, .int kind_h0, .int start_h0, .int width_h0])), (a_text_h0, .inr (3, [.ref a_bytes_a_text_h0, .int size_a_text_h0])), (a_bytes_a_text_h0, .inl (cB, n_a_bytes_a_text_h0, .inl b_a_bytes_a_text_h0))]) (cl' := 0) (sl' := 0) rfl rfl rfl rfl rfl rfl ?_
  unfold F_Sc_digitsEnd at h
  refine j_iload_n d_Sc_digitsEnd_0 rfl 1 rfl ?_
  refine j_istore_n (lv' := [(2, .int p1), (0, .ref h0), (1, .int p1)]) d_Sc_digitsEnd_1 rfl (by decide) rfl ?_
  refine j_sub (w := [(h0, .inr (4, [.ref a_text_h0, .int next_h0, .int kind_h0, .int start_h0, .int width_h0])), (a_text_h0, .inr (3, [.ref a_bytes_a_text_h0, .int size_a_text_h0])), (a_bytes_a_text_h0, .inl (cB, n_a_bytes_a_text_h0, .inl b_a_bytes_a_text_h0))]) (lv' := [(2, .int p1), (0, .ref h0), (1, .int p1)]) [0, 1, 2] rfl (by decide) [0, 1, 2] rfl ?_
  exact L_Sc_digitsEnd_2 l D cI cB cJ cS h0 a_text_h0 a_bytes_a_text_h0 p1 next_h0 kind_h0 start_h0 width_h0 size_a_text_h0 n_a_bytes_a_text_h0 b_a_bytes_a_text_h0 ret p e s m below meth c hr hnm FU p1 h
def F_Sc_exponent_7 (p1 : Int32) (p2 : Int32) (size_a_text_h0 : Int32) (n_a_bytes_a_text_h0 : Nat) (b_a_bytes_a_text_h0 : Nat → Int32) : Nat → Int32 → Int32 → Option (Int32)
  | 0, _, _ => none
  | k_7 + 1, v4_7, v3_7 =>
    if p2 ≤ v4_7 then (Option.bind (F_Rw_at (p1 + 1) size_a_text_h0 n_a_bytes_a_text_h0 b_a_bytes_a_text_h0) fun r2 =>
      if r2 = 45 then (some (-v3_7))
      else (some v3_7))
    else (Option.bind (F_Rw_at v4_7 size_a_text_h0 n_a_bytes_a_text_h0 b_a_bytes_a_text_h0) fun r5 =>
      nm (F_Sc_isDigit r5) fun r7 =>
      if r7 = 0 then (F_Sc_exponent_7 p1 p2 size_a_text_h0 n_a_bytes_a_text_h0 b_a_bytes_a_text_h0  k_7 (v4_7 + 1) v3_7)
      else (Option.bind (F_Rw_at v4_7 size_a_text_h0 n_a_bytes_a_text_h0 b_a_bytes_a_text_h0) fun r11 =>
        F_Sc_exponent_7 p1 p2 size_a_text_h0 n_a_bytes_a_text_h0 b_a_bytes_a_text_h0  k_7 (v4_7 + 1) (mn 1000000 (((v3_7 * 10) + r11) - 48))))
def F_Sc_exponent (p1 : Int32) (p2 : Int32) (next_h0 : Int32) (kind_h0 : Int32) (start_h0 : Int32) (width_h0 : Int32) (size_a_text_h0 : Int32) (n_a_bytes_a_text_h0 : Nat) (b_a_bytes_a_text_h0 : Nat → Int32) : Option (Int32) :=
  F_Sc_exponent_7 p1 p2 size_a_text_h0 n_a_bytes_a_text_h0 b_a_bytes_a_text_h0  FU (p1 + 1) 0
theorem d_Sc_exponent_0 : decode prog_8_method_19_code 0 = .ok (.iconst 0, 1) := by decide +kernel
theorem d_Sc_exponent_1 : decode prog_8_method_19_code 1 = .ok (.istore_n 3, 1) := by decide +kernel
theorem d_Sc_exponent_2 : decode prog_8_method_19_code 2 = .ok (.iload_n 1, 1) := by decide +kernel
theorem d_Sc_exponent_3 : decode prog_8_method_19_code 3 = .ok (.iconst 1, 1) := by decide +kernel
theorem d_Sc_exponent_4 : decode prog_8_method_19_code 4 = .ok (.iadd, 1) := by decide +kernel
theorem d_Sc_exponent_5 : decode prog_8_method_19_code 5 = .ok (.istore 4, 2) := by decide +kernel
theorem d_Sc_exponent_7 : decode prog_8_method_19_code 7 = .ok (.iload 4, 2) := by decide +kernel
theorem d_Sc_exponent_9 : decode prog_8_method_19_code 9 = .ok (.iload_n 2, 1) := by decide +kernel
theorem d_Sc_exponent_10 : decode prog_8_method_19_code 10 = .ok (.if_icmp .ge 47, 3) := by decide +kernel
theorem d_Sc_exponent_13 : decode prog_8_method_19_code 13 = .ok (.aload_n 0, 1) := by decide +kernel
theorem d_Sc_exponent_14 : decode prog_8_method_19_code 14 = .ok (.getfield 12, 3) := by decide +kernel
theorem d_Sc_exponent_17 : decode prog_8_method_19_code 17 = .ok (.iload 4, 2) := by decide +kernel
theorem d_Sc_exponent_19 : decode prog_8_method_19_code 19 = .ok (.invokevirtual 34, 3) := by decide +kernel
theorem d_Sc_exponent_22 : decode prog_8_method_19_code 22 = .ok (.invokestatic 45, 3) := by decide +kernel
theorem d_Sc_exponent_25 : decode prog_8_method_19_code 25 = .ok (.ifCond .eq 26, 3) := by decide +kernel
theorem d_Sc_exponent_28 : decode prog_8_method_19_code 28 = .ok (.ldc 121, 2) := by decide +kernel
theorem d_Sc_exponent_30 : decode prog_8_method_19_code 30 = .ok (.iload_n 3, 1) := by decide +kernel
theorem d_Sc_exponent_31 : decode prog_8_method_19_code 31 = .ok (.bipush 10, 2) := by decide +kernel
theorem d_Sc_exponent_33 : decode prog_8_method_19_code 33 = .ok (.imul, 1) := by decide +kernel
theorem d_Sc_exponent_34 : decode prog_8_method_19_code 34 = .ok (.aload_n 0, 1) := by decide +kernel
theorem d_Sc_exponent_35 : decode prog_8_method_19_code 35 = .ok (.getfield 12, 3) := by decide +kernel
theorem d_Sc_exponent_38 : decode prog_8_method_19_code 38 = .ok (.iload 4, 2) := by decide +kernel
theorem d_Sc_exponent_40 : decode prog_8_method_19_code 40 = .ok (.invokevirtual 34, 3) := by decide +kernel
theorem d_Sc_exponent_43 : decode prog_8_method_19_code 43 = .ok (.iadd, 1) := by decide +kernel
theorem d_Sc_exponent_44 : decode prog_8_method_19_code 44 = .ok (.bipush 48, 2) := by decide +kernel
theorem d_Sc_exponent_46 : decode prog_8_method_19_code 46 = .ok (.isub, 1) := by decide +kernel
theorem d_Sc_exponent_47 : decode prog_8_method_19_code 47 = .ok (.invokestatic 122, 3) := by decide +kernel
theorem d_Sc_exponent_50 : decode prog_8_method_19_code 50 = .ok (.istore_n 3, 1) := by decide +kernel
theorem d_Sc_exponent_51 : decode prog_8_method_19_code 51 = .ok (.iinc 4 1, 3) := by decide +kernel
theorem d_Sc_exponent_54 : decode prog_8_method_19_code 54 = .ok (.goto (-47), 3) := by decide +kernel
theorem d_Sc_exponent_57 : decode prog_8_method_19_code 57 = .ok (.aload_n 0, 1) := by decide +kernel
theorem d_Sc_exponent_58 : decode prog_8_method_19_code 58 = .ok (.getfield 12, 3) := by decide +kernel
theorem d_Sc_exponent_61 : decode prog_8_method_19_code 61 = .ok (.iload_n 1, 1) := by decide +kernel
theorem d_Sc_exponent_62 : decode prog_8_method_19_code 62 = .ok (.iconst 1, 1) := by decide +kernel
theorem d_Sc_exponent_63 : decode prog_8_method_19_code 63 = .ok (.iadd, 1) := by decide +kernel
theorem d_Sc_exponent_64 : decode prog_8_method_19_code 64 = .ok (.invokevirtual 34, 3) := by decide +kernel
theorem d_Sc_exponent_67 : decode prog_8_method_19_code 67 = .ok (.bipush 45, 2) := by decide +kernel
theorem d_Sc_exponent_69 : decode prog_8_method_19_code 69 = .ok (.if_icmp .ne 8, 3) := by decide +kernel
theorem d_Sc_exponent_72 : decode prog_8_method_19_code 72 = .ok (.iload_n 3, 1) := by decide +kernel
theorem d_Sc_exponent_73 : decode prog_8_method_19_code 73 = .ok (.ineg, 1) := by decide +kernel
theorem d_Sc_exponent_74 : decode prog_8_method_19_code 74 = .ok (.goto 4, 3) := by decide +kernel
theorem d_Sc_exponent_77 : decode prog_8_method_19_code 77 = .ok (.iload_n 3, 1) := by decide +kernel
theorem d_Sc_exponent_78 : decode prog_8_method_19_code 78 = .ok (.ireturn, 1) := by decide +kernel
set_option maxHeartbeats 4000000 in
set_option maxRecDepth 100000 in
theorem L_Sc_exponent_7 (l : Launch) (D : va_G) (cI cB cJ cS : ClassId) (h0 : Nat) (a_text_h0 : Nat) (a_bytes_a_text_h0 : Nat) (p1 : Int32) (p2 : Int32) (next_h0 : Int32) (kind_h0 : Int32) (start_h0 : Int32) (width_h0 : Int32) (size_a_text_h0 : Int32) (n_a_bytes_a_text_h0 : Nat) (b_a_bytes_a_text_h0 : Nat → Int32) (ret : Int32) (p : Program) (e : Env) (s : State) (m : MethodId) (below : List Frame) (meth : Method) (c : Code) (hr : meth.sig.returnType = (Option.some Jvm.ClassFile.FieldType.int)) (hnm : meth.name = y_Sc_exponent.name) : ∀ (k_7 : Nat) (v4_7 : Int32) (v3_7 : Int32), F_Sc_exponent_7 p1 p2 size_a_text_h0 n_a_bytes_a_text_h0 b_a_bytes_a_text_h0  k_7 v4_7 v3_7 = some ret → J (KxOf p l e { frames := 1, cells := 0, slots := 0, locals := 21 } s m [.ref h0, .int p1, .int p2].toArray below meth c D (gT cI cB cJ cS) [(h0, .inr (4, [.ref a_text_h0, .int next_h0, .int kind_h0, .int start_h0, .int width_h0])), (a_text_h0, .inr (3, [.ref a_bytes_a_text_h0, .int size_a_text_h0])), (a_bytes_a_text_h0, .inl (cB, n_a_bytes_a_text_h0, .inl b_a_bytes_a_text_h0))] (fun v w => v = some (.int ret) ∧ w = [(h0, .inr (4, [.ref a_text_h0, .int next_h0, .int kind_h0, .int start_h0, .int width_h0])), (a_text_h0, .inr (3, [.ref a_bytes_a_text_h0, .int size_a_text_h0])), (a_bytes_a_text_h0, .inl (cB, n_a_bytes_a_text_h0, .inl b_a_bytes_a_text_h0))]) 0 0) prog_8_method_19_code 5 R_Sc 7 [(4, .int v4_7), (3, .int v3_7), (0, .ref h0), (1, .int p1), (2, .int p2)] [] [(h0, .inr (4, [.ref a_text_h0, .int next_h0, .int kind_h0, .int start_h0, .int width_h0])), (a_text_h0, .inr (3, [.ref a_bytes_a_text_h0, .int size_a_text_h0])), (a_bytes_a_text_h0, .inl (cB, n_a_bytes_a_text_h0, .inl b_a_bytes_a_text_h0))] 0 0 := by
  intro k_7
  induction k_7 with
  | zero => intro v4_7 v3_7 h; rw [F_Sc_exponent_7] at h; cases h
  | succ k_7 ih_7 =>
    intro v4_7 v3_7 h
    rw [F_Sc_exponent_7] at h
    refine j_iload d_Sc_exponent_7 0 rfl ?_
    refine j_iload_n d_Sc_exponent_9 rfl 4 rfl ?_
    refine j_icmp_ge (tgt := 57) d_Sc_exponent_10 (by decide) (fun c1 => ?_) (fun c1 => ?_)
    · replace h := it_t c1 h
      refine j_aload_n d_Sc_exponent_57 rfl 2 rfl ?_
      refine j_get ig_Sc rfl 0 rfl 0 (by decide) rfl m_57 rfl d_Sc_exponent_58 ?_
      refine j_iload_n d_Sc_exponent_61 rfl 3 rfl ?_
      refine j_iconst (v := 1) d_Sc_exponent_62 (by decide) ?_
      refine j_iadd d_Sc_exponent_63 ?_
      replace h := bd_s h
      obtain ⟨r2, k3, h⟩ := h
      refine j_callV (n := 1) (As := [.int (p1 + 1)]) (rest := []) (wr := [(h0, .inr (4, [.ref a_text_h0, .int next_h0, .int kind_h0, .int start_h0, .int width_h0]))]) (c_Rw_at l D cI cB cJ cS a_text_h0 a_bytes_a_text_h0 (p1 + 1) size_a_text_h0 n_a_bytes_a_text_h0 b_a_bytes_a_text_h0  r2 k3) k_Sc_34 (by decide) ⟨Nat.le_of_ble_eq_true rfl, Nat.le_of_ble_eq_true rfl⟩ rfl 0 rfl [1, 2] [0] rfl (by decide) rfl (by decide) (by decide) rfl rfl (Nat.le_of_ble_eq_true rfl) d_Sc_exponent_64 ⟨Nat.le_of_ble_eq_true rfl, Nat.le_of_ble_eq_true rfl⟩ (fun v w hq => ?_)
      obtain ⟨rfl, rfl⟩ := hq
      refine j_norm (pc' := 67) (st' := [.int r2]) (ws' := [(h0, .inr (4, [.ref a_text_h0, .int next_h0, .int kind_h0, .int start_h0, .int width_h0])), (a_text_h0, .inr (3, [.ref a_bytes_a_text_h0, .int size_a_text_h0])), (a_bytes_a_text_h0, .inl (cB, n_a_bytes_a_text_h0, .inl b_a_bytes_a_text_h0))]) (cl' := 0) (sl' := 0) rfl rfl rfl rfl rfl rfl ?_
      refine j_bipush (v := 45) d_Sc_exponent_67 (by decide) ?_
      refine j_icmp_ne (tgt := 77) d_Sc_exponent_69 (by decide) (fun c4 => ?_) (fun c4 => ?_)
      · replace h := it_f c4 h
        refine j_iload_n d_Sc_exponent_77 rfl 1 rfl ?_
        replace h := Option.some.inj h
        subst h
        exact j_iret (w := [(h0, .inr (4, [.ref a_text_h0, .int next_h0, .int kind_h0, .int start_h0, .int width_h0])), (a_text_h0, .inr (3, [.ref a_bytes_a_text_h0, .int size_a_text_h0])), (a_bytes_a_text_h0, .inl (cB, n_a_bytes_a_text_h0, .inl b_a_bytes_a_text_h0))]) hr d_Sc_exponent_78 [0, 1, 2] rfl (by decide) ⟨rfl, rfl⟩
      · replace h := it_t c4 h
        refine j_iload_n d_Sc_exponent_72 rfl 1 rfl ?_
        refine j_ineg d_Sc_exponent_73 ?_
        refine j_goto (tgt := 78) d_Sc_exponent_74 (by decide) ?_
        replace h := Option.some.inj h
        subst h
        exact j_iret (w := [(h0, .inr (4, [.ref a_text_h0, .int next_h0, .int kind_h0, .int start_h0, .int width_h0])), (a_text_h0, .inr (3, [.ref a_bytes_a_text_h0, .int size_a_text_h0])), (a_bytes_a_text_h0, .inl (cB, n_a_bytes_a_text_h0, .inl b_a_bytes_a_text_h0))]) hr d_Sc_exponent_78 [0, 1, 2] rfl (by decide) ⟨rfl, rfl⟩
    · replace h := it_f c1 h
      refine j_aload_n d_Sc_exponent_13 rfl 2 rfl ?_
      refine j_get ig_Sc rfl 0 rfl 0 (by decide) rfl m_57 rfl d_Sc_exponent_14 ?_
      refine j_iload d_Sc_exponent_17 0 rfl ?_
      replace h := bd_s h
      obtain ⟨r5, k6, h⟩ := h
      refine j_callV (n := 1) (As := [.int v4_7]) (rest := []) (wr := [(h0, .inr (4, [.ref a_text_h0, .int next_h0, .int kind_h0, .int start_h0, .int width_h0]))]) (c_Rw_at l D cI cB cJ cS a_text_h0 a_bytes_a_text_h0 v4_7 size_a_text_h0 n_a_bytes_a_text_h0 b_a_bytes_a_text_h0  r5 k6) k_Sc_34 (by decide) ⟨Nat.le_of_ble_eq_true rfl, Nat.le_of_ble_eq_true rfl⟩ rfl 0 rfl [1, 2] [0] rfl (by decide) rfl (by decide) (by decide) rfl rfl (Nat.le_of_ble_eq_true rfl) d_Sc_exponent_19 ⟨Nat.le_of_ble_eq_true rfl, Nat.le_of_ble_eq_true rfl⟩ (fun v w hq => ?_)
      obtain ⟨rfl, rfl⟩ := hq
      refine j_norm (pc' := 22) (st' := [.int r5]) (ws' := [(h0, .inr (4, [.ref a_text_h0, .int next_h0, .int kind_h0, .int start_h0, .int width_h0])), (a_text_h0, .inr (3, [.ref a_bytes_a_text_h0, .int size_a_text_h0])), (a_bytes_a_text_h0, .inl (cB, n_a_bytes_a_text_h0, .inl b_a_bytes_a_text_h0))]) (cl' := 0) (sl' := 0) rfl rfl rfl rfl rfl rfl ?_
      obtain ⟨r7, k9⟩ : ∃ z, (F_Sc_isDigit r5) = z := ⟨_, rfl⟩
      replace h := nm_at k9 h
      refine j_callS (n := 1) (As := [.int r5]) (rest := []) (wr := [(h0, .inr (4, [.ref a_text_h0, .int next_h0, .int kind_h0, .int start_h0, .int width_h0])), (a_text_h0, .inr (3, [.ref a_bytes_a_text_h0, .int size_a_text_h0])), (a_bytes_a_text_h0, .inl (cB, n_a_bytes_a_text_h0, .inl b_a_bytes_a_text_h0))]) (c_Sc_isDigit l D cI cB cJ cS r5  r7 k9) k_Sc_45 (by decide) ⟨Nat.le_of_ble_eq_true rfl, Nat.le_of_ble_eq_true rfl⟩ [] [0, 1, 2] rfl (by decide) rfl (by decide) (by decide) rfl rfl (Nat.le_of_ble_eq_true rfl) d_Sc_exponent_22 ⟨Nat.le_of_ble_eq_true rfl, Nat.le_of_ble_eq_true rfl⟩ (fun v w hq => ?_)
      obtain ⟨rfl, z8, rfl⟩ := hq
      refine j_norm (pc' := 25) (st' := [.int r7]) (ws' := [(h0, .inr (4, [.ref a_text_h0, .int next_h0, .int kind_h0, .int start_h0, .int width_h0])), (a_text_h0, .inr (3, [.ref a_bytes_a_text_h0, .int size_a_text_h0])), (a_bytes_a_text_h0, .inl (cB, n_a_bytes_a_text_h0, .inl b_a_bytes_a_text_h0))]) (cl' := 0) (sl' := 0) rfl rfl rfl rfl rfl rfl ?_
      refine j_if_eq (tgt := 51) d_Sc_exponent_25 (by decide) (fun c10 => ?_) (fun c10 => ?_)
      · replace h := it_t c10 h
        refine j_iinc (v := v4_7 + 1) (lv' := [(4, .int (v4_7 + 1)), (3, .int v3_7), (0, .ref h0), (1, .int p1), (2, .int p2)]) d_Sc_exponent_51 0 rfl rfl (by decide) rfl ?_
        refine j_goto (tgt := 7) d_Sc_exponent_54 (by decide) ?_
        refine j_sub (w := [(h0, .inr (4, [.ref a_text_h0, .int next_h0, .int kind_h0, .int start_h0, .int width_h0])), (a_text_h0, .inr (3, [.ref a_bytes_a_text_h0, .int size_a_text_h0])), (a_bytes_a_text_h0, .inl (cB, n_a_bytes_a_text_h0, .inl b_a_bytes_a_text_h0))]) (lv' := [(4, .int (v4_7 + 1)), (3, .int v3_7), (0, .ref h0), (1, .int p1), (2, .int p2)]) [0, 1, 2] rfl (by decide) [0, 1, 2, 3, 4] rfl ?_
        exact ih_7 (v4_7 + 1) v3_7 h
      · replace h := it_f c10 h
        refine j_ldc (v := 1000000) m_435 d_Sc_exponent_28 ?_
        refine j_iload_n d_Sc_exponent_30 rfl 1 rfl ?_
        refine j_bipush (v := 10) d_Sc_exponent_31 (by decide) ?_
        refine j_imul d_Sc_exponent_33 ?_
        refine j_aload_n d_Sc_exponent_34 rfl 2 rfl ?_
        refine j_get ig_Sc rfl 0 rfl 0 (by decide) rfl m_57 rfl d_Sc_exponent_35 ?_
        refine j_iload d_Sc_exponent_38 0 rfl ?_
        replace h := bd_s h
        obtain ⟨r11, k12, h⟩ := h
        refine j_callV (n := 1) (As := [.int v4_7]) (rest := [.int (v3_7 * 10), .int 1000000]) (wr := [(h0, .inr (4, [.ref a_text_h0, .int next_h0, .int kind_h0, .int start_h0, .int width_h0]))]) (c_Rw_at l D cI cB cJ cS a_text_h0 a_bytes_a_text_h0 v4_7 size_a_text_h0 n_a_bytes_a_text_h0 b_a_bytes_a_text_h0  r11 k12) k_Sc_34 (by decide) ⟨Nat.le_of_ble_eq_true rfl, Nat.le_of_ble_eq_true rfl⟩ rfl 0 rfl [1, 2] [0] rfl (by decide) rfl (by decide) (by decide) rfl rfl (Nat.le_of_ble_eq_true rfl) d_Sc_exponent_40 ⟨Nat.le_of_ble_eq_true rfl, Nat.le_of_ble_eq_true rfl⟩ (fun v w hq => ?_)
        obtain ⟨rfl, rfl⟩ := hq
        refine j_norm (pc' := 43) (st' := [.int r11, .int (v3_7 * 10), .int 1000000]) (ws' := [(h0, .inr (4, [.ref a_text_h0, .int next_h0, .int kind_h0, .int start_h0, .int width_h0])), (a_text_h0, .inr (3, [.ref a_bytes_a_text_h0, .int size_a_text_h0])), (a_bytes_a_text_h0, .inl (cB, n_a_bytes_a_text_h0, .inl b_a_bytes_a_text_h0))]) (cl' := 0) (sl' := 0) rfl rfl rfl rfl rfl rfl ?_
        refine j_iadd d_Sc_exponent_43 ?_
        refine j_bipush (v := 48) d_Sc_exponent_44 (by decide) ?_
        refine j_isub d_Sc_exponent_46 ?_
        refine j_mmin m_436 m_293 m_12 mc_min (Nat.le_of_ble_eq_true rfl) (Nat.le_of_ble_eq_true rfl) (Nat.le_refl _) (Nat.le_refl _) d_Sc_exponent_47 ?_
        refine j_istore_n (lv' := [(3, .int (mn 1000000 (((v3_7 * 10) + r11) - 48))), (4, .int v4_7), (0, .ref h0), (1, .int p1), (2, .int p2)]) d_Sc_exponent_50 rfl (by decide) rfl ?_
        refine j_iinc (v := v4_7 + 1) (lv' := [(4, .int (v4_7 + 1)), (3, .int (mn 1000000 (((v3_7 * 10) + r11) - 48))), (0, .ref h0), (1, .int p1), (2, .int p2)]) d_Sc_exponent_51 1 rfl rfl (by decide) rfl ?_
        refine j_goto (tgt := 7) d_Sc_exponent_54 (by decide) ?_
        refine j_sub (w := [(h0, .inr (4, [.ref a_text_h0, .int next_h0, .int kind_h0, .int start_h0, .int width_h0])), (a_text_h0, .inr (3, [.ref a_bytes_a_text_h0, .int size_a_text_h0])), (a_bytes_a_text_h0, .inl (cB, n_a_bytes_a_text_h0, .inl b_a_bytes_a_text_h0))]) (lv' := [(4, .int (v4_7 + 1)), (3, .int (mn 1000000 (((v3_7 * 10) + r11) - 48))), (0, .ref h0), (1, .int p1), (2, .int p2)]) [0, 1, 2] rfl (by decide) [0, 1, 2, 3, 4] rfl ?_
        exact ih_7 (v4_7 + 1) (mn 1000000 (((v3_7 * 10) + r11) - 48)) h
set_option maxHeartbeats 4000000 in
set_option maxRecDepth 100000 in
theorem c_Sc_exponent (l : Launch) (D : va_G) (cI cB cJ cS : ClassId) (h0 : Nat) (a_text_h0 : Nat) (a_bytes_a_text_h0 : Nat) (p1 : Int32) (p2 : Int32) (next_h0 : Int32) (kind_h0 : Int32) (start_h0 : Int32) (width_h0 : Int32) (size_a_text_h0 : Int32) (n_a_bytes_a_text_h0 : Nat) (b_a_bytes_a_text_h0 : Nat → Int32) (ret : Int32) (h : F_Sc_exponent p1 p2 next_h0 kind_h0 start_h0 width_h0 size_a_text_h0 n_a_bytes_a_text_h0 b_a_bytes_a_text_h0 = some ret) : Ct l D (gT cI cB cJ cS) y_Sc_exponent prog_8_method_19_code 5 (Option.some Jvm.ClassFile.FieldType.int) 1 21 0 0 [.ref h0, .int p1, .int p2] [(h0, .inr (4, [.ref a_text_h0, .int next_h0, .int kind_h0, .int start_h0, .int width_h0])), (a_text_h0, .inr (3, [.ref a_bytes_a_text_h0, .int size_a_text_h0])), (a_bytes_a_text_h0, .inl (cB, n_a_bytes_a_text_h0, .inl b_a_bytes_a_text_h0))] (fun v w => v = some (.int ret) ∧ w = [(h0, .inr (4, [.ref a_text_h0, .int next_h0, .int kind_h0, .int start_h0, .int width_h0])), (a_text_h0, .inr (3, [.ref a_bytes_a_text_h0, .int size_a_text_h0])), (a_bytes_a_text_h0, .inl (cB, n_a_bytes_a_text_h0, .inl b_a_bytes_a_text_h0))]) := by
  refine Ct.mk (by decide) (Nat.le_of_ble_eq_true rfl) ?_
  intro p e s m below meth c hr hnm
  refine j_norm (pc' := 0) (lv' := [(0, .ref h0), (1, .int p1), (2, .int p2)]) (st' := []) (ws' := [(h0, .inr (4, [.ref a_text_h0, .int next_h0, .int kind_h0, .int start_h0, .int width_h0])), (a_text_h0, .inr (3, [.ref a_bytes_a_text_h0, .int size_a_text_h0])), (a_bytes_a_text_h0, .inl (cB, n_a_bytes_a_text_h0, .inl b_a_bytes_a_text_h0))]) (cl' := 0) (sl' := 0) rfl rfl rfl rfl rfl rfl ?_
  unfold F_Sc_exponent at h
  refine j_iconst (v := 0) d_Sc_exponent_0 (by decide) ?_
  refine j_istore_n (lv' := [(3, .int 0), (0, .ref h0), (1, .int p1), (2, .int p2)]) d_Sc_exponent_1 rfl (by decide) rfl ?_
  refine j_iload_n d_Sc_exponent_2 rfl 2 rfl ?_
  refine j_iconst (v := 1) d_Sc_exponent_3 (by decide) ?_
  refine j_iadd d_Sc_exponent_4 ?_
  refine j_istore (lv' := [(4, .int (p1 + 1)), (3, .int 0), (0, .ref h0), (1, .int p1), (2, .int p2)]) d_Sc_exponent_5 (by decide) rfl ?_
  refine j_sub (w := [(h0, .inr (4, [.ref a_text_h0, .int next_h0, .int kind_h0, .int start_h0, .int width_h0])), (a_text_h0, .inr (3, [.ref a_bytes_a_text_h0, .int size_a_text_h0])), (a_bytes_a_text_h0, .inl (cB, n_a_bytes_a_text_h0, .inl b_a_bytes_a_text_h0))]) (lv' := [(4, .int (p1 + 1)), (3, .int 0), (0, .ref h0), (1, .int p1), (2, .int p2)]) [0, 1, 2] rfl (by decide) [0, 1, 2, 3, 4] rfl ?_
  exact L_Sc_exponent_7 l D cI cB cJ cS h0 a_text_h0 a_bytes_a_text_h0 p1 p2 next_h0 kind_h0 start_h0 width_h0 size_a_text_h0 n_a_bytes_a_text_h0 b_a_bytes_a_text_h0 ret p e s m below meth c hr hnm FU (p1 + 1) 0 h
def F_Sc_isBelowTooLarge_49 (v4_5 : Int32) (K_5 : Int32 → Int32 → Option (Int32)) (v3_49 : Int32) (t0_49 : Int32) : Option (Int32) :=
    inb v4_5 (gB 14).length (if t0_49 = (sch 14 v4_5) then (K_5 (v4_5 + 1) (v3_49 + 1))
    else (inb v4_5 (gB 14).length (if (sch 14 v4_5) ≤ t0_49 then (some 0)
      else (some 1))))
def F_Sc_isBelowTooLarge_31 (p2 : Int32) (size_a_text_h0 : Int32) (n_a_bytes_a_text_h0 : Nat) (b_a_bytes_a_text_h0 : Nat → Int32) (v4_5 : Int32) (K_5 : Int32 → Int32 → Option (Int32)) (v3_31 : Int32) : Option (Int32) :=
    if p2 ≤ v3_31 then (F_Sc_isBelowTooLarge_49 v4_5 K_5  v3_31 48)
    else (Option.bind (F_Rw_at v3_31 size_a_text_h0 n_a_bytes_a_text_h0 b_a_bytes_a_text_h0) fun r6 =>
      F_Sc_isBelowTooLarge_49 v4_5 K_5  v3_31 r6)
def F_Sc_isBelowTooLarge_5 (p2 : Int32) (size_a_text_h0 : Int32) (n_a_bytes_a_text_h0 : Nat) (b_a_bytes_a_text_h0 : Nat → Int32) : Nat → Int32 → Int32 → Option (Int32)
  | 0, _, _ => none
  | k_5 + 1, v4_5, v3_5 =>
    if (nI (gB 14).length) ≤ v4_5 then (some 0)
    else (Option.bind (F_Rw_at v3_5 size_a_text_h0 n_a_bytes_a_text_h0 b_a_bytes_a_text_h0) fun r10 =>
      if r10 = 46 then (F_Sc_isBelowTooLarge_31 p2 size_a_text_h0 n_a_bytes_a_text_h0 b_a_bytes_a_text_h0 v4_5 (F_Sc_isBelowTooLarge_5 p2 size_a_text_h0 n_a_bytes_a_text_h0 b_a_bytes_a_text_h0  k_5)  (v3_5 + 1))
      else (F_Sc_isBelowTooLarge_31 p2 size_a_text_h0 n_a_bytes_a_text_h0 b_a_bytes_a_text_h0 v4_5 (F_Sc_isBelowTooLarge_5 p2 size_a_text_h0 n_a_bytes_a_text_h0 b_a_bytes_a_text_h0  k_5)  v3_5))
def F_Sc_isBelowTooLarge (p1 : Int32) (p2 : Int32) (next_h0 : Int32) (kind_h0 : Int32) (start_h0 : Int32) (width_h0 : Int32) (size_a_text_h0 : Int32) (n_a_bytes_a_text_h0 : Nat) (b_a_bytes_a_text_h0 : Nat → Int32) : Option (Int32) :=
  F_Sc_isBelowTooLarge_5 p2 size_a_text_h0 n_a_bytes_a_text_h0 b_a_bytes_a_text_h0  FU 0 p1
theorem d_Sc_isBelowTooLarge_0 : decode prog_8_method_20_code 0 = .ok (.iload_n 1, 1) := by decide +kernel
theorem d_Sc_isBelowTooLarge_1 : decode prog_8_method_20_code 1 = .ok (.istore_n 3, 1) := by decide +kernel
theorem d_Sc_isBelowTooLarge_2 : decode prog_8_method_20_code 2 = .ok (.iconst 0, 1) := by decide +kernel
theorem d_Sc_isBelowTooLarge_3 : decode prog_8_method_20_code 3 = .ok (.istore 4, 2) := by decide +kernel
theorem d_Sc_isBelowTooLarge_5 : decode prog_8_method_20_code 5 = .ok (.iload 4, 2) := by decide +kernel
theorem d_Sc_isBelowTooLarge_7 : decode prog_8_method_20_code 7 = .ok (.ldc 116, 2) := by decide +kernel
theorem d_Sc_isBelowTooLarge_9 : decode prog_8_method_20_code 9 = .ok (.invokevirtual 97, 3) := by decide +kernel
theorem d_Sc_isBelowTooLarge_12 : decode prog_8_method_20_code 12 = .ok (.if_icmp .ge 78, 3) := by decide +kernel
theorem d_Sc_isBelowTooLarge_15 : decode prog_8_method_20_code 15 = .ok (.aload_n 0, 1) := by decide +kernel
theorem d_Sc_isBelowTooLarge_16 : decode prog_8_method_20_code 16 = .ok (.getfield 12, 3) := by decide +kernel
theorem d_Sc_isBelowTooLarge_19 : decode prog_8_method_20_code 19 = .ok (.iload_n 3, 1) := by decide +kernel
theorem d_Sc_isBelowTooLarge_20 : decode prog_8_method_20_code 20 = .ok (.invokevirtual 34, 3) := by decide +kernel
theorem d_Sc_isBelowTooLarge_23 : decode prog_8_method_20_code 23 = .ok (.bipush 46, 2) := by decide +kernel
theorem d_Sc_isBelowTooLarge_25 : decode prog_8_method_20_code 25 = .ok (.if_icmp .ne 6, 3) := by decide +kernel
theorem d_Sc_isBelowTooLarge_28 : decode prog_8_method_20_code 28 = .ok (.iinc 3 1, 3) := by decide +kernel
theorem d_Sc_isBelowTooLarge_31 : decode prog_8_method_20_code 31 = .ok (.iload_n 3, 1) := by decide +kernel
theorem d_Sc_isBelowTooLarge_32 : decode prog_8_method_20_code 32 = .ok (.iload_n 2, 1) := by decide +kernel
theorem d_Sc_isBelowTooLarge_33 : decode prog_8_method_20_code 33 = .ok (.if_icmp .ge 14, 3) := by decide +kernel
theorem d_Sc_isBelowTooLarge_36 : decode prog_8_method_20_code 36 = .ok (.aload_n 0, 1) := by decide +kernel
theorem d_Sc_isBelowTooLarge_37 : decode prog_8_method_20_code 37 = .ok (.getfield 12, 3) := by decide +kernel
theorem d_Sc_isBelowTooLarge_40 : decode prog_8_method_20_code 40 = .ok (.iload_n 3, 1) := by decide +kernel
theorem d_Sc_isBelowTooLarge_41 : decode prog_8_method_20_code 41 = .ok (.invokevirtual 34, 3) := by decide +kernel
theorem d_Sc_isBelowTooLarge_44 : decode prog_8_method_20_code 44 = .ok (.goto 5, 3) := by decide +kernel
theorem d_Sc_isBelowTooLarge_47 : decode prog_8_method_20_code 47 = .ok (.bipush 48, 2) := by decide +kernel
theorem d_Sc_isBelowTooLarge_49 : decode prog_8_method_20_code 49 = .ok (.istore 5, 2) := by decide +kernel
theorem d_Sc_isBelowTooLarge_51 : decode prog_8_method_20_code 51 = .ok (.iload 5, 2) := by decide +kernel
theorem d_Sc_isBelowTooLarge_53 : decode prog_8_method_20_code 53 = .ok (.ldc 116, 2) := by decide +kernel
theorem d_Sc_isBelowTooLarge_55 : decode prog_8_method_20_code 55 = .ok (.iload 4, 2) := by decide +kernel
theorem d_Sc_isBelowTooLarge_57 : decode prog_8_method_20_code 57 = .ok (.invokevirtual 102, 3) := by decide +kernel
theorem d_Sc_isBelowTooLarge_60 : decode prog_8_method_20_code 60 = .ok (.if_icmp .eq 21, 3) := by decide +kernel
theorem d_Sc_isBelowTooLarge_63 : decode prog_8_method_20_code 63 = .ok (.iload 5, 2) := by decide +kernel
theorem d_Sc_isBelowTooLarge_65 : decode prog_8_method_20_code 65 = .ok (.ldc 116, 2) := by decide +kernel
theorem d_Sc_isBelowTooLarge_67 : decode prog_8_method_20_code 67 = .ok (.iload 4, 2) := by decide +kernel
theorem d_Sc_isBelowTooLarge_69 : decode prog_8_method_20_code 69 = .ok (.invokevirtual 102, 3) := by decide +kernel
theorem d_Sc_isBelowTooLarge_72 : decode prog_8_method_20_code 72 = .ok (.if_icmp .ge 7, 3) := by decide +kernel
theorem d_Sc_isBelowTooLarge_75 : decode prog_8_method_20_code 75 = .ok (.iconst 1, 1) := by decide +kernel
theorem d_Sc_isBelowTooLarge_76 : decode prog_8_method_20_code 76 = .ok (.goto 4, 3) := by decide +kernel
theorem d_Sc_isBelowTooLarge_79 : decode prog_8_method_20_code 79 = .ok (.iconst 0, 1) := by decide +kernel
theorem d_Sc_isBelowTooLarge_80 : decode prog_8_method_20_code 80 = .ok (.ireturn, 1) := by decide +kernel
theorem d_Sc_isBelowTooLarge_81 : decode prog_8_method_20_code 81 = .ok (.iinc 3 1, 3) := by decide +kernel
theorem d_Sc_isBelowTooLarge_84 : decode prog_8_method_20_code 84 = .ok (.iinc 4 1, 3) := by decide +kernel
theorem d_Sc_isBelowTooLarge_87 : decode prog_8_method_20_code 87 = .ok (.goto (-82), 3) := by decide +kernel
theorem d_Sc_isBelowTooLarge_90 : decode prog_8_method_20_code 90 = .ok (.iconst 0, 1) := by decide +kernel
theorem d_Sc_isBelowTooLarge_91 : decode prog_8_method_20_code 91 = .ok (.ireturn, 1) := by decide +kernel
set_option maxHeartbeats 4000000 in
set_option maxRecDepth 100000 in
theorem L_Sc_isBelowTooLarge_5 (l : Launch) (D : va_G) (cI cB cJ cS : ClassId) (h0 : Nat) (a_text_h0 : Nat) (a_bytes_a_text_h0 : Nat) (p1 : Int32) (p2 : Int32) (next_h0 : Int32) (kind_h0 : Int32) (start_h0 : Int32) (width_h0 : Int32) (size_a_text_h0 : Int32) (n_a_bytes_a_text_h0 : Nat) (b_a_bytes_a_text_h0 : Nat → Int32) (ret : Int32) (p : Program) (e : Env) (s : State) (m : MethodId) (below : List Frame) (meth : Method) (c : Code) (hr : meth.sig.returnType = (Option.some Jvm.ClassFile.FieldType.boolean)) (hnm : meth.name = y_Sc_isBelowTooLarge.name) : ∀ (k_5 : Nat) (v4_5 : Int32) (v3_5 : Int32), F_Sc_isBelowTooLarge_5 p2 size_a_text_h0 n_a_bytes_a_text_h0 b_a_bytes_a_text_h0  k_5 v4_5 v3_5 = some ret → J (KxOf p l e { frames := 4, cells := 0, slots := 0, locals := 85 } s m [.ref h0, .int p1, .int p2].toArray below meth c D (gT cI cB cJ cS) [(h0, .inr (4, [.ref a_text_h0, .int next_h0, .int kind_h0, .int start_h0, .int width_h0])), (a_text_h0, .inr (3, [.ref a_bytes_a_text_h0, .int size_a_text_h0])), (a_bytes_a_text_h0, .inl (cB, n_a_bytes_a_text_h0, .inl b_a_bytes_a_text_h0))] (fun v w => v = some (.int ret) ∧ zb ret ∧ w = [(h0, .inr (4, [.ref a_text_h0, .int next_h0, .int kind_h0, .int start_h0, .int width_h0])), (a_text_h0, .inr (3, [.ref a_bytes_a_text_h0, .int size_a_text_h0])), (a_bytes_a_text_h0, .inl (cB, n_a_bytes_a_text_h0, .inl b_a_bytes_a_text_h0))]) 0 0) prog_8_method_20_code 6 R_Sc 5 [(4, .int v4_5), (3, .int v3_5), (0, .ref h0), (1, .int p1), (2, .int p2)] [] [(h0, .inr (4, [.ref a_text_h0, .int next_h0, .int kind_h0, .int start_h0, .int width_h0])), (a_text_h0, .inr (3, [.ref a_bytes_a_text_h0, .int size_a_text_h0])), (a_bytes_a_text_h0, .inl (cB, n_a_bytes_a_text_h0, .inl b_a_bytes_a_text_h0))] 0 0 := by
  intro k_5
  induction k_5 with
  | zero => intro v4_5 v3_5 h; rw [F_Sc_isBelowTooLarge_5] at h; cases h
  | succ k_5 ih_5 =>
    intro v4_5 v3_5 h
    rw [F_Sc_isBelowTooLarge_5] at h
    have L_49 : ∀ (v3_49 : Int32) (t0_49 : Int32), F_Sc_isBelowTooLarge_49 v4_5 (F_Sc_isBelowTooLarge_5 p2 size_a_text_h0 n_a_bytes_a_text_h0 b_a_bytes_a_text_h0  k_5)  v3_49 t0_49 = some ret → J (KxOf p l e { frames := 4, cells := 0, slots := 0, locals := 85 } s m [.ref h0, .int p1, .int p2].toArray below meth c D (gT cI cB cJ cS) [(h0, .inr (4, [.ref a_text_h0, .int next_h0, .int kind_h0, .int start_h0, .int width_h0])), (a_text_h0, .inr (3, [.ref a_bytes_a_text_h0, .int size_a_text_h0])), (a_bytes_a_text_h0, .inl (cB, n_a_bytes_a_text_h0, .inl b_a_bytes_a_text_h0))] (fun v w => v = some (.int ret) ∧ zb ret ∧ w = [(h0, .inr (4, [.ref a_text_h0, .int next_h0, .int kind_h0, .int start_h0, .int width_h0])), (a_text_h0, .inr (3, [.ref a_bytes_a_text_h0, .int size_a_text_h0])), (a_bytes_a_text_h0, .inl (cB, n_a_bytes_a_text_h0, .inl b_a_bytes_a_text_h0))]) 0 0) prog_8_method_20_code 6 R_Sc 49 [(4, .int v4_5), (3, .int v3_49), (0, .ref h0), (1, .int p1), (2, .int p2)] [.int t0_49] [(h0, .inr (4, [.ref a_text_h0, .int next_h0, .int kind_h0, .int start_h0, .int width_h0])), (a_text_h0, .inr (3, [.ref a_bytes_a_text_h0, .int size_a_text_h0])), (a_bytes_a_text_h0, .inl (cB, n_a_bytes_a_text_h0, .inl b_a_bytes_a_text_h0))] 0 0 := by
      clear h
      intro v3_49 t0_49 h
      unfold F_Sc_isBelowTooLarge_49 at h
      refine j_istore (lv' := [(5, .int t0_49), (4, .int v4_5), (3, .int v3_49), (0, .ref h0), (1, .int p1), (2, .int p2)]) d_Sc_isBelowTooLarge_49 (by decide) rfl ?_
      refine j_iload d_Sc_isBelowTooLarge_51 0 rfl ?_
      refine j_ldcS (i := 14) rfl d_Sc_isBelowTooLarge_53 ?_
      refine j_iload d_Sc_isBelowTooLarge_55 1 rfl ?_
      replace h := inb_s h
      obtain ⟨i1, h⟩ := h
      refine j_chr (i := 14) (by decide) i1 k_Sc_102 ⟨Nat.le_of_ble_eq_true rfl, Nat.le_of_ble_eq_true rfl⟩ (Nat.le_of_ble_eq_true rfl) ⟨Nat.le_of_ble_eq_true rfl, Nat.le_of_ble_eq_true rfl⟩ d_Sc_isBelowTooLarge_57 ?_
      refine j_icmp_eq (tgt := 81) d_Sc_isBelowTooLarge_60 (by decide) (fun c2 => ?_) (fun c2 => ?_)
      · replace h := it_t c2 h
        refine j_iinc (v := v3_49 + 1) (lv' := [(3, .int (v3_49 + 1)), (5, .int t0_49), (4, .int v4_5), (0, .ref h0), (1, .int p1), (2, .int p2)]) d_Sc_isBelowTooLarge_81 2 rfl rfl (by decide) rfl ?_
        refine j_iinc (v := v4_5 + 1) (lv' := [(4, .int (v4_5 + 1)), (3, .int (v3_49 + 1)), (5, .int t0_49), (0, .ref h0), (1, .int p1), (2, .int p2)]) d_Sc_isBelowTooLarge_84 2 rfl rfl (by decide) rfl ?_
        refine j_goto (tgt := 5) d_Sc_isBelowTooLarge_87 (by decide) ?_
        refine j_sub (w := [(h0, .inr (4, [.ref a_text_h0, .int next_h0, .int kind_h0, .int start_h0, .int width_h0])), (a_text_h0, .inr (3, [.ref a_bytes_a_text_h0, .int size_a_text_h0])), (a_bytes_a_text_h0, .inl (cB, n_a_bytes_a_text_h0, .inl b_a_bytes_a_text_h0))]) (lv' := [(4, .int (v4_5 + 1)), (3, .int (v3_49 + 1)), (0, .ref h0), (1, .int p1), (2, .int p2)]) [0, 1, 2] rfl (by decide) [0, 1, 3, 4, 5] rfl ?_
        exact ih_5 (v4_5 + 1) (v3_49 + 1) h
      · replace h := it_f c2 h
        refine j_iload d_Sc_isBelowTooLarge_63 0 rfl ?_
        refine j_ldcS (i := 14) rfl d_Sc_isBelowTooLarge_65 ?_
        refine j_iload d_Sc_isBelowTooLarge_67 1 rfl ?_
        replace h := inb_s h
        obtain ⟨i3, h⟩ := h
        refine j_chr (i := 14) (by decide) i3 k_Sc_102 ⟨Nat.le_of_ble_eq_true rfl, Nat.le_of_ble_eq_true rfl⟩ (Nat.le_of_ble_eq_true rfl) ⟨Nat.le_of_ble_eq_true rfl, Nat.le_of_ble_eq_true rfl⟩ d_Sc_isBelowTooLarge_69 ?_
        refine j_icmp_ge (tgt := 79) d_Sc_isBelowTooLarge_72 (by decide) (fun c4 => ?_) (fun c4 => ?_)
        · replace h := it_t c4 h
          refine j_iconst (v := 0) d_Sc_isBelowTooLarge_79 (by decide) ?_
          replace h := Option.some.inj h
          subst h
          exact j_zret (w := [(h0, .inr (4, [.ref a_text_h0, .int next_h0, .int kind_h0, .int start_h0, .int width_h0])), (a_text_h0, .inr (3, [.ref a_bytes_a_text_h0, .int size_a_text_h0])), (a_bytes_a_text_h0, .inl (cB, n_a_bytes_a_text_h0, .inl b_a_bytes_a_text_h0))]) hr (zb_n zb0) d_Sc_isBelowTooLarge_80 [0, 1, 2] rfl (by decide) ⟨rfl, zb0, rfl⟩
        · replace h := it_f c4 h
          refine j_iconst (v := 1) d_Sc_isBelowTooLarge_75 (by decide) ?_
          refine j_goto (tgt := 80) d_Sc_isBelowTooLarge_76 (by decide) ?_
          replace h := Option.some.inj h
          subst h
          exact j_zret (w := [(h0, .inr (4, [.ref a_text_h0, .int next_h0, .int kind_h0, .int start_h0, .int width_h0])), (a_text_h0, .inr (3, [.ref a_bytes_a_text_h0, .int size_a_text_h0])), (a_bytes_a_text_h0, .inl (cB, n_a_bytes_a_text_h0, .inl b_a_bytes_a_text_h0))]) hr (zb_n zb1) d_Sc_isBelowTooLarge_80 [0, 1, 2] rfl (by decide) ⟨rfl, zb1, rfl⟩
    have L_31 : ∀ (v3_31 : Int32), F_Sc_isBelowTooLarge_31 p2 size_a_text_h0 n_a_bytes_a_text_h0 b_a_bytes_a_text_h0 v4_5 (F_Sc_isBelowTooLarge_5 p2 size_a_text_h0 n_a_bytes_a_text_h0 b_a_bytes_a_text_h0  k_5)  v3_31 = some ret → J (KxOf p l e { frames := 4, cells := 0, slots := 0, locals := 85 } s m [.ref h0, .int p1, .int p2].toArray below meth c D (gT cI cB cJ cS) [(h0, .inr (4, [.ref a_text_h0, .int next_h0, .int kind_h0, .int start_h0, .int width_h0])), (a_text_h0, .inr (3, [.ref a_bytes_a_text_h0, .int size_a_text_h0])), (a_bytes_a_text_h0, .inl (cB, n_a_bytes_a_text_h0, .inl b_a_bytes_a_text_h0))] (fun v w => v = some (.int ret) ∧ zb ret ∧ w = [(h0, .inr (4, [.ref a_text_h0, .int next_h0, .int kind_h0, .int start_h0, .int width_h0])), (a_text_h0, .inr (3, [.ref a_bytes_a_text_h0, .int size_a_text_h0])), (a_bytes_a_text_h0, .inl (cB, n_a_bytes_a_text_h0, .inl b_a_bytes_a_text_h0))]) 0 0) prog_8_method_20_code 6 R_Sc 31 [(4, .int v4_5), (3, .int v3_31), (0, .ref h0), (1, .int p1), (2, .int p2)] [] [(h0, .inr (4, [.ref a_text_h0, .int next_h0, .int kind_h0, .int start_h0, .int width_h0])), (a_text_h0, .inr (3, [.ref a_bytes_a_text_h0, .int size_a_text_h0])), (a_bytes_a_text_h0, .inl (cB, n_a_bytes_a_text_h0, .inl b_a_bytes_a_text_h0))] 0 0 := by
      clear h
      intro v3_31 h
      unfold F_Sc_isBelowTooLarge_31 at h
      refine j_iload_n d_Sc_isBelowTooLarge_31 rfl 1 rfl ?_
      refine j_iload_n d_Sc_isBelowTooLarge_32 rfl 4 rfl ?_
      refine j_icmp_ge (tgt := 47) d_Sc_isBelowTooLarge_33 (by decide) (fun c5 => ?_) (fun c5 => ?_)
      · replace h := it_t c5 h
        refine j_bipush (v := 48) d_Sc_isBelowTooLarge_47 (by decide) ?_
        refine j_sub (w := [(h0, .inr (4, [.ref a_text_h0, .int next_h0, .int kind_h0, .int start_h0, .int width_h0])), (a_text_h0, .inr (3, [.ref a_bytes_a_text_h0, .int size_a_text_h0])), (a_bytes_a_text_h0, .inl (cB, n_a_bytes_a_text_h0, .inl b_a_bytes_a_text_h0))]) (lv' := [(4, .int v4_5), (3, .int v3_31), (0, .ref h0), (1, .int p1), (2, .int p2)]) [0, 1, 2] rfl (by decide) [0, 1, 2, 3, 4] rfl ?_
        exact L_49 v3_31 48 h
      · replace h := it_f c5 h
        refine j_aload_n d_Sc_isBelowTooLarge_36 rfl 2 rfl ?_
        refine j_get ig_Sc rfl 0 rfl 0 (by decide) rfl m_57 rfl d_Sc_isBelowTooLarge_37 ?_
        refine j_iload_n d_Sc_isBelowTooLarge_40 rfl 1 rfl ?_
        replace h := bd_s h
        obtain ⟨r6, k7, h⟩ := h
        refine j_callV (n := 1) (As := [.int v3_31]) (rest := []) (wr := [(h0, .inr (4, [.ref a_text_h0, .int next_h0, .int kind_h0, .int start_h0, .int width_h0]))]) (c_Rw_at l D cI cB cJ cS a_text_h0 a_bytes_a_text_h0 v3_31 size_a_text_h0 n_a_bytes_a_text_h0 b_a_bytes_a_text_h0  r6 k7) k_Sc_34 (by decide) ⟨Nat.le_of_ble_eq_true rfl, Nat.le_of_ble_eq_true rfl⟩ rfl 0 rfl [1, 2] [0] rfl (by decide) rfl (by decide) (by decide) rfl rfl (Nat.le_of_ble_eq_true rfl) d_Sc_isBelowTooLarge_41 ⟨Nat.le_of_ble_eq_true rfl, Nat.le_of_ble_eq_true rfl⟩ (fun v w hq => ?_)
        obtain ⟨rfl, rfl⟩ := hq
        refine j_norm (pc' := 44) (st' := [.int r6]) (ws' := [(h0, .inr (4, [.ref a_text_h0, .int next_h0, .int kind_h0, .int start_h0, .int width_h0])), (a_text_h0, .inr (3, [.ref a_bytes_a_text_h0, .int size_a_text_h0])), (a_bytes_a_text_h0, .inl (cB, n_a_bytes_a_text_h0, .inl b_a_bytes_a_text_h0))]) (cl' := 0) (sl' := 0) rfl rfl rfl rfl rfl rfl ?_
        refine j_goto (tgt := 49) d_Sc_isBelowTooLarge_44 (by decide) ?_
        refine j_sub (w := [(h0, .inr (4, [.ref a_text_h0, .int next_h0, .int kind_h0, .int start_h0, .int width_h0])), (a_text_h0, .inr (3, [.ref a_bytes_a_text_h0, .int size_a_text_h0])), (a_bytes_a_text_h0, .inl (cB, n_a_bytes_a_text_h0, .inl b_a_bytes_a_text_h0))]) (lv' := [(4, .int v4_5), (3, .int v3_31), (0, .ref h0), (1, .int p1), (2, .int p2)]) [0, 1, 2] rfl (by decide) [0, 1, 2, 3, 4] rfl ?_
        exact L_49 v3_31 r6 h
    refine j_iload d_Sc_isBelowTooLarge_5 0 rfl ?_
    refine j_ldcS (i := 14) rfl d_Sc_isBelowTooLarge_7 ?_
    refine j_len (i := 14) (by decide) k_Sc_97 ⟨Nat.le_of_ble_eq_true rfl, Nat.le_of_ble_eq_true rfl⟩ (Nat.le_of_ble_eq_true rfl) ⟨Nat.le_of_ble_eq_true rfl, Nat.le_of_ble_eq_true rfl⟩ d_Sc_isBelowTooLarge_9 ?_
    refine j_icmp_ge (tgt := 90) d_Sc_isBelowTooLarge_12 (by decide) (fun c9 => ?_) (fun c9 => ?_)
    · replace h := it_t c9 h
      refine j_iconst (v := 0) d_Sc_isBelowTooLarge_90 (by decide) ?_
      replace h := Option.some.inj h
      subst h
      exact j_zret (w := [(h0, .inr (4, [.ref a_text_h0, .int next_h0, .int kind_h0, .int start_h0, .int width_h0])), (a_text_h0, .inr (3, [.ref a_bytes_a_text_h0, .int size_a_text_h0])), (a_bytes_a_text_h0, .inl (cB, n_a_bytes_a_text_h0, .inl b_a_bytes_a_text_h0))]) hr (zb_n zb0) d_Sc_isBelowTooLarge_91 [0, 1, 2] rfl (by decide) ⟨rfl, zb0, rfl⟩
    · replace h := it_f c9 h
      refine j_aload_n d_Sc_isBelowTooLarge_15 rfl 2 rfl ?_
      refine j_get ig_Sc rfl 0 rfl 0 (by decide) rfl m_57 rfl d_Sc_isBelowTooLarge_16 ?_
      refine j_iload_n d_Sc_isBelowTooLarge_19 rfl 1 rfl ?_
      replace h := bd_s h
      obtain ⟨r10, k11, h⟩ := h
      refine j_callV (n := 1) (As := [.int v3_5]) (rest := []) (wr := [(h0, .inr (4, [.ref a_text_h0, .int next_h0, .int kind_h0, .int start_h0, .int width_h0]))]) (c_Rw_at l D cI cB cJ cS a_text_h0 a_bytes_a_text_h0 v3_5 size_a_text_h0 n_a_bytes_a_text_h0 b_a_bytes_a_text_h0  r10 k11) k_Sc_34 (by decide) ⟨Nat.le_of_ble_eq_true rfl, Nat.le_of_ble_eq_true rfl⟩ rfl 0 rfl [1, 2] [0] rfl (by decide) rfl (by decide) (by decide) rfl rfl (Nat.le_of_ble_eq_true rfl) d_Sc_isBelowTooLarge_20 ⟨Nat.le_of_ble_eq_true rfl, Nat.le_of_ble_eq_true rfl⟩ (fun v w hq => ?_)
      obtain ⟨rfl, rfl⟩ := hq
      refine j_norm (pc' := 23) (st' := [.int r10]) (ws' := [(h0, .inr (4, [.ref a_text_h0, .int next_h0, .int kind_h0, .int start_h0, .int width_h0])), (a_text_h0, .inr (3, [.ref a_bytes_a_text_h0, .int size_a_text_h0])), (a_bytes_a_text_h0, .inl (cB, n_a_bytes_a_text_h0, .inl b_a_bytes_a_text_h0))]) (cl' := 0) (sl' := 0) rfl rfl rfl rfl rfl rfl ?_
      refine j_bipush (v := 46) d_Sc_isBelowTooLarge_23 (by decide) ?_
      refine j_icmp_ne (tgt := 31) d_Sc_isBelowTooLarge_25 (by decide) (fun c12 => ?_) (fun c12 => ?_)
      · replace h := it_f c12 h
        refine j_sub (w := [(h0, .inr (4, [.ref a_text_h0, .int next_h0, .int kind_h0, .int start_h0, .int width_h0])), (a_text_h0, .inr (3, [.ref a_bytes_a_text_h0, .int size_a_text_h0])), (a_bytes_a_text_h0, .inl (cB, n_a_bytes_a_text_h0, .inl b_a_bytes_a_text_h0))]) (lv' := [(4, .int v4_5), (3, .int v3_5), (0, .ref h0), (1, .int p1), (2, .int p2)]) [0, 1, 2] rfl (by decide) [0, 1, 2, 3, 4] rfl ?_
        exact L_31 v3_5 h
      · replace h := it_t c12 h
        refine j_iinc (v := v3_5 + 1) (lv' := [(3, .int (v3_5 + 1)), (4, .int v4_5), (0, .ref h0), (1, .int p1), (2, .int p2)]) d_Sc_isBelowTooLarge_28 1 rfl rfl (by decide) rfl ?_
        refine j_sub (w := [(h0, .inr (4, [.ref a_text_h0, .int next_h0, .int kind_h0, .int start_h0, .int width_h0])), (a_text_h0, .inr (3, [.ref a_bytes_a_text_h0, .int size_a_text_h0])), (a_bytes_a_text_h0, .inl (cB, n_a_bytes_a_text_h0, .inl b_a_bytes_a_text_h0))]) (lv' := [(4, .int v4_5), (3, .int (v3_5 + 1)), (0, .ref h0), (1, .int p1), (2, .int p2)]) [0, 1, 2] rfl (by decide) [1, 0, 2, 3, 4] rfl ?_
        exact L_31 (v3_5 + 1) h
set_option maxHeartbeats 4000000 in
set_option maxRecDepth 100000 in
theorem c_Sc_isBelowTooLarge (l : Launch) (D : va_G) (cI cB cJ cS : ClassId) (h0 : Nat) (a_text_h0 : Nat) (a_bytes_a_text_h0 : Nat) (p1 : Int32) (p2 : Int32) (next_h0 : Int32) (kind_h0 : Int32) (start_h0 : Int32) (width_h0 : Int32) (size_a_text_h0 : Int32) (n_a_bytes_a_text_h0 : Nat) (b_a_bytes_a_text_h0 : Nat → Int32) (ret : Int32) (h : F_Sc_isBelowTooLarge p1 p2 next_h0 kind_h0 start_h0 width_h0 size_a_text_h0 n_a_bytes_a_text_h0 b_a_bytes_a_text_h0 = some ret) : Ct l D (gT cI cB cJ cS) y_Sc_isBelowTooLarge prog_8_method_20_code 6 (Option.some Jvm.ClassFile.FieldType.boolean) 4 85 0 0 [.ref h0, .int p1, .int p2] [(h0, .inr (4, [.ref a_text_h0, .int next_h0, .int kind_h0, .int start_h0, .int width_h0])), (a_text_h0, .inr (3, [.ref a_bytes_a_text_h0, .int size_a_text_h0])), (a_bytes_a_text_h0, .inl (cB, n_a_bytes_a_text_h0, .inl b_a_bytes_a_text_h0))] (fun v w => v = some (.int ret) ∧ zb ret ∧ w = [(h0, .inr (4, [.ref a_text_h0, .int next_h0, .int kind_h0, .int start_h0, .int width_h0])), (a_text_h0, .inr (3, [.ref a_bytes_a_text_h0, .int size_a_text_h0])), (a_bytes_a_text_h0, .inl (cB, n_a_bytes_a_text_h0, .inl b_a_bytes_a_text_h0))]) := by
  refine Ct.mk (by decide) (Nat.le_of_ble_eq_true rfl) ?_
  intro p e s m below meth c hr hnm
  refine j_norm (pc' := 0) (lv' := [(0, .ref h0), (1, .int p1), (2, .int p2)]) (st' := []) (ws' := [(h0, .inr (4, [.ref a_text_h0, .int next_h0, .int kind_h0, .int start_h0, .int width_h0])), (a_text_h0, .inr (3, [.ref a_bytes_a_text_h0, .int size_a_text_h0])), (a_bytes_a_text_h0, .inl (cB, n_a_bytes_a_text_h0, .inl b_a_bytes_a_text_h0))]) (cl' := 0) (sl' := 0) rfl rfl rfl rfl rfl rfl ?_
  unfold F_Sc_isBelowTooLarge at h
  refine j_iload_n d_Sc_isBelowTooLarge_0 rfl 1 rfl ?_
  refine j_istore_n (lv' := [(3, .int p1), (0, .ref h0), (1, .int p1), (2, .int p2)]) d_Sc_isBelowTooLarge_1 rfl (by decide) rfl ?_
  refine j_iconst (v := 0) d_Sc_isBelowTooLarge_2 (by decide) ?_
  refine j_istore (lv' := [(4, .int 0), (3, .int p1), (0, .ref h0), (1, .int p1), (2, .int p2)]) d_Sc_isBelowTooLarge_3 (by decide) rfl ?_
  refine j_sub (w := [(h0, .inr (4, [.ref a_text_h0, .int next_h0, .int kind_h0, .int start_h0, .int width_h0])), (a_text_h0, .inr (3, [.ref a_bytes_a_text_h0, .int size_a_text_h0])), (a_bytes_a_text_h0, .inl (cB, n_a_bytes_a_text_h0, .inl b_a_bytes_a_text_h0))]) (lv' := [(4, .int 0), (3, .int p1), (0, .ref h0), (1, .int p1), (2, .int p2)]) [0, 1, 2] rfl (by decide) [0, 1, 2, 3, 4] rfl ?_
  exact L_Sc_isBelowTooLarge_5 l D cI cB cJ cS h0 a_text_h0 a_bytes_a_text_h0 p1 p2 next_h0 kind_h0 start_h0 width_h0 size_a_text_h0 n_a_bytes_a_text_h0 b_a_bytes_a_text_h0 ret p e s m below meth c hr hnm FU 0 p1 h
noncomputable def F_Wr_init : Option ((Unit) × Nat × Nat) :=
  al 1 2 (bw F_Nd_init fun _ =>
  al 1 2 (bw F_Rw_init fun _ =>
  al 1 2 (bw F_Rw_init fun _ =>
  (some ((), 0, 0)))))
theorem d_Wr_init_0 : decode prog_10_method_1_code 0 = .ok (.aload_n 0, 1) := by decide +kernel
theorem d_Wr_init_1 : decode prog_10_method_1_code 1 = .ok (.invokespecial 1, 3) := by decide +kernel
theorem d_Wr_init_4 : decode prog_10_method_1_code 4 = .ok (.aload_n 0, 1) := by decide +kernel
theorem d_Wr_init_5 : decode prog_10_method_1_code 5 = .ok (.new 7, 3) := by decide +kernel
theorem d_Wr_init_8 : decode prog_10_method_1_code 8 = .ok (.dup, 1) := by decide +kernel
theorem d_Wr_init_9 : decode prog_10_method_1_code 9 = .ok (.invokespecial 9, 3) := by decide +kernel
theorem d_Wr_init_12 : decode prog_10_method_1_code 12 = .ok (.putfield 10, 3) := by decide +kernel
theorem d_Wr_init_15 : decode prog_10_method_1_code 15 = .ok (.aload_n 0, 1) := by decide +kernel
theorem d_Wr_init_16 : decode prog_10_method_1_code 16 = .ok (.new 16, 3) := by decide +kernel
theorem d_Wr_init_19 : decode prog_10_method_1_code 19 = .ok (.dup, 1) := by decide +kernel
theorem d_Wr_init_20 : decode prog_10_method_1_code 20 = .ok (.invokespecial 18, 3) := by decide +kernel
theorem d_Wr_init_23 : decode prog_10_method_1_code 23 = .ok (.putfield 19, 3) := by decide +kernel
theorem d_Wr_init_26 : decode prog_10_method_1_code 26 = .ok (.aload_n 0, 1) := by decide +kernel
theorem d_Wr_init_27 : decode prog_10_method_1_code 27 = .ok (.new 16, 3) := by decide +kernel
theorem d_Wr_init_30 : decode prog_10_method_1_code 30 = .ok (.dup, 1) := by decide +kernel
theorem d_Wr_init_31 : decode prog_10_method_1_code 31 = .ok (.invokespecial 18, 3) := by decide +kernel
theorem d_Wr_init_34 : decode prog_10_method_1_code 34 = .ok (.putfield 23, 3) := by decide +kernel
theorem d_Wr_init_37 : decode prog_10_method_1_code 37 = .ok (.aload_n 0, 1) := by decide +kernel
theorem d_Wr_init_38 : decode prog_10_method_1_code 38 = .ok (.iconst 0, 1) := by decide +kernel
theorem d_Wr_init_39 : decode prog_10_method_1_code 39 = .ok (.putfield 26, 3) := by decide +kernel
theorem d_Wr_init_42 : decode prog_10_method_1_code 42 = .ok (.aload_n 0, 1) := by decide +kernel
theorem d_Wr_init_43 : decode prog_10_method_1_code 43 = .ok (.iconst 1, 1) := by decide +kernel
theorem d_Wr_init_44 : decode prog_10_method_1_code 44 = .ok (.putfield 30, 3) := by decide +kernel
theorem d_Wr_init_47 : decode prog_10_method_1_code 47 = .ok (.return_, 1) := by decide +kernel
set_option maxHeartbeats 4000000 in
set_option maxRecDepth 100000 in
theorem c_Wr_init (l : Launch) (D : va_G) (cI cB cJ cS : ClassId) (h0 : Nat) (mc ms : Nat) (h : F_Wr_init  = some ((), mc, ms)) : Ct l D (gT cI cB cJ cS) y_Wr_init prog_10_method_1_code 1 (Option.none : Option Jvm.ClassFile.FieldType) 2 40 mc ms [.ref h0] [(h0, .inr (6, [.null, .null, .null, .int 0, .int 0]))] (fun v w => ∃ nq_0_0 : Nat, ∃ nq_0_1 : Nat, ∃ nq_0_2 : Nat, ∃ nq_nq_0_0_0 : Nat, ∃ nq_nq_0_1_0 : Nat, ∃ nq_nq_0_2_0 : Nat, v = none ∧ w = [(h0, .inr (6, [.ref nq_0_0, .ref nq_0_1, .ref nq_0_2, .int 0, .int 1])), (nq_0_0, .inr (1, [.ref nq_nq_0_0_0, .int 0])), (nq_0_1, .inr (3, [.ref nq_nq_0_1_0, .int 0])), (nq_0_2, .inr (3, [.ref nq_nq_0_2_0, .int 0])), (nq_nq_0_0_0, .inl (cI, 224, .inl (fun _ => 0))), (nq_nq_0_1_0, .inl (cB, 128, .inl (fun _ => 0))), (nq_nq_0_2_0, .inl (cB, 128, .inl (fun _ => 0)))]) := by
  refine Ct.mk (by decide) (Nat.le_of_ble_eq_true rfl) ?_
  intro p e s m below meth c hr hnm
  refine j_norm (pc' := 0) (lv' := [(0, .ref h0)]) (st' := []) (ws' := [(h0, .inr (6, [.null, .null, .null, .int 0, .int 0]))]) (cl' := 0) (sl' := 0) rfl rfl rfl rfl rfl rfl ?_
  unfold F_Wr_init at h
  have hC : 0 + mc ≤ mc := by omega
  have hS : 0 + ms ≤ ms := by omega
  refine j_aload_n d_Wr_init_0 rfl 0 rfl ?_
  refine j_oinit m_214 m_29 mc_obj (Nat.le_of_ble_eq_true rfl) (Nat.le_of_ble_eq_true rfl) d_Wr_init_1 ?_
  refine j_aload_n d_Wr_init_4 rfl 0 rfl ?_
  replace h := al_s h
  obtain ⟨C2, S3, h, e1, e2⟩ := h
  replace hC : 0 + 1 + C2 ≤ mc := by omega
  replace hS : 0 + 2 + S3 ≤ ms := by omega
  clear e1 e2
  refine j_new (ci := 1) (fs := [.null, .int 0]) ig_Nd tk_Nd m_215 m_74 m_5 rfl df_Nd (show 0 + 1 ≤ mc by omega) (show 0 + 2 ≤ ms by omega) d_Wr_init_5 (fun q1 => ?_)
  refine j_norm (pc' := 8) (st' := [.ref q1, .ref h0]) (ws' := [(h0, .inr (6, [.null, .null, .null, .int 0, .int 0])), (q1, .inr (1, [.null, .int 0]))]) (cl' := 0 + 1) (sl' := 0 + 2) rfl rfl rfl rfl rfl rfl ?_
  refine j_dup rfl d_Wr_init_8 ?_
  replace h := bw_s h
  obtain ⟨_, C5, S6, C7, S8, k9, h, e1, e2⟩ := h
  replace hC : 0 + 1 + C5 + C7 ≤ mc := by omega
  replace hS : 0 + 2 + S6 + S8 ≤ ms := by omega
  clear e1 e2
  refine j_callIN (n := 0) (As := []) (rest := [.ref q1, .ref h0]) (wr := [(h0, .inr (6, [.null, .null, .null, .int 0, .int 0]))]) (c_Nd_init l D cI cB cJ cS q1  C5 S6 k9) mn_7 m_76 m_5 mc_Nd_init rfl (by decide) ⟨Nat.le_of_ble_eq_true rfl, Nat.le_of_ble_eq_true rfl⟩ [1] [0] rfl (by decide) rfl (by decide) (by decide) rfl rfl (Nat.le_of_ble_eq_true rfl) d_Wr_init_9 ⟨show 0 + 1 + C5 ≤ mc by omega, show 0 + 2 + S6 ≤ ms by omega⟩ (fun v w hq => ?_)
  obtain ⟨q4, rfl, rfl⟩ := hq
  refine j_norm (pc' := 12) (st' := [.ref q1, .ref h0]) (ws' := [(h0, .inr (6, [.null, .null, .null, .int 0, .int 0])), (q1, .inr (1, [.ref q4, .int 0])), (q4, .inl (cI, 224, .inl (fun _ => 0)))]) (cl' := 0 + 1 + C5) (sl' := 0 + 2 + S6) rfl rfl rfl rfl rfl rfl ?_
  refine j_put (ws' := [(h0, .inr (6, [.ref q1, .null, .null, .int 0, .int 0])), (q1, .inr (1, [.ref q4, .int 0])), (q4, .inl (cI, 224, .inl (fun _ => 0)))]) ig_Wr tk_Wr nm_Wr rfl 0 rfl 0 (by decide) rfl m_219 rfl (tk_Wr 0 (by decide)) rfl rfl (Nat.le_of_ble_eq_true rfl) d_Wr_init_12 rfl ?_
  refine j_aload_n d_Wr_init_15 rfl 0 rfl ?_
  replace h := al_s h
  obtain ⟨C11, S12, h, e1, e2⟩ := h
  replace hC : 0 + 1 + C5 + 1 + C11 ≤ mc := by omega
  replace hS : 0 + 2 + S6 + 2 + S12 ≤ ms := by omega
  clear e1 e2
  refine j_new (ci := 3) (fs := [.null, .int 0]) ig_Rw tk_Rw m_217 m_44 m_4 rfl df_Rw (show 0 + 1 + C5 + 1 ≤ mc by omega) (show 0 + 2 + S6 + 2 ≤ ms by omega) d_Wr_init_16 (fun q10 => ?_)
  refine j_norm (pc' := 19) (st' := [.ref q10, .ref h0]) (ws' := [(h0, .inr (6, [.ref q1, .null, .null, .int 0, .int 0])), (q1, .inr (1, [.ref q4, .int 0])), (q4, .inl (cI, 224, .inl (fun _ => 0))), (q10, .inr (3, [.null, .int 0]))]) (cl' := 0 + 1 + C5 + 1) (sl' := 0 + 2 + S6 + 2) rfl rfl rfl rfl rfl rfl ?_
  refine j_dup rfl d_Wr_init_19 ?_
  replace h := bw_s h
  obtain ⟨_, C14, S15, C16, S17, k18, h, e1, e2⟩ := h
  replace hC : 0 + 1 + C5 + 1 + C14 + C16 ≤ mc := by omega
  replace hS : 0 + 2 + S6 + 2 + S15 + S17 ≤ ms := by omega
  clear e1 e2
  refine j_callIN (n := 0) (As := []) (rest := [.ref q10, .ref h0]) (wr := [(h0, .inr (6, [.ref q1, .null, .null, .int 0, .int 0])), (q1, .inr (1, [.ref q4, .int 0])), (q4, .inl (cI, 224, .inl (fun _ => 0)))]) (c_Rw_init l D cI cB cJ cS q10  C14 S15 k18) mn_8 m_46 m_4 mc_Rw_init rfl (by decide) ⟨Nat.le_of_ble_eq_true rfl, Nat.le_of_ble_eq_true rfl⟩ [3] [0, 1, 2] rfl (by decide) rfl (by decide) (by decide) rfl rfl (Nat.le_of_ble_eq_true rfl) d_Wr_init_20 ⟨show 0 + 1 + C5 + 1 + C14 ≤ mc by omega, show 0 + 2 + S6 + 2 + S15 ≤ ms by omega⟩ (fun v w hq => ?_)
  obtain ⟨q13, rfl, rfl⟩ := hq
  refine j_norm (pc' := 23) (st' := [.ref q10, .ref h0]) (ws' := [(h0, .inr (6, [.ref q1, .null, .null, .int 0, .int 0])), (q1, .inr (1, [.ref q4, .int 0])), (q4, .inl (cI, 224, .inl (fun _ => 0))), (q10, .inr (3, [.ref q13, .int 0])), (q13, .inl (cB, 128, .inl (fun _ => 0)))]) (cl' := 0 + 1 + C5 + 1 + C14) (sl' := 0 + 2 + S6 + 2 + S15) rfl rfl rfl rfl rfl rfl ?_
  refine j_put (ws' := [(h0, .inr (6, [.ref q1, .ref q10, .null, .int 0, .int 0])), (q1, .inr (1, [.ref q4, .int 0])), (q4, .inl (cI, 224, .inl (fun _ => 0))), (q10, .inr (3, [.ref q13, .int 0])), (q13, .inl (cB, 128, .inl (fun _ => 0)))]) ig_Wr tk_Wr nm_Wr rfl 0 rfl 1 (by decide) rfl m_220 rfl (tk_Wr 1 (by decide)) rfl rfl (Nat.le_of_ble_eq_true rfl) d_Wr_init_23 rfl ?_
  refine j_aload_n d_Wr_init_26 rfl 0 rfl ?_
  replace h := al_s h
  obtain ⟨C20, S21, h, e1, e2⟩ := h
  replace hC : 0 + 1 + C5 + 1 + C14 + 1 + C20 ≤ mc := by omega
  replace hS : 0 + 2 + S6 + 2 + S15 + 2 + S21 ≤ ms := by omega
  clear e1 e2
  refine j_new (ci := 3) (fs := [.null, .int 0]) ig_Rw tk_Rw m_217 m_44 m_4 rfl df_Rw (show 0 + 1 + C5 + 1 + C14 + 1 ≤ mc by omega) (show 0 + 2 + S6 + 2 + S15 + 2 ≤ ms by omega) d_Wr_init_27 (fun q19 => ?_)
  refine j_norm (pc' := 30) (st' := [.ref q19, .ref h0]) (ws' := [(h0, .inr (6, [.ref q1, .ref q10, .null, .int 0, .int 0])), (q1, .inr (1, [.ref q4, .int 0])), (q4, .inl (cI, 224, .inl (fun _ => 0))), (q10, .inr (3, [.ref q13, .int 0])), (q13, .inl (cB, 128, .inl (fun _ => 0))), (q19, .inr (3, [.null, .int 0]))]) (cl' := 0 + 1 + C5 + 1 + C14 + 1) (sl' := 0 + 2 + S6 + 2 + S15 + 2) rfl rfl rfl rfl rfl rfl ?_
  refine j_dup rfl d_Wr_init_30 ?_
  replace h := bw_s h
  obtain ⟨_, C23, S24, C25, S26, k27, h, e1, e2⟩ := h
  replace hC : 0 + 1 + C5 + 1 + C14 + 1 + C23 + C25 ≤ mc := by omega
  replace hS : 0 + 2 + S6 + 2 + S15 + 2 + S24 + S26 ≤ ms := by omega
  clear e1 e2
  refine j_callIN (n := 0) (As := []) (rest := [.ref q19, .ref h0]) (wr := [(h0, .inr (6, [.ref q1, .ref q10, .null, .int 0, .int 0])), (q1, .inr (1, [.ref q4, .int 0])), (q4, .inl (cI, 224, .inl (fun _ => 0))), (q10, .inr (3, [.ref q13, .int 0])), (q13, .inl (cB, 128, .inl (fun _ => 0)))]) (c_Rw_init l D cI cB cJ cS q19  C23 S24 k27) mn_8 m_46 m_4 mc_Rw_init rfl (by decide) ⟨Nat.le_of_ble_eq_true rfl, Nat.le_of_ble_eq_true rfl⟩ [5] [0, 1, 2, 3, 4] rfl (by decide) rfl (by decide) (by decide) rfl rfl (Nat.le_of_ble_eq_true rfl) d_Wr_init_31 ⟨show 0 + 1 + C5 + 1 + C14 + 1 + C23 ≤ mc by omega, show 0 + 2 + S6 + 2 + S15 + 2 + S24 ≤ ms by omega⟩ (fun v w hq => ?_)
  obtain ⟨q22, rfl, rfl⟩ := hq
  refine j_norm (pc' := 34) (st' := [.ref q19, .ref h0]) (ws' := [(h0, .inr (6, [.ref q1, .ref q10, .null, .int 0, .int 0])), (q1, .inr (1, [.ref q4, .int 0])), (q4, .inl (cI, 224, .inl (fun _ => 0))), (q10, .inr (3, [.ref q13, .int 0])), (q13, .inl (cB, 128, .inl (fun _ => 0))), (q19, .inr (3, [.ref q22, .int 0])), (q22, .inl (cB, 128, .inl (fun _ => 0)))]) (cl' := 0 + 1 + C5 + 1 + C14 + 1 + C23) (sl' := 0 + 2 + S6 + 2 + S15 + 2 + S24) rfl rfl rfl rfl rfl rfl ?_
  refine j_put (ws' := [(h0, .inr (6, [.ref q1, .ref q10, .ref q19, .int 0, .int 0])), (q1, .inr (1, [.ref q4, .int 0])), (q4, .inl (cI, 224, .inl (fun _ => 0))), (q10, .inr (3, [.ref q13, .int 0])), (q13, .inl (cB, 128, .inl (fun _ => 0))), (q19, .inr (3, [.ref q22, .int 0])), (q22, .inl (cB, 128, .inl (fun _ => 0)))]) ig_Wr tk_Wr nm_Wr rfl 0 rfl 2 (by decide) rfl m_221 rfl (tk_Wr 2 (by decide)) rfl rfl (Nat.le_of_ble_eq_true rfl) d_Wr_init_34 rfl ?_
  refine j_aload_n d_Wr_init_37 rfl 0 rfl ?_
  refine j_iconst (v := 0) d_Wr_init_38 (by decide) ?_
  refine j_put (ws' := [(h0, .inr (6, [.ref q1, .ref q10, .ref q19, .int 0, .int 0])), (q1, .inr (1, [.ref q4, .int 0])), (q4, .inl (cI, 224, .inl (fun _ => 0))), (q10, .inr (3, [.ref q13, .int 0])), (q13, .inl (cB, 128, .inl (fun _ => 0))), (q19, .inr (3, [.ref q22, .int 0])), (q22, .inl (cB, 128, .inl (fun _ => 0)))]) ig_Wr tk_Wr nm_Wr rfl 0 rfl 3 (by decide) rfl m_222 rfl (tk_Wr 3 (by decide)) rfl rfl (Nat.le_of_ble_eq_true rfl) d_Wr_init_39 rfl ?_
  refine j_aload_n d_Wr_init_42 rfl 0 rfl ?_
  refine j_iconst (v := 1) d_Wr_init_43 (by decide) ?_
  refine j_put (ws' := [(h0, .inr (6, [.ref q1, .ref q10, .ref q19, .int 0, .int 1])), (q1, .inr (1, [.ref q4, .int 0])), (q4, .inl (cI, 224, .inl (fun _ => 0))), (q10, .inr (3, [.ref q13, .int 0])), (q13, .inl (cB, 128, .inl (fun _ => 0))), (q19, .inr (3, [.ref q22, .int 0])), (q22, .inl (cB, 128, .inl (fun _ => 0)))]) ig_Wr tk_Wr nm_Wr rfl 0 rfl 4 (by decide) rfl m_223 rfl (tk_Wr 4 (by decide)) (zb_n zb1) (zb_fit zb1) (Nat.le_of_ble_eq_true rfl) d_Wr_init_44 rfl ?_
  replace h := lf_s h
  obtain ⟨h, e1, e2⟩ := h
  refine j_widen (cl' := mc) (sl' := ms) (by omega) (by omega) ?_
  exact j_vret (w := [(h0, .inr (6, [.ref q1, .ref q10, .ref q19, .int 0, .int 1])), (q1, .inr (1, [.ref q4, .int 0])), (q10, .inr (3, [.ref q13, .int 0])), (q19, .inr (3, [.ref q22, .int 0])), (q4, .inl (cI, 224, .inl (fun _ => 0))), (q13, .inl (cB, 128, .inl (fun _ => 0))), (q22, .inl (cB, 128, .inl (fun _ => 0)))]) hr d_Wr_init_47 [0, 1, 3, 5, 2, 4, 6] rfl (by decide) ⟨q1, q10, q19, q4, q13, q22, rfl, rfl⟩
def F_Wr_kind (p1 : Int32) (indent_h0 : Int32) (fits_h0 : Int32) (count_a_tree_h0 : Int32) (n_a_cells_a_tree_h0 : Nat) (b_a_cells_a_tree_h0 : Nat → Int32) : Option (Int32) :=
  Option.bind (F_Nd_get p1 0 count_a_tree_h0 n_a_cells_a_tree_h0 b_a_cells_a_tree_h0) fun r1 =>
  (some r1)
theorem d_Wr_kind_0 : decode prog_10_method_3_code 0 = .ok (.aload_n 0, 1) := by decide +kernel
theorem d_Wr_kind_1 : decode prog_10_method_3_code 1 = .ok (.getfield 10, 3) := by decide +kernel
theorem d_Wr_kind_4 : decode prog_10_method_3_code 4 = .ok (.iload_n 1, 1) := by decide +kernel
theorem d_Wr_kind_5 : decode prog_10_method_3_code 5 = .ok (.iconst 0, 1) := by decide +kernel
theorem d_Wr_kind_6 : decode prog_10_method_3_code 6 = .ok (.invokevirtual 52, 3) := by decide +kernel
theorem d_Wr_kind_9 : decode prog_10_method_3_code 9 = .ok (.ireturn, 1) := by decide +kernel
set_option maxHeartbeats 4000000 in
set_option maxRecDepth 100000 in
theorem c_Wr_kind (l : Launch) (D : va_G) (cI cB cJ cS : ClassId) (h0 : Nat) (a_tree_h0 : Nat) (a_source_h0 : Nat) (a_form_h0 : Nat) (a_cells_a_tree_h0 : Nat) (p1 : Int32) (indent_h0 : Int32) (fits_h0 : Int32) (count_a_tree_h0 : Int32) (n_a_cells_a_tree_h0 : Nat) (b_a_cells_a_tree_h0 : Nat → Int32) (ret : Int32) (h : F_Wr_kind p1 indent_h0 fits_h0 count_a_tree_h0 n_a_cells_a_tree_h0 b_a_cells_a_tree_h0 = some ret) : Ct l D (gT cI cB cJ cS) y_Wr_kind prog_10_method_3_code 2 (Option.some Jvm.ClassFile.FieldType.int) 1 22 0 0 [.ref h0, .int p1] [(h0, .inr (6, [.ref a_tree_h0, .ref a_source_h0, .ref a_form_h0, .int indent_h0, .int fits_h0])), (a_tree_h0, .inr (1, [.ref a_cells_a_tree_h0, .int count_a_tree_h0])), (a_cells_a_tree_h0, .inl (cI, n_a_cells_a_tree_h0, .inl b_a_cells_a_tree_h0))] (fun v w => v = some (.int ret) ∧ w = [(h0, .inr (6, [.ref a_tree_h0, .ref a_source_h0, .ref a_form_h0, .int indent_h0, .int fits_h0])), (a_tree_h0, .inr (1, [.ref a_cells_a_tree_h0, .int count_a_tree_h0])), (a_cells_a_tree_h0, .inl (cI, n_a_cells_a_tree_h0, .inl b_a_cells_a_tree_h0))]) := by
  refine Ct.mk (by decide) (Nat.le_of_ble_eq_true rfl) ?_
  intro p e s m below meth c hr hnm
  refine j_norm (pc' := 0) (lv' := [(0, .ref h0), (1, .int p1)]) (st' := []) (ws' := [(h0, .inr (6, [.ref a_tree_h0, .ref a_source_h0, .ref a_form_h0, .int indent_h0, .int fits_h0])), (a_tree_h0, .inr (1, [.ref a_cells_a_tree_h0, .int count_a_tree_h0])), (a_cells_a_tree_h0, .inl (cI, n_a_cells_a_tree_h0, .inl b_a_cells_a_tree_h0))]) (cl' := 0) (sl' := 0) rfl rfl rfl rfl rfl rfl ?_
  unfold F_Wr_kind at h
  refine j_aload_n d_Wr_kind_0 rfl 0 rfl ?_
  refine j_get ig_Wr rfl 0 rfl 0 (by decide) rfl m_219 rfl d_Wr_kind_1 ?_
  refine j_iload_n d_Wr_kind_4 rfl 1 rfl ?_
  refine j_iconst (v := 0) d_Wr_kind_5 (by decide) ?_
  replace h := bd_s h
  obtain ⟨r1, k2, h⟩ := h
  refine j_callV (n := 2) (As := [.int p1, .int 0]) (rest := []) (wr := [(h0, .inr (6, [.ref a_tree_h0, .ref a_source_h0, .ref a_form_h0, .int indent_h0, .int fits_h0]))]) (c_Nd_get l D cI cB cJ cS a_tree_h0 a_cells_a_tree_h0 p1 0 count_a_tree_h0 n_a_cells_a_tree_h0 b_a_cells_a_tree_h0  r1 k2) k_Wr_52 (by decide) ⟨Nat.le_of_ble_eq_true rfl, Nat.le_of_ble_eq_true rfl⟩ rfl 0 rfl [1, 2] [0] rfl (by decide) rfl (by decide) (by decide) rfl rfl (Nat.le_of_ble_eq_true rfl) d_Wr_kind_6 ⟨Nat.le_of_ble_eq_true rfl, Nat.le_of_ble_eq_true rfl⟩ (fun v w hq => ?_)
  obtain ⟨rfl, rfl⟩ := hq
  refine j_norm (pc' := 9) (st' := [.int r1]) (ws' := [(h0, .inr (6, [.ref a_tree_h0, .ref a_source_h0, .ref a_form_h0, .int indent_h0, .int fits_h0])), (a_tree_h0, .inr (1, [.ref a_cells_a_tree_h0, .int count_a_tree_h0])), (a_cells_a_tree_h0, .inl (cI, n_a_cells_a_tree_h0, .inl b_a_cells_a_tree_h0))]) (cl' := 0) (sl' := 0) rfl rfl rfl rfl rfl rfl ?_
  replace h := Option.some.inj h
  subst h
  exact j_iret (w := [(h0, .inr (6, [.ref a_tree_h0, .ref a_source_h0, .ref a_form_h0, .int indent_h0, .int fits_h0])), (a_tree_h0, .inr (1, [.ref a_cells_a_tree_h0, .int count_a_tree_h0])), (a_cells_a_tree_h0, .inl (cI, n_a_cells_a_tree_h0, .inl b_a_cells_a_tree_h0))]) hr d_Wr_kind_9 [0, 1, 2] rfl (by decide) ⟨rfl, rfl⟩
noncomputable def F_Wr_put_2 (s1 : Nat) : Nat → Int32 → Int32 → Int32 → Nat → (Nat → Int32) → Option ((Int32 × Int32 × Nat × (Nat → Int32)) × Nat × Nat)
  | 0, _, _, _, _, _ => none
  | k_2 + 1, v2_2, f0_4_2, f1_1_2, n2_2, b2_2 =>
    sin s1 (if (nI (gB s1).length) ≤ v2_2 then (some ((f0_4_2, f1_1_2, n2_2, b2_2), 0, 0))
    else (sin s1 (inb v2_2 (gB s1).length (bw (F_Rw_add (sch s1 v2_2) f1_1_2 n2_2 b2_2) fun ⟨r6, r7, r8, r9⟩ =>
      if r6 = 0 then (F_Wr_put_2 s1  k_2 (v2_2 + 1) 0 r7 r8 r9)
      else if f0_4_2 = 0 then (F_Wr_put_2 s1  k_2 (v2_2 + 1) 0 r7 r8 r9)
      else (F_Wr_put_2 s1  k_2 (v2_2 + 1) 1 r7 r8 r9)))))
noncomputable def F_Wr_put (s1 : Nat) (indent_h0 : Int32) (fits_h0 : Int32) (size_a_form_h0 : Int32) (n_a_bytes_a_form_h0 : Nat) (b_a_bytes_a_form_h0 : Nat → Int32) : Option ((Int32 × Int32 × Nat × (Nat → Int32)) × Nat × Nat) :=
  F_Wr_put_2 s1  FU 0 fits_h0 size_a_form_h0 n_a_bytes_a_form_h0 b_a_bytes_a_form_h0
theorem d_Wr_put_0 : decode prog_10_method_4_code 0 = .ok (.iconst 0, 1) := by decide +kernel
theorem d_Wr_put_1 : decode prog_10_method_4_code 1 = .ok (.istore_n 2, 1) := by decide +kernel
theorem d_Wr_put_2 : decode prog_10_method_4_code 2 = .ok (.iload_n 2, 1) := by decide +kernel
theorem d_Wr_put_3 : decode prog_10_method_4_code 3 = .ok (.aload_n 1, 1) := by decide +kernel
theorem d_Wr_put_4 : decode prog_10_method_4_code 4 = .ok (.invokevirtual 56, 3) := by decide +kernel
theorem d_Wr_put_7 : decode prog_10_method_4_code 7 = .ok (.if_icmp .ge 40, 3) := by decide +kernel
theorem d_Wr_put_10 : decode prog_10_method_4_code 10 = .ok (.aload_n 0, 1) := by decide +kernel
theorem d_Wr_put_11 : decode prog_10_method_4_code 11 = .ok (.aload_n 0, 1) := by decide +kernel
theorem d_Wr_put_12 : decode prog_10_method_4_code 12 = .ok (.getfield 23, 3) := by decide +kernel
theorem d_Wr_put_15 : decode prog_10_method_4_code 15 = .ok (.aload_n 1, 1) := by decide +kernel
theorem d_Wr_put_16 : decode prog_10_method_4_code 16 = .ok (.iload_n 2, 1) := by decide +kernel
theorem d_Wr_put_17 : decode prog_10_method_4_code 17 = .ok (.invokevirtual 61, 3) := by decide +kernel
theorem d_Wr_put_20 : decode prog_10_method_4_code 20 = .ok (.invokevirtual 65, 3) := by decide +kernel
theorem d_Wr_put_23 : decode prog_10_method_4_code 23 = .ok (.ifCond .eq 14, 3) := by decide +kernel
theorem d_Wr_put_26 : decode prog_10_method_4_code 26 = .ok (.aload_n 0, 1) := by decide +kernel
theorem d_Wr_put_27 : decode prog_10_method_4_code 27 = .ok (.getfield 30, 3) := by decide +kernel
theorem d_Wr_put_30 : decode prog_10_method_4_code 30 = .ok (.ifCond .eq 7, 3) := by decide +kernel
theorem d_Wr_put_33 : decode prog_10_method_4_code 33 = .ok (.iconst 1, 1) := by decide +kernel
theorem d_Wr_put_34 : decode prog_10_method_4_code 34 = .ok (.goto 4, 3) := by decide +kernel
theorem d_Wr_put_37 : decode prog_10_method_4_code 37 = .ok (.iconst 0, 1) := by decide +kernel
theorem d_Wr_put_38 : decode prog_10_method_4_code 38 = .ok (.putfield 30, 3) := by decide +kernel
theorem d_Wr_put_41 : decode prog_10_method_4_code 41 = .ok (.iinc 2 1, 3) := by decide +kernel
theorem d_Wr_put_44 : decode prog_10_method_4_code 44 = .ok (.goto (-42), 3) := by decide +kernel
theorem d_Wr_put_47 : decode prog_10_method_4_code 47 = .ok (.return_, 1) := by decide +kernel
set_option maxHeartbeats 4000000 in
set_option maxRecDepth 100000 in
theorem L_Wr_put_2 (l : Launch) (D : va_G) (cI cB cJ cS : ClassId) (h0 : Nat) (a_tree_h0 : Nat) (a_source_h0 : Nat) (a_form_h0 : Nat) (a_bytes_a_form_h0 : Nat) (s1 : Nat) (indent_h0 : Int32) (fits_h0 : Int32) (size_a_form_h0 : Int32) (n_a_bytes_a_form_h0 : Nat) (b_a_bytes_a_form_h0 : Nat → Int32) (o_0_4 : Int32) (o_1_1 : Int32) (on_nq_1_0 : Nat) (ob_nq_1_0 : Nat → Int32) (mc ms : Nat) (p : Program) (e : Env) (s : State) (m : MethodId) (below : List Frame) (meth : Method) (c : Code) (hr : meth.sig.returnType = (Option.none : Option Jvm.ClassFile.FieldType)) (hnm : meth.name = y_Wr_put.name) : ∀ (k_2 : Nat) (q1_0_2 : Nat) (v2_2 : Int32) (f0_4_2 : Int32) (f1_1_2 : Int32) (n2_2 : Nat) (b2_2 : Nat → Int32) (cl_2 sl_2 C_2 S_2 : Nat), F_Wr_put_2 s1  k_2 v2_2 f0_4_2 f1_1_2 n2_2 b2_2 = some ((o_0_4, o_1_1, on_nq_1_0, ob_nq_1_0), C_2, S_2) → cl_2 + C_2 ≤ mc → sl_2 + S_2 ≤ ms → J (KxOf p l e { frames := 4, cells := mc, slots := ms, locals := 103 } s m [.ref h0, .ref (sA D s1)].toArray below meth c D (gT cI cB cJ cS) [(h0, .inr (6, [.ref a_tree_h0, .ref a_source_h0, .ref a_form_h0, .int indent_h0, .int fits_h0])), (a_form_h0, .inr (3, [.ref a_bytes_a_form_h0, .int size_a_form_h0])), (a_bytes_a_form_h0, .inl (cB, n_a_bytes_a_form_h0, .inl b_a_bytes_a_form_h0))] (fun v w => ∃ nq_1_0 : Nat, v = none ∧ w = [(h0, .inr (6, [.ref a_tree_h0, .ref a_source_h0, .ref a_form_h0, .int indent_h0, .int o_0_4])), (a_form_h0, .inr (3, [.ref nq_1_0, .int o_1_1])), (nq_1_0, .inl (cB, on_nq_1_0, .inl ob_nq_1_0))]) mc ms) prog_10_method_4_code 3 R_Wr 2 [(2, .int v2_2), (0, .ref h0), (1, .ref (sA D s1))] [] [(h0, .inr (6, [.ref a_tree_h0, .ref a_source_h0, .ref a_form_h0, .int indent_h0, .int f0_4_2])), (a_form_h0, .inr (3, [.ref q1_0_2, .int f1_1_2])), (q1_0_2, .inl (cB, n2_2, .inl b2_2))] cl_2 sl_2 := by
  intro k_2
  induction k_2 with
  | zero => intro q1_0_2 v2_2 f0_4_2 f1_1_2 n2_2 b2_2 cl_2 sl_2 C_2 S_2 h; rw [F_Wr_put_2] at h; cases h
  | succ k_2 ih_2 =>
    intro q1_0_2 v2_2 f0_4_2 f1_1_2 n2_2 b2_2 cl_2 sl_2 C_2 S_2 h hC hS
    rw [F_Wr_put_2] at h
    refine j_iload_n d_Wr_put_2 rfl 0 rfl ?_
    refine j_aload_n d_Wr_put_3 rfl 2 rfl ?_
    replace h := sin_s h
    obtain ⟨i1, h⟩ := h
    refine j_len (i := s1) i1 k_Wr_56 ⟨Nat.le_of_ble_eq_true rfl, Nat.le_of_ble_eq_true rfl⟩ (Nat.le_of_ble_eq_true rfl) ⟨show cl_2 ≤ mc by omega, show sl_2 ≤ ms by omega⟩ d_Wr_put_4 ?_
    refine j_icmp_ge (tgt := 47) d_Wr_put_7 (by decide) (fun c3 => ?_) (fun c3 => ?_)
    · replace h := it_t c3 h
      replace h := lf_s h
      obtain ⟨h, e1, e2⟩ := h
      replace h := Prod.mk.inj h
      obtain ⟨h9, h⟩ := h
      subst h9
      replace h := Prod.mk.inj h
      obtain ⟨h9, h⟩ := h
      subst h9
      replace h := Prod.mk.inj h
      obtain ⟨h9, h⟩ := h
      subst h9
      subst h
      refine j_widen (cl' := mc) (sl' := ms) (by omega) (by omega) ?_
      exact j_vret (w := [(h0, .inr (6, [.ref a_tree_h0, .ref a_source_h0, .ref a_form_h0, .int indent_h0, .int f0_4_2])), (a_form_h0, .inr (3, [.ref q1_0_2, .int f1_1_2])), (q1_0_2, .inl (cB, n2_2, .inl b2_2))]) hr d_Wr_put_47 [0, 1, 2] rfl (by decide) ⟨q1_0_2, rfl, rfl⟩
    · replace h := it_f c3 h
      refine j_aload_n d_Wr_put_10 rfl 1 rfl ?_
      refine j_aload_n d_Wr_put_11 rfl 1 rfl ?_
      refine j_get ig_Wr rfl 0 rfl 2 (by decide) rfl m_221 rfl d_Wr_put_12 ?_
      refine j_aload_n d_Wr_put_15 rfl 2 rfl ?_
      refine j_iload_n d_Wr_put_16 rfl 0 rfl ?_
      replace h := sin_s h
      obtain ⟨i4, h⟩ := h
      replace h := inb_s h
      obtain ⟨i5, h⟩ := h
      refine j_chr (i := s1) i4 i5 k_Wr_61 ⟨Nat.le_of_ble_eq_true rfl, Nat.le_of_ble_eq_true rfl⟩ (Nat.le_of_ble_eq_true rfl) ⟨show cl_2 ≤ mc by omega, show sl_2 ≤ ms by omega⟩ d_Wr_put_17 ?_
      replace h := bw_s h
      obtain ⟨⟨r6, r7, r8, r9⟩, C12, S13, C14, S15, k16, h, e1, e2⟩ := h
      replace hC : cl_2 + C12 + C14 ≤ mc := by omega
      replace hS : sl_2 + S13 + S15 ≤ ms := by omega
      clear e1 e2
      refine j_callV (n := 1) (As := [.int (sch s1 v2_2)]) (rest := [.ref h0]) (wr := [(h0, .inr (6, [.ref a_tree_h0, .ref a_source_h0, .ref a_form_h0, .int indent_h0, .int f0_4_2]))]) (c_Rw_add l D cI cB cJ cS a_form_h0 q1_0_2 (sch s1 v2_2) f1_1_2 n2_2 b2_2  r6 r7 r8 r9 C12 S13 k16) k_Wr_65 (by decide) ⟨Nat.le_of_ble_eq_true rfl, Nat.le_of_ble_eq_true rfl⟩ rfl 0 rfl [1, 2] [0] rfl (by decide) rfl (by decide) (by decide) rfl rfl (Nat.le_of_ble_eq_true rfl) d_Wr_put_20 ⟨show cl_2 + C12 ≤ mc by omega, show sl_2 + S13 ≤ ms by omega⟩ (fun v w hq => ?_)
      obtain ⟨q10, rfl, z11, rfl⟩ := hq
      refine j_norm (pc' := 23) (st' := [.int r6, .ref h0]) (ws' := [(h0, .inr (6, [.ref a_tree_h0, .ref a_source_h0, .ref a_form_h0, .int indent_h0, .int f0_4_2])), (a_form_h0, .inr (3, [.ref q10, .int r7])), (q10, .inl (cB, r8, .inl r9))]) (cl' := cl_2 + C12) (sl' := sl_2 + S13) rfl rfl rfl rfl rfl rfl ?_
      refine j_if_eq (tgt := 37) d_Wr_put_23 (by decide) (fun c17 => ?_) (fun c17 => ?_)
      · replace h := it_t c17 h
        refine j_iconst (v := 0) d_Wr_put_37 (by decide) ?_
        refine j_put (ws' := [(h0, .inr (6, [.ref a_tree_h0, .ref a_source_h0, .ref a_form_h0, .int indent_h0, .int 0])), (a_form_h0, .inr (3, [.ref q10, .int r7])), (q10, .inl (cB, r8, .inl r9))]) ig_Wr tk_Wr nm_Wr rfl 0 rfl 4 (by decide) rfl m_223 rfl (tk_Wr 4 (by decide)) (zb_n zb0) (zb_fit zb0) (Nat.le_of_ble_eq_true rfl) d_Wr_put_38 rfl ?_
        refine j_iinc (v := v2_2 + 1) (lv' := [(2, .int (v2_2 + 1)), (0, .ref h0), (1, .ref (sA D s1))]) d_Wr_put_41 0 rfl rfl (by decide) rfl ?_
        refine j_goto (tgt := 2) d_Wr_put_44 (by decide) ?_
        refine j_sub (w := [(h0, .inr (6, [.ref a_tree_h0, .ref a_source_h0, .ref a_form_h0, .int indent_h0, .int 0])), (a_form_h0, .inr (3, [.ref q10, .int r7])), (q10, .inl (cB, r8, .inl r9))]) (lv' := [(2, .int (v2_2 + 1)), (0, .ref h0), (1, .ref (sA D s1))]) [0, 1, 2] rfl (by decide) [0, 1, 2] rfl ?_
        exact ih_2 q10 (v2_2 + 1) 0 r7 r8 r9 (cl_2 + C12) (sl_2 + S13) C14 S15 h hC hS
      · replace h := it_f c17 h
        refine j_aload_n d_Wr_put_26 rfl 1 rfl ?_
        refine j_get ig_Wr rfl 0 rfl 4 (by decide) rfl m_223 rfl d_Wr_put_27 ?_
        refine j_if_eq (tgt := 37) d_Wr_put_30 (by decide) (fun c18 => ?_) (fun c18 => ?_)
        · replace h := it_t c18 h
          refine j_iconst (v := 0) d_Wr_put_37 (by decide) ?_
          refine j_put (ws' := [(h0, .inr (6, [.ref a_tree_h0, .ref a_source_h0, .ref a_form_h0, .int indent_h0, .int 0])), (a_form_h0, .inr (3, [.ref q10, .int r7])), (q10, .inl (cB, r8, .inl r9))]) ig_Wr tk_Wr nm_Wr rfl 0 rfl 4 (by decide) rfl m_223 rfl (tk_Wr 4 (by decide)) (zb_n zb0) (zb_fit zb0) (Nat.le_of_ble_eq_true rfl) d_Wr_put_38 rfl ?_
          refine j_iinc (v := v2_2 + 1) (lv' := [(2, .int (v2_2 + 1)), (0, .ref h0), (1, .ref (sA D s1))]) d_Wr_put_41 0 rfl rfl (by decide) rfl ?_
          refine j_goto (tgt := 2) d_Wr_put_44 (by decide) ?_
          refine j_sub (w := [(h0, .inr (6, [.ref a_tree_h0, .ref a_source_h0, .ref a_form_h0, .int indent_h0, .int 0])), (a_form_h0, .inr (3, [.ref q10, .int r7])), (q10, .inl (cB, r8, .inl r9))]) (lv' := [(2, .int (v2_2 + 1)), (0, .ref h0), (1, .ref (sA D s1))]) [0, 1, 2] rfl (by decide) [0, 1, 2] rfl ?_
          exact ih_2 q10 (v2_2 + 1) 0 r7 r8 r9 (cl_2 + C12) (sl_2 + S13) C14 S15 h hC hS
        · replace h := it_f c18 h
          refine j_iconst (v := 1) d_Wr_put_33 (by decide) ?_
          refine j_goto (tgt := 38) d_Wr_put_34 (by decide) ?_
          refine j_put (ws' := [(h0, .inr (6, [.ref a_tree_h0, .ref a_source_h0, .ref a_form_h0, .int indent_h0, .int 1])), (a_form_h0, .inr (3, [.ref q10, .int r7])), (q10, .inl (cB, r8, .inl r9))]) ig_Wr tk_Wr nm_Wr rfl 0 rfl 4 (by decide) rfl m_223 rfl (tk_Wr 4 (by decide)) (zb_n zb1) (zb_fit zb1) (Nat.le_of_ble_eq_true rfl) d_Wr_put_38 rfl ?_
          refine j_iinc (v := v2_2 + 1) (lv' := [(2, .int (v2_2 + 1)), (0, .ref h0), (1, .ref (sA D s1))]) d_Wr_put_41 0 rfl rfl (by decide) rfl ?_
          refine j_goto (tgt := 2) d_Wr_put_44 (by decide) ?_
          refine j_sub (w := [(h0, .inr (6, [.ref a_tree_h0, .ref a_source_h0, .ref a_form_h0, .int indent_h0, .int 1])), (a_form_h0, .inr (3, [.ref q10, .int r7])), (q10, .inl (cB, r8, .inl r9))]) (lv' := [(2, .int (v2_2 + 1)), (0, .ref h0), (1, .ref (sA D s1))]) [0, 1, 2] rfl (by decide) [0, 1, 2] rfl ?_
          exact ih_2 q10 (v2_2 + 1) 1 r7 r8 r9 (cl_2 + C12) (sl_2 + S13) C14 S15 h hC hS
set_option maxHeartbeats 4000000 in
set_option maxRecDepth 100000 in
theorem c_Wr_put (l : Launch) (D : va_G) (cI cB cJ cS : ClassId) (h0 : Nat) (a_tree_h0 : Nat) (a_source_h0 : Nat) (a_form_h0 : Nat) (a_bytes_a_form_h0 : Nat) (s1 : Nat) (indent_h0 : Int32) (fits_h0 : Int32) (size_a_form_h0 : Int32) (n_a_bytes_a_form_h0 : Nat) (b_a_bytes_a_form_h0 : Nat → Int32) (o_0_4 : Int32) (o_1_1 : Int32) (on_nq_1_0 : Nat) (ob_nq_1_0 : Nat → Int32) (mc ms : Nat) (h : F_Wr_put s1 indent_h0 fits_h0 size_a_form_h0 n_a_bytes_a_form_h0 b_a_bytes_a_form_h0 = some ((o_0_4, o_1_1, on_nq_1_0, ob_nq_1_0), mc, ms)) : Ct l D (gT cI cB cJ cS) y_Wr_put prog_10_method_4_code 3 (Option.none : Option Jvm.ClassFile.FieldType) 4 103 mc ms [.ref h0, .ref (sA D s1)] [(h0, .inr (6, [.ref a_tree_h0, .ref a_source_h0, .ref a_form_h0, .int indent_h0, .int fits_h0])), (a_form_h0, .inr (3, [.ref a_bytes_a_form_h0, .int size_a_form_h0])), (a_bytes_a_form_h0, .inl (cB, n_a_bytes_a_form_h0, .inl b_a_bytes_a_form_h0))] (fun v w => ∃ nq_1_0 : Nat, v = none ∧ w = [(h0, .inr (6, [.ref a_tree_h0, .ref a_source_h0, .ref a_form_h0, .int indent_h0, .int o_0_4])), (a_form_h0, .inr (3, [.ref nq_1_0, .int o_1_1])), (nq_1_0, .inl (cB, on_nq_1_0, .inl ob_nq_1_0))]) := by
  refine Ct.mk (by decide) (Nat.le_of_ble_eq_true rfl) ?_
  intro p e s m below meth c hr hnm
  refine j_norm (pc' := 0) (lv' := [(0, .ref h0), (1, .ref (sA D s1))]) (st' := []) (ws' := [(h0, .inr (6, [.ref a_tree_h0, .ref a_source_h0, .ref a_form_h0, .int indent_h0, .int fits_h0])), (a_form_h0, .inr (3, [.ref a_bytes_a_form_h0, .int size_a_form_h0])), (a_bytes_a_form_h0, .inl (cB, n_a_bytes_a_form_h0, .inl b_a_bytes_a_form_h0))]) (cl' := 0) (sl' := 0) rfl rfl rfl rfl rfl rfl ?_
  unfold F_Wr_put at h
  have hC : 0 + mc ≤ mc := by omega
  have hS : 0 + ms ≤ ms := by omega
  refine j_iconst (v := 0) d_Wr_put_0 (by decide) ?_
  refine j_istore_n (lv' := [(2, .int 0), (0, .ref h0), (1, .ref (sA D s1))]) d_Wr_put_1 rfl (by decide) rfl ?_
  refine j_sub (w := [(h0, .inr (6, [.ref a_tree_h0, .ref a_source_h0, .ref a_form_h0, .int indent_h0, .int fits_h0])), (a_form_h0, .inr (3, [.ref a_bytes_a_form_h0, .int size_a_form_h0])), (a_bytes_a_form_h0, .inl (cB, n_a_bytes_a_form_h0, .inl b_a_bytes_a_form_h0))]) (lv' := [(2, .int 0), (0, .ref h0), (1, .ref (sA D s1))]) [0, 1, 2] rfl (by decide) [0, 1, 2] rfl ?_
  exact L_Wr_put_2 l D cI cB cJ cS h0 a_tree_h0 a_source_h0 a_form_h0 a_bytes_a_form_h0 s1 indent_h0 fits_h0 size_a_form_h0 n_a_bytes_a_form_h0 b_a_bytes_a_form_h0 o_0_4 o_1_1 on_nq_1_0 ob_nq_1_0 mc ms p e s m below meth c hr hnm FU a_bytes_a_form_h0 0 fits_h0 size_a_form_h0 n_a_bytes_a_form_h0 b_a_bytes_a_form_h0 0 0 mc ms h hC hS
noncomputable def F_Wr_putToken_22 (size_a_source_h0 : Int32) (n_a_bytes_a_source_h0 : Nat) (b_a_bytes_a_source_h0 : Nat → Int32) : Nat → Int32 → Int32 → Int32 → Int32 → Int32 → Nat → (Nat → Int32) → Option ((Int32 × Int32 × Nat × (Nat → Int32)) × Nat × Nat)
  | 0, _, _, _, _, _, _, _ => none
  | k_22 + 1, v4_22, v3_22, v2_22, f0_4_22, f3_1_22, n4_22, b4_22 =>
    if v3_22 ≤ v4_22 then (some ((f0_4_22, f3_1_22, n4_22, b4_22), 0, 0))
    else (Option.bind (F_Rw_at (v2_22 + v4_22) size_a_source_h0 n_a_bytes_a_source_h0 b_a_bytes_a_source_h0) fun r2 =>
      bw (F_Rw_add r2 f3_1_22 n4_22 b4_22) fun ⟨r4, r5, r6, r7⟩ =>
      if r4 = 0 then (F_Wr_putToken_22 size_a_source_h0 n_a_bytes_a_source_h0 b_a_bytes_a_source_h0  k_22 (v4_22 + 1) v3_22 v2_22 0 r5 r6 r7)
      else if f0_4_22 = 0 then (F_Wr_putToken_22 size_a_source_h0 n_a_bytes_a_source_h0 b_a_bytes_a_source_h0  k_22 (v4_22 + 1) v3_22 v2_22 0 r5 r6 r7)
      else (F_Wr_putToken_22 size_a_source_h0 n_a_bytes_a_source_h0 b_a_bytes_a_source_h0  k_22 (v4_22 + 1) v3_22 v2_22 1 r5 r6 r7))
noncomputable def F_Wr_putToken (p1 : Int32) (indent_h0 : Int32) (fits_h0 : Int32) (count_a_tree_h0 : Int32) (n_a_cells_a_tree_h0 : Nat) (b_a_cells_a_tree_h0 : Nat → Int32) (size_a_source_h0 : Int32) (n_a_bytes_a_source_h0 : Nat) (b_a_bytes_a_source_h0 : Nat → Int32) (size_a_form_h0 : Int32) (n_a_bytes_a_form_h0 : Nat) (b_a_bytes_a_form_h0 : Nat → Int32) : Option ((Int32 × Int32 × Nat × (Nat → Int32)) × Nat × Nat) :=
  Option.bind (F_Nd_tokenPlace p1 count_a_tree_h0 n_a_cells_a_tree_h0 b_a_cells_a_tree_h0) fun r17 =>
  Option.bind (F_Nd_get p1 4 count_a_tree_h0 n_a_cells_a_tree_h0 b_a_cells_a_tree_h0) fun r19 =>
  F_Wr_putToken_22 size_a_source_h0 n_a_bytes_a_source_h0 b_a_bytes_a_source_h0  FU 0 r19 r17 fits_h0 size_a_form_h0 n_a_bytes_a_form_h0 b_a_bytes_a_form_h0
theorem d_Wr_putToken_0 : decode prog_10_method_5_code 0 = .ok (.aload_n 0, 1) := by decide +kernel
theorem d_Wr_putToken_1 : decode prog_10_method_5_code 1 = .ok (.getfield 10, 3) := by decide +kernel
theorem d_Wr_putToken_4 : decode prog_10_method_5_code 4 = .ok (.iload_n 1, 1) := by decide +kernel
theorem d_Wr_putToken_5 : decode prog_10_method_5_code 5 = .ok (.invokevirtual 69, 3) := by decide +kernel
theorem d_Wr_putToken_8 : decode prog_10_method_5_code 8 = .ok (.istore_n 2, 1) := by decide +kernel
theorem d_Wr_putToken_9 : decode prog_10_method_5_code 9 = .ok (.aload_n 0, 1) := by decide +kernel
theorem d_Wr_putToken_10 : decode prog_10_method_5_code 10 = .ok (.getfield 10, 3) := by decide +kernel
theorem d_Wr_putToken_13 : decode prog_10_method_5_code 13 = .ok (.iload_n 1, 1) := by decide +kernel
theorem d_Wr_putToken_14 : decode prog_10_method_5_code 14 = .ok (.iconst 4, 1) := by decide +kernel
theorem d_Wr_putToken_15 : decode prog_10_method_5_code 15 = .ok (.invokevirtual 52, 3) := by decide +kernel
theorem d_Wr_putToken_18 : decode prog_10_method_5_code 18 = .ok (.istore_n 3, 1) := by decide +kernel
theorem d_Wr_putToken_19 : decode prog_10_method_5_code 19 = .ok (.iconst 0, 1) := by decide +kernel
theorem d_Wr_putToken_20 : decode prog_10_method_5_code 20 = .ok (.istore 4, 2) := by decide +kernel
theorem d_Wr_putToken_22 : decode prog_10_method_5_code 22 = .ok (.iload 4, 2) := by decide +kernel
theorem d_Wr_putToken_24 : decode prog_10_method_5_code 24 = .ok (.iload_n 3, 1) := by decide +kernel
theorem d_Wr_putToken_25 : decode prog_10_method_5_code 25 = .ok (.if_icmp .ge 46, 3) := by decide +kernel
theorem d_Wr_putToken_28 : decode prog_10_method_5_code 28 = .ok (.aload_n 0, 1) := by decide +kernel
theorem d_Wr_putToken_29 : decode prog_10_method_5_code 29 = .ok (.aload_n 0, 1) := by decide +kernel
theorem d_Wr_putToken_30 : decode prog_10_method_5_code 30 = .ok (.getfield 23, 3) := by decide +kernel
theorem d_Wr_putToken_33 : decode prog_10_method_5_code 33 = .ok (.aload_n 0, 1) := by decide +kernel
theorem d_Wr_putToken_34 : decode prog_10_method_5_code 34 = .ok (.getfield 19, 3) := by decide +kernel
theorem d_Wr_putToken_37 : decode prog_10_method_5_code 37 = .ok (.iload_n 2, 1) := by decide +kernel
theorem d_Wr_putToken_38 : decode prog_10_method_5_code 38 = .ok (.iload 4, 2) := by decide +kernel
theorem d_Wr_putToken_40 : decode prog_10_method_5_code 40 = .ok (.iadd, 1) := by decide +kernel
theorem d_Wr_putToken_41 : decode prog_10_method_5_code 41 = .ok (.invokevirtual 72, 3) := by decide +kernel
theorem d_Wr_putToken_44 : decode prog_10_method_5_code 44 = .ok (.invokevirtual 65, 3) := by decide +kernel
theorem d_Wr_putToken_47 : decode prog_10_method_5_code 47 = .ok (.ifCond .eq 14, 3) := by decide +kernel
theorem d_Wr_putToken_50 : decode prog_10_method_5_code 50 = .ok (.aload_n 0, 1) := by decide +kernel
theorem d_Wr_putToken_51 : decode prog_10_method_5_code 51 = .ok (.getfield 30, 3) := by decide +kernel
theorem d_Wr_putToken_54 : decode prog_10_method_5_code 54 = .ok (.ifCond .eq 7, 3) := by decide +kernel
theorem d_Wr_putToken_57 : decode prog_10_method_5_code 57 = .ok (.iconst 1, 1) := by decide +kernel
theorem d_Wr_putToken_58 : decode prog_10_method_5_code 58 = .ok (.goto 4, 3) := by decide +kernel
theorem d_Wr_putToken_61 : decode prog_10_method_5_code 61 = .ok (.iconst 0, 1) := by decide +kernel
theorem d_Wr_putToken_62 : decode prog_10_method_5_code 62 = .ok (.putfield 30, 3) := by decide +kernel
theorem d_Wr_putToken_65 : decode prog_10_method_5_code 65 = .ok (.iinc 4 1, 3) := by decide +kernel
theorem d_Wr_putToken_68 : decode prog_10_method_5_code 68 = .ok (.goto (-46), 3) := by decide +kernel
theorem d_Wr_putToken_71 : decode prog_10_method_5_code 71 = .ok (.return_, 1) := by decide +kernel
set_option maxHeartbeats 4000000 in
set_option maxRecDepth 100000 in
theorem L_Wr_putToken_22 (l : Launch) (D : va_G) (cI cB cJ cS : ClassId) (h0 : Nat) (a_tree_h0 : Nat) (a_source_h0 : Nat) (a_form_h0 : Nat) (a_cells_a_tree_h0 : Nat) (a_bytes_a_source_h0 : Nat) (a_bytes_a_form_h0 : Nat) (p1 : Int32) (indent_h0 : Int32) (fits_h0 : Int32) (count_a_tree_h0 : Int32) (n_a_cells_a_tree_h0 : Nat) (b_a_cells_a_tree_h0 : Nat → Int32) (size_a_source_h0 : Int32) (n_a_bytes_a_source_h0 : Nat) (b_a_bytes_a_source_h0 : Nat → Int32) (size_a_form_h0 : Int32) (n_a_bytes_a_form_h0 : Nat) (b_a_bytes_a_form_h0 : Nat → Int32) (o_0_4 : Int32) (o_5_1 : Int32) (on_nq_5_0 : Nat) (ob_nq_5_0 : Nat → Int32) (mc ms : Nat) (p : Program) (e : Env) (s : State) (m : MethodId) (below : List Frame) (meth : Method) (c : Code) (hr : meth.sig.returnType = (Option.none : Option Jvm.ClassFile.FieldType)) (hnm : meth.name = y_Wr_putToken.name) : ∀ (k_22 : Nat) (q3_0_22 : Nat) (v4_22 : Int32) (v3_22 : Int32) (v2_22 : Int32) (f0_4_22 : Int32) (f3_1_22 : Int32) (n4_22 : Nat) (b4_22 : Nat → Int32) (cl_22 sl_22 C_22 S_22 : Nat), F_Wr_putToken_22 size_a_source_h0 n_a_bytes_a_source_h0 b_a_bytes_a_source_h0  k_22 v4_22 v3_22 v2_22 f0_4_22 f3_1_22 n4_22 b4_22 = some ((o_0_4, o_5_1, on_nq_5_0, ob_nq_5_0), C_22, S_22) → cl_22 + C_22 ≤ mc → sl_22 + S_22 ≤ ms → J (KxOf p l e { frames := 3, cells := mc, slots := ms, locals := 103 } s m [.ref h0, .int p1].toArray below meth c D (gT cI cB cJ cS) [(h0, .inr (6, [.ref a_tree_h0, .ref a_source_h0, .ref a_form_h0, .int indent_h0, .int fits_h0])), (a_tree_h0, .inr (1, [.ref a_cells_a_tree_h0, .int count_a_tree_h0])), (a_cells_a_tree_h0, .inl (cI, n_a_cells_a_tree_h0, .inl b_a_cells_a_tree_h0)), (a_source_h0, .inr (3, [.ref a_bytes_a_source_h0, .int size_a_source_h0])), (a_bytes_a_source_h0, .inl (cB, n_a_bytes_a_source_h0, .inl b_a_bytes_a_source_h0)), (a_form_h0, .inr (3, [.ref a_bytes_a_form_h0, .int size_a_form_h0])), (a_bytes_a_form_h0, .inl (cB, n_a_bytes_a_form_h0, .inl b_a_bytes_a_form_h0))] (fun v w => ∃ nq_5_0 : Nat, v = none ∧ w = [(h0, .inr (6, [.ref a_tree_h0, .ref a_source_h0, .ref a_form_h0, .int indent_h0, .int o_0_4])), (a_tree_h0, .inr (1, [.ref a_cells_a_tree_h0, .int count_a_tree_h0])), (a_cells_a_tree_h0, .inl (cI, n_a_cells_a_tree_h0, .inl b_a_cells_a_tree_h0)), (a_source_h0, .inr (3, [.ref a_bytes_a_source_h0, .int size_a_source_h0])), (a_bytes_a_source_h0, .inl (cB, n_a_bytes_a_source_h0, .inl b_a_bytes_a_source_h0)), (a_form_h0, .inr (3, [.ref nq_5_0, .int o_5_1])), (nq_5_0, .inl (cB, on_nq_5_0, .inl ob_nq_5_0))]) mc ms) prog_10_method_5_code 5 R_Wr 22 [(4, .int v4_22), (3, .int v3_22), (2, .int v2_22), (0, .ref h0), (1, .int p1)] [] [(h0, .inr (6, [.ref a_tree_h0, .ref a_source_h0, .ref a_form_h0, .int indent_h0, .int f0_4_22])), (a_source_h0, .inr (3, [.ref a_bytes_a_source_h0, .int size_a_source_h0])), (a_bytes_a_source_h0, .inl (cB, n_a_bytes_a_source_h0, .inl b_a_bytes_a_source_h0)), (a_form_h0, .inr (3, [.ref q3_0_22, .int f3_1_22])), (q3_0_22, .inl (cB, n4_22, .inl b4_22)), (a_tree_h0, .inr (1, [.ref a_cells_a_tree_h0, .int count_a_tree_h0])), (a_cells_a_tree_h0, .inl (cI, n_a_cells_a_tree_h0, .inl b_a_cells_a_tree_h0))] cl_22 sl_22 := by
  intro k_22
  induction k_22 with
  | zero => intro q3_0_22 v4_22 v3_22 v2_22 f0_4_22 f3_1_22 n4_22 b4_22 cl_22 sl_22 C_22 S_22 h; rw [F_Wr_putToken_22] at h; cases h
  | succ k_22 ih_22 =>
    intro q3_0_22 v4_22 v3_22 v2_22 f0_4_22 f3_1_22 n4_22 b4_22 cl_22 sl_22 C_22 S_22 h hC hS
    rw [F_Wr_putToken_22] at h
    refine j_iload d_Wr_putToken_22 0 rfl ?_
    refine j_iload_n d_Wr_putToken_24 rfl 1 rfl ?_
    refine j_icmp_ge (tgt := 71) d_Wr_putToken_25 (by decide) (fun c1 => ?_) (fun c1 => ?_)
    · replace h := it_t c1 h
      replace h := lf_s h
      obtain ⟨h, e1, e2⟩ := h
      replace h := Prod.mk.inj h
      obtain ⟨h9, h⟩ := h
      subst h9
      replace h := Prod.mk.inj h
      obtain ⟨h9, h⟩ := h
      subst h9
      replace h := Prod.mk.inj h
      obtain ⟨h9, h⟩ := h
      subst h9
      subst h
      refine j_widen (cl' := mc) (sl' := ms) (by omega) (by omega) ?_
      exact j_vret (w := [(h0, .inr (6, [.ref a_tree_h0, .ref a_source_h0, .ref a_form_h0, .int indent_h0, .int f0_4_22])), (a_tree_h0, .inr (1, [.ref a_cells_a_tree_h0, .int count_a_tree_h0])), (a_cells_a_tree_h0, .inl (cI, n_a_cells_a_tree_h0, .inl b_a_cells_a_tree_h0)), (a_source_h0, .inr (3, [.ref a_bytes_a_source_h0, .int size_a_source_h0])), (a_bytes_a_source_h0, .inl (cB, n_a_bytes_a_source_h0, .inl b_a_bytes_a_source_h0)), (a_form_h0, .inr (3, [.ref q3_0_22, .int f3_1_22])), (q3_0_22, .inl (cB, n4_22, .inl b4_22))]) hr d_Wr_putToken_71 [0, 5, 6, 1, 2, 3, 4] rfl (by decide) ⟨q3_0_22, rfl, rfl⟩
    · replace h := it_f c1 h
      refine j_aload_n d_Wr_putToken_28 rfl 3 rfl ?_
      refine j_aload_n d_Wr_putToken_29 rfl 3 rfl ?_
      refine j_get ig_Wr rfl 0 rfl 2 (by decide) rfl m_221 rfl d_Wr_putToken_30 ?_
      refine j_aload_n d_Wr_putToken_33 rfl 3 rfl ?_
      refine j_get ig_Wr rfl 0 rfl 1 (by decide) rfl m_220 rfl d_Wr_putToken_34 ?_
      refine j_iload_n d_Wr_putToken_37 rfl 2 rfl ?_
      refine j_iload d_Wr_putToken_38 0 rfl ?_
      refine j_iadd d_Wr_putToken_40 ?_
      replace h := bd_s h
      obtain ⟨r2, k3, h⟩ := h
      refine j_callV (n := 1) (As := [.int (v2_22 + v4_22)]) (rest := [.ref a_form_h0, .ref h0]) (wr := [(h0, .inr (6, [.ref a_tree_h0, .ref a_source_h0, .ref a_form_h0, .int indent_h0, .int f0_4_22])), (a_form_h0, .inr (3, [.ref q3_0_22, .int f3_1_22])), (q3_0_22, .inl (cB, n4_22, .inl b4_22)), (a_tree_h0, .inr (1, [.ref a_cells_a_tree_h0, .int count_a_tree_h0])), (a_cells_a_tree_h0, .inl (cI, n_a_cells_a_tree_h0, .inl b_a_cells_a_tree_h0))]) (c_Rw_at l D cI cB cJ cS a_source_h0 a_bytes_a_source_h0 (v2_22 + v4_22) size_a_source_h0 n_a_bytes_a_source_h0 b_a_bytes_a_source_h0  r2 k3) k_Wr_72 (by decide) ⟨Nat.le_of_ble_eq_true rfl, Nat.le_of_ble_eq_true rfl⟩ rfl 0 rfl [1, 2] [0, 3, 4, 5, 6] rfl (by decide) rfl (by decide) (by decide) rfl rfl (Nat.le_of_ble_eq_true rfl) d_Wr_putToken_41 ⟨show cl_22 + 0 ≤ mc by omega, show sl_22 + 0 ≤ ms by omega⟩ (fun v w hq => ?_)
      obtain ⟨rfl, rfl⟩ := hq
      refine j_norm (pc' := 44) (st' := [.int r2, .ref a_form_h0, .ref h0]) (ws' := [(h0, .inr (6, [.ref a_tree_h0, .ref a_source_h0, .ref a_form_h0, .int indent_h0, .int f0_4_22])), (a_form_h0, .inr (3, [.ref q3_0_22, .int f3_1_22])), (q3_0_22, .inl (cB, n4_22, .inl b4_22)), (a_tree_h0, .inr (1, [.ref a_cells_a_tree_h0, .int count_a_tree_h0])), (a_cells_a_tree_h0, .inl (cI, n_a_cells_a_tree_h0, .inl b_a_cells_a_tree_h0)), (a_source_h0, .inr (3, [.ref a_bytes_a_source_h0, .int size_a_source_h0])), (a_bytes_a_source_h0, .inl (cB, n_a_bytes_a_source_h0, .inl b_a_bytes_a_source_h0))]) (cl' := cl_22) (sl' := sl_22) rfl rfl rfl rfl rfl rfl ?_
      replace h := bw_s h
      obtain ⟨⟨r4, r5, r6, r7⟩, C10, S11, C12, S13, k14, h, e1, e2⟩ := h
      replace hC : cl_22 + C10 + C12 ≤ mc := by omega
      replace hS : sl_22 + S11 + S13 ≤ ms := by omega
      clear e1 e2
      refine j_callV (n := 1) (As := [.int r2]) (rest := [.ref h0]) (wr := [(h0, .inr (6, [.ref a_tree_h0, .ref a_source_h0, .ref a_form_h0, .int indent_h0, .int f0_4_22])), (a_tree_h0, .inr (1, [.ref a_cells_a_tree_h0, .int count_a_tree_h0])), (a_cells_a_tree_h0, .inl (cI, n_a_cells_a_tree_h0, .inl b_a_cells_a_tree_h0)), (a_source_h0, .inr (3, [.ref a_bytes_a_source_h0, .int size_a_source_h0])), (a_bytes_a_source_h0, .inl (cB, n_a_bytes_a_source_h0, .inl b_a_bytes_a_source_h0))]) (c_Rw_add l D cI cB cJ cS a_form_h0 q3_0_22 r2 f3_1_22 n4_22 b4_22  r4 r5 r6 r7 C10 S11 k14) k_Wr_65 (by decide) ⟨Nat.le_of_ble_eq_true rfl, Nat.le_of_ble_eq_true rfl⟩ rfl 0 rfl [1, 2] [0, 3, 4, 5, 6] rfl (by decide) rfl (by decide) (by decide) rfl rfl (Nat.le_of_ble_eq_true rfl) d_Wr_putToken_44 ⟨show cl_22 + C10 ≤ mc by omega, show sl_22 + S11 ≤ ms by omega⟩ (fun v w hq => ?_)
      obtain ⟨q8, rfl, z9, rfl⟩ := hq
      refine j_norm (pc' := 47) (st' := [.int r4, .ref h0]) (ws' := [(h0, .inr (6, [.ref a_tree_h0, .ref a_source_h0, .ref a_form_h0, .int indent_h0, .int f0_4_22])), (a_tree_h0, .inr (1, [.ref a_cells_a_tree_h0, .int count_a_tree_h0])), (a_cells_a_tree_h0, .inl (cI, n_a_cells_a_tree_h0, .inl b_a_cells_a_tree_h0)), (a_source_h0, .inr (3, [.ref a_bytes_a_source_h0, .int size_a_source_h0])), (a_bytes_a_source_h0, .inl (cB, n_a_bytes_a_source_h0, .inl b_a_bytes_a_source_h0)), (a_form_h0, .inr (3, [.ref q8, .int r5])), (q8, .inl (cB, r6, .inl r7))]) (cl' := cl_22 + C10) (sl' := sl_22 + S11) rfl rfl rfl rfl rfl rfl ?_
      refine j_if_eq (tgt := 61) d_Wr_putToken_47 (by decide) (fun c15 => ?_) (fun c15 => ?_)
      · replace h := it_t c15 h
        refine j_iconst (v := 0) d_Wr_putToken_61 (by decide) ?_
        refine j_put (ws' := [(h0, .inr (6, [.ref a_tree_h0, .ref a_source_h0, .ref a_form_h0, .int indent_h0, .int 0])), (a_tree_h0, .inr (1, [.ref a_cells_a_tree_h0, .int count_a_tree_h0])), (a_cells_a_tree_h0, .inl (cI, n_a_cells_a_tree_h0, .inl b_a_cells_a_tree_h0)), (a_source_h0, .inr (3, [.ref a_bytes_a_source_h0, .int size_a_source_h0])), (a_bytes_a_source_h0, .inl (cB, n_a_bytes_a_source_h0, .inl b_a_bytes_a_source_h0)), (a_form_h0, .inr (3, [.ref q8, .int r5])), (q8, .inl (cB, r6, .inl r7))]) ig_Wr tk_Wr nm_Wr rfl 0 rfl 4 (by decide) rfl m_223 rfl (tk_Wr 4 (by decide)) (zb_n zb0) (zb_fit zb0) (Nat.le_of_ble_eq_true rfl) d_Wr_putToken_62 rfl ?_
        refine j_iinc (v := v4_22 + 1) (lv' := [(4, .int (v4_22 + 1)), (3, .int v3_22), (2, .int v2_22), (0, .ref h0), (1, .int p1)]) d_Wr_putToken_65 0 rfl rfl (by decide) rfl ?_
        refine j_goto (tgt := 22) d_Wr_putToken_68 (by decide) ?_
        refine j_sub (w := [(h0, .inr (6, [.ref a_tree_h0, .ref a_source_h0, .ref a_form_h0, .int indent_h0, .int 0])), (a_source_h0, .inr (3, [.ref a_bytes_a_source_h0, .int size_a_source_h0])), (a_bytes_a_source_h0, .inl (cB, n_a_bytes_a_source_h0, .inl b_a_bytes_a_source_h0)), (a_form_h0, .inr (3, [.ref q8, .int r5])), (q8, .inl (cB, r6, .inl r7)), (a_tree_h0, .inr (1, [.ref a_cells_a_tree_h0, .int count_a_tree_h0])), (a_cells_a_tree_h0, .inl (cI, n_a_cells_a_tree_h0, .inl b_a_cells_a_tree_h0))]) (lv' := [(4, .int (v4_22 + 1)), (3, .int v3_22), (2, .int v2_22), (0, .ref h0), (1, .int p1)]) [0, 3, 4, 5, 6, 1, 2] rfl (by decide) [0, 1, 2, 3, 4] rfl ?_
        exact ih_22 q8 (v4_22 + 1) v3_22 v2_22 0 r5 r6 r7 (cl_22 + C10) (sl_22 + S11) C12 S13 h hC hS
      · replace h := it_f c15 h
        refine j_aload_n d_Wr_putToken_50 rfl 3 rfl ?_
        refine j_get ig_Wr rfl 0 rfl 4 (by decide) rfl m_223 rfl d_Wr_putToken_51 ?_
        refine j_if_eq (tgt := 61) d_Wr_putToken_54 (by decide) (fun c16 => ?_) (fun c16 => ?_)
        · replace h := it_t c16 h
          refine j_iconst (v := 0) d_Wr_putToken_61 (by decide) ?_
          refine j_put (ws' := [(h0, .inr (6, [.ref a_tree_h0, .ref a_source_h0, .ref a_form_h0, .int indent_h0, .int 0])), (a_tree_h0, .inr (1, [.ref a_cells_a_tree_h0, .int count_a_tree_h0])), (a_cells_a_tree_h0, .inl (cI, n_a_cells_a_tree_h0, .inl b_a_cells_a_tree_h0)), (a_source_h0, .inr (3, [.ref a_bytes_a_source_h0, .int size_a_source_h0])), (a_bytes_a_source_h0, .inl (cB, n_a_bytes_a_source_h0, .inl b_a_bytes_a_source_h0)), (a_form_h0, .inr (3, [.ref q8, .int r5])), (q8, .inl (cB, r6, .inl r7))]) ig_Wr tk_Wr nm_Wr rfl 0 rfl 4 (by decide) rfl m_223 rfl (tk_Wr 4 (by decide)) (zb_n zb0) (zb_fit zb0) (Nat.le_of_ble_eq_true rfl) d_Wr_putToken_62 rfl ?_
          refine j_iinc (v := v4_22 + 1) (lv' := [(4, .int (v4_22 + 1)), (3, .int v3_22), (2, .int v2_22), (0, .ref h0), (1, .int p1)]) d_Wr_putToken_65 0 rfl rfl (by decide) rfl ?_
          refine j_goto (tgt := 22) d_Wr_putToken_68 (by decide) ?_
          refine j_sub (w := [(h0, .inr (6, [.ref a_tree_h0, .ref a_source_h0, .ref a_form_h0, .int indent_h0, .int 0])), (a_source_h0, .inr (3, [.ref a_bytes_a_source_h0, .int size_a_source_h0])), (a_bytes_a_source_h0, .inl (cB, n_a_bytes_a_source_h0, .inl b_a_bytes_a_source_h0)), (a_form_h0, .inr (3, [.ref q8, .int r5])), (q8, .inl (cB, r6, .inl r7)), (a_tree_h0, .inr (1, [.ref a_cells_a_tree_h0, .int count_a_tree_h0])), (a_cells_a_tree_h0, .inl (cI, n_a_cells_a_tree_h0, .inl b_a_cells_a_tree_h0))]) (lv' := [(4, .int (v4_22 + 1)), (3, .int v3_22), (2, .int v2_22), (0, .ref h0), (1, .int p1)]) [0, 3, 4, 5, 6, 1, 2] rfl (by decide) [0, 1, 2, 3, 4] rfl ?_
          exact ih_22 q8 (v4_22 + 1) v3_22 v2_22 0 r5 r6 r7 (cl_22 + C10) (sl_22 + S11) C12 S13 h hC hS
        · replace h := it_f c16 h
          refine j_iconst (v := 1) d_Wr_putToken_57 (by decide) ?_
          refine j_goto (tgt := 62) d_Wr_putToken_58 (by decide) ?_
          refine j_put (ws' := [(h0, .inr (6, [.ref a_tree_h0, .ref a_source_h0, .ref a_form_h0, .int indent_h0, .int 1])), (a_tree_h0, .inr (1, [.ref a_cells_a_tree_h0, .int count_a_tree_h0])), (a_cells_a_tree_h0, .inl (cI, n_a_cells_a_tree_h0, .inl b_a_cells_a_tree_h0)), (a_source_h0, .inr (3, [.ref a_bytes_a_source_h0, .int size_a_source_h0])), (a_bytes_a_source_h0, .inl (cB, n_a_bytes_a_source_h0, .inl b_a_bytes_a_source_h0)), (a_form_h0, .inr (3, [.ref q8, .int r5])), (q8, .inl (cB, r6, .inl r7))]) ig_Wr tk_Wr nm_Wr rfl 0 rfl 4 (by decide) rfl m_223 rfl (tk_Wr 4 (by decide)) (zb_n zb1) (zb_fit zb1) (Nat.le_of_ble_eq_true rfl) d_Wr_putToken_62 rfl ?_
          refine j_iinc (v := v4_22 + 1) (lv' := [(4, .int (v4_22 + 1)), (3, .int v3_22), (2, .int v2_22), (0, .ref h0), (1, .int p1)]) d_Wr_putToken_65 0 rfl rfl (by decide) rfl ?_
          refine j_goto (tgt := 22) d_Wr_putToken_68 (by decide) ?_
          refine j_sub (w := [(h0, .inr (6, [.ref a_tree_h0, .ref a_source_h0, .ref a_form_h0, .int indent_h0, .int 1])), (a_source_h0, .inr (3, [.ref a_bytes_a_source_h0, .int size_a_source_h0])), (a_bytes_a_source_h0, .inl (cB, n_a_bytes_a_source_h0, .inl b_a_bytes_a_source_h0)), (a_form_h0, .inr (3, [.ref q8, .int r5])), (q8, .inl (cB, r6, .inl r7)), (a_tree_h0, .inr (1, [.ref a_cells_a_tree_h0, .int count_a_tree_h0])), (a_cells_a_tree_h0, .inl (cI, n_a_cells_a_tree_h0, .inl b_a_cells_a_tree_h0))]) (lv' := [(4, .int (v4_22 + 1)), (3, .int v3_22), (2, .int v2_22), (0, .ref h0), (1, .int p1)]) [0, 3, 4, 5, 6, 1, 2] rfl (by decide) [0, 1, 2, 3, 4] rfl ?_
          exact ih_22 q8 (v4_22 + 1) v3_22 v2_22 1 r5 r6 r7 (cl_22 + C10) (sl_22 + S11) C12 S13 h hC hS
set_option maxHeartbeats 4000000 in
set_option maxRecDepth 100000 in
theorem c_Wr_putToken (l : Launch) (D : va_G) (cI cB cJ cS : ClassId) (h0 : Nat) (a_tree_h0 : Nat) (a_source_h0 : Nat) (a_form_h0 : Nat) (a_cells_a_tree_h0 : Nat) (a_bytes_a_source_h0 : Nat) (a_bytes_a_form_h0 : Nat) (p1 : Int32) (indent_h0 : Int32) (fits_h0 : Int32) (count_a_tree_h0 : Int32) (n_a_cells_a_tree_h0 : Nat) (b_a_cells_a_tree_h0 : Nat → Int32) (size_a_source_h0 : Int32) (n_a_bytes_a_source_h0 : Nat) (b_a_bytes_a_source_h0 : Nat → Int32) (size_a_form_h0 : Int32) (n_a_bytes_a_form_h0 : Nat) (b_a_bytes_a_form_h0 : Nat → Int32) (o_0_4 : Int32) (o_5_1 : Int32) (on_nq_5_0 : Nat) (ob_nq_5_0 : Nat → Int32) (mc ms : Nat) (h : F_Wr_putToken p1 indent_h0 fits_h0 count_a_tree_h0 n_a_cells_a_tree_h0 b_a_cells_a_tree_h0 size_a_source_h0 n_a_bytes_a_source_h0 b_a_bytes_a_source_h0 size_a_form_h0 n_a_bytes_a_form_h0 b_a_bytes_a_form_h0 = some ((o_0_4, o_5_1, on_nq_5_0, ob_nq_5_0), mc, ms)) : Ct l D (gT cI cB cJ cS) y_Wr_putToken prog_10_method_5_code 5 (Option.none : Option Jvm.ClassFile.FieldType) 3 103 mc ms [.ref h0, .int p1] [(h0, .inr (6, [.ref a_tree_h0, .ref a_source_h0, .ref a_form_h0, .int indent_h0, .int fits_h0])), (a_tree_h0, .inr (1, [.ref a_cells_a_tree_h0, .int count_a_tree_h0])), (a_cells_a_tree_h0, .inl (cI, n_a_cells_a_tree_h0, .inl b_a_cells_a_tree_h0)), (a_source_h0, .inr (3, [.ref a_bytes_a_source_h0, .int size_a_source_h0])), (a_bytes_a_source_h0, .inl (cB, n_a_bytes_a_source_h0, .inl b_a_bytes_a_source_h0)), (a_form_h0, .inr (3, [.ref a_bytes_a_form_h0, .int size_a_form_h0])), (a_bytes_a_form_h0, .inl (cB, n_a_bytes_a_form_h0, .inl b_a_bytes_a_form_h0))] (fun v w => ∃ nq_5_0 : Nat, v = none ∧ w = [(h0, .inr (6, [.ref a_tree_h0, .ref a_source_h0, .ref a_form_h0, .int indent_h0, .int o_0_4])), (a_tree_h0, .inr (1, [.ref a_cells_a_tree_h0, .int count_a_tree_h0])), (a_cells_a_tree_h0, .inl (cI, n_a_cells_a_tree_h0, .inl b_a_cells_a_tree_h0)), (a_source_h0, .inr (3, [.ref a_bytes_a_source_h0, .int size_a_source_h0])), (a_bytes_a_source_h0, .inl (cB, n_a_bytes_a_source_h0, .inl b_a_bytes_a_source_h0)), (a_form_h0, .inr (3, [.ref nq_5_0, .int o_5_1])), (nq_5_0, .inl (cB, on_nq_5_0, .inl ob_nq_5_0))]) := by
  refine Ct.mk (by decide) (Nat.le_of_ble_eq_true rfl) ?_
  intro p e s m below meth c hr hnm
  refine j_norm (pc' := 0) (lv' := [(0, .ref h0), (1, .int p1)]) (st' := []) (ws' := [(h0, .inr (6, [.ref a_tree_h0, .ref a_source_h0, .ref a_form_h0, .int indent_h0, .int fits_h0])), (a_tree_h0, .inr (1, [.ref a_cells_a_tree_h0, .int count_a_tree_h0])), (a_cells_a_tree_h0, .inl (cI, n_a_cells_a_tree_h0, .inl b_a_cells_a_tree_h0)), (a_source_h0, .inr (3, [.ref a_bytes_a_source_h0, .int size_a_source_h0])), (a_bytes_a_source_h0, .inl (cB, n_a_bytes_a_source_h0, .inl b_a_bytes_a_source_h0)), (a_form_h0, .inr (3, [.ref a_bytes_a_form_h0, .int size_a_form_h0])), (a_bytes_a_form_h0, .inl (cB, n_a_bytes_a_form_h0, .inl b_a_bytes_a_form_h0))]) (cl' := 0) (sl' := 0) rfl rfl rfl rfl rfl rfl ?_
  unfold F_Wr_putToken at h
  have hC : 0 + mc ≤ mc := by omega
  have hS : 0 + ms ≤ ms := by omega
  refine j_aload_n d_Wr_putToken_0 rfl 0 rfl ?_
  refine j_get ig_Wr rfl 0 rfl 0 (by decide) rfl m_219 rfl d_Wr_putToken_1 ?_
  refine j_iload_n d_Wr_putToken_4 rfl 1 rfl ?_
  replace h := bd_s h
  obtain ⟨r17, k18, h⟩ := h
  refine j_callV (n := 1) (As := [.int p1]) (rest := []) (wr := [(h0, .inr (6, [.ref a_tree_h0, .ref a_source_h0, .ref a_form_h0, .int indent_h0, .int fits_h0])), (a_source_h0, .inr (3, [.ref a_bytes_a_source_h0, .int size_a_source_h0])), (a_bytes_a_source_h0, .inl (cB, n_a_bytes_a_source_h0, .inl b_a_bytes_a_source_h0)), (a_form_h0, .inr (3, [.ref a_bytes_a_form_h0, .int size_a_form_h0])), (a_bytes_a_form_h0, .inl (cB, n_a_bytes_a_form_h0, .inl b_a_bytes_a_form_h0))]) (c_Nd_tokenPlace l D cI cB cJ cS a_tree_h0 a_cells_a_tree_h0 p1 count_a_tree_h0 n_a_cells_a_tree_h0 b_a_cells_a_tree_h0  r17 k18) k_Wr_69 (by decide) ⟨Nat.le_of_ble_eq_true rfl, Nat.le_of_ble_eq_true rfl⟩ rfl 0 rfl [1, 2] [0, 3, 4, 5, 6] rfl (by decide) rfl (by decide) (by decide) rfl rfl (Nat.le_of_ble_eq_true rfl) d_Wr_putToken_5 ⟨show 0 + 0 ≤ mc by omega, show 0 + 0 ≤ ms by omega⟩ (fun v w hq => ?_)
  obtain ⟨rfl, rfl⟩ := hq
  refine j_norm (pc' := 8) (st' := [.int r17]) (ws' := [(h0, .inr (6, [.ref a_tree_h0, .ref a_source_h0, .ref a_form_h0, .int indent_h0, .int fits_h0])), (a_source_h0, .inr (3, [.ref a_bytes_a_source_h0, .int size_a_source_h0])), (a_bytes_a_source_h0, .inl (cB, n_a_bytes_a_source_h0, .inl b_a_bytes_a_source_h0)), (a_form_h0, .inr (3, [.ref a_bytes_a_form_h0, .int size_a_form_h0])), (a_bytes_a_form_h0, .inl (cB, n_a_bytes_a_form_h0, .inl b_a_bytes_a_form_h0)), (a_tree_h0, .inr (1, [.ref a_cells_a_tree_h0, .int count_a_tree_h0])), (a_cells_a_tree_h0, .inl (cI, n_a_cells_a_tree_h0, .inl b_a_cells_a_tree_h0))]) (cl' := 0) (sl' := 0) rfl rfl rfl rfl rfl rfl ?_
  refine j_istore_n (lv' := [(2, .int r17), (0, .ref h0), (1, .int p1)]) d_Wr_putToken_8 rfl (by decide) rfl ?_
  refine j_aload_n d_Wr_putToken_9 rfl 1 rfl ?_
  refine j_get ig_Wr rfl 0 rfl 0 (by decide) rfl m_219 rfl d_Wr_putToken_10 ?_
  refine j_iload_n d_Wr_putToken_13 rfl 2 rfl ?_
  refine j_iconst (v := 4) d_Wr_putToken_14 (by decide) ?_
  replace h := bd_s h
  obtain ⟨r19, k20, h⟩ := h
  refine j_callV (n := 2) (As := [.int p1, .int 4]) (rest := []) (wr := [(h0, .inr (6, [.ref a_tree_h0, .ref a_source_h0, .ref a_form_h0, .int indent_h0, .int fits_h0])), (a_source_h0, .inr (3, [.ref a_bytes_a_source_h0, .int size_a_source_h0])), (a_bytes_a_source_h0, .inl (cB, n_a_bytes_a_source_h0, .inl b_a_bytes_a_source_h0)), (a_form_h0, .inr (3, [.ref a_bytes_a_form_h0, .int size_a_form_h0])), (a_bytes_a_form_h0, .inl (cB, n_a_bytes_a_form_h0, .inl b_a_bytes_a_form_h0))]) (c_Nd_get l D cI cB cJ cS a_tree_h0 a_cells_a_tree_h0 p1 4 count_a_tree_h0 n_a_cells_a_tree_h0 b_a_cells_a_tree_h0  r19 k20) k_Wr_52 (by decide) ⟨Nat.le_of_ble_eq_true rfl, Nat.le_of_ble_eq_true rfl⟩ rfl 0 rfl [5, 6] [0, 1, 2, 3, 4] rfl (by decide) rfl (by decide) (by decide) rfl rfl (Nat.le_of_ble_eq_true rfl) d_Wr_putToken_15 ⟨show 0 + 0 ≤ mc by omega, show 0 + 0 ≤ ms by omega⟩ (fun v w hq => ?_)
  obtain ⟨rfl, rfl⟩ := hq
  refine j_norm (pc' := 18) (st' := [.int r19]) (ws' := [(h0, .inr (6, [.ref a_tree_h0, .ref a_source_h0, .ref a_form_h0, .int indent_h0, .int fits_h0])), (a_source_h0, .inr (3, [.ref a_bytes_a_source_h0, .int size_a_source_h0])), (a_bytes_a_source_h0, .inl (cB, n_a_bytes_a_source_h0, .inl b_a_bytes_a_source_h0)), (a_form_h0, .inr (3, [.ref a_bytes_a_form_h0, .int size_a_form_h0])), (a_bytes_a_form_h0, .inl (cB, n_a_bytes_a_form_h0, .inl b_a_bytes_a_form_h0)), (a_tree_h0, .inr (1, [.ref a_cells_a_tree_h0, .int count_a_tree_h0])), (a_cells_a_tree_h0, .inl (cI, n_a_cells_a_tree_h0, .inl b_a_cells_a_tree_h0))]) (cl' := 0) (sl' := 0) rfl rfl rfl rfl rfl rfl ?_
  refine j_istore_n (lv' := [(3, .int r19), (2, .int r17), (0, .ref h0), (1, .int p1)]) d_Wr_putToken_18 rfl (by decide) rfl ?_
  refine j_iconst (v := 0) d_Wr_putToken_19 (by decide) ?_
  refine j_istore (lv' := [(4, .int 0), (3, .int r19), (2, .int r17), (0, .ref h0), (1, .int p1)]) d_Wr_putToken_20 (by decide) rfl ?_
  refine j_sub (w := [(h0, .inr (6, [.ref a_tree_h0, .ref a_source_h0, .ref a_form_h0, .int indent_h0, .int fits_h0])), (a_source_h0, .inr (3, [.ref a_bytes_a_source_h0, .int size_a_source_h0])), (a_bytes_a_source_h0, .inl (cB, n_a_bytes_a_source_h0, .inl b_a_bytes_a_source_h0)), (a_form_h0, .inr (3, [.ref a_bytes_a_form_h0, .int size_a_form_h0])), (a_bytes_a_form_h0, .inl (cB, n_a_bytes_a_form_h0, .inl b_a_bytes_a_form_h0)), (a_tree_h0, .inr (1, [.ref a_cells_a_tree_h0, .int count_a_tree_h0])), (a_cells_a_tree_h0, .inl (cI, n_a_cells_a_tree_h0, .inl b_a_cells_a_tree_h0))]) (lv' := [(4, .int 0), (3, .int r19), (2, .int r17), (0, .ref h0), (1, .int p1)]) [0, 1, 2, 3, 4, 5, 6] rfl (by decide) [0, 1, 2, 3, 4] rfl ?_
  exact L_Wr_putToken_22 l D cI cB cJ cS h0 a_tree_h0 a_source_h0 a_form_h0 a_cells_a_tree_h0 a_bytes_a_source_h0 a_bytes_a_form_h0 p1 indent_h0 fits_h0 count_a_tree_h0 n_a_cells_a_tree_h0 b_a_cells_a_tree_h0 size_a_source_h0 n_a_bytes_a_source_h0 b_a_bytes_a_source_h0 size_a_form_h0 n_a_bytes_a_form_h0 b_a_bytes_a_form_h0 o_0_4 o_5_1 on_nq_5_0 ob_nq_5_0 mc ms p e s m below meth c hr hnm FU a_bytes_a_form_h0 0 r19 r17 fits_h0 size_a_form_h0 n_a_bytes_a_form_h0 b_a_bytes_a_form_h0 0 0 mc ms h hC hS
