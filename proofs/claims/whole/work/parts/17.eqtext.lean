def F_Sc_step_120 (v1_120 : Int32) (t0_120 : Int32) (f0_1_120 : Int32) (f0_2_120 : Int32) (f0_3_120 : Int32) : Option (Int32 × Int32 × Int32 × Int32) :=
    (some (f0_3_120 + t0_120, f0_2_120, f0_3_120, t0_120))
def F_Sc_step (next_h0 : Int32) (kind_h0 : Int32) (start_h0 : Int32) (width_h0 : Int32) (size_a_text_h0 : Int32) (n_a_bytes_a_text_h0 : Nat) (b_a_bytes_a_text_h0 : Nat → Int32) : Option (Int32 × Int32 × Int32 × Int32) :=
  Option.bind (F_Sc_skipBlanks next_h0 kind_h0 start_h0 width_h0 size_a_text_h0 n_a_bytes_a_text_h0 b_a_bytes_a_text_h0) fun r1 =>
  Option.bind (F_Rw_at r1 size_a_text_h0 n_a_bytes_a_text_h0 b_a_bytes_a_text_h0) fun r3 =>
  if r3 = (-1) then (some (r1 + 0, 0, r1, 0))
  else (nm (F_Sc_isLetter r3) fun r6 =>
    if r6 = 0 then (nm (F_Sc_isDigit r3) fun r10 =>
      if r10 = 0 then (if r3 = 34 then (Option.bind (F_Sc_scanText r1 kind_h0 r1 width_h0 size_a_text_h0 n_a_bytes_a_text_h0 b_a_bytes_a_text_h0) fun ⟨r20, r21⟩ =>
          (some (r1 + r21, r20, r1, r21)))
        else (Option.bind (F_Rw_at (r1 + 1) size_a_text_h0 n_a_bytes_a_text_h0 b_a_bytes_a_text_h0) fun r15 =>
          nm (F_Sc_signs r3 r15) fun r17 =>
          if r17 < 256 then (F_Sc_step_120    r3 1 r1 r17 r1)
          else (F_Sc_step_120    r3 2 r1 r17 r1)))
      else (Option.bind (F_Sc_scanNumeral r1 kind_h0 r1 width_h0 size_a_text_h0 n_a_bytes_a_text_h0 b_a_bytes_a_text_h0) fun ⟨r23, r24⟩ =>
        (some (r1 + r24, r23, r1, r24))))
    else (Option.bind (F_Sc_scanName r1 kind_h0 r1 width_h0 size_a_text_h0 n_a_bytes_a_text_h0 b_a_bytes_a_text_h0) fun ⟨r26, r27⟩ =>
      (some (r1 + r27, r26, r1, r27))))
theorem d_Sc_step_0 : decode prog_8_method_8_code 0 = .ok (.aload_n 0, 1) := by decide +kernel
theorem d_Sc_step_1 : decode prog_8_method_8_code 1 = .ok (.invokevirtual 31, 3) := by decide +kernel
theorem d_Sc_step_4 : decode prog_8_method_8_code 4 = .ok (.aload_n 0, 1) := by decide +kernel
theorem d_Sc_step_5 : decode prog_8_method_8_code 5 = .ok (.aload_n 0, 1) := by decide +kernel
theorem d_Sc_step_6 : decode prog_8_method_8_code 6 = .ok (.getfield 18, 3) := by decide +kernel
theorem d_Sc_step_9 : decode prog_8_method_8_code 9 = .ok (.putfield 25, 3) := by decide +kernel
theorem d_Sc_step_12 : decode prog_8_method_8_code 12 = .ok (.aload_n 0, 1) := by decide +kernel
theorem d_Sc_step_13 : decode prog_8_method_8_code 13 = .ok (.getfield 12, 3) := by decide +kernel
theorem d_Sc_step_16 : decode prog_8_method_8_code 16 = .ok (.aload_n 0, 1) := by decide +kernel
theorem d_Sc_step_17 : decode prog_8_method_8_code 17 = .ok (.getfield 25, 3) := by decide +kernel
theorem d_Sc_step_20 : decode prog_8_method_8_code 20 = .ok (.invokevirtual 34, 3) := by decide +kernel
theorem d_Sc_step_23 : decode prog_8_method_8_code 23 = .ok (.istore_n 1, 1) := by decide +kernel
theorem d_Sc_step_24 : decode prog_8_method_8_code 24 = .ok (.iload_n 1, 1) := by decide +kernel
theorem d_Sc_step_25 : decode prog_8_method_8_code 25 = .ok (.iconst (-1), 1) := by decide +kernel
theorem d_Sc_step_26 : decode prog_8_method_8_code 26 = .ok (.if_icmp .ne 16, 3) := by decide +kernel
theorem d_Sc_step_29 : decode prog_8_method_8_code 29 = .ok (.aload_n 0, 1) := by decide +kernel
theorem d_Sc_step_30 : decode prog_8_method_8_code 30 = .ok (.iconst 0, 1) := by decide +kernel
theorem d_Sc_step_31 : decode prog_8_method_8_code 31 = .ok (.putfield 22, 3) := by decide +kernel
theorem d_Sc_step_34 : decode prog_8_method_8_code 34 = .ok (.aload_n 0, 1) := by decide +kernel
theorem d_Sc_step_35 : decode prog_8_method_8_code 35 = .ok (.iconst 0, 1) := by decide +kernel
theorem d_Sc_step_36 : decode prog_8_method_8_code 36 = .ok (.putfield 28, 3) := by decide +kernel
theorem d_Sc_step_39 : decode prog_8_method_8_code 39 = .ok (.goto 84, 3) := by decide +kernel
theorem d_Sc_step_42 : decode prog_8_method_8_code 42 = .ok (.iload_n 1, 1) := by decide +kernel
theorem d_Sc_step_43 : decode prog_8_method_8_code 43 = .ok (.invokestatic 38, 3) := by decide +kernel
theorem d_Sc_step_46 : decode prog_8_method_8_code 46 = .ok (.ifCond .eq 10, 3) := by decide +kernel
theorem d_Sc_step_49 : decode prog_8_method_8_code 49 = .ok (.aload_n 0, 1) := by decide +kernel
theorem d_Sc_step_50 : decode prog_8_method_8_code 50 = .ok (.invokevirtual 42, 3) := by decide +kernel
theorem d_Sc_step_53 : decode prog_8_method_8_code 53 = .ok (.goto 70, 3) := by decide +kernel
theorem d_Sc_step_56 : decode prog_8_method_8_code 56 = .ok (.iload_n 1, 1) := by decide +kernel
theorem d_Sc_step_57 : decode prog_8_method_8_code 57 = .ok (.invokestatic 45, 3) := by decide +kernel
theorem d_Sc_step_60 : decode prog_8_method_8_code 60 = .ok (.ifCond .eq 10, 3) := by decide +kernel
theorem d_Sc_step_63 : decode prog_8_method_8_code 63 = .ok (.aload_n 0, 1) := by decide +kernel
theorem d_Sc_step_64 : decode prog_8_method_8_code 64 = .ok (.invokevirtual 48, 3) := by decide +kernel
theorem d_Sc_step_67 : decode prog_8_method_8_code 67 = .ok (.goto 56, 3) := by decide +kernel
theorem d_Sc_step_70 : decode prog_8_method_8_code 70 = .ok (.iload_n 1, 1) := by decide +kernel
theorem d_Sc_step_71 : decode prog_8_method_8_code 71 = .ok (.bipush 34, 2) := by decide +kernel
theorem d_Sc_step_73 : decode prog_8_method_8_code 73 = .ok (.if_icmp .ne 10, 3) := by decide +kernel
theorem d_Sc_step_76 : decode prog_8_method_8_code 76 = .ok (.aload_n 0, 1) := by decide +kernel
theorem d_Sc_step_77 : decode prog_8_method_8_code 77 = .ok (.invokevirtual 51, 3) := by decide +kernel
theorem d_Sc_step_80 : decode prog_8_method_8_code 80 = .ok (.goto 43, 3) := by decide +kernel
theorem d_Sc_step_83 : decode prog_8_method_8_code 83 = .ok (.aload_n 0, 1) := by decide +kernel
theorem d_Sc_step_84 : decode prog_8_method_8_code 84 = .ok (.iload_n 1, 1) := by decide +kernel
theorem d_Sc_step_85 : decode prog_8_method_8_code 85 = .ok (.aload_n 0, 1) := by decide +kernel
theorem d_Sc_step_86 : decode prog_8_method_8_code 86 = .ok (.getfield 12, 3) := by decide +kernel
theorem d_Sc_step_89 : decode prog_8_method_8_code 89 = .ok (.aload_n 0, 1) := by decide +kernel
theorem d_Sc_step_90 : decode prog_8_method_8_code 90 = .ok (.getfield 25, 3) := by decide +kernel
theorem d_Sc_step_93 : decode prog_8_method_8_code 93 = .ok (.iconst 1, 1) := by decide +kernel
theorem d_Sc_step_94 : decode prog_8_method_8_code 94 = .ok (.iadd, 1) := by decide +kernel
theorem d_Sc_step_95 : decode prog_8_method_8_code 95 = .ok (.invokevirtual 34, 3) := by decide +kernel
theorem d_Sc_step_98 : decode prog_8_method_8_code 98 = .ok (.invokestatic 54, 3) := by decide +kernel
theorem d_Sc_step_101 : decode prog_8_method_8_code 101 = .ok (.putfield 22, 3) := by decide +kernel
theorem d_Sc_step_104 : decode prog_8_method_8_code 104 = .ok (.aload_n 0, 1) := by decide +kernel
theorem d_Sc_step_105 : decode prog_8_method_8_code 105 = .ok (.aload_n 0, 1) := by decide +kernel
theorem d_Sc_step_106 : decode prog_8_method_8_code 106 = .ok (.getfield 22, 3) := by decide +kernel
theorem d_Sc_step_109 : decode prog_8_method_8_code 109 = .ok (.sipush 256, 3) := by decide +kernel
theorem d_Sc_step_112 : decode prog_8_method_8_code 112 = .ok (.if_icmp .lt 7, 3) := by decide +kernel
theorem d_Sc_step_115 : decode prog_8_method_8_code 115 = .ok (.iconst 2, 1) := by decide +kernel
theorem d_Sc_step_116 : decode prog_8_method_8_code 116 = .ok (.goto 4, 3) := by decide +kernel
theorem d_Sc_step_119 : decode prog_8_method_8_code 119 = .ok (.iconst 1, 1) := by decide +kernel
theorem d_Sc_step_120 : decode prog_8_method_8_code 120 = .ok (.putfield 28, 3) := by decide +kernel
theorem d_Sc_step_123 : decode prog_8_method_8_code 123 = .ok (.aload_n 0, 1) := by decide +kernel
theorem d_Sc_step_124 : decode prog_8_method_8_code 124 = .ok (.aload_n 0, 1) := by decide +kernel
theorem d_Sc_step_125 : decode prog_8_method_8_code 125 = .ok (.getfield 25, 3) := by decide +kernel
theorem d_Sc_step_128 : decode prog_8_method_8_code 128 = .ok (.aload_n 0, 1) := by decide +kernel
theorem d_Sc_step_129 : decode prog_8_method_8_code 129 = .ok (.getfield 28, 3) := by decide +kernel
theorem d_Sc_step_132 : decode prog_8_method_8_code 132 = .ok (.iadd, 1) := by decide +kernel
theorem d_Sc_step_133 : decode prog_8_method_8_code 133 = .ok (.putfield 18, 3) := by decide +kernel
theorem d_Sc_step_136 : decode prog_8_method_8_code 136 = .ok (.return_, 1) := by decide +kernel
set_option maxHeartbeats 4000000 in
set_option maxRecDepth 100000 in
theorem L_Sc_step_120 (l : Launch) (D : va_G) (cI cB cJ cS : ClassId) (h0 : Nat) (a_text_h0 : Nat) (a_bytes_a_text_h0 : Nat) (next_h0 : Int32) (kind_h0 : Int32) (start_h0 : Int32) (width_h0 : Int32) (size_a_text_h0 : Int32) (n_a_bytes_a_text_h0 : Nat) (b_a_bytes_a_text_h0 : Nat → Int32) (o_0_1 : Int32) (o_0_2 : Int32) (o_0_3 : Int32) (o_0_4 : Int32) (p : Program) (e : Env) (s : State) (m : MethodId) (below : List Frame) (meth : Method) (c : Code) (hr : meth.sig.returnType = (Option.none : Option Jvm.ClassFile.FieldType)) (hnm : meth.name = y_Sc_step.name) : ∀ (v1_120 : Int32) (t0_120 : Int32) (f0_1_120 : Int32) (f0_2_120 : Int32) (f0_3_120 : Int32), F_Sc_step_120    v1_120 t0_120 f0_1_120 f0_2_120 f0_3_120 = some (o_0_1, o_0_2, o_0_3, o_0_4) → J (KxOf p l e { frames := 7, cells := 0, slots := 0, locals := 162 } s m [.ref h0].toArray below meth c D (gT cI cB cJ cS) [(h0, .inr (4, [.ref a_text_h0, .int next_h0, .int kind_h0, .int start_h0, .int width_h0])), (a_text_h0, .inr (3, [.ref a_bytes_a_text_h0, .int size_a_text_h0])), (a_bytes_a_text_h0, .inl (cB, n_a_bytes_a_text_h0, .inl b_a_bytes_a_text_h0))] (fun v w => v = none ∧ w = [(h0, .inr (4, [.ref a_text_h0, .int o_0_1, .int o_0_2, .int o_0_3, .int o_0_4])), (a_text_h0, .inr (3, [.ref a_bytes_a_text_h0, .int size_a_text_h0])), (a_bytes_a_text_h0, .inl (cB, n_a_bytes_a_text_h0, .inl b_a_bytes_a_text_h0))]) 0 0) prog_8_method_8_code 2 R_Sc 120 [(1, .int v1_120), (0, .ref h0)] [.int t0_120, .ref h0] [(h0, .inr (4, [.ref a_text_h0, .int f0_1_120, .int f0_2_120, .int f0_3_120, .int width_h0])), (a_text_h0, .inr (3, [.ref a_bytes_a_text_h0, .int size_a_text_h0])), (a_bytes_a_text_h0, .inl (cB, n_a_bytes_a_text_h0, .inl b_a_bytes_a_text_h0))] 0 0 := by
  intro v1_120 t0_120 f0_1_120 f0_2_120 f0_3_120 h
  unfold F_Sc_step_120 at h
  refine j_put (ws' := [(h0, .inr (4, [.ref a_text_h0, .int f0_1_120, .int f0_2_120, .int f0_3_120, .int t0_120])), (a_text_h0, .inr (3, [.ref a_bytes_a_text_h0, .int size_a_text_h0])), (a_bytes_a_text_h0, .inl (cB, n_a_bytes_a_text_h0, .inl b_a_bytes_a_text_h0))]) ig_Sc tk_Sc nm_Sc rfl 0 rfl 4 (by decide) rfl m_61 rfl (tk_Sc 4 (by decide)) rfl rfl (Nat.le_of_ble_eq_true rfl) d_Sc_step_120 rfl ?_
  refine j_aload_n d_Sc_step_123 rfl 1 rfl ?_
  refine j_aload_n d_Sc_step_124 rfl 1 rfl ?_
  refine j_get ig_Sc rfl 0 rfl 3 (by decide) rfl m_60 rfl d_Sc_step_125 ?_
  refine j_aload_n d_Sc_step_128 rfl 1 rfl ?_
  refine j_get ig_Sc rfl 0 rfl 4 (by decide) rfl m_61 rfl d_Sc_step_129 ?_
  refine j_iadd d_Sc_step_132 ?_
  refine j_put (ws' := [(h0, .inr (4, [.ref a_text_h0, .int (f0_3_120 + t0_120), .int f0_2_120, .int f0_3_120, .int t0_120])), (a_text_h0, .inr (3, [.ref a_bytes_a_text_h0, .int size_a_text_h0])), (a_bytes_a_text_h0, .inl (cB, n_a_bytes_a_text_h0, .inl b_a_bytes_a_text_h0))]) ig_Sc tk_Sc nm_Sc rfl 0 rfl 1 (by decide) rfl m_58 rfl (tk_Sc 1 (by decide)) rfl rfl (Nat.le_of_ble_eq_true rfl) d_Sc_step_133 rfl ?_
  replace h := Option.some.inj h
  replace h := Prod.mk.inj h
  obtain ⟨h9, h⟩ := h
  subst h9
  replace h := Prod.mk.inj h
  obtain ⟨h9, h⟩ := h
  subst h9
  replace h := Prod.mk.inj h
  obtain ⟨h9, h⟩ := h
  subst h9
  subst h
  exact j_vret (w := [(h0, .inr (4, [.ref a_text_h0, .int (f0_3_120 + t0_120), .int f0_2_120, .int f0_3_120, .int t0_120])), (a_text_h0, .inr (3, [.ref a_bytes_a_text_h0, .int size_a_text_h0])), (a_bytes_a_text_h0, .inl (cB, n_a_bytes_a_text_h0, .inl b_a_bytes_a_text_h0))]) hr d_Sc_step_136 [0, 1, 2] rfl (by decide) ⟨rfl, rfl⟩
set_option maxHeartbeats 4000000 in
set_option maxRecDepth 100000 in
theorem c_Sc_step (l : Launch) (D : va_G) (cI cB cJ cS : ClassId) (h0 : Nat) (a_text_h0 : Nat) (a_bytes_a_text_h0 : Nat) (next_h0 : Int32) (kind_h0 : Int32) (start_h0 : Int32) (width_h0 : Int32) (size_a_text_h0 : Int32) (n_a_bytes_a_text_h0 : Nat) (b_a_bytes_a_text_h0 : Nat → Int32) (o_0_1 : Int32) (o_0_2 : Int32) (o_0_3 : Int32) (o_0_4 : Int32) (h : F_Sc_step next_h0 kind_h0 start_h0 width_h0 size_a_text_h0 n_a_bytes_a_text_h0 b_a_bytes_a_text_h0 = some (o_0_1, o_0_2, o_0_3, o_0_4)) : Ct l D (gT cI cB cJ cS) y_Sc_step prog_8_method_8_code 2 (Option.none : Option Jvm.ClassFile.FieldType) 7 162 0 0 [.ref h0] [(h0, .inr (4, [.ref a_text_h0, .int next_h0, .int kind_h0, .int start_h0, .int width_h0])), (a_text_h0, .inr (3, [.ref a_bytes_a_text_h0, .int size_a_text_h0])), (a_bytes_a_text_h0, .inl (cB, n_a_bytes_a_text_h0, .inl b_a_bytes_a_text_h0))] (fun v w => v = none ∧ w = [(h0, .inr (4, [.ref a_text_h0, .int o_0_1, .int o_0_2, .int o_0_3, .int o_0_4])), (a_text_h0, .inr (3, [.ref a_bytes_a_text_h0, .int size_a_text_h0])), (a_bytes_a_text_h0, .inl (cB, n_a_bytes_a_text_h0, .inl b_a_bytes_a_text_h0))]) := by
  refine Ct.mk (by decide) (Nat.le_of_ble_eq_true rfl) ?_
  intro p e s m below meth c hr hnm
  refine j_norm (pc' := 0) (lv' := [(0, .ref h0)]) (st' := []) (ws' := [(h0, .inr (4, [.ref a_text_h0, .int next_h0, .int kind_h0, .int start_h0, .int width_h0])), (a_text_h0, .inr (3, [.ref a_bytes_a_text_h0, .int size_a_text_h0])), (a_bytes_a_text_h0, .inl (cB, n_a_bytes_a_text_h0, .inl b_a_bytes_a_text_h0))]) (cl' := 0) (sl' := 0) rfl rfl rfl rfl rfl rfl ?_
  unfold F_Sc_step at h
  refine j_aload_n d_Sc_step_0 rfl 0 rfl ?_
  replace h := bd_s h
  obtain ⟨r1, k2, h⟩ := h
  refine j_callV (n := 0) (As := []) (rest := []) (wr := []) (c_Sc_skipBlanks l D cI cB cJ cS h0 a_text_h0 a_bytes_a_text_h0 next_h0 kind_h0 start_h0 width_h0 size_a_text_h0 n_a_bytes_a_text_h0 b_a_bytes_a_text_h0  r1 k2) k_Sc_31 (by decide) ⟨Nat.le_of_ble_eq_true rfl, Nat.le_of_ble_eq_true rfl⟩ rfl 0 rfl [0, 1, 2] [] rfl (by decide) rfl (by decide) (by decide) rfl rfl (Nat.le_of_ble_eq_true rfl) d_Sc_step_1 ⟨Nat.le_of_ble_eq_true rfl, Nat.le_of_ble_eq_true rfl⟩ (fun v w hq => ?_)
  obtain ⟨rfl, rfl⟩ := hq
  refine j_norm (pc' := 4) (st' := []) (ws' := [(h0, .inr (4, [.ref a_text_h0, .int r1, .int kind_h0, .int start_h0, .int width_h0])), (a_text_h0, .inr (3, [.ref a_bytes_a_text_h0, .int size_a_text_h0])), (a_bytes_a_text_h0, .inl (cB, n_a_bytes_a_text_h0, .inl b_a_bytes_a_text_h0))]) (cl' := 0) (sl' := 0) rfl rfl rfl rfl rfl rfl ?_
  refine j_aload_n d_Sc_step_4 rfl 0 rfl ?_
  refine j_aload_n d_Sc_step_5 rfl 0 rfl ?_
  refine j_get ig_Sc rfl 0 rfl 1 (by decide) rfl m_58 rfl d_Sc_step_6 ?_
  refine j_put (ws' := [(h0, .inr (4, [.ref a_text_h0, .int r1, .int kind_h0, .int r1, .int width_h0])), (a_text_h0, .inr (3, [.ref a_bytes_a_text_h0, .int size_a_text_h0])), (a_bytes_a_text_h0, .inl (cB, n_a_bytes_a_text_h0, .inl b_a_bytes_a_text_h0))]) ig_Sc tk_Sc nm_Sc rfl 0 rfl 3 (by decide) rfl m_60 rfl (tk_Sc 3 (by decide)) rfl rfl (Nat.le_of_ble_eq_true rfl) d_Sc_step_9 rfl ?_
  refine j_aload_n d_Sc_step_12 rfl 0 rfl ?_
  refine j_get ig_Sc rfl 0 rfl 0 (by decide) rfl m_57 rfl d_Sc_step_13 ?_
  refine j_aload_n d_Sc_step_16 rfl 0 rfl ?_
  refine j_get ig_Sc rfl 0 rfl 3 (by decide) rfl m_60 rfl d_Sc_step_17 ?_
  replace h := bd_s h
  obtain ⟨r3, k4, h⟩ := h
  refine j_callV (n := 1) (As := [.int r1]) (rest := []) (wr := [(h0, .inr (4, [.ref a_text_h0, .int r1, .int kind_h0, .int r1, .int width_h0]))]) (c_Rw_at l D cI cB cJ cS a_text_h0 a_bytes_a_text_h0 r1 size_a_text_h0 n_a_bytes_a_text_h0 b_a_bytes_a_text_h0  r3 k4) k_Sc_34 (by decide) ⟨Nat.le_of_ble_eq_true rfl, Nat.le_of_ble_eq_true rfl⟩ rfl 0 rfl [1, 2] [0] rfl (by decide) rfl (by decide) (by decide) rfl rfl (Nat.le_of_ble_eq_true rfl) d_Sc_step_20 ⟨Nat.le_of_ble_eq_true rfl, Nat.le_of_ble_eq_true rfl⟩ (fun v w hq => ?_)
  obtain ⟨rfl, rfl⟩ := hq
  refine j_norm (pc' := 23) (st' := [.int r3]) (ws' := [(h0, .inr (4, [.ref a_text_h0, .int r1, .int kind_h0, .int r1, .int width_h0])), (a_text_h0, .inr (3, [.ref a_bytes_a_text_h0, .int size_a_text_h0])), (a_bytes_a_text_h0, .inl (cB, n_a_bytes_a_text_h0, .inl b_a_bytes_a_text_h0))]) (cl' := 0) (sl' := 0) rfl rfl rfl rfl rfl rfl ?_
  refine j_istore_n (lv' := [(1, .int r3), (0, .ref h0)]) d_Sc_step_23 rfl (by decide) rfl ?_
  refine j_iload_n d_Sc_step_24 rfl 0 rfl ?_
  refine j_iconst (v := (-1)) d_Sc_step_25 (by decide) ?_
  refine j_icmp_ne (tgt := 42) d_Sc_step_26 (by decide) (fun c5 => ?_) (fun c5 => ?_)
  · replace h := it_f c5 h
    refine j_iload_n d_Sc_step_42 rfl 0 rfl ?_
    obtain ⟨r6, k8⟩ : ∃ z, (F_Sc_isLetter r3) = z := ⟨_, rfl⟩
    replace h := nm_at k8 h
    refine j_callS (n := 1) (As := [.int r3]) (rest := []) (wr := [(h0, .inr (4, [.ref a_text_h0, .int r1, .int kind_h0, .int r1, .int width_h0])), (a_text_h0, .inr (3, [.ref a_bytes_a_text_h0, .int size_a_text_h0])), (a_bytes_a_text_h0, .inl (cB, n_a_bytes_a_text_h0, .inl b_a_bytes_a_text_h0))]) (c_Sc_isLetter l D cI cB cJ cS r3  r6 k8) k_Sc_38 (by decide) ⟨Nat.le_of_ble_eq_true rfl, Nat.le_of_ble_eq_true rfl⟩ [] [0, 1, 2] rfl (by decide) rfl (by decide) (by decide) rfl rfl (Nat.le_of_ble_eq_true rfl) d_Sc_step_43 ⟨Nat.le_of_ble_eq_true rfl, Nat.le_of_ble_eq_true rfl⟩ (fun v w hq => ?_)
    obtain ⟨rfl, z7, rfl⟩ := hq
    refine j_norm (pc' := 46) (st' := [.int r6]) (ws' := [(h0, .inr (4, [.ref a_text_h0, .int r1, .int kind_h0, .int r1, .int width_h0])), (a_text_h0, .inr (3, [.ref a_bytes_a_text_h0, .int size_a_text_h0])), (a_bytes_a_text_h0, .inl (cB, n_a_bytes_a_text_h0, .inl b_a_bytes_a_text_h0))]) (cl' := 0) (sl' := 0) rfl rfl rfl rfl rfl rfl ?_
    refine j_if_eq (tgt := 56) d_Sc_step_46 (by decide) (fun c9 => ?_) (fun c9 => ?_)
    · replace h := it_t c9 h
      refine j_iload_n d_Sc_step_56 rfl 0 rfl ?_
      obtain ⟨r10, k12⟩ : ∃ z, (F_Sc_isDigit r3) = z := ⟨_, rfl⟩
      replace h := nm_at k12 h
      refine j_callS (n := 1) (As := [.int r3]) (rest := []) (wr := [(h0, .inr (4, [.ref a_text_h0, .int r1, .int kind_h0, .int r1, .int width_h0])), (a_text_h0, .inr (3, [.ref a_bytes_a_text_h0, .int size_a_text_h0])), (a_bytes_a_text_h0, .inl (cB, n_a_bytes_a_text_h0, .inl b_a_bytes_a_text_h0))]) (c_Sc_isDigit l D cI cB cJ cS r3  r10 k12) k_Sc_45 (by decide) ⟨Nat.le_of_ble_eq_true rfl, Nat.le_of_ble_eq_true rfl⟩ [] [0, 1, 2] rfl (by decide) rfl (by decide) (by decide) rfl rfl (Nat.le_of_ble_eq_true rfl) d_Sc_step_57 ⟨Nat.le_of_ble_eq_true rfl, Nat.le_of_ble_eq_true rfl⟩ (fun v w hq => ?_)
      obtain ⟨rfl, z11, rfl⟩ := hq
      refine j_norm (pc' := 60) (st' := [.int r10]) (ws' := [(h0, .inr (4, [.ref a_text_h0, .int r1, .int kind_h0, .int r1, .int width_h0])), (a_text_h0, .inr (3, [.ref a_bytes_a_text_h0, .int size_a_text_h0])), (a_bytes_a_text_h0, .inl (cB, n_a_bytes_a_text_h0, .inl b_a_bytes_a_text_h0))]) (cl' := 0) (sl' := 0) rfl rfl rfl rfl rfl rfl ?_
      refine j_if_eq (tgt := 70) d_Sc_step_60 (by decide) (fun c13 => ?_) (fun c13 => ?_)
      · replace h := it_t c13 h
        refine j_iload_n d_Sc_step_70 rfl 0 rfl ?_
        refine j_bipush (v := 34) d_Sc_step_71 (by decide) ?_
        refine j_icmp_ne (tgt := 83) d_Sc_step_73 (by decide) (fun c14 => ?_) (fun c14 => ?_)
        · replace h := it_f c14 h
          refine j_aload_n d_Sc_step_83 rfl 1 rfl ?_
          refine j_iload_n d_Sc_step_84 rfl 0 rfl ?_
          refine j_aload_n d_Sc_step_85 rfl 1 rfl ?_
          refine j_get ig_Sc rfl 0 rfl 0 (by decide) rfl m_57 rfl d_Sc_step_86 ?_
          refine j_aload_n d_Sc_step_89 rfl 1 rfl ?_
          refine j_get ig_Sc rfl 0 rfl 3 (by decide) rfl m_60 rfl d_Sc_step_90 ?_
          refine j_iconst (v := 1) d_Sc_step_93 (by decide) ?_
          refine j_iadd d_Sc_step_94 ?_
          replace h := bd_s h
          obtain ⟨r15, k16, h⟩ := h
          refine j_callV (n := 1) (As := [.int (r1 + 1)]) (rest := [.int r3, .ref h0]) (wr := [(h0, .inr (4, [.ref a_text_h0, .int r1, .int kind_h0, .int r1, .int width_h0]))]) (c_Rw_at l D cI cB cJ cS a_text_h0 a_bytes_a_text_h0 (r1 + 1) size_a_text_h0 n_a_bytes_a_text_h0 b_a_bytes_a_text_h0  r15 k16) k_Sc_34 (by decide) ⟨Nat.le_of_ble_eq_true rfl, Nat.le_of_ble_eq_true rfl⟩ rfl 0 rfl [1, 2] [0] rfl (by decide) rfl (by decide) (by decide) rfl rfl (Nat.le_of_ble_eq_true rfl) d_Sc_step_95 ⟨Nat.le_of_ble_eq_true rfl, Nat.le_of_ble_eq_true rfl⟩ (fun v w hq => ?_)
          obtain ⟨rfl, rfl⟩ := hq
          refine j_norm (pc' := 98) (st' := [.int r15, .int r3, .ref h0]) (ws' := [(h0, .inr (4, [.ref a_text_h0, .int r1, .int kind_h0, .int r1, .int width_h0])), (a_text_h0, .inr (3, [.ref a_bytes_a_text_h0, .int size_a_text_h0])), (a_bytes_a_text_h0, .inl (cB, n_a_bytes_a_text_h0, .inl b_a_bytes_a_text_h0))]) (cl' := 0) (sl' := 0) rfl rfl rfl rfl rfl rfl ?_
          obtain ⟨r17, k18⟩ : ∃ z, (F_Sc_signs r3 r15) = z := ⟨_, rfl⟩
          replace h := nm_at k18 h
          refine j_callS (n := 2) (As := [.int r3, .int r15]) (rest := [.ref h0]) (wr := [(h0, .inr (4, [.ref a_text_h0, .int r1, .int kind_h0, .int r1, .int width_h0])), (a_text_h0, .inr (3, [.ref a_bytes_a_text_h0, .int size_a_text_h0])), (a_bytes_a_text_h0, .inl (cB, n_a_bytes_a_text_h0, .inl b_a_bytes_a_text_h0))]) (c_Sc_signs l D cI cB cJ cS r3 r15  r17 k18) k_Sc_54 (by decide) ⟨Nat.le_of_ble_eq_true rfl, Nat.le_of_ble_eq_true rfl⟩ [] [0, 1, 2] rfl (by decide) rfl (by decide) (by decide) rfl rfl (Nat.le_of_ble_eq_true rfl) d_Sc_step_98 ⟨Nat.le_of_ble_eq_true rfl, Nat.le_of_ble_eq_true rfl⟩ (fun v w hq => ?_)
          obtain ⟨rfl, rfl⟩ := hq
          refine j_norm (pc' := 101) (st' := [.int r17, .ref h0]) (ws' := [(h0, .inr (4, [.ref a_text_h0, .int r1, .int kind_h0, .int r1, .int width_h0])), (a_text_h0, .inr (3, [.ref a_bytes_a_text_h0, .int size_a_text_h0])), (a_bytes_a_text_h0, .inl (cB, n_a_bytes_a_text_h0, .inl b_a_bytes_a_text_h0))]) (cl' := 0) (sl' := 0) rfl rfl rfl rfl rfl rfl ?_
          refine j_put (ws' := [(h0, .inr (4, [.ref a_text_h0, .int r1, .int r17, .int r1, .int width_h0])), (a_text_h0, .inr (3, [.ref a_bytes_a_text_h0, .int size_a_text_h0])), (a_bytes_a_text_h0, .inl (cB, n_a_bytes_a_text_h0, .inl b_a_bytes_a_text_h0))]) ig_Sc tk_Sc nm_Sc rfl 0 rfl 2 (by decide) rfl m_59 rfl (tk_Sc 2 (by decide)) rfl rfl (Nat.le_of_ble_eq_true rfl) d_Sc_step_101 rfl ?_
          refine j_aload_n d_Sc_step_104 rfl 1 rfl ?_
          refine j_aload_n d_Sc_step_105 rfl 1 rfl ?_
          refine j_get ig_Sc rfl 0 rfl 2 (by decide) rfl m_59 rfl d_Sc_step_106 ?_
          refine j_sipush (v := 256) d_Sc_step_109 (by decide) ?_
          refine j_icmp_lt (tgt := 119) d_Sc_step_112 (by decide) (fun c19 => ?_) (fun c19 => ?_)
          · replace h := it_t c19 h
            refine j_iconst (v := 1) d_Sc_step_119 (by decide) ?_
            refine j_sub (w := [(h0, .inr (4, [.ref a_text_h0, .int r1, .int r17, .int r1, .int width_h0])), (a_text_h0, .inr (3, [.ref a_bytes_a_text_h0, .int size_a_text_h0])), (a_bytes_a_text_h0, .inl (cB, n_a_bytes_a_text_h0, .inl b_a_bytes_a_text_h0))]) (lv' := [(1, .int r3), (0, .ref h0)]) [0, 1, 2] rfl (by decide) [0, 1] rfl ?_
            exact L_Sc_step_120 l D cI cB cJ cS h0 a_text_h0 a_bytes_a_text_h0 next_h0 kind_h0 start_h0 width_h0 size_a_text_h0 n_a_bytes_a_text_h0 b_a_bytes_a_text_h0 o_0_1 o_0_2 o_0_3 o_0_4 p e s m below meth c hr hnm r3 1 r1 r17 r1 h
          · replace h := it_f c19 h
            refine j_iconst (v := 2) d_Sc_step_115 (by decide) ?_
            refine j_goto (tgt := 120) d_Sc_step_116 (by decide) ?_
            refine j_sub (w := [(h0, .inr (4, [.ref a_text_h0, .int r1, .int r17, .int r1, .int width_h0])), (a_text_h0, .inr (3, [.ref a_bytes_a_text_h0, .int size_a_text_h0])), (a_bytes_a_text_h0, .inl (cB, n_a_bytes_a_text_h0, .inl b_a_bytes_a_text_h0))]) (lv' := [(1, .int r3), (0, .ref h0)]) [0, 1, 2] rfl (by decide) [0, 1] rfl ?_
            exact L_Sc_step_120 l D cI cB cJ cS h0 a_text_h0 a_bytes_a_text_h0 next_h0 kind_h0 start_h0 width_h0 size_a_text_h0 n_a_bytes_a_text_h0 b_a_bytes_a_text_h0 o_0_1 o_0_2 o_0_3 o_0_4 p e s m below meth c hr hnm r3 2 r1 r17 r1 h
        · replace h := it_t c14 h
          refine j_aload_n d_Sc_step_76 rfl 1 rfl ?_
          replace h := bd_s h
          obtain ⟨⟨r20, r21⟩, k22, h⟩ := h
          refine j_callV (n := 0) (As := []) (rest := []) (wr := []) (c_Sc_scanText l D cI cB cJ cS h0 a_text_h0 a_bytes_a_text_h0 r1 kind_h0 r1 width_h0 size_a_text_h0 n_a_bytes_a_text_h0 b_a_bytes_a_text_h0  r20 r21 k22) k_Sc_51 (by decide) ⟨Nat.le_of_ble_eq_true rfl, Nat.le_of_ble_eq_true rfl⟩ rfl 0 rfl [0, 1, 2] [] rfl (by decide) rfl (by decide) (by decide) rfl rfl (Nat.le_of_ble_eq_true rfl) d_Sc_step_77 ⟨Nat.le_of_ble_eq_true rfl, Nat.le_of_ble_eq_true rfl⟩ (fun v w hq => ?_)
          obtain ⟨rfl, rfl⟩ := hq
          refine j_norm (pc' := 80) (st' := []) (ws' := [(h0, .inr (4, [.ref a_text_h0, .int r1, .int r20, .int r1, .int r21])), (a_text_h0, .inr (3, [.ref a_bytes_a_text_h0, .int size_a_text_h0])), (a_bytes_a_text_h0, .inl (cB, n_a_bytes_a_text_h0, .inl b_a_bytes_a_text_h0))]) (cl' := 0) (sl' := 0) rfl rfl rfl rfl rfl rfl ?_
          refine j_goto (tgt := 123) d_Sc_step_80 (by decide) ?_
          refine j_aload_n d_Sc_step_123 rfl 1 rfl ?_
          refine j_aload_n d_Sc_step_124 rfl 1 rfl ?_
          refine j_get ig_Sc rfl 0 rfl 3 (by decide) rfl m_60 rfl d_Sc_step_125 ?_
          refine j_aload_n d_Sc_step_128 rfl 1 rfl ?_
          refine j_get ig_Sc rfl 0 rfl 4 (by decide) rfl m_61 rfl d_Sc_step_129 ?_
          refine j_iadd d_Sc_step_132 ?_
          refine j_put (ws' := [(h0, .inr (4, [.ref a_text_h0, .int (r1 + r21), .int r20, .int r1, .int r21])), (a_text_h0, .inr (3, [.ref a_bytes_a_text_h0, .int size_a_text_h0])), (a_bytes_a_text_h0, .inl (cB, n_a_bytes_a_text_h0, .inl b_a_bytes_a_text_h0))]) ig_Sc tk_Sc nm_Sc rfl 0 rfl 1 (by decide) rfl m_58 rfl (tk_Sc 1 (by decide)) rfl rfl (Nat.le_of_ble_eq_true rfl) d_Sc_step_133 rfl ?_
          replace h := Option.some.inj h
          replace h := Prod.mk.inj h
          obtain ⟨h9, h⟩ := h
          subst h9
          replace h := Prod.mk.inj h
          obtain ⟨h9, h⟩ := h
          subst h9
          replace h := Prod.mk.inj h
          obtain ⟨h9, h⟩ := h
          subst h9
          subst h
          exact j_vret (w := [(h0, .inr (4, [.ref a_text_h0, .int (r1 + r21), .int r20, .int r1, .int r21])), (a_text_h0, .inr (3, [.ref a_bytes_a_text_h0, .int size_a_text_h0])), (a_bytes_a_text_h0, .inl (cB, n_a_bytes_a_text_h0, .inl b_a_bytes_a_text_h0))]) hr d_Sc_step_136 [0, 1, 2] rfl (by decide) ⟨rfl, rfl⟩
      · replace h := it_f c13 h
        refine j_aload_n d_Sc_step_63 rfl 1 rfl ?_
        replace h := bd_s h
        obtain ⟨⟨r23, r24⟩, k25, h⟩ := h
        refine j_callV (n := 0) (As := []) (rest := []) (wr := []) (c_Sc_scanNumeral l D cI cB cJ cS h0 a_text_h0 a_bytes_a_text_h0 r1 kind_h0 r1 width_h0 size_a_text_h0 n_a_bytes_a_text_h0 b_a_bytes_a_text_h0  r23 r24 k25) k_Sc_48 (by decide) ⟨Nat.le_of_ble_eq_true rfl, Nat.le_of_ble_eq_true rfl⟩ rfl 0 rfl [0, 1, 2] [] rfl (by decide) rfl (by decide) (by decide) rfl rfl (Nat.le_of_ble_eq_true rfl) d_Sc_step_64 ⟨Nat.le_of_ble_eq_true rfl, Nat.le_of_ble_eq_true rfl⟩ (fun v w hq => ?_)
        obtain ⟨rfl, rfl⟩ := hq
        refine j_norm (pc' := 67) (st' := []) (ws' := [(h0, .inr (4, [.ref a_text_h0, .int r1, .int r23, .int r1, .int r24])), (a_text_h0, .inr (3, [.ref a_bytes_a_text_h0, .int size_a_text_h0])), (a_bytes_a_text_h0, .inl (cB, n_a_bytes_a_text_h0, .inl b_a_bytes_a_text_h0))]) (cl' := 0) (sl' := 0) rfl rfl rfl rfl rfl rfl ?_
        refine j_goto (tgt := 123) d_Sc_step_67 (by decide) ?_
        refine j_aload_n d_Sc_step_123 rfl 1 rfl ?_
        refine j_aload_n d_Sc_step_124 rfl 1 rfl ?_
        refine j_get ig_Sc rfl 0 rfl 3 (by decide) rfl m_60 rfl d_Sc_step_125 ?_
        refine j_aload_n d_Sc_step_128 rfl 1 rfl ?_
        refine j_get ig_Sc rfl 0 rfl 4 (by decide) rfl m_61 rfl d_Sc_step_129 ?_
        refine j_iadd d_Sc_step_132 ?_
        refine j_put (ws' := [(h0, .inr (4, [.ref a_text_h0, .int (r1 + r24), .int r23, .int r1, .int r24])), (a_text_h0, .inr (3, [.ref a_bytes_a_text_h0, .int size_a_text_h0])), (a_bytes_a_text_h0, .inl (cB, n_a_bytes_a_text_h0, .inl b_a_bytes_a_text_h0))]) ig_Sc tk_Sc nm_Sc rfl 0 rfl 1 (by decide) rfl m_58 rfl (tk_Sc 1 (by decide)) rfl rfl (Nat.le_of_ble_eq_true rfl) d_Sc_step_133 rfl ?_
        replace h := Option.some.inj h
        replace h := Prod.mk.inj h
        obtain ⟨h9, h⟩ := h
        subst h9
        replace h := Prod.mk.inj h
        obtain ⟨h9, h⟩ := h
        subst h9
        replace h := Prod.mk.inj h
        obtain ⟨h9, h⟩ := h
        subst h9
        subst h
        exact j_vret (w := [(h0, .inr (4, [.ref a_text_h0, .int (r1 + r24), .int r23, .int r1, .int r24])), (a_text_h0, .inr (3, [.ref a_bytes_a_text_h0, .int size_a_text_h0])), (a_bytes_a_text_h0, .inl (cB, n_a_bytes_a_text_h0, .inl b_a_bytes_a_text_h0))]) hr d_Sc_step_136 [0, 1, 2] rfl (by decide) ⟨rfl, rfl⟩
    · replace h := it_f c9 h
      refine j_aload_n d_Sc_step_49 rfl 1 rfl ?_
      replace h := bd_s h
      obtain ⟨⟨r26, r27⟩, k28, h⟩ := h
      refine j_callV (n := 0) (As := []) (rest := []) (wr := []) (c_Sc_scanName l D cI cB cJ cS h0 a_text_h0 a_bytes_a_text_h0 r1 kind_h0 r1 width_h0 size_a_text_h0 n_a_bytes_a_text_h0 b_a_bytes_a_text_h0  r26 r27 k28) k_Sc_42 (by decide) ⟨Nat.le_of_ble_eq_true rfl, Nat.le_of_ble_eq_true rfl⟩ rfl 0 rfl [0, 1, 2] [] rfl (by decide) rfl (by decide) (by decide) rfl rfl (Nat.le_of_ble_eq_true rfl) d_Sc_step_50 ⟨Nat.le_of_ble_eq_true rfl, Nat.le_of_ble_eq_true rfl⟩ (fun v w hq => ?_)
      obtain ⟨rfl, rfl⟩ := hq
      refine j_norm (pc' := 53) (st' := []) (ws' := [(h0, .inr (4, [.ref a_text_h0, .int r1, .int r26, .int r1, .int r27])), (a_text_h0, .inr (3, [.ref a_bytes_a_text_h0, .int size_a_text_h0])), (a_bytes_a_text_h0, .inl (cB, n_a_bytes_a_text_h0, .inl b_a_bytes_a_text_h0))]) (cl' := 0) (sl' := 0) rfl rfl rfl rfl rfl rfl ?_
      refine j_goto (tgt := 123) d_Sc_step_53 (by decide) ?_
      refine j_aload_n d_Sc_step_123 rfl 1 rfl ?_
      refine j_aload_n d_Sc_step_124 rfl 1 rfl ?_
      refine j_get ig_Sc rfl 0 rfl 3 (by decide) rfl m_60 rfl d_Sc_step_125 ?_
      refine j_aload_n d_Sc_step_128 rfl 1 rfl ?_
      refine j_get ig_Sc rfl 0 rfl 4 (by decide) rfl m_61 rfl d_Sc_step_129 ?_
      refine j_iadd d_Sc_step_132 ?_
      refine j_put (ws' := [(h0, .inr (4, [.ref a_text_h0, .int (r1 + r27), .int r26, .int r1, .int r27])), (a_text_h0, .inr (3, [.ref a_bytes_a_text_h0, .int size_a_text_h0])), (a_bytes_a_text_h0, .inl (cB, n_a_bytes_a_text_h0, .inl b_a_bytes_a_text_h0))]) ig_Sc tk_Sc nm_Sc rfl 0 rfl 1 (by decide) rfl m_58 rfl (tk_Sc 1 (by decide)) rfl rfl (Nat.le_of_ble_eq_true rfl) d_Sc_step_133 rfl ?_
      replace h := Option.some.inj h
      replace h := Prod.mk.inj h
      obtain ⟨h9, h⟩ := h
      subst h9
      replace h := Prod.mk.inj h
      obtain ⟨h9, h⟩ := h
      subst h9
      replace h := Prod.mk.inj h
      obtain ⟨h9, h⟩ := h
      subst h9
      subst h
      exact j_vret (w := [(h0, .inr (4, [.ref a_text_h0, .int (r1 + r27), .int r26, .int r1, .int r27])), (a_text_h0, .inr (3, [.ref a_bytes_a_text_h0, .int size_a_text_h0])), (a_bytes_a_text_h0, .inl (cB, n_a_bytes_a_text_h0, .inl b_a_bytes_a_text_h0))]) hr d_Sc_step_136 [0, 1, 2] rfl (by decide) ⟨rfl, rfl⟩
  · replace h := it_t c5 h
    refine j_aload_n d_Sc_step_29 rfl 1 rfl ?_
    refine j_iconst (v := 0) d_Sc_step_30 (by decide) ?_
    refine j_put (ws' := [(h0, .inr (4, [.ref a_text_h0, .int r1, .int 0, .int r1, .int width_h0])), (a_text_h0, .inr (3, [.ref a_bytes_a_text_h0, .int size_a_text_h0])), (a_bytes_a_text_h0, .inl (cB, n_a_bytes_a_text_h0, .inl b_a_bytes_a_text_h0))]) ig_Sc tk_Sc nm_Sc rfl 0 rfl 2 (by decide) rfl m_59 rfl (tk_Sc 2 (by decide)) rfl rfl (Nat.le_of_ble_eq_true rfl) d_Sc_step_31 rfl ?_
    refine j_aload_n d_Sc_step_34 rfl 1 rfl ?_
    refine j_iconst (v := 0) d_Sc_step_35 (by decide) ?_
    refine j_put (ws' := [(h0, .inr (4, [.ref a_text_h0, .int r1, .int 0, .int r1, .int 0])), (a_text_h0, .inr (3, [.ref a_bytes_a_text_h0, .int size_a_text_h0])), (a_bytes_a_text_h0, .inl (cB, n_a_bytes_a_text_h0, .inl b_a_bytes_a_text_h0))]) ig_Sc tk_Sc nm_Sc rfl 0 rfl 4 (by decide) rfl m_61 rfl (tk_Sc 4 (by decide)) rfl rfl (Nat.le_of_ble_eq_true rfl) d_Sc_step_36 rfl ?_
    refine j_goto (tgt := 123) d_Sc_step_39 (by decide) ?_
    refine j_aload_n d_Sc_step_123 rfl 1 rfl ?_
    refine j_aload_n d_Sc_step_124 rfl 1 rfl ?_
    refine j_get ig_Sc rfl 0 rfl 3 (by decide) rfl m_60 rfl d_Sc_step_125 ?_
    refine j_aload_n d_Sc_step_128 rfl 1 rfl ?_
    refine j_get ig_Sc rfl 0 rfl 4 (by decide) rfl m_61 rfl d_Sc_step_129 ?_
    refine j_iadd d_Sc_step_132 ?_
    refine j_put (ws' := [(h0, .inr (4, [.ref a_text_h0, .int (r1 + 0), .int 0, .int r1, .int 0])), (a_text_h0, .inr (3, [.ref a_bytes_a_text_h0, .int size_a_text_h0])), (a_bytes_a_text_h0, .inl (cB, n_a_bytes_a_text_h0, .inl b_a_bytes_a_text_h0))]) ig_Sc tk_Sc nm_Sc rfl 0 rfl 1 (by decide) rfl m_58 rfl (tk_Sc 1 (by decide)) rfl rfl (Nat.le_of_ble_eq_true rfl) d_Sc_step_133 rfl ?_
    replace h := Option.some.inj h
    replace h := Prod.mk.inj h
    obtain ⟨h9, h⟩ := h
    subst h9
    replace h := Prod.mk.inj h
    obtain ⟨h9, h⟩ := h
    subst h9
    replace h := Prod.mk.inj h
    obtain ⟨h9, h⟩ := h
    subst h9
    subst h
    exact j_vret (w := [(h0, .inr (4, [.ref a_text_h0, .int (r1 + 0), .int 0, .int r1, .int 0])), (a_text_h0, .inr (3, [.ref a_bytes_a_text_h0, .int size_a_text_h0])), (a_bytes_a_text_h0, .inl (cB, n_a_bytes_a_text_h0, .inl b_a_bytes_a_text_h0))]) hr d_Sc_step_136 [0, 1, 2] rfl (by decide) ⟨rfl, rfl⟩
noncomputable def F_Wr_enter_33 (p1 : Int32) (indent_h0 : Int32) (count_a_tree_h0 : Int32) (n_a_cells_a_tree_h0 : Nat) (b_a_cells_a_tree_h0 : Nat → Int32) (size_a_source_h0 : Int32) (n_a_bytes_a_source_h0 : Nat) (b_a_bytes_a_source_h0 : Nat → Int32) (v2_33 : Int32) (f0_4_33 : Int32) (f3_1_33 : Int32) (n6_33 : Nat) (b6_33 : Nat → Int32) : Option ((Int32 × Int32 × Int32 × Nat × (Nat → Int32)) × Nat × Nat) :=
    Option.bind (F_Wr_needsBrackets v2_33 p1 indent_h0 f0_4_33 count_a_tree_h0 n_a_cells_a_tree_h0 b_a_cells_a_tree_h0 size_a_source_h0 n_a_bytes_a_source_h0 b_a_bytes_a_source_h0) fun r1 =>
    if r1 = 0 then (bw (F_Wr_begin p1 indent_h0 f0_4_33 count_a_tree_h0 n_a_cells_a_tree_h0 b_a_cells_a_tree_h0 f3_1_33 n6_33 b6_33 size_a_source_h0 n_a_bytes_a_source_h0 b_a_bytes_a_source_h0) fun ⟨r5, r6, r7, r8, r9⟩ =>
      (some ((r5, r6, r7, r8, r9), 0, 0)))
    else (bw (F_Wr_put 30 indent_h0 f0_4_33 f3_1_33 n6_33 b6_33) fun ⟨r16, r17, r18, r19⟩ =>
      bw (F_Wr_begin p1 indent_h0 r16 count_a_tree_h0 n_a_cells_a_tree_h0 b_a_cells_a_tree_h0 r17 r18 r19 size_a_source_h0 n_a_bytes_a_source_h0 b_a_bytes_a_source_h0) fun ⟨r26, r27, r28, r29, r30⟩ =>
      (some ((r26, r27, r28, r29, r30), 0, 0)))
noncomputable def F_Wr_enter (p1 : Int32) (indent_h0 : Int32) (fits_h0 : Int32) (count_a_tree_h0 : Int32) (n_a_cells_a_tree_h0 : Nat) (b_a_cells_a_tree_h0 : Nat → Int32) (size_a_form_h0 : Int32) (n_a_bytes_a_form_h0 : Nat) (b_a_bytes_a_form_h0 : Nat → Int32) (size_a_source_h0 : Int32) (n_a_bytes_a_source_h0 : Nat) (b_a_bytes_a_source_h0 : Nat → Int32) : Option ((Int32 × Int32 × Int32 × Nat × (Nat → Int32)) × Nat × Nat) :=
  Option.bind (F_Nd_get p1 6 count_a_tree_h0 n_a_cells_a_tree_h0 b_a_cells_a_tree_h0) fun r37 =>
  if p1 = (r37 + 1) then (bw (F_Wr_leadFirst r37 p1 indent_h0 fits_h0 count_a_tree_h0 n_a_cells_a_tree_h0 b_a_cells_a_tree_h0 size_a_form_h0 n_a_bytes_a_form_h0 b_a_bytes_a_form_h0) fun ⟨r50, r51, r52, r53⟩ =>
    F_Wr_enter_33 p1 indent_h0 count_a_tree_h0 n_a_cells_a_tree_h0 b_a_cells_a_tree_h0 size_a_source_h0 n_a_bytes_a_source_h0 b_a_bytes_a_source_h0   r37 r50 r51 r52 r53)
  else (bw (F_Wr_lead r37 p1 indent_h0 fits_h0 count_a_tree_h0 n_a_cells_a_tree_h0 b_a_cells_a_tree_h0 size_a_form_h0 n_a_bytes_a_form_h0 b_a_bytes_a_form_h0 size_a_source_h0 n_a_bytes_a_source_h0 b_a_bytes_a_source_h0) fun ⟨r40, r41, r42, r43⟩ =>
    F_Wr_enter_33 p1 indent_h0 count_a_tree_h0 n_a_cells_a_tree_h0 b_a_cells_a_tree_h0 size_a_source_h0 n_a_bytes_a_source_h0 b_a_bytes_a_source_h0   r37 r40 r41 r42 r43)
theorem d_Wr_enter_0 : decode prog_10_method_7_code 0 = .ok (.aload_n 0, 1) := by decide +kernel
theorem d_Wr_enter_1 : decode prog_10_method_7_code 1 = .ok (.getfield 10, 3) := by decide +kernel
theorem d_Wr_enter_4 : decode prog_10_method_7_code 4 = .ok (.iload_n 1, 1) := by decide +kernel
theorem d_Wr_enter_5 : decode prog_10_method_7_code 5 = .ok (.bipush 6, 2) := by decide +kernel
theorem d_Wr_enter_7 : decode prog_10_method_7_code 7 = .ok (.invokevirtual 52, 3) := by decide +kernel
theorem d_Wr_enter_10 : decode prog_10_method_7_code 10 = .ok (.istore_n 2, 1) := by decide +kernel
theorem d_Wr_enter_11 : decode prog_10_method_7_code 11 = .ok (.iload_n 1, 1) := by decide +kernel
theorem d_Wr_enter_12 : decode prog_10_method_7_code 12 = .ok (.iload_n 2, 1) := by decide +kernel
theorem d_Wr_enter_13 : decode prog_10_method_7_code 13 = .ok (.iconst 1, 1) := by decide +kernel
theorem d_Wr_enter_14 : decode prog_10_method_7_code 14 = .ok (.iadd, 1) := by decide +kernel
theorem d_Wr_enter_15 : decode prog_10_method_7_code 15 = .ok (.if_icmp .ne 12, 3) := by decide +kernel
theorem d_Wr_enter_18 : decode prog_10_method_7_code 18 = .ok (.aload_n 0, 1) := by decide +kernel
theorem d_Wr_enter_19 : decode prog_10_method_7_code 19 = .ok (.iload_n 2, 1) := by decide +kernel
theorem d_Wr_enter_20 : decode prog_10_method_7_code 20 = .ok (.iload_n 1, 1) := by decide +kernel
theorem d_Wr_enter_21 : decode prog_10_method_7_code 21 = .ok (.invokevirtual 81, 3) := by decide +kernel
theorem d_Wr_enter_24 : decode prog_10_method_7_code 24 = .ok (.goto 9, 3) := by decide +kernel
theorem d_Wr_enter_27 : decode prog_10_method_7_code 27 = .ok (.aload_n 0, 1) := by decide +kernel
theorem d_Wr_enter_28 : decode prog_10_method_7_code 28 = .ok (.iload_n 2, 1) := by decide +kernel
theorem d_Wr_enter_29 : decode prog_10_method_7_code 29 = .ok (.iload_n 1, 1) := by decide +kernel
theorem d_Wr_enter_30 : decode prog_10_method_7_code 30 = .ok (.invokevirtual 85, 3) := by decide +kernel
theorem d_Wr_enter_33 : decode prog_10_method_7_code 33 = .ok (.aload_n 0, 1) := by decide +kernel
theorem d_Wr_enter_34 : decode prog_10_method_7_code 34 = .ok (.iload_n 2, 1) := by decide +kernel
theorem d_Wr_enter_35 : decode prog_10_method_7_code 35 = .ok (.iload_n 1, 1) := by decide +kernel
theorem d_Wr_enter_36 : decode prog_10_method_7_code 36 = .ok (.invokevirtual 88, 3) := by decide +kernel
theorem d_Wr_enter_39 : decode prog_10_method_7_code 39 = .ok (.ifCond .eq 9, 3) := by decide +kernel
theorem d_Wr_enter_42 : decode prog_10_method_7_code 42 = .ok (.aload_n 0, 1) := by decide +kernel
theorem d_Wr_enter_43 : decode prog_10_method_7_code 43 = .ok (.ldc 92, 2) := by decide +kernel
theorem d_Wr_enter_45 : decode prog_10_method_7_code 45 = .ok (.invokevirtual 77, 3) := by decide +kernel
theorem d_Wr_enter_48 : decode prog_10_method_7_code 48 = .ok (.aload_n 0, 1) := by decide +kernel
theorem d_Wr_enter_49 : decode prog_10_method_7_code 49 = .ok (.iload_n 1, 1) := by decide +kernel
theorem d_Wr_enter_50 : decode prog_10_method_7_code 50 = .ok (.invokevirtual 94, 3) := by decide +kernel
theorem d_Wr_enter_53 : decode prog_10_method_7_code 53 = .ok (.return_, 1) := by decide +kernel
set_option maxHeartbeats 4000000 in
set_option maxRecDepth 100000 in
theorem L_Wr_enter_33 (l : Launch) (D : va_G) (cI cB cJ cS : ClassId) (h0 : Nat) (a_tree_h0 : Nat) (a_source_h0 : Nat) (a_form_h0 : Nat) (a_cells_a_tree_h0 : Nat) (a_bytes_a_form_h0 : Nat) (a_bytes_a_source_h0 : Nat) (p1 : Int32) (indent_h0 : Int32) (fits_h0 : Int32) (count_a_tree_h0 : Int32) (n_a_cells_a_tree_h0 : Nat) (b_a_cells_a_tree_h0 : Nat → Int32) (size_a_form_h0 : Int32) (n_a_bytes_a_form_h0 : Nat) (b_a_bytes_a_form_h0 : Nat → Int32) (size_a_source_h0 : Int32) (n_a_bytes_a_source_h0 : Nat) (b_a_bytes_a_source_h0 : Nat → Int32) (o_0_3 : Int32) (o_0_4 : Int32) (o_3_1 : Int32) (on_nq_3_0 : Nat) (ob_nq_3_0 : Nat → Int32) (mc ms : Nat) (p : Program) (e : Env) (s : State) (m : MethodId) (below : List Frame) (meth : Method) (c : Code) (hr : meth.sig.returnType = (Option.none : Option Jvm.ClassFile.FieldType)) (hnm : meth.name = y_Wr_enter.name) : ∀ (q3_0_33 : Nat) (v2_33 : Int32) (f0_4_33 : Int32) (f3_1_33 : Int32) (n6_33 : Nat) (b6_33 : Nat → Int32) (cl_33 sl_33 C_33 S_33 : Nat), F_Wr_enter_33 p1 indent_h0 count_a_tree_h0 n_a_cells_a_tree_h0 b_a_cells_a_tree_h0 size_a_source_h0 n_a_bytes_a_source_h0 b_a_bytes_a_source_h0   v2_33 f0_4_33 f3_1_33 n6_33 b6_33 = some ((o_0_3, o_0_4, o_3_1, on_nq_3_0, ob_nq_3_0), C_33, S_33) → cl_33 + C_33 ≤ mc → sl_33 + S_33 ≤ ms → J (KxOf p l e { frames := 7, cells := mc, slots := ms, locals := 171 } s m [.ref h0, .int p1].toArray below meth c D (gT cI cB cJ cS) [(h0, .inr (6, [.ref a_tree_h0, .ref a_source_h0, .ref a_form_h0, .int indent_h0, .int fits_h0])), (a_tree_h0, .inr (1, [.ref a_cells_a_tree_h0, .int count_a_tree_h0])), (a_cells_a_tree_h0, .inl (cI, n_a_cells_a_tree_h0, .inl b_a_cells_a_tree_h0)), (a_form_h0, .inr (3, [.ref a_bytes_a_form_h0, .int size_a_form_h0])), (a_bytes_a_form_h0, .inl (cB, n_a_bytes_a_form_h0, .inl b_a_bytes_a_form_h0)), (a_source_h0, .inr (3, [.ref a_bytes_a_source_h0, .int size_a_source_h0])), (a_bytes_a_source_h0, .inl (cB, n_a_bytes_a_source_h0, .inl b_a_bytes_a_source_h0))] (fun v w => ∃ nq_3_0 : Nat, v = none ∧ w = [(h0, .inr (6, [.ref a_tree_h0, .ref a_source_h0, .ref a_form_h0, .int o_0_3, .int o_0_4])), (a_tree_h0, .inr (1, [.ref a_cells_a_tree_h0, .int count_a_tree_h0])), (a_cells_a_tree_h0, .inl (cI, n_a_cells_a_tree_h0, .inl b_a_cells_a_tree_h0)), (a_form_h0, .inr (3, [.ref nq_3_0, .int o_3_1])), (a_source_h0, .inr (3, [.ref a_bytes_a_source_h0, .int size_a_source_h0])), (a_bytes_a_source_h0, .inl (cB, n_a_bytes_a_source_h0, .inl b_a_bytes_a_source_h0)), (nq_3_0, .inl (cB, on_nq_3_0, .inl ob_nq_3_0))]) mc ms) prog_10_method_7_code 3 R_Wr 33 [(2, .int v2_33), (0, .ref h0), (1, .int p1)] [] [(h0, .inr (6, [.ref a_tree_h0, .ref a_source_h0, .ref a_form_h0, .int indent_h0, .int f0_4_33])), (a_tree_h0, .inr (1, [.ref a_cells_a_tree_h0, .int count_a_tree_h0])), (a_cells_a_tree_h0, .inl (cI, n_a_cells_a_tree_h0, .inl b_a_cells_a_tree_h0)), (a_form_h0, .inr (3, [.ref q3_0_33, .int f3_1_33])), (a_source_h0, .inr (3, [.ref a_bytes_a_source_h0, .int size_a_source_h0])), (a_bytes_a_source_h0, .inl (cB, n_a_bytes_a_source_h0, .inl b_a_bytes_a_source_h0)), (q3_0_33, .inl (cB, n6_33, .inl b6_33))] cl_33 sl_33 := by
  intro q3_0_33 v2_33 f0_4_33 f3_1_33 n6_33 b6_33 cl_33 sl_33 C_33 S_33 h hC hS
  unfold F_Wr_enter_33 at h
  refine j_aload_n d_Wr_enter_33 rfl 1 rfl ?_
  refine j_iload_n d_Wr_enter_34 rfl 0 rfl ?_
  refine j_iload_n d_Wr_enter_35 rfl 2 rfl ?_
  replace h := bd_s h
  obtain ⟨r1, k3, h⟩ := h
  refine j_callV (n := 2) (As := [.int v2_33, .int p1]) (rest := []) (wr := [(a_form_h0, .inr (3, [.ref q3_0_33, .int f3_1_33])), (q3_0_33, .inl (cB, n6_33, .inl b6_33))]) (c_Wr_needsBrackets l D cI cB cJ cS h0 a_tree_h0 a_source_h0 a_form_h0 a_cells_a_tree_h0 a_bytes_a_source_h0 v2_33 p1 indent_h0 f0_4_33 count_a_tree_h0 n_a_cells_a_tree_h0 b_a_cells_a_tree_h0 size_a_source_h0 n_a_bytes_a_source_h0 b_a_bytes_a_source_h0  r1 k3) k_Wr_88 (by decide) ⟨Nat.le_of_ble_eq_true rfl, Nat.le_of_ble_eq_true rfl⟩ rfl 0 rfl [0, 1, 2, 4, 5] [3, 6] rfl (by decide) rfl (by decide) (by decide) rfl rfl (Nat.le_of_ble_eq_true rfl) d_Wr_enter_36 ⟨show cl_33 + 0 ≤ mc by omega, show sl_33 + 0 ≤ ms by omega⟩ (fun v w hq => ?_)
  obtain ⟨rfl, z2, rfl⟩ := hq
  refine j_norm (pc' := 39) (st' := [.int r1]) (ws' := [(a_form_h0, .inr (3, [.ref q3_0_33, .int f3_1_33])), (q3_0_33, .inl (cB, n6_33, .inl b6_33)), (h0, .inr (6, [.ref a_tree_h0, .ref a_source_h0, .ref a_form_h0, .int indent_h0, .int f0_4_33])), (a_tree_h0, .inr (1, [.ref a_cells_a_tree_h0, .int count_a_tree_h0])), (a_cells_a_tree_h0, .inl (cI, n_a_cells_a_tree_h0, .inl b_a_cells_a_tree_h0)), (a_source_h0, .inr (3, [.ref a_bytes_a_source_h0, .int size_a_source_h0])), (a_bytes_a_source_h0, .inl (cB, n_a_bytes_a_source_h0, .inl b_a_bytes_a_source_h0))]) (cl' := cl_33) (sl' := sl_33) rfl rfl rfl rfl rfl rfl ?_
  refine j_if_eq (tgt := 48) d_Wr_enter_39 (by decide) (fun c4 => ?_) (fun c4 => ?_)
  · replace h := it_t c4 h
    refine j_aload_n d_Wr_enter_48 rfl 1 rfl ?_
    refine j_iload_n d_Wr_enter_49 rfl 2 rfl ?_
    replace h := bw_s h
    obtain ⟨⟨r5, r6, r7, r8, r9⟩, C11, S12, C13, S14, k15, h, e1, e2⟩ := h
    replace hC : cl_33 + C11 + C13 ≤ mc := by omega
    replace hS : sl_33 + S12 + S14 ≤ ms := by omega
    clear e1 e2
    refine j_callV (n := 1) (As := [.int p1]) (rest := []) (wr := []) (c_Wr_begin l D cI cB cJ cS h0 a_tree_h0 a_source_h0 a_form_h0 a_cells_a_tree_h0 q3_0_33 a_bytes_a_source_h0 p1 indent_h0 f0_4_33 count_a_tree_h0 n_a_cells_a_tree_h0 b_a_cells_a_tree_h0 f3_1_33 n6_33 b6_33 size_a_source_h0 n_a_bytes_a_source_h0 b_a_bytes_a_source_h0  r5 r6 r7 r8 r9 C11 S12 k15) k_Wr_94 (by decide) ⟨Nat.le_of_ble_eq_true rfl, Nat.le_of_ble_eq_true rfl⟩ rfl 0 rfl [2, 3, 4, 0, 1, 5, 6] [] rfl (by decide) rfl (by decide) (by decide) rfl rfl (Nat.le_of_ble_eq_true rfl) d_Wr_enter_50 ⟨show cl_33 + C11 ≤ mc by omega, show sl_33 + S12 ≤ ms by omega⟩ (fun v w hq => ?_)
    obtain ⟨q10, rfl, rfl⟩ := hq
    refine j_norm (pc' := 53) (st' := []) (ws' := [(h0, .inr (6, [.ref a_tree_h0, .ref a_source_h0, .ref a_form_h0, .int r5, .int r6])), (a_tree_h0, .inr (1, [.ref a_cells_a_tree_h0, .int count_a_tree_h0])), (a_cells_a_tree_h0, .inl (cI, n_a_cells_a_tree_h0, .inl b_a_cells_a_tree_h0)), (a_form_h0, .inr (3, [.ref q10, .int r7])), (a_source_h0, .inr (3, [.ref a_bytes_a_source_h0, .int size_a_source_h0])), (a_bytes_a_source_h0, .inl (cB, n_a_bytes_a_source_h0, .inl b_a_bytes_a_source_h0)), (q10, .inl (cB, r8, .inl r9))]) (cl' := cl_33 + C11) (sl' := sl_33 + S12) rfl rfl rfl rfl rfl rfl ?_
    replace h := lf_s h
    obtain ⟨h, e1, e2⟩ := h
    replace h := Prod.mk.inj h
    obtain ⟨h9, h⟩ := h
    subst h9
    replace h := Prod.mk.inj h
    obtain ⟨h9, h⟩ := h
    subst h9
    replace h := Prod.mk.inj h
    obtain ⟨h9, h⟩ := h
    subst h9
    replace h := Prod.mk.inj h
    obtain ⟨h9, h⟩ := h
    subst h9
    subst h
    refine j_widen (cl' := mc) (sl' := ms) (by omega) (by omega) ?_
    exact j_vret (w := [(h0, .inr (6, [.ref a_tree_h0, .ref a_source_h0, .ref a_form_h0, .int r5, .int r6])), (a_tree_h0, .inr (1, [.ref a_cells_a_tree_h0, .int count_a_tree_h0])), (a_cells_a_tree_h0, .inl (cI, n_a_cells_a_tree_h0, .inl b_a_cells_a_tree_h0)), (a_form_h0, .inr (3, [.ref q10, .int r7])), (a_source_h0, .inr (3, [.ref a_bytes_a_source_h0, .int size_a_source_h0])), (a_bytes_a_source_h0, .inl (cB, n_a_bytes_a_source_h0, .inl b_a_bytes_a_source_h0)), (q10, .inl (cB, r8, .inl r9))]) hr d_Wr_enter_53 [0, 1, 2, 3, 4, 5, 6] rfl (by decide) ⟨q10, rfl, rfl⟩
  · replace h := it_f c4 h
    refine j_aload_n d_Wr_enter_42 rfl 1 rfl ?_
    refine j_ldcS (i := 30) rfl d_Wr_enter_43 ?_
    replace h := bw_s h
    obtain ⟨⟨r16, r17, r18, r19⟩, C21, S22, C23, S24, k25, h, e1, e2⟩ := h
    replace hC : cl_33 + C21 + C23 ≤ mc := by omega
    replace hS : sl_33 + S22 + S24 ≤ ms := by omega
    clear e1 e2
    refine j_callV (n := 1) (As := [.ref (sA D 30)]) (rest := []) (wr := [(a_tree_h0, .inr (1, [.ref a_cells_a_tree_h0, .int count_a_tree_h0])), (a_cells_a_tree_h0, .inl (cI, n_a_cells_a_tree_h0, .inl b_a_cells_a_tree_h0)), (a_source_h0, .inr (3, [.ref a_bytes_a_source_h0, .int size_a_source_h0])), (a_bytes_a_source_h0, .inl (cB, n_a_bytes_a_source_h0, .inl b_a_bytes_a_source_h0))]) (c_Wr_put l D cI cB cJ cS h0 a_tree_h0 a_source_h0 a_form_h0 q3_0_33 30 indent_h0 f0_4_33 f3_1_33 n6_33 b6_33  r16 r17 r18 r19 C21 S22 k25) k_Wr_77 (by decide) ⟨Nat.le_of_ble_eq_true rfl, Nat.le_of_ble_eq_true rfl⟩ rfl 0 rfl [2, 0, 1] [3, 4, 5, 6] rfl (by decide) rfl (by decide) (by decide) rfl rfl (Nat.le_of_ble_eq_true rfl) d_Wr_enter_45 ⟨show cl_33 + C21 ≤ mc by omega, show sl_33 + S22 ≤ ms by omega⟩ (fun v w hq => ?_)
    obtain ⟨q20, rfl, rfl⟩ := hq
    refine j_norm (pc' := 48) (st' := []) (ws' := [(a_tree_h0, .inr (1, [.ref a_cells_a_tree_h0, .int count_a_tree_h0])), (a_cells_a_tree_h0, .inl (cI, n_a_cells_a_tree_h0, .inl b_a_cells_a_tree_h0)), (a_source_h0, .inr (3, [.ref a_bytes_a_source_h0, .int size_a_source_h0])), (a_bytes_a_source_h0, .inl (cB, n_a_bytes_a_source_h0, .inl b_a_bytes_a_source_h0)), (h0, .inr (6, [.ref a_tree_h0, .ref a_source_h0, .ref a_form_h0, .int indent_h0, .int r16])), (a_form_h0, .inr (3, [.ref q20, .int r17])), (q20, .inl (cB, r18, .inl r19))]) (cl' := cl_33 + C21) (sl' := sl_33 + S22) rfl rfl rfl rfl rfl rfl ?_
    refine j_aload_n d_Wr_enter_48 rfl 1 rfl ?_
    refine j_iload_n d_Wr_enter_49 rfl 2 rfl ?_
    replace h := bw_s h
    obtain ⟨⟨r26, r27, r28, r29, r30⟩, C32, S33, C34, S35, k36, h, e1, e2⟩ := h
    replace hC : cl_33 + C21 + C32 + C34 ≤ mc := by omega
    replace hS : sl_33 + S22 + S33 + S35 ≤ ms := by omega
    clear e1 e2
    refine j_callV (n := 1) (As := [.int p1]) (rest := []) (wr := []) (c_Wr_begin l D cI cB cJ cS h0 a_tree_h0 a_source_h0 a_form_h0 a_cells_a_tree_h0 q20 a_bytes_a_source_h0 p1 indent_h0 r16 count_a_tree_h0 n_a_cells_a_tree_h0 b_a_cells_a_tree_h0 r17 r18 r19 size_a_source_h0 n_a_bytes_a_source_h0 b_a_bytes_a_source_h0  r26 r27 r28 r29 r30 C32 S33 k36) k_Wr_94 (by decide) ⟨Nat.le_of_ble_eq_true rfl, Nat.le_of_ble_eq_true rfl⟩ rfl 0 rfl [4, 0, 1, 5, 6, 2, 3] [] rfl (by decide) rfl (by decide) (by decide) rfl rfl (Nat.le_of_ble_eq_true rfl) d_Wr_enter_50 ⟨show cl_33 + C21 + C32 ≤ mc by omega, show sl_33 + S22 + S33 ≤ ms by omega⟩ (fun v w hq => ?_)
    obtain ⟨q31, rfl, rfl⟩ := hq
    refine j_norm (pc' := 53) (st' := []) (ws' := [(h0, .inr (6, [.ref a_tree_h0, .ref a_source_h0, .ref a_form_h0, .int r26, .int r27])), (a_tree_h0, .inr (1, [.ref a_cells_a_tree_h0, .int count_a_tree_h0])), (a_cells_a_tree_h0, .inl (cI, n_a_cells_a_tree_h0, .inl b_a_cells_a_tree_h0)), (a_form_h0, .inr (3, [.ref q31, .int r28])), (a_source_h0, .inr (3, [.ref a_bytes_a_source_h0, .int size_a_source_h0])), (a_bytes_a_source_h0, .inl (cB, n_a_bytes_a_source_h0, .inl b_a_bytes_a_source_h0)), (q31, .inl (cB, r29, .inl r30))]) (cl' := cl_33 + C21 + C32) (sl' := sl_33 + S22 + S33) rfl rfl rfl rfl rfl rfl ?_
    replace h := lf_s h
    obtain ⟨h, e1, e2⟩ := h
    replace h := Prod.mk.inj h
    obtain ⟨h9, h⟩ := h
    subst h9
    replace h := Prod.mk.inj h
    obtain ⟨h9, h⟩ := h
    subst h9
    replace h := Prod.mk.inj h
    obtain ⟨h9, h⟩ := h
    subst h9
    replace h := Prod.mk.inj h
    obtain ⟨h9, h⟩ := h
    subst h9
    subst h
    refine j_widen (cl' := mc) (sl' := ms) (by omega) (by omega) ?_
    exact j_vret (w := [(h0, .inr (6, [.ref a_tree_h0, .ref a_source_h0, .ref a_form_h0, .int r26, .int r27])), (a_tree_h0, .inr (1, [.ref a_cells_a_tree_h0, .int count_a_tree_h0])), (a_cells_a_tree_h0, .inl (cI, n_a_cells_a_tree_h0, .inl b_a_cells_a_tree_h0)), (a_form_h0, .inr (3, [.ref q31, .int r28])), (a_source_h0, .inr (3, [.ref a_bytes_a_source_h0, .int size_a_source_h0])), (a_bytes_a_source_h0, .inl (cB, n_a_bytes_a_source_h0, .inl b_a_bytes_a_source_h0)), (q31, .inl (cB, r29, .inl r30))]) hr d_Wr_enter_53 [0, 1, 2, 3, 4, 5, 6] rfl (by decide) ⟨q31, rfl, rfl⟩
set_option maxHeartbeats 4000000 in
set_option maxRecDepth 100000 in
theorem c_Wr_enter (l : Launch) (D : va_G) (cI cB cJ cS : ClassId) (h0 : Nat) (a_tree_h0 : Nat) (a_source_h0 : Nat) (a_form_h0 : Nat) (a_cells_a_tree_h0 : Nat) (a_bytes_a_form_h0 : Nat) (a_bytes_a_source_h0 : Nat) (p1 : Int32) (indent_h0 : Int32) (fits_h0 : Int32) (count_a_tree_h0 : Int32) (n_a_cells_a_tree_h0 : Nat) (b_a_cells_a_tree_h0 : Nat → Int32) (size_a_form_h0 : Int32) (n_a_bytes_a_form_h0 : Nat) (b_a_bytes_a_form_h0 : Nat → Int32) (size_a_source_h0 : Int32) (n_a_bytes_a_source_h0 : Nat) (b_a_bytes_a_source_h0 : Nat → Int32) (o_0_3 : Int32) (o_0_4 : Int32) (o_3_1 : Int32) (on_nq_3_0 : Nat) (ob_nq_3_0 : Nat → Int32) (mc ms : Nat) (h : F_Wr_enter p1 indent_h0 fits_h0 count_a_tree_h0 n_a_cells_a_tree_h0 b_a_cells_a_tree_h0 size_a_form_h0 n_a_bytes_a_form_h0 b_a_bytes_a_form_h0 size_a_source_h0 n_a_bytes_a_source_h0 b_a_bytes_a_source_h0 = some ((o_0_3, o_0_4, o_3_1, on_nq_3_0, ob_nq_3_0), mc, ms)) : Ct l D (gT cI cB cJ cS) y_Wr_enter prog_10_method_7_code 3 (Option.none : Option Jvm.ClassFile.FieldType) 7 171 mc ms [.ref h0, .int p1] [(h0, .inr (6, [.ref a_tree_h0, .ref a_source_h0, .ref a_form_h0, .int indent_h0, .int fits_h0])), (a_tree_h0, .inr (1, [.ref a_cells_a_tree_h0, .int count_a_tree_h0])), (a_cells_a_tree_h0, .inl (cI, n_a_cells_a_tree_h0, .inl b_a_cells_a_tree_h0)), (a_form_h0, .inr (3, [.ref a_bytes_a_form_h0, .int size_a_form_h0])), (a_bytes_a_form_h0, .inl (cB, n_a_bytes_a_form_h0, .inl b_a_bytes_a_form_h0)), (a_source_h0, .inr (3, [.ref a_bytes_a_source_h0, .int size_a_source_h0])), (a_bytes_a_source_h0, .inl (cB, n_a_bytes_a_source_h0, .inl b_a_bytes_a_source_h0))] (fun v w => ∃ nq_3_0 : Nat, v = none ∧ w = [(h0, .inr (6, [.ref a_tree_h0, .ref a_source_h0, .ref a_form_h0, .int o_0_3, .int o_0_4])), (a_tree_h0, .inr (1, [.ref a_cells_a_tree_h0, .int count_a_tree_h0])), (a_cells_a_tree_h0, .inl (cI, n_a_cells_a_tree_h0, .inl b_a_cells_a_tree_h0)), (a_form_h0, .inr (3, [.ref nq_3_0, .int o_3_1])), (a_source_h0, .inr (3, [.ref a_bytes_a_source_h0, .int size_a_source_h0])), (a_bytes_a_source_h0, .inl (cB, n_a_bytes_a_source_h0, .inl b_a_bytes_a_source_h0)), (nq_3_0, .inl (cB, on_nq_3_0, .inl ob_nq_3_0))]) := by
  refine Ct.mk (by decide) (Nat.le_of_ble_eq_true rfl) ?_
  intro p e s m below meth c hr hnm
  refine j_norm (pc' := 0) (lv' := [(0, .ref h0), (1, .int p1)]) (st' := []) (ws' := [(h0, .inr (6, [.ref a_tree_h0, .ref a_source_h0, .ref a_form_h0, .int indent_h0, .int fits_h0])), (a_tree_h0, .inr (1, [.ref a_cells_a_tree_h0, .int count_a_tree_h0])), (a_cells_a_tree_h0, .inl (cI, n_a_cells_a_tree_h0, .inl b_a_cells_a_tree_h0)), (a_form_h0, .inr (3, [.ref a_bytes_a_form_h0, .int size_a_form_h0])), (a_bytes_a_form_h0, .inl (cB, n_a_bytes_a_form_h0, .inl b_a_bytes_a_form_h0)), (a_source_h0, .inr (3, [.ref a_bytes_a_source_h0, .int size_a_source_h0])), (a_bytes_a_source_h0, .inl (cB, n_a_bytes_a_source_h0, .inl b_a_bytes_a_source_h0))]) (cl' := 0) (sl' := 0) rfl rfl rfl rfl rfl rfl ?_
  unfold F_Wr_enter at h
  have hC : 0 + mc ≤ mc := by omega
  have hS : 0 + ms ≤ ms := by omega
  refine j_aload_n d_Wr_enter_0 rfl 0 rfl ?_
  refine j_get ig_Wr rfl 0 rfl 0 (by decide) rfl m_219 rfl d_Wr_enter_1 ?_
  refine j_iload_n d_Wr_enter_4 rfl 1 rfl ?_
  refine j_bipush (v := 6) d_Wr_enter_5 (by decide) ?_
  replace h := bd_s h
  obtain ⟨r37, k38, h⟩ := h
  refine j_callV (n := 2) (As := [.int p1, .int 6]) (rest := []) (wr := [(h0, .inr (6, [.ref a_tree_h0, .ref a_source_h0, .ref a_form_h0, .int indent_h0, .int fits_h0])), (a_form_h0, .inr (3, [.ref a_bytes_a_form_h0, .int size_a_form_h0])), (a_bytes_a_form_h0, .inl (cB, n_a_bytes_a_form_h0, .inl b_a_bytes_a_form_h0)), (a_source_h0, .inr (3, [.ref a_bytes_a_source_h0, .int size_a_source_h0])), (a_bytes_a_source_h0, .inl (cB, n_a_bytes_a_source_h0, .inl b_a_bytes_a_source_h0))]) (c_Nd_get l D cI cB cJ cS a_tree_h0 a_cells_a_tree_h0 p1 6 count_a_tree_h0 n_a_cells_a_tree_h0 b_a_cells_a_tree_h0  r37 k38) k_Wr_52 (by decide) ⟨Nat.le_of_ble_eq_true rfl, Nat.le_of_ble_eq_true rfl⟩ rfl 0 rfl [1, 2] [0, 3, 4, 5, 6] rfl (by decide) rfl (by decide) (by decide) rfl rfl (Nat.le_of_ble_eq_true rfl) d_Wr_enter_7 ⟨show 0 + 0 ≤ mc by omega, show 0 + 0 ≤ ms by omega⟩ (fun v w hq => ?_)
  obtain ⟨rfl, rfl⟩ := hq
  refine j_norm (pc' := 10) (st' := [.int r37]) (ws' := [(h0, .inr (6, [.ref a_tree_h0, .ref a_source_h0, .ref a_form_h0, .int indent_h0, .int fits_h0])), (a_form_h0, .inr (3, [.ref a_bytes_a_form_h0, .int size_a_form_h0])), (a_bytes_a_form_h0, .inl (cB, n_a_bytes_a_form_h0, .inl b_a_bytes_a_form_h0)), (a_source_h0, .inr (3, [.ref a_bytes_a_source_h0, .int size_a_source_h0])), (a_bytes_a_source_h0, .inl (cB, n_a_bytes_a_source_h0, .inl b_a_bytes_a_source_h0)), (a_tree_h0, .inr (1, [.ref a_cells_a_tree_h0, .int count_a_tree_h0])), (a_cells_a_tree_h0, .inl (cI, n_a_cells_a_tree_h0, .inl b_a_cells_a_tree_h0))]) (cl' := 0) (sl' := 0) rfl rfl rfl rfl rfl rfl ?_
  refine j_istore_n (lv' := [(2, .int r37), (0, .ref h0), (1, .int p1)]) d_Wr_enter_10 rfl (by decide) rfl ?_
  refine j_iload_n d_Wr_enter_11 rfl 2 rfl ?_
  refine j_iload_n d_Wr_enter_12 rfl 0 rfl ?_
  refine j_iconst (v := 1) d_Wr_enter_13 (by decide) ?_
  refine j_iadd d_Wr_enter_14 ?_
  refine j_icmp_ne (tgt := 27) d_Wr_enter_15 (by decide) (fun c39 => ?_) (fun c39 => ?_)
  · replace h := it_f c39 h
    refine j_aload_n d_Wr_enter_27 rfl 1 rfl ?_
    refine j_iload_n d_Wr_enter_28 rfl 0 rfl ?_
    refine j_iload_n d_Wr_enter_29 rfl 2 rfl ?_
    replace h := bw_s h
    obtain ⟨⟨r40, r41, r42, r43⟩, C45, S46, C47, S48, k49, h, e1, e2⟩ := h
    replace hC : 0 + C45 + C47 ≤ mc := by omega
    replace hS : 0 + S46 + S48 ≤ ms := by omega
    clear e1 e2
    refine j_callV (n := 2) (As := [.int r37, .int p1]) (rest := []) (wr := []) (c_Wr_lead l D cI cB cJ cS h0 a_tree_h0 a_source_h0 a_form_h0 a_cells_a_tree_h0 a_bytes_a_form_h0 a_bytes_a_source_h0 r37 p1 indent_h0 fits_h0 count_a_tree_h0 n_a_cells_a_tree_h0 b_a_cells_a_tree_h0 size_a_form_h0 n_a_bytes_a_form_h0 b_a_bytes_a_form_h0 size_a_source_h0 n_a_bytes_a_source_h0 b_a_bytes_a_source_h0  r40 r41 r42 r43 C45 S46 k49) k_Wr_85 (by decide) ⟨Nat.le_of_ble_eq_true rfl, Nat.le_of_ble_eq_true rfl⟩ rfl 0 rfl [0, 5, 6, 1, 2, 3, 4] [] rfl (by decide) rfl (by decide) (by decide) rfl rfl (Nat.le_of_ble_eq_true rfl) d_Wr_enter_30 ⟨show 0 + C45 ≤ mc by omega, show 0 + S46 ≤ ms by omega⟩ (fun v w hq => ?_)
    obtain ⟨q44, rfl, rfl⟩ := hq
    refine j_norm (pc' := 33) (st' := []) (ws' := [(h0, .inr (6, [.ref a_tree_h0, .ref a_source_h0, .ref a_form_h0, .int indent_h0, .int r40])), (a_tree_h0, .inr (1, [.ref a_cells_a_tree_h0, .int count_a_tree_h0])), (a_cells_a_tree_h0, .inl (cI, n_a_cells_a_tree_h0, .inl b_a_cells_a_tree_h0)), (a_form_h0, .inr (3, [.ref q44, .int r41])), (a_source_h0, .inr (3, [.ref a_bytes_a_source_h0, .int size_a_source_h0])), (a_bytes_a_source_h0, .inl (cB, n_a_bytes_a_source_h0, .inl b_a_bytes_a_source_h0)), (q44, .inl (cB, r42, .inl r43))]) (cl' := 0 + C45) (sl' := 0 + S46) rfl rfl rfl rfl rfl rfl ?_
    refine j_sub (w := [(h0, .inr (6, [.ref a_tree_h0, .ref a_source_h0, .ref a_form_h0, .int indent_h0, .int r40])), (a_tree_h0, .inr (1, [.ref a_cells_a_tree_h0, .int count_a_tree_h0])), (a_cells_a_tree_h0, .inl (cI, n_a_cells_a_tree_h0, .inl b_a_cells_a_tree_h0)), (a_form_h0, .inr (3, [.ref q44, .int r41])), (a_source_h0, .inr (3, [.ref a_bytes_a_source_h0, .int size_a_source_h0])), (a_bytes_a_source_h0, .inl (cB, n_a_bytes_a_source_h0, .inl b_a_bytes_a_source_h0)), (q44, .inl (cB, r42, .inl r43))]) (lv' := [(2, .int r37), (0, .ref h0), (1, .int p1)]) [0, 1, 2, 3, 4, 5, 6] rfl (by decide) [0, 1, 2] rfl ?_
    exact L_Wr_enter_33 l D cI cB cJ cS h0 a_tree_h0 a_source_h0 a_form_h0 a_cells_a_tree_h0 a_bytes_a_form_h0 a_bytes_a_source_h0 p1 indent_h0 fits_h0 count_a_tree_h0 n_a_cells_a_tree_h0 b_a_cells_a_tree_h0 size_a_form_h0 n_a_bytes_a_form_h0 b_a_bytes_a_form_h0 size_a_source_h0 n_a_bytes_a_source_h0 b_a_bytes_a_source_h0 o_0_3 o_0_4 o_3_1 on_nq_3_0 ob_nq_3_0 mc ms p e s m below meth c hr hnm q44 r37 r40 r41 r42 r43 (0 + C45) (0 + S46) C47 S48 h hC hS
  · replace h := it_t c39 h
    refine j_aload_n d_Wr_enter_18 rfl 1 rfl ?_
    refine j_iload_n d_Wr_enter_19 rfl 0 rfl ?_
    refine j_iload_n d_Wr_enter_20 rfl 2 rfl ?_
    replace h := bw_s h
    obtain ⟨⟨r50, r51, r52, r53⟩, C55, S56, C57, S58, k59, h, e1, e2⟩ := h
    replace hC : 0 + C55 + C57 ≤ mc := by omega
    replace hS : 0 + S56 + S58 ≤ ms := by omega
    clear e1 e2
    refine j_callV (n := 2) (As := [.int r37, .int p1]) (rest := []) (wr := [(a_source_h0, .inr (3, [.ref a_bytes_a_source_h0, .int size_a_source_h0])), (a_bytes_a_source_h0, .inl (cB, n_a_bytes_a_source_h0, .inl b_a_bytes_a_source_h0))]) (c_Wr_leadFirst l D cI cB cJ cS h0 a_tree_h0 a_source_h0 a_form_h0 a_cells_a_tree_h0 a_bytes_a_form_h0 r37 p1 indent_h0 fits_h0 count_a_tree_h0 n_a_cells_a_tree_h0 b_a_cells_a_tree_h0 size_a_form_h0 n_a_bytes_a_form_h0 b_a_bytes_a_form_h0  r50 r51 r52 r53 C55 S56 k59) k_Wr_81 (by decide) ⟨Nat.le_of_ble_eq_true rfl, Nat.le_of_ble_eq_true rfl⟩ rfl 0 rfl [0, 5, 6, 1, 2] [3, 4] rfl (by decide) rfl (by decide) (by decide) rfl rfl (Nat.le_of_ble_eq_true rfl) d_Wr_enter_21 ⟨show 0 + C55 ≤ mc by omega, show 0 + S56 ≤ ms by omega⟩ (fun v w hq => ?_)
    obtain ⟨q54, rfl, rfl⟩ := hq
    refine j_norm (pc' := 24) (st' := []) (ws' := [(a_source_h0, .inr (3, [.ref a_bytes_a_source_h0, .int size_a_source_h0])), (a_bytes_a_source_h0, .inl (cB, n_a_bytes_a_source_h0, .inl b_a_bytes_a_source_h0)), (h0, .inr (6, [.ref a_tree_h0, .ref a_source_h0, .ref a_form_h0, .int indent_h0, .int r50])), (a_tree_h0, .inr (1, [.ref a_cells_a_tree_h0, .int count_a_tree_h0])), (a_cells_a_tree_h0, .inl (cI, n_a_cells_a_tree_h0, .inl b_a_cells_a_tree_h0)), (a_form_h0, .inr (3, [.ref q54, .int r51])), (q54, .inl (cB, r52, .inl r53))]) (cl' := 0 + C55) (sl' := 0 + S56) rfl rfl rfl rfl rfl rfl ?_
    refine j_goto (tgt := 33) d_Wr_enter_24 (by decide) ?_
    refine j_sub (w := [(h0, .inr (6, [.ref a_tree_h0, .ref a_source_h0, .ref a_form_h0, .int indent_h0, .int r50])), (a_tree_h0, .inr (1, [.ref a_cells_a_tree_h0, .int count_a_tree_h0])), (a_cells_a_tree_h0, .inl (cI, n_a_cells_a_tree_h0, .inl b_a_cells_a_tree_h0)), (a_form_h0, .inr (3, [.ref q54, .int r51])), (a_source_h0, .inr (3, [.ref a_bytes_a_source_h0, .int size_a_source_h0])), (a_bytes_a_source_h0, .inl (cB, n_a_bytes_a_source_h0, .inl b_a_bytes_a_source_h0)), (q54, .inl (cB, r52, .inl r53))]) (lv' := [(2, .int r37), (0, .ref h0), (1, .int p1)]) [2, 3, 4, 5, 0, 1, 6] rfl (by decide) [0, 1, 2] rfl ?_
    exact L_Wr_enter_33 l D cI cB cJ cS h0 a_tree_h0 a_source_h0 a_form_h0 a_cells_a_tree_h0 a_bytes_a_form_h0 a_bytes_a_source_h0 p1 indent_h0 fits_h0 count_a_tree_h0 n_a_cells_a_tree_h0 b_a_cells_a_tree_h0 size_a_form_h0 n_a_bytes_a_form_h0 b_a_bytes_a_form_h0 size_a_source_h0 n_a_bytes_a_source_h0 b_a_bytes_a_source_h0 o_0_3 o_0_4 o_3_1 on_nq_3_0 ob_nq_3_0 mc ms p e s m below meth c hr hnm q54 r37 r50 r51 r52 r53 (0 + C55) (0 + S56) C57 S58 h hC hS
noncomputable def F_Wr_fits_68 (count_g1 : Int32) (n_a_cells_g1 : Nat) (b_a_cells_g1 : Nat → Int32) (size_g2 : Int32) (n_a_bytes_g2 : Nat) (b_a_bytes_g2 : Nat → Int32) (v4_36 : Int32) (K_36 : Int32 → Int32 → Int32 → Nat → (Nat → Int32) → Int32 → Option ((Int32 × Int32 × Int32 × Int32 × Nat × (Nat → Int32)) × Nat × Nat)) : Nat → Int32 → Int32 → Int32 → Int32 → Int32 → Nat → (Nat → Int32) → Option ((Int32 × Int32 × Int32 × Int32 × Nat × (Nat → Int32)) × Nat × Nat)
  | 0, _, _, _, _, _, _, _ => none
  | k_68 + 1, v6_68, v5_68, f0_3_68, f0_4_68, f3_1_68, n6_68, b6_68 =>
    if v4_36 < v6_68 then (K_36 (v4_36 + 1) f0_3_68 f0_4_68 n6_68 b6_68 f3_1_68)
    else if v5_68 < 0 then (K_36 (v4_36 + 1) f0_3_68 f0_4_68 n6_68 b6_68 f3_1_68)
    else (Option.bind (F_Nd_after v5_68 count_g1 n_a_cells_g1 b_a_cells_g1) fun r3 =>
      if r3 = (v4_36 + 1) then (bw (F_Wr_leave v5_68 f0_3_68 f0_4_68 count_g1 n_a_cells_g1 b_a_cells_g1 f3_1_68 n6_68 b6_68 size_g2 n_a_bytes_g2 b_a_bytes_g2) fun ⟨r6, r7, r8, r9, r10⟩ =>
        Option.bind (F_Nd_get v5_68 6 count_g1 n_a_cells_g1 b_a_cells_g1) fun r17 =>
        F_Wr_fits_68 count_g1 n_a_cells_g1 b_a_cells_g1 size_g2 n_a_bytes_g2 b_a_bytes_g2 v4_36 K_36 k_68 (v6_68 + 1) r17 r6 r7 r8 r9 r10)
      else (K_36 (v4_36 + 1) f0_3_68 f0_4_68 n6_68 b6_68 f3_1_68))
noncomputable def F_Wr_fits_36 (count_g1 : Int32) (n_a_cells_g1 : Nat) (b_a_cells_g1 : Nat → Int32) (size_g2 : Int32) (n_a_bytes_g2 : Nat) (b_a_bytes_g2 : Nat → Int32) : Nat → Int32 → Int32 → Int32 → Nat → (Nat → Int32) → Int32 → Option ((Int32 × Int32 × Int32 × Int32 × Nat × (Nat → Int32)) × Nat × Nat)
  | 0, _, _, _, _, _, _ => none
  | k_36 + 1, v4_36, f0_3_36, f0_4_36, n3_36, b3_36, f6_1_36 =>
    if count_g1 ≤ v4_36 then (zck f0_4_36 (some ((f0_4_36, f0_3_36, f0_4_36, f6_1_36, n3_36, b3_36), 0, 0)))
    else if f0_4_36 = 0 then (zck f0_4_36 (some ((f0_4_36, f0_3_36, f0_4_36, f6_1_36, n3_36, b3_36), 0, 0)))
    else (bw (F_Wr_enter v4_36 f0_3_36 f0_4_36 count_g1 n_a_cells_g1 b_a_cells_g1 f6_1_36 n3_36 b3_36 size_g2 n_a_bytes_g2 b_a_bytes_g2) fun ⟨r24, r25, r26, r27, r28⟩ =>
      F_Wr_fits_68 count_g1 n_a_cells_g1 b_a_cells_g1 size_g2 n_a_bytes_g2 b_a_bytes_g2 v4_36 (F_Wr_fits_36 count_g1 n_a_cells_g1 b_a_cells_g1 size_g2 n_a_bytes_g2 b_a_bytes_g2  k_36) FU 0 v4_36 r24 r25 r26 r27 r28)
noncomputable def F_Wr_fits (indent_h0 : Int32) (fits_h0 : Int32) (size_g3 : Int32) (count_g1 : Int32) (n_a_cells_g1 : Nat) (b_a_cells_g1 : Nat → Int32) (n_a_bytes_g3 : Nat) (b_a_bytes_g3 : Nat → Int32) (size_g2 : Int32) (n_a_bytes_g2 : Nat) (b_a_bytes_g2 : Nat → Int32) : Option ((Int32 × Int32 × Int32 × Int32 × Nat × (Nat → Int32)) × Nat × Nat) :=
  nm (F_Rw_cut 0 size_g3) fun r35 =>
  F_Wr_fits_36 count_g1 n_a_cells_g1 b_a_cells_g1 size_g2 n_a_bytes_g2 b_a_bytes_g2  FU 0 0 1 n_a_bytes_g3 b_a_bytes_g3 r35
theorem d_Wr_fits_0 : decode prog_10_method_2_code 0 = .ok (.aload_n 0, 1) := by decide +kernel
theorem d_Wr_fits_1 : decode prog_10_method_2_code 1 = .ok (.aload_n 1, 1) := by decide +kernel
theorem d_Wr_fits_2 : decode prog_10_method_2_code 2 = .ok (.putfield 10, 3) := by decide +kernel
theorem d_Wr_fits_5 : decode prog_10_method_2_code 5 = .ok (.aload_n 0, 1) := by decide +kernel
theorem d_Wr_fits_6 : decode prog_10_method_2_code 6 = .ok (.aload_n 2, 1) := by decide +kernel
theorem d_Wr_fits_7 : decode prog_10_method_2_code 7 = .ok (.putfield 19, 3) := by decide +kernel
theorem d_Wr_fits_10 : decode prog_10_method_2_code 10 = .ok (.aload_n 0, 1) := by decide +kernel
theorem d_Wr_fits_11 : decode prog_10_method_2_code 11 = .ok (.aload_n 3, 1) := by decide +kernel
theorem d_Wr_fits_12 : decode prog_10_method_2_code 12 = .ok (.putfield 23, 3) := by decide +kernel
theorem d_Wr_fits_15 : decode prog_10_method_2_code 15 = .ok (.aload_n 0, 1) := by decide +kernel
theorem d_Wr_fits_16 : decode prog_10_method_2_code 16 = .ok (.getfield 23, 3) := by decide +kernel
theorem d_Wr_fits_19 : decode prog_10_method_2_code 19 = .ok (.iconst 0, 1) := by decide +kernel
theorem d_Wr_fits_20 : decode prog_10_method_2_code 20 = .ok (.invokevirtual 34, 3) := by decide +kernel
theorem d_Wr_fits_23 : decode prog_10_method_2_code 23 = .ok (.aload_n 0, 1) := by decide +kernel
theorem d_Wr_fits_24 : decode prog_10_method_2_code 24 = .ok (.iconst 0, 1) := by decide +kernel
theorem d_Wr_fits_25 : decode prog_10_method_2_code 25 = .ok (.putfield 26, 3) := by decide +kernel
theorem d_Wr_fits_28 : decode prog_10_method_2_code 28 = .ok (.aload_n 0, 1) := by decide +kernel
theorem d_Wr_fits_29 : decode prog_10_method_2_code 29 = .ok (.iconst 1, 1) := by decide +kernel
theorem d_Wr_fits_30 : decode prog_10_method_2_code 30 = .ok (.putfield 30, 3) := by decide +kernel
theorem d_Wr_fits_33 : decode prog_10_method_2_code 33 = .ok (.iconst 0, 1) := by decide +kernel
theorem d_Wr_fits_34 : decode prog_10_method_2_code 34 = .ok (.istore 4, 2) := by decide +kernel
theorem d_Wr_fits_36 : decode prog_10_method_2_code 36 = .ok (.iload 4, 2) := by decide +kernel
theorem d_Wr_fits_38 : decode prog_10_method_2_code 38 = .ok (.aload_n 0, 1) := by decide +kernel
theorem d_Wr_fits_39 : decode prog_10_method_2_code 39 = .ok (.getfield 10, 3) := by decide +kernel
theorem d_Wr_fits_42 : decode prog_10_method_2_code 42 = .ok (.invokevirtual 38, 3) := by decide +kernel
theorem d_Wr_fits_45 : decode prog_10_method_2_code 45 = .ok (.if_icmp .ge 82, 3) := by decide +kernel
theorem d_Wr_fits_48 : decode prog_10_method_2_code 48 = .ok (.aload_n 0, 1) := by decide +kernel
theorem d_Wr_fits_49 : decode prog_10_method_2_code 49 = .ok (.getfield 30, 3) := by decide +kernel
theorem d_Wr_fits_52 : decode prog_10_method_2_code 52 = .ok (.ifCond .eq 75, 3) := by decide +kernel
theorem d_Wr_fits_55 : decode prog_10_method_2_code 55 = .ok (.aload_n 0, 1) := by decide +kernel
theorem d_Wr_fits_56 : decode prog_10_method_2_code 56 = .ok (.iload 4, 2) := by decide +kernel
theorem d_Wr_fits_58 : decode prog_10_method_2_code 58 = .ok (.invokevirtual 42, 3) := by decide +kernel
theorem d_Wr_fits_61 : decode prog_10_method_2_code 61 = .ok (.iload 4, 2) := by decide +kernel
theorem d_Wr_fits_63 : decode prog_10_method_2_code 63 = .ok (.istore 5, 2) := by decide +kernel
theorem d_Wr_fits_65 : decode prog_10_method_2_code 65 = .ok (.iconst 0, 1) := by decide +kernel
theorem d_Wr_fits_66 : decode prog_10_method_2_code 66 = .ok (.istore 6, 2) := by decide +kernel
theorem d_Wr_fits_68 : decode prog_10_method_2_code 68 = .ok (.iload 6, 2) := by decide +kernel
theorem d_Wr_fits_70 : decode prog_10_method_2_code 70 = .ok (.iload 4, 2) := by decide +kernel
theorem d_Wr_fits_72 : decode prog_10_method_2_code 72 = .ok (.if_icmp .gt 49, 3) := by decide +kernel
theorem d_Wr_fits_75 : decode prog_10_method_2_code 75 = .ok (.iload 5, 2) := by decide +kernel
theorem d_Wr_fits_77 : decode prog_10_method_2_code 77 = .ok (.ifCond .lt 44, 3) := by decide +kernel
theorem d_Wr_fits_80 : decode prog_10_method_2_code 80 = .ok (.aload_n 0, 1) := by decide +kernel
theorem d_Wr_fits_81 : decode prog_10_method_2_code 81 = .ok (.getfield 10, 3) := by decide +kernel
theorem d_Wr_fits_84 : decode prog_10_method_2_code 84 = .ok (.iload 5, 2) := by decide +kernel
theorem d_Wr_fits_86 : decode prog_10_method_2_code 86 = .ok (.invokevirtual 45, 3) := by decide +kernel
theorem d_Wr_fits_89 : decode prog_10_method_2_code 89 = .ok (.iload 4, 2) := by decide +kernel
theorem d_Wr_fits_91 : decode prog_10_method_2_code 91 = .ok (.iconst 1, 1) := by decide +kernel
theorem d_Wr_fits_92 : decode prog_10_method_2_code 92 = .ok (.iadd, 1) := by decide +kernel
theorem d_Wr_fits_93 : decode prog_10_method_2_code 93 = .ok (.if_icmp .ne 28, 3) := by decide +kernel
theorem d_Wr_fits_96 : decode prog_10_method_2_code 96 = .ok (.aload_n 0, 1) := by decide +kernel
theorem d_Wr_fits_97 : decode prog_10_method_2_code 97 = .ok (.iload 5, 2) := by decide +kernel
theorem d_Wr_fits_99 : decode prog_10_method_2_code 99 = .ok (.invokevirtual 49, 3) := by decide +kernel
theorem d_Wr_fits_102 : decode prog_10_method_2_code 102 = .ok (.aload_n 0, 1) := by decide +kernel
theorem d_Wr_fits_103 : decode prog_10_method_2_code 103 = .ok (.getfield 10, 3) := by decide +kernel
theorem d_Wr_fits_106 : decode prog_10_method_2_code 106 = .ok (.iload 5, 2) := by decide +kernel
theorem d_Wr_fits_108 : decode prog_10_method_2_code 108 = .ok (.bipush 6, 2) := by decide +kernel
theorem d_Wr_fits_110 : decode prog_10_method_2_code 110 = .ok (.invokevirtual 52, 3) := by decide +kernel
theorem d_Wr_fits_113 : decode prog_10_method_2_code 113 = .ok (.istore 5, 2) := by decide +kernel
theorem d_Wr_fits_115 : decode prog_10_method_2_code 115 = .ok (.iinc 6 1, 3) := by decide +kernel
theorem d_Wr_fits_118 : decode prog_10_method_2_code 118 = .ok (.goto (-50), 3) := by decide +kernel
theorem d_Wr_fits_121 : decode prog_10_method_2_code 121 = .ok (.iinc 4 1, 3) := by decide +kernel
theorem d_Wr_fits_124 : decode prog_10_method_2_code 124 = .ok (.goto (-88), 3) := by decide +kernel
theorem d_Wr_fits_127 : decode prog_10_method_2_code 127 = .ok (.aload_n 0, 1) := by decide +kernel
theorem d_Wr_fits_128 : decode prog_10_method_2_code 128 = .ok (.getfield 30, 3) := by decide +kernel
theorem d_Wr_fits_131 : decode prog_10_method_2_code 131 = .ok (.ireturn, 1) := by decide +kernel
set_option maxHeartbeats 4000000 in
set_option maxRecDepth 100000 in
theorem L_Wr_fits_36 (l : Launch) (D : va_G) (cI cB cJ cS : ClassId) (h0 : Nat) (g1 : Nat) (g2 : Nat) (g3 : Nat) (a_tree_h0 : Nat) (a_source_h0 : Nat) (a_form_h0 : Nat) (a_bytes_g3 : Nat) (a_cells_g1 : Nat) (a_bytes_g2 : Nat) (indent_h0 : Int32) (fits_h0 : Int32) (size_g3 : Int32) (count_g1 : Int32) (n_a_cells_g1 : Nat) (b_a_cells_g1 : Nat → Int32) (n_a_bytes_g3 : Nat) (b_a_bytes_g3 : Nat → Int32) (size_g2 : Int32) (n_a_bytes_g2 : Nat) (b_a_bytes_g2 : Nat → Int32) (ret : Int32) (o_0_3 : Int32) (o_0_4 : Int32) (o_1_1 : Int32) (on_nq_1_0 : Nat) (ob_nq_1_0 : Nat → Int32) (mc ms : Nat) (p : Program) (e : Env) (s : State) (m : MethodId) (below : List Frame) (meth : Method) (c : Code) (hr : meth.sig.returnType = (Option.some Jvm.ClassFile.FieldType.boolean)) (hnm : meth.name = y_Wr_fits.name) : ∀ (k_36 : Nat) (q6_0_36 : Nat) (v4_36 : Int32) (f0_3_36 : Int32) (f0_4_36 : Int32) (n3_36 : Nat) (b3_36 : Nat → Int32) (f6_1_36 : Int32) (cl_36 sl_36 C_36 S_36 : Nat), F_Wr_fits_36 count_g1 n_a_cells_g1 b_a_cells_g1 size_g2 n_a_bytes_g2 b_a_bytes_g2  k_36 v4_36 f0_3_36 f0_4_36 n3_36 b3_36 f6_1_36 = some ((ret, o_0_3, o_0_4, o_1_1, on_nq_1_0, ob_nq_1_0), C_36, S_36) → cl_36 + C_36 ≤ mc → sl_36 + S_36 ≤ ms → J (KxOf p l e { frames := 8, cells := mc, slots := ms, locals := 195 } s m [.ref h0, .ref g1, .ref g2, .ref g3].toArray below meth c D (gT cI cB cJ cS) [(h0, .inr (6, [.ref a_tree_h0, .ref a_source_h0, .ref a_form_h0, .int indent_h0, .int fits_h0])), (g3, .inr (3, [.ref a_bytes_g3, .int size_g3])), (g1, .inr (1, [.ref a_cells_g1, .int count_g1])), (a_cells_g1, .inl (cI, n_a_cells_g1, .inl b_a_cells_g1)), (a_bytes_g3, .inl (cB, n_a_bytes_g3, .inl b_a_bytes_g3)), (g2, .inr (3, [.ref a_bytes_g2, .int size_g2])), (a_bytes_g2, .inl (cB, n_a_bytes_g2, .inl b_a_bytes_g2))] (fun v w => ∃ nq_1_0 : Nat, v = some (.int ret) ∧ zb ret ∧ w = [(h0, .inr (6, [.ref g1, .ref g2, .ref g3, .int o_0_3, .int o_0_4])), (g3, .inr (3, [.ref nq_1_0, .int o_1_1])), (g1, .inr (1, [.ref a_cells_g1, .int count_g1])), (a_cells_g1, .inl (cI, n_a_cells_g1, .inl b_a_cells_g1)), (g2, .inr (3, [.ref a_bytes_g2, .int size_g2])), (a_bytes_g2, .inl (cB, n_a_bytes_g2, .inl b_a_bytes_g2)), (nq_1_0, .inl (cB, on_nq_1_0, .inl ob_nq_1_0))]) mc ms) prog_10_method_2_code 7 R_Wr 36 [(4, .int v4_36), (0, .ref h0), (1, .ref g1), (2, .ref g2), (3, .ref g3)] [] [(h0, .inr (6, [.ref g1, .ref g2, .ref g3, .int f0_3_36, .int f0_4_36])), (g1, .inr (1, [.ref a_cells_g1, .int count_g1])), (a_cells_g1, .inl (cI, n_a_cells_g1, .inl b_a_cells_g1)), (q6_0_36, .inl (cB, n3_36, .inl b3_36)), (g2, .inr (3, [.ref a_bytes_g2, .int size_g2])), (a_bytes_g2, .inl (cB, n_a_bytes_g2, .inl b_a_bytes_g2)), (g3, .inr (3, [.ref q6_0_36, .int f6_1_36]))] cl_36 sl_36 := by
  intro k_36
  induction k_36 with
  | zero => intro q6_0_36 v4_36 f0_3_36 f0_4_36 n3_36 b3_36 f6_1_36 cl_36 sl_36 C_36 S_36 h; rw [F_Wr_fits_36] at h; cases h
  | succ k_36 ih_36 =>
    intro q6_0_36 v4_36 f0_3_36 f0_4_36 n3_36 b3_36 f6_1_36 cl_36 sl_36 C_36 S_36 h hC hS
    rw [F_Wr_fits_36] at h
    have L_68 : ∀ (k_68 : Nat) (q3_0_68 : Nat) (v6_68 : Int32) (v5_68 : Int32) (f0_3_68 : Int32) (f0_4_68 : Int32) (f3_1_68 : Int32) (n6_68 : Nat) (b6_68 : Nat → Int32) (cl_68 sl_68 C_68 S_68 : Nat), F_Wr_fits_68 count_g1 n_a_cells_g1 b_a_cells_g1 size_g2 n_a_bytes_g2 b_a_bytes_g2 v4_36 (F_Wr_fits_36 count_g1 n_a_cells_g1 b_a_cells_g1 size_g2 n_a_bytes_g2 b_a_bytes_g2  k_36) k_68 v6_68 v5_68 f0_3_68 f0_4_68 f3_1_68 n6_68 b6_68 = some ((ret, o_0_3, o_0_4, o_1_1, on_nq_1_0, ob_nq_1_0), C_68, S_68) → cl_68 + C_68 ≤ mc → sl_68 + S_68 ≤ ms → J (KxOf p l e { frames := 8, cells := mc, slots := ms, locals := 195 } s m [.ref h0, .ref g1, .ref g2, .ref g3].toArray below meth c D (gT cI cB cJ cS) [(h0, .inr (6, [.ref a_tree_h0, .ref a_source_h0, .ref a_form_h0, .int indent_h0, .int fits_h0])), (g3, .inr (3, [.ref a_bytes_g3, .int size_g3])), (g1, .inr (1, [.ref a_cells_g1, .int count_g1])), (a_cells_g1, .inl (cI, n_a_cells_g1, .inl b_a_cells_g1)), (a_bytes_g3, .inl (cB, n_a_bytes_g3, .inl b_a_bytes_g3)), (g2, .inr (3, [.ref a_bytes_g2, .int size_g2])), (a_bytes_g2, .inl (cB, n_a_bytes_g2, .inl b_a_bytes_g2))] (fun v w => ∃ nq_1_0 : Nat, v = some (.int ret) ∧ zb ret ∧ w = [(h0, .inr (6, [.ref g1, .ref g2, .ref g3, .int o_0_3, .int o_0_4])), (g3, .inr (3, [.ref nq_1_0, .int o_1_1])), (g1, .inr (1, [.ref a_cells_g1, .int count_g1])), (a_cells_g1, .inl (cI, n_a_cells_g1, .inl b_a_cells_g1)), (g2, .inr (3, [.ref a_bytes_g2, .int size_g2])), (a_bytes_g2, .inl (cB, n_a_bytes_g2, .inl b_a_bytes_g2)), (nq_1_0, .inl (cB, on_nq_1_0, .inl ob_nq_1_0))]) mc ms) prog_10_method_2_code 7 R_Wr 68 [(6, .int v6_68), (5, .int v5_68), (4, .int v4_36), (0, .ref h0), (1, .ref g1), (2, .ref g2), (3, .ref g3)] [] [(h0, .inr (6, [.ref g1, .ref g2, .ref g3, .int f0_3_68, .int f0_4_68])), (g1, .inr (1, [.ref a_cells_g1, .int count_g1])), (a_cells_g1, .inl (cI, n_a_cells_g1, .inl b_a_cells_g1)), (g3, .inr (3, [.ref q3_0_68, .int f3_1_68])), (g2, .inr (3, [.ref a_bytes_g2, .int size_g2])), (a_bytes_g2, .inl (cB, n_a_bytes_g2, .inl b_a_bytes_g2)), (q3_0_68, .inl (cB, n6_68, .inl b6_68))] cl_68 sl_68 := by
      clear h
      intro k_68
      induction k_68 with
      | zero => intro q3_0_68 v6_68 v5_68 f0_3_68 f0_4_68 f3_1_68 n6_68 b6_68 cl_68 sl_68 C_68 S_68 h; rw [F_Wr_fits_68] at h; cases h
      | succ k_68 ih_68 =>
        intro q3_0_68 v6_68 v5_68 f0_3_68 f0_4_68 f3_1_68 n6_68 b6_68 cl_68 sl_68 C_68 S_68 h hC hS
        rw [F_Wr_fits_68] at h
        refine j_iload d_Wr_fits_68 0 rfl ?_
        refine j_iload d_Wr_fits_70 2 rfl ?_
        refine j_icmp_gt (tgt := 121) d_Wr_fits_72 (by decide) (fun c1 => ?_) (fun c1 => ?_)
        · replace h := it_t c1 h
          refine j_iinc (v := v4_36 + 1) (lv' := [(4, .int (v4_36 + 1)), (6, .int v6_68), (5, .int v5_68), (0, .ref h0), (1, .ref g1), (2, .ref g2), (3, .ref g3)]) d_Wr_fits_121 2 rfl rfl (by decide) rfl ?_
          refine j_goto (tgt := 36) d_Wr_fits_124 (by decide) ?_
          refine j_sub (w := [(h0, .inr (6, [.ref g1, .ref g2, .ref g3, .int f0_3_68, .int f0_4_68])), (g1, .inr (1, [.ref a_cells_g1, .int count_g1])), (a_cells_g1, .inl (cI, n_a_cells_g1, .inl b_a_cells_g1)), (q3_0_68, .inl (cB, n6_68, .inl b6_68)), (g2, .inr (3, [.ref a_bytes_g2, .int size_g2])), (a_bytes_g2, .inl (cB, n_a_bytes_g2, .inl b_a_bytes_g2)), (g3, .inr (3, [.ref q3_0_68, .int f3_1_68]))]) (lv' := [(4, .int (v4_36 + 1)), (0, .ref h0), (1, .ref g1), (2, .ref g2), (3, .ref g3)]) [0, 1, 2, 6, 4, 5, 3] rfl (by decide) [0, 3, 4, 5, 6] rfl ?_
          exact ih_36 q3_0_68 (v4_36 + 1) f0_3_68 f0_4_68 n6_68 b6_68 f3_1_68 cl_68 sl_68 C_68 S_68 h hC hS
        · replace h := it_f c1 h
          refine j_iload d_Wr_fits_75 1 rfl ?_
          refine j_if_lt (tgt := 121) d_Wr_fits_77 (by decide) (fun c2 => ?_) (fun c2 => ?_)
          · replace h := it_t c2 h
            refine j_iinc (v := v4_36 + 1) (lv' := [(4, .int (v4_36 + 1)), (6, .int v6_68), (5, .int v5_68), (0, .ref h0), (1, .ref g1), (2, .ref g2), (3, .ref g3)]) d_Wr_fits_121 2 rfl rfl (by decide) rfl ?_
            refine j_goto (tgt := 36) d_Wr_fits_124 (by decide) ?_
            refine j_sub (w := [(h0, .inr (6, [.ref g1, .ref g2, .ref g3, .int f0_3_68, .int f0_4_68])), (g1, .inr (1, [.ref a_cells_g1, .int count_g1])), (a_cells_g1, .inl (cI, n_a_cells_g1, .inl b_a_cells_g1)), (q3_0_68, .inl (cB, n6_68, .inl b6_68)), (g2, .inr (3, [.ref a_bytes_g2, .int size_g2])), (a_bytes_g2, .inl (cB, n_a_bytes_g2, .inl b_a_bytes_g2)), (g3, .inr (3, [.ref q3_0_68, .int f3_1_68]))]) (lv' := [(4, .int (v4_36 + 1)), (0, .ref h0), (1, .ref g1), (2, .ref g2), (3, .ref g3)]) [0, 1, 2, 6, 4, 5, 3] rfl (by decide) [0, 3, 4, 5, 6] rfl ?_
            exact ih_36 q3_0_68 (v4_36 + 1) f0_3_68 f0_4_68 n6_68 b6_68 f3_1_68 cl_68 sl_68 C_68 S_68 h hC hS
          · replace h := it_f c2 h
            refine j_aload_n d_Wr_fits_80 rfl 3 rfl ?_
            refine j_get ig_Wr rfl 0 rfl 0 (by decide) rfl m_219 rfl d_Wr_fits_81 ?_
            refine j_iload d_Wr_fits_84 1 rfl ?_
            replace h := bd_s h
            obtain ⟨r3, k4, h⟩ := h
            refine j_callV (n := 1) (As := [.int v5_68]) (rest := []) (wr := [(h0, .inr (6, [.ref g1, .ref g2, .ref g3, .int f0_3_68, .int f0_4_68])), (g3, .inr (3, [.ref q3_0_68, .int f3_1_68])), (g2, .inr (3, [.ref a_bytes_g2, .int size_g2])), (a_bytes_g2, .inl (cB, n_a_bytes_g2, .inl b_a_bytes_g2)), (q3_0_68, .inl (cB, n6_68, .inl b6_68))]) (c_Nd_after l D cI cB cJ cS g1 a_cells_g1 v5_68 count_g1 n_a_cells_g1 b_a_cells_g1  r3 k4) k_Wr_45 (by decide) ⟨Nat.le_of_ble_eq_true rfl, Nat.le_of_ble_eq_true rfl⟩ rfl 0 rfl [1, 2] [0, 3, 4, 5, 6] rfl (by decide) rfl (by decide) (by decide) rfl rfl (Nat.le_of_ble_eq_true rfl) d_Wr_fits_86 ⟨show cl_68 + 0 ≤ mc by omega, show sl_68 + 0 ≤ ms by omega⟩ (fun v w hq => ?_)
            obtain ⟨rfl, rfl⟩ := hq
            refine j_norm (pc' := 89) (st' := [.int r3]) (ws' := [(h0, .inr (6, [.ref g1, .ref g2, .ref g3, .int f0_3_68, .int f0_4_68])), (g3, .inr (3, [.ref q3_0_68, .int f3_1_68])), (g2, .inr (3, [.ref a_bytes_g2, .int size_g2])), (a_bytes_g2, .inl (cB, n_a_bytes_g2, .inl b_a_bytes_g2)), (q3_0_68, .inl (cB, n6_68, .inl b6_68)), (g1, .inr (1, [.ref a_cells_g1, .int count_g1])), (a_cells_g1, .inl (cI, n_a_cells_g1, .inl b_a_cells_g1))]) (cl' := cl_68) (sl' := sl_68) rfl rfl rfl rfl rfl rfl ?_
            refine j_iload d_Wr_fits_89 2 rfl ?_
            refine j_iconst (v := 1) d_Wr_fits_91 (by decide) ?_
            refine j_iadd d_Wr_fits_92 ?_
            refine j_icmp_ne (tgt := 121) d_Wr_fits_93 (by decide) (fun c5 => ?_) (fun c5 => ?_)
            · replace h := it_f c5 h
              refine j_iinc (v := v4_36 + 1) (lv' := [(4, .int (v4_36 + 1)), (6, .int v6_68), (5, .int v5_68), (0, .ref h0), (1, .ref g1), (2, .ref g2), (3, .ref g3)]) d_Wr_fits_121 2 rfl rfl (by decide) rfl ?_
              refine j_goto (tgt := 36) d_Wr_fits_124 (by decide) ?_
              refine j_sub (w := [(h0, .inr (6, [.ref g1, .ref g2, .ref g3, .int f0_3_68, .int f0_4_68])), (g1, .inr (1, [.ref a_cells_g1, .int count_g1])), (a_cells_g1, .inl (cI, n_a_cells_g1, .inl b_a_cells_g1)), (q3_0_68, .inl (cB, n6_68, .inl b6_68)), (g2, .inr (3, [.ref a_bytes_g2, .int size_g2])), (a_bytes_g2, .inl (cB, n_a_bytes_g2, .inl b_a_bytes_g2)), (g3, .inr (3, [.ref q3_0_68, .int f3_1_68]))]) (lv' := [(4, .int (v4_36 + 1)), (0, .ref h0), (1, .ref g1), (2, .ref g2), (3, .ref g3)]) [0, 5, 6, 4, 2, 3, 1] rfl (by decide) [0, 3, 4, 5, 6] rfl ?_
              exact ih_36 q3_0_68 (v4_36 + 1) f0_3_68 f0_4_68 n6_68 b6_68 f3_1_68 cl_68 sl_68 C_68 S_68 h hC hS
            · replace h := it_t c5 h
              refine j_aload_n d_Wr_fits_96 rfl 3 rfl ?_
              refine j_iload d_Wr_fits_97 1 rfl ?_
              replace h := bw_s h
              obtain ⟨⟨r6, r7, r8, r9, r10⟩, C12, S13, C14, S15, k16, h, e1, e2⟩ := h
              replace hC : cl_68 + C12 + C14 ≤ mc := by omega
              replace hS : sl_68 + S13 + S15 ≤ ms := by omega
              clear e1 e2
              refine j_callV (n := 1) (As := [.int v5_68]) (rest := []) (wr := []) (c_Wr_leave l D cI cB cJ cS h0 g1 g2 g3 a_cells_g1 q3_0_68 a_bytes_g2 v5_68 f0_3_68 f0_4_68 count_g1 n_a_cells_g1 b_a_cells_g1 f3_1_68 n6_68 b6_68 size_g2 n_a_bytes_g2 b_a_bytes_g2  r6 r7 r8 r9 r10 C12 S13 k16) k_Wr_49 (by decide) ⟨Nat.le_of_ble_eq_true rfl, Nat.le_of_ble_eq_true rfl⟩ rfl 0 rfl [0, 5, 6, 1, 4, 2, 3] [] rfl (by decide) rfl (by decide) (by decide) rfl rfl (Nat.le_of_ble_eq_true rfl) d_Wr_fits_99 ⟨show cl_68 + C12 ≤ mc by omega, show sl_68 + S13 ≤ ms by omega⟩ (fun v w hq => ?_)
              obtain ⟨q11, rfl, rfl⟩ := hq
              refine j_norm (pc' := 102) (st' := []) (ws' := [(h0, .inr (6, [.ref g1, .ref g2, .ref g3, .int r6, .int r7])), (g1, .inr (1, [.ref a_cells_g1, .int count_g1])), (a_cells_g1, .inl (cI, n_a_cells_g1, .inl b_a_cells_g1)), (g3, .inr (3, [.ref q11, .int r8])), (g2, .inr (3, [.ref a_bytes_g2, .int size_g2])), (a_bytes_g2, .inl (cB, n_a_bytes_g2, .inl b_a_bytes_g2)), (q11, .inl (cB, r9, .inl r10))]) (cl' := cl_68 + C12) (sl' := sl_68 + S13) rfl rfl rfl rfl rfl rfl ?_
              refine j_aload_n d_Wr_fits_102 rfl 3 rfl ?_
              refine j_get ig_Wr rfl 0 rfl 0 (by decide) rfl m_219 rfl d_Wr_fits_103 ?_
              refine j_iload d_Wr_fits_106 1 rfl ?_
              refine j_bipush (v := 6) d_Wr_fits_108 (by decide) ?_
              replace h := bd_s h
              obtain ⟨r17, k18, h⟩ := h
              refine j_callV (n := 2) (As := [.int v5_68, .int 6]) (rest := []) (wr := [(h0, .inr (6, [.ref g1, .ref g2, .ref g3, .int r6, .int r7])), (g3, .inr (3, [.ref q11, .int r8])), (g2, .inr (3, [.ref a_bytes_g2, .int size_g2])), (a_bytes_g2, .inl (cB, n_a_bytes_g2, .inl b_a_bytes_g2)), (q11, .inl (cB, r9, .inl r10))]) (c_Nd_get l D cI cB cJ cS g1 a_cells_g1 v5_68 6 count_g1 n_a_cells_g1 b_a_cells_g1  r17 k18) k_Wr_52 (by decide) ⟨Nat.le_of_ble_eq_true rfl, Nat.le_of_ble_eq_true rfl⟩ rfl 0 rfl [1, 2] [0, 3, 4, 5, 6] rfl (by decide) rfl (by decide) (by decide) rfl rfl (Nat.le_of_ble_eq_true rfl) d_Wr_fits_110 ⟨show cl_68 + C12 + 0 ≤ mc by omega, show sl_68 + S13 + 0 ≤ ms by omega⟩ (fun v w hq => ?_)
              obtain ⟨rfl, rfl⟩ := hq
              refine j_norm (pc' := 113) (st' := [.int r17]) (ws' := [(h0, .inr (6, [.ref g1, .ref g2, .ref g3, .int r6, .int r7])), (g3, .inr (3, [.ref q11, .int r8])), (g2, .inr (3, [.ref a_bytes_g2, .int size_g2])), (a_bytes_g2, .inl (cB, n_a_bytes_g2, .inl b_a_bytes_g2)), (q11, .inl (cB, r9, .inl r10)), (g1, .inr (1, [.ref a_cells_g1, .int count_g1])), (a_cells_g1, .inl (cI, n_a_cells_g1, .inl b_a_cells_g1))]) (cl' := cl_68 + C12) (sl' := sl_68 + S13) rfl rfl rfl rfl rfl rfl ?_
              refine j_istore (lv' := [(5, .int r17), (6, .int v6_68), (4, .int v4_36), (0, .ref h0), (1, .ref g1), (2, .ref g2), (3, .ref g3)]) d_Wr_fits_113 (by decide) rfl ?_
              refine j_iinc (v := v6_68 + 1) (lv' := [(6, .int (v6_68 + 1)), (5, .int r17), (4, .int v4_36), (0, .ref h0), (1, .ref g1), (2, .ref g2), (3, .ref g3)]) d_Wr_fits_115 1 rfl rfl (by decide) rfl ?_
              refine j_goto (tgt := 68) d_Wr_fits_118 (by decide) ?_
              refine j_sub (w := [(h0, .inr (6, [.ref g1, .ref g2, .ref g3, .int r6, .int r7])), (g1, .inr (1, [.ref a_cells_g1, .int count_g1])), (a_cells_g1, .inl (cI, n_a_cells_g1, .inl b_a_cells_g1)), (g3, .inr (3, [.ref q11, .int r8])), (g2, .inr (3, [.ref a_bytes_g2, .int size_g2])), (a_bytes_g2, .inl (cB, n_a_bytes_g2, .inl b_a_bytes_g2)), (q11, .inl (cB, r9, .inl r10))]) (lv' := [(6, .int (v6_68 + 1)), (5, .int r17), (4, .int v4_36), (0, .ref h0), (1, .ref g1), (2, .ref g2), (3, .ref g3)]) [0, 5, 6, 1, 2, 3, 4] rfl (by decide) [0, 1, 2, 3, 4, 5, 6] rfl ?_
              exact ih_68 q11 (v6_68 + 1) r17 r6 r7 r8 r9 r10 (cl_68 + C12) (sl_68 + S13) C14 S15 h hC hS
    refine j_iload d_Wr_fits_36 0 rfl ?_
    refine j_aload_n d_Wr_fits_38 rfl 1 rfl ?_
    refine j_get ig_Wr rfl 0 rfl 0 (by decide) rfl m_219 rfl d_Wr_fits_39 ?_
    refine j_callV (n := 0) (As := []) (rest := [.int v4_36]) (wr := [(h0, .inr (6, [.ref g1, .ref g2, .ref g3, .int f0_3_36, .int f0_4_36])), (a_cells_g1, .inl (cI, n_a_cells_g1, .inl b_a_cells_g1)), (q6_0_36, .inl (cB, n3_36, .inl b3_36)), (g2, .inr (3, [.ref a_bytes_g2, .int size_g2])), (a_bytes_g2, .inl (cB, n_a_bytes_g2, .inl b_a_bytes_g2)), (g3, .inr (3, [.ref q6_0_36, .int f6_1_36]))]) (c_Nd_count l D cI cB cJ cS g1 a_cells_g1 count_g1  ) k_Wr_38 (by decide) ⟨Nat.le_of_ble_eq_true rfl, Nat.le_of_ble_eq_true rfl⟩ rfl 0 rfl [1] [0, 2, 3, 4, 5, 6] rfl (by decide) rfl (by decide) (by decide) rfl rfl (Nat.le_of_ble_eq_true rfl) d_Wr_fits_42 ⟨show cl_36 + 0 ≤ mc by omega, show sl_36 + 0 ≤ ms by omega⟩ (fun v w hq => ?_)
    obtain ⟨rfl, rfl⟩ := hq
    refine j_norm (pc' := 45) (st' := [.int count_g1, .int v4_36]) (ws' := [(h0, .inr (6, [.ref g1, .ref g2, .ref g3, .int f0_3_36, .int f0_4_36])), (a_cells_g1, .inl (cI, n_a_cells_g1, .inl b_a_cells_g1)), (q6_0_36, .inl (cB, n3_36, .inl b3_36)), (g2, .inr (3, [.ref a_bytes_g2, .int size_g2])), (a_bytes_g2, .inl (cB, n_a_bytes_g2, .inl b_a_bytes_g2)), (g3, .inr (3, [.ref q6_0_36, .int f6_1_36])), (g1, .inr (1, [.ref a_cells_g1, .int count_g1]))]) (cl' := cl_36) (sl' := sl_36) rfl rfl rfl rfl rfl rfl ?_
    refine j_icmp_ge (tgt := 127) d_Wr_fits_45 (by decide) (fun c20 => ?_) (fun c20 => ?_)
    · replace h := it_t c20 h
      refine j_aload_n d_Wr_fits_127 rfl 1 rfl ?_
      refine j_get ig_Wr rfl 0 rfl 4 (by decide) rfl m_223 rfl d_Wr_fits_128 ?_
      replace h := zck_s h
      obtain ⟨z21, h⟩ := h
      replace h := lf_s h
      obtain ⟨h, e1, e2⟩ := h
      replace h := Prod.mk.inj h
      obtain ⟨h9, h⟩ := h
      subst h9
      replace h := Prod.mk.inj h
      obtain ⟨h9, h⟩ := h
      subst h9
      replace h := Prod.mk.inj h
      obtain ⟨h9, h⟩ := h
      subst h9
      replace h := Prod.mk.inj h
      obtain ⟨h9, h⟩ := h
      subst h9
      replace h := Prod.mk.inj h
      obtain ⟨h9, h⟩ := h
      subst h9
      subst h
      refine j_widen (cl' := mc) (sl' := ms) (by omega) (by omega) ?_
      exact j_zret (w := [(h0, .inr (6, [.ref g1, .ref g2, .ref g3, .int f0_3_36, .int f0_4_36])), (g3, .inr (3, [.ref q6_0_36, .int f6_1_36])), (g1, .inr (1, [.ref a_cells_g1, .int count_g1])), (a_cells_g1, .inl (cI, n_a_cells_g1, .inl b_a_cells_g1)), (g2, .inr (3, [.ref a_bytes_g2, .int size_g2])), (a_bytes_g2, .inl (cB, n_a_bytes_g2, .inl b_a_bytes_g2)), (q6_0_36, .inl (cB, n3_36, .inl b3_36))]) hr (zb_n z21) d_Wr_fits_131 [0, 5, 6, 1, 3, 4, 2] rfl (by decide) ⟨q6_0_36, rfl, z21, rfl⟩
    · replace h := it_f c20 h
      refine j_aload_n d_Wr_fits_48 rfl 1 rfl ?_
      refine j_get ig_Wr rfl 0 rfl 4 (by decide) rfl m_223 rfl d_Wr_fits_49 ?_
      refine j_if_eq (tgt := 127) d_Wr_fits_52 (by decide) (fun c22 => ?_) (fun c22 => ?_)
      · replace h := it_t c22 h
        refine j_aload_n d_Wr_fits_127 rfl 1 rfl ?_
        refine j_get ig_Wr rfl 0 rfl 4 (by decide) rfl m_223 rfl d_Wr_fits_128 ?_
        replace h := zck_s h
        obtain ⟨z23, h⟩ := h
        replace h := lf_s h
        obtain ⟨h, e1, e2⟩ := h
        replace h := Prod.mk.inj h
        obtain ⟨h9, h⟩ := h
        subst h9
        replace h := Prod.mk.inj h
        obtain ⟨h9, h⟩ := h
        subst h9
        replace h := Prod.mk.inj h
        obtain ⟨h9, h⟩ := h
        subst h9
        replace h := Prod.mk.inj h
        obtain ⟨h9, h⟩ := h
        subst h9
        replace h := Prod.mk.inj h
        obtain ⟨h9, h⟩ := h
        subst h9
        subst h
        refine j_widen (cl' := mc) (sl' := ms) (by omega) (by omega) ?_
        exact j_zret (w := [(h0, .inr (6, [.ref g1, .ref g2, .ref g3, .int f0_3_36, .int f0_4_36])), (g3, .inr (3, [.ref q6_0_36, .int f6_1_36])), (g1, .inr (1, [.ref a_cells_g1, .int count_g1])), (a_cells_g1, .inl (cI, n_a_cells_g1, .inl b_a_cells_g1)), (g2, .inr (3, [.ref a_bytes_g2, .int size_g2])), (a_bytes_g2, .inl (cB, n_a_bytes_g2, .inl b_a_bytes_g2)), (q6_0_36, .inl (cB, n3_36, .inl b3_36))]) hr (zb_n z23) d_Wr_fits_131 [0, 5, 6, 1, 3, 4, 2] rfl (by decide) ⟨q6_0_36, rfl, z23, rfl⟩
      · replace h := it_f c22 h
        refine j_aload_n d_Wr_fits_55 rfl 1 rfl ?_
        refine j_iload d_Wr_fits_56 0 rfl ?_
        replace h := bw_s h
        obtain ⟨⟨r24, r25, r26, r27, r28⟩, C30, S31, C32, S33, k34, h, e1, e2⟩ := h
        replace hC : cl_36 + C30 + C32 ≤ mc := by omega
        replace hS : sl_36 + S31 + S33 ≤ ms := by omega
        clear e1 e2
        refine j_callV (n := 1) (As := [.int v4_36]) (rest := []) (wr := []) (c_Wr_enter l D cI cB cJ cS h0 g1 g2 g3 a_cells_g1 q6_0_36 a_bytes_g2 v4_36 f0_3_36 f0_4_36 count_g1 n_a_cells_g1 b_a_cells_g1 f6_1_36 n3_36 b3_36 size_g2 n_a_bytes_g2 b_a_bytes_g2  r24 r25 r26 r27 r28 C30 S31 k34) k_Wr_42 (by decide) ⟨Nat.le_of_ble_eq_true rfl, Nat.le_of_ble_eq_true rfl⟩ rfl 0 rfl [0, 6, 1, 5, 2, 3, 4] [] rfl (by decide) rfl (by decide) (by decide) rfl rfl (Nat.le_of_ble_eq_true rfl) d_Wr_fits_58 ⟨show cl_36 + C30 ≤ mc by omega, show sl_36 + S31 ≤ ms by omega⟩ (fun v w hq => ?_)
        obtain ⟨q29, rfl, rfl⟩ := hq
        refine j_norm (pc' := 61) (st' := []) (ws' := [(h0, .inr (6, [.ref g1, .ref g2, .ref g3, .int r24, .int r25])), (g1, .inr (1, [.ref a_cells_g1, .int count_g1])), (a_cells_g1, .inl (cI, n_a_cells_g1, .inl b_a_cells_g1)), (g3, .inr (3, [.ref q29, .int r26])), (g2, .inr (3, [.ref a_bytes_g2, .int size_g2])), (a_bytes_g2, .inl (cB, n_a_bytes_g2, .inl b_a_bytes_g2)), (q29, .inl (cB, r27, .inl r28))]) (cl' := cl_36 + C30) (sl' := sl_36 + S31) rfl rfl rfl rfl rfl rfl ?_
        refine j_iload d_Wr_fits_61 0 rfl ?_
        refine j_istore (lv' := [(5, .int v4_36), (4, .int v4_36), (0, .ref h0), (1, .ref g1), (2, .ref g2), (3, .ref g3)]) d_Wr_fits_63 (by decide) rfl ?_
        refine j_iconst (v := 0) d_Wr_fits_65 (by decide) ?_
        refine j_istore (lv' := [(6, .int 0), (5, .int v4_36), (4, .int v4_36), (0, .ref h0), (1, .ref g1), (2, .ref g2), (3, .ref g3)]) d_Wr_fits_66 (by decide) rfl ?_
        refine j_sub (w := [(h0, .inr (6, [.ref g1, .ref g2, .ref g3, .int r24, .int r25])), (g1, .inr (1, [.ref a_cells_g1, .int count_g1])), (a_cells_g1, .inl (cI, n_a_cells_g1, .inl b_a_cells_g1)), (g3, .inr (3, [.ref q29, .int r26])), (g2, .inr (3, [.ref a_bytes_g2, .int size_g2])), (a_bytes_g2, .inl (cB, n_a_bytes_g2, .inl b_a_bytes_g2)), (q29, .inl (cB, r27, .inl r28))]) (lv' := [(6, .int 0), (5, .int v4_36), (4, .int v4_36), (0, .ref h0), (1, .ref g1), (2, .ref g2), (3, .ref g3)]) [0, 1, 2, 3, 4, 5, 6] rfl (by decide) [0, 1, 2, 3, 4, 5, 6] rfl ?_
        exact L_68 FU q29 0 v4_36 r24 r25 r26 r27 r28 (cl_36 + C30) (sl_36 + S31) C32 S33 h hC hS
set_option maxHeartbeats 4000000 in
set_option maxRecDepth 100000 in
theorem c_Wr_fits (l : Launch) (D : va_G) (cI cB cJ cS : ClassId) (h0 : Nat) (g1 : Nat) (g2 : Nat) (g3 : Nat) (a_tree_h0 : Nat) (a_source_h0 : Nat) (a_form_h0 : Nat) (a_bytes_g3 : Nat) (a_cells_g1 : Nat) (a_bytes_g2 : Nat) (indent_h0 : Int32) (fits_h0 : Int32) (size_g3 : Int32) (count_g1 : Int32) (n_a_cells_g1 : Nat) (b_a_cells_g1 : Nat → Int32) (n_a_bytes_g3 : Nat) (b_a_bytes_g3 : Nat → Int32) (size_g2 : Int32) (n_a_bytes_g2 : Nat) (b_a_bytes_g2 : Nat → Int32) (ret : Int32) (o_0_3 : Int32) (o_0_4 : Int32) (o_1_1 : Int32) (on_nq_1_0 : Nat) (ob_nq_1_0 : Nat → Int32) (mc ms : Nat) (h : F_Wr_fits indent_h0 fits_h0 size_g3 count_g1 n_a_cells_g1 b_a_cells_g1 n_a_bytes_g3 b_a_bytes_g3 size_g2 n_a_bytes_g2 b_a_bytes_g2 = some ((ret, o_0_3, o_0_4, o_1_1, on_nq_1_0, ob_nq_1_0), mc, ms)) : Ct l D (gT cI cB cJ cS) y_Wr_fits prog_10_method_2_code 7 (Option.some Jvm.ClassFile.FieldType.boolean) 8 195 mc ms [.ref h0, .ref g1, .ref g2, .ref g3] [(h0, .inr (6, [.ref a_tree_h0, .ref a_source_h0, .ref a_form_h0, .int indent_h0, .int fits_h0])), (g3, .inr (3, [.ref a_bytes_g3, .int size_g3])), (g1, .inr (1, [.ref a_cells_g1, .int count_g1])), (a_cells_g1, .inl (cI, n_a_cells_g1, .inl b_a_cells_g1)), (a_bytes_g3, .inl (cB, n_a_bytes_g3, .inl b_a_bytes_g3)), (g2, .inr (3, [.ref a_bytes_g2, .int size_g2])), (a_bytes_g2, .inl (cB, n_a_bytes_g2, .inl b_a_bytes_g2))] (fun v w => ∃ nq_1_0 : Nat, v = some (.int ret) ∧ zb ret ∧ w = [(h0, .inr (6, [.ref g1, .ref g2, .ref g3, .int o_0_3, .int o_0_4])), (g3, .inr (3, [.ref nq_1_0, .int o_1_1])), (g1, .inr (1, [.ref a_cells_g1, .int count_g1])), (a_cells_g1, .inl (cI, n_a_cells_g1, .inl b_a_cells_g1)), (g2, .inr (3, [.ref a_bytes_g2, .int size_g2])), (a_bytes_g2, .inl (cB, n_a_bytes_g2, .inl b_a_bytes_g2)), (nq_1_0, .inl (cB, on_nq_1_0, .inl ob_nq_1_0))]) := by
  refine Ct.mk (by decide) (Nat.le_of_ble_eq_true rfl) ?_
  intro p e s m below meth c hr hnm
  refine j_norm (pc' := 0) (lv' := [(0, .ref h0), (1, .ref g1), (2, .ref g2), (3, .ref g3)]) (st' := []) (ws' := [(h0, .inr (6, [.ref a_tree_h0, .ref a_source_h0, .ref a_form_h0, .int indent_h0, .int fits_h0])), (g3, .inr (3, [.ref a_bytes_g3, .int size_g3])), (g1, .inr (1, [.ref a_cells_g1, .int count_g1])), (a_cells_g1, .inl (cI, n_a_cells_g1, .inl b_a_cells_g1)), (a_bytes_g3, .inl (cB, n_a_bytes_g3, .inl b_a_bytes_g3)), (g2, .inr (3, [.ref a_bytes_g2, .int size_g2])), (a_bytes_g2, .inl (cB, n_a_bytes_g2, .inl b_a_bytes_g2))]) (cl' := 0) (sl' := 0) rfl rfl rfl rfl rfl rfl ?_
  unfold F_Wr_fits at h
  have hC : 0 + mc ≤ mc := by omega
  have hS : 0 + ms ≤ ms := by omega
  refine j_aload_n d_Wr_fits_0 rfl 0 rfl ?_
  refine j_aload_n d_Wr_fits_1 rfl 1 rfl ?_
  refine j_put (ws' := [(h0, .inr (6, [.ref g1, .ref a_source_h0, .ref a_form_h0, .int indent_h0, .int fits_h0])), (g3, .inr (3, [.ref a_bytes_g3, .int size_g3])), (g1, .inr (1, [.ref a_cells_g1, .int count_g1])), (a_cells_g1, .inl (cI, n_a_cells_g1, .inl b_a_cells_g1)), (a_bytes_g3, .inl (cB, n_a_bytes_g3, .inl b_a_bytes_g3)), (g2, .inr (3, [.ref a_bytes_g2, .int size_g2])), (a_bytes_g2, .inl (cB, n_a_bytes_g2, .inl b_a_bytes_g2))]) ig_Wr tk_Wr nm_Wr rfl 0 rfl 0 (by decide) rfl m_219 rfl (tk_Wr 0 (by decide)) rfl rfl (Nat.le_of_ble_eq_true rfl) d_Wr_fits_2 rfl ?_
  refine j_aload_n d_Wr_fits_5 rfl 0 rfl ?_
  refine j_aload_n d_Wr_fits_6 rfl 2 rfl ?_
  refine j_put (ws' := [(h0, .inr (6, [.ref g1, .ref g2, .ref a_form_h0, .int indent_h0, .int fits_h0])), (g3, .inr (3, [.ref a_bytes_g3, .int size_g3])), (g1, .inr (1, [.ref a_cells_g1, .int count_g1])), (a_cells_g1, .inl (cI, n_a_cells_g1, .inl b_a_cells_g1)), (a_bytes_g3, .inl (cB, n_a_bytes_g3, .inl b_a_bytes_g3)), (g2, .inr (3, [.ref a_bytes_g2, .int size_g2])), (a_bytes_g2, .inl (cB, n_a_bytes_g2, .inl b_a_bytes_g2))]) ig_Wr tk_Wr nm_Wr rfl 0 rfl 1 (by decide) rfl m_220 rfl (tk_Wr 1 (by decide)) rfl rfl (Nat.le_of_ble_eq_true rfl) d_Wr_fits_7 rfl ?_
  refine j_aload_n d_Wr_fits_10 rfl 0 rfl ?_
  refine j_aload_n d_Wr_fits_11 rfl 3 rfl ?_
  refine j_put (ws' := [(h0, .inr (6, [.ref g1, .ref g2, .ref g3, .int indent_h0, .int fits_h0])), (g3, .inr (3, [.ref a_bytes_g3, .int size_g3])), (g1, .inr (1, [.ref a_cells_g1, .int count_g1])), (a_cells_g1, .inl (cI, n_a_cells_g1, .inl b_a_cells_g1)), (a_bytes_g3, .inl (cB, n_a_bytes_g3, .inl b_a_bytes_g3)), (g2, .inr (3, [.ref a_bytes_g2, .int size_g2])), (a_bytes_g2, .inl (cB, n_a_bytes_g2, .inl b_a_bytes_g2))]) ig_Wr tk_Wr nm_Wr rfl 0 rfl 2 (by decide) rfl m_221 rfl (tk_Wr 2 (by decide)) rfl rfl (Nat.le_of_ble_eq_true rfl) d_Wr_fits_12 rfl ?_
  refine j_aload_n d_Wr_fits_15 rfl 0 rfl ?_
  refine j_get ig_Wr rfl 0 rfl 2 (by decide) rfl m_221 rfl d_Wr_fits_16 ?_
  refine j_iconst (v := 0) d_Wr_fits_19 (by decide) ?_
  obtain ⟨r35, k36⟩ : ∃ z, (F_Rw_cut 0 size_g3) = z := ⟨_, rfl⟩
  replace h := nm_at k36 h
  refine j_callV (n := 1) (As := [.int 0]) (rest := []) (wr := [(h0, .inr (6, [.ref g1, .ref g2, .ref g3, .int indent_h0, .int fits_h0])), (g1, .inr (1, [.ref a_cells_g1, .int count_g1])), (a_cells_g1, .inl (cI, n_a_cells_g1, .inl b_a_cells_g1)), (a_bytes_g3, .inl (cB, n_a_bytes_g3, .inl b_a_bytes_g3)), (g2, .inr (3, [.ref a_bytes_g2, .int size_g2])), (a_bytes_g2, .inl (cB, n_a_bytes_g2, .inl b_a_bytes_g2))]) (c_Rw_cut l D cI cB cJ cS g3 a_bytes_g3 0 size_g3  r35 k36) k_Wr_34 (by decide) ⟨Nat.le_of_ble_eq_true rfl, Nat.le_of_ble_eq_true rfl⟩ rfl 0 rfl [1] [0, 2, 3, 4, 5, 6] rfl (by decide) rfl (by decide) (by decide) rfl rfl (Nat.le_of_ble_eq_true rfl) d_Wr_fits_20 ⟨show 0 + 0 ≤ mc by omega, show 0 + 0 ≤ ms by omega⟩ (fun v w hq => ?_)
  obtain ⟨rfl, rfl⟩ := hq
  refine j_norm (pc' := 23) (st' := []) (ws' := [(h0, .inr (6, [.ref g1, .ref g2, .ref g3, .int indent_h0, .int fits_h0])), (g1, .inr (1, [.ref a_cells_g1, .int count_g1])), (a_cells_g1, .inl (cI, n_a_cells_g1, .inl b_a_cells_g1)), (a_bytes_g3, .inl (cB, n_a_bytes_g3, .inl b_a_bytes_g3)), (g2, .inr (3, [.ref a_bytes_g2, .int size_g2])), (a_bytes_g2, .inl (cB, n_a_bytes_g2, .inl b_a_bytes_g2)), (g3, .inr (3, [.ref a_bytes_g3, .int r35]))]) (cl' := 0) (sl' := 0) rfl rfl rfl rfl rfl rfl ?_
  refine j_aload_n d_Wr_fits_23 rfl 0 rfl ?_
  refine j_iconst (v := 0) d_Wr_fits_24 (by decide) ?_
  refine j_put (ws' := [(h0, .inr (6, [.ref g1, .ref g2, .ref g3, .int 0, .int fits_h0])), (g1, .inr (1, [.ref a_cells_g1, .int count_g1])), (a_cells_g1, .inl (cI, n_a_cells_g1, .inl b_a_cells_g1)), (a_bytes_g3, .inl (cB, n_a_bytes_g3, .inl b_a_bytes_g3)), (g2, .inr (3, [.ref a_bytes_g2, .int size_g2])), (a_bytes_g2, .inl (cB, n_a_bytes_g2, .inl b_a_bytes_g2)), (g3, .inr (3, [.ref a_bytes_g3, .int r35]))]) ig_Wr tk_Wr nm_Wr rfl 0 rfl 3 (by decide) rfl m_222 rfl (tk_Wr 3 (by decide)) rfl rfl (Nat.le_of_ble_eq_true rfl) d_Wr_fits_25 rfl ?_
  refine j_aload_n d_Wr_fits_28 rfl 0 rfl ?_
  refine j_iconst (v := 1) d_Wr_fits_29 (by decide) ?_
  refine j_put (ws' := [(h0, .inr (6, [.ref g1, .ref g2, .ref g3, .int 0, .int 1])), (g1, .inr (1, [.ref a_cells_g1, .int count_g1])), (a_cells_g1, .inl (cI, n_a_cells_g1, .inl b_a_cells_g1)), (a_bytes_g3, .inl (cB, n_a_bytes_g3, .inl b_a_bytes_g3)), (g2, .inr (3, [.ref a_bytes_g2, .int size_g2])), (a_bytes_g2, .inl (cB, n_a_bytes_g2, .inl b_a_bytes_g2)), (g3, .inr (3, [.ref a_bytes_g3, .int r35]))]) ig_Wr tk_Wr nm_Wr rfl 0 rfl 4 (by decide) rfl m_223 rfl (tk_Wr 4 (by decide)) (zb_n zb1) (zb_fit zb1) (Nat.le_of_ble_eq_true rfl) d_Wr_fits_30 rfl ?_
  refine j_iconst (v := 0) d_Wr_fits_33 (by decide) ?_
  refine j_istore (lv' := [(4, .int 0), (0, .ref h0), (1, .ref g1), (2, .ref g2), (3, .ref g3)]) d_Wr_fits_34 (by decide) rfl ?_
  refine j_sub (w := [(h0, .inr (6, [.ref g1, .ref g2, .ref g3, .int 0, .int 1])), (g1, .inr (1, [.ref a_cells_g1, .int count_g1])), (a_cells_g1, .inl (cI, n_a_cells_g1, .inl b_a_cells_g1)), (a_bytes_g3, .inl (cB, n_a_bytes_g3, .inl b_a_bytes_g3)), (g2, .inr (3, [.ref a_bytes_g2, .int size_g2])), (a_bytes_g2, .inl (cB, n_a_bytes_g2, .inl b_a_bytes_g2)), (g3, .inr (3, [.ref a_bytes_g3, .int r35]))]) (lv' := [(4, .int 0), (0, .ref h0), (1, .ref g1), (2, .ref g2), (3, .ref g3)]) [0, 1, 2, 3, 4, 5, 6] rfl (by decide) [0, 1, 2, 3, 4] rfl ?_
  exact L_Wr_fits_36 l D cI cB cJ cS h0 g1 g2 g3 a_tree_h0 a_source_h0 a_form_h0 a_bytes_g3 a_cells_g1 a_bytes_g2 indent_h0 fits_h0 size_g3 count_g1 n_a_cells_g1 b_a_cells_g1 n_a_bytes_g3 b_a_bytes_g3 size_g2 n_a_bytes_g2 b_a_bytes_g2 ret o_0_3 o_0_4 o_1_1 on_nq_1_0 ob_nq_1_0 mc ms p e s m below meth c hr hnm FU a_bytes_g3 0 0 1 n_a_bytes_g3 b_a_bytes_g3 r35 0 0 mc ms h hC hS
noncomputable def F_Eq_write (fault_h0 : Int32) (count_a_tree_h0 : Int32) (indent_a_writer_h0 : Int32) (fits_a_writer_h0 : Int32) (size_a_spareForm_h0 : Int32) (n_a_cells_a_tree_h0 : Nat) (b_a_cells_a_tree_h0 : Nat → Int32) (n_a_bytes_a_spareForm_h0 : Nat) (b_a_bytes_a_spareForm_h0 : Nat → Int32) (size_a_source_h0 : Int32) (n_a_bytes_a_source_h0 : Nat) (b_a_bytes_a_source_h0 : Nat → Int32) : Option ((Int32 × Int32 × Int32) × Nat × Nat) :=
  if count_a_tree_h0 = 0 then (some (((-1), indent_a_writer_h0, fits_a_writer_h0), 0, 0))
  else (bw (F_Wr_fits indent_a_writer_h0 fits_a_writer_h0 size_a_spareForm_h0 count_a_tree_h0 n_a_cells_a_tree_h0 b_a_cells_a_tree_h0 n_a_bytes_a_spareForm_h0 b_a_bytes_a_spareForm_h0 size_a_source_h0 n_a_bytes_a_source_h0 b_a_bytes_a_source_h0) fun ⟨r3, r4, r5, r6, r7, r8⟩ =>
    if r3 = 0 then (some (((-1), r4, r5), 0, 0))
    else (some ((r6, r4, r5), 0, 0)))
theorem d_Eq_write_0 : decode prog_1_method_10_code 0 = .ok (.aload_n 0, 1) := by decide +kernel
theorem d_Eq_write_1 : decode prog_1_method_10_code 1 = .ok (.getfield 26, 3) := by decide +kernel
theorem d_Eq_write_4 : decode prog_1_method_10_code 4 = .ok (.invokevirtual 83, 3) := by decide +kernel
theorem d_Eq_write_7 : decode prog_1_method_10_code 7 = .ok (.ifCond .eq 25, 3) := by decide +kernel
theorem d_Eq_write_10 : decode prog_1_method_10_code 10 = .ok (.aload_n 0, 1) := by decide +kernel
theorem d_Eq_write_11 : decode prog_1_method_10_code 11 = .ok (.getfield 19, 3) := by decide +kernel
theorem d_Eq_write_14 : decode prog_1_method_10_code 14 = .ok (.aload_n 0, 1) := by decide +kernel
theorem d_Eq_write_15 : decode prog_1_method_10_code 15 = .ok (.getfield 26, 3) := by decide +kernel
theorem d_Eq_write_18 : decode prog_1_method_10_code 18 = .ok (.aload_n 0, 1) := by decide +kernel
theorem d_Eq_write_19 : decode prog_1_method_10_code 19 = .ok (.getfield 37, 3) := by decide +kernel
theorem d_Eq_write_22 : decode prog_1_method_10_code 22 = .ok (.aload_n 0, 1) := by decide +kernel
theorem d_Eq_write_23 : decode prog_1_method_10_code 23 = .ok (.getfield 43, 3) := by decide +kernel
theorem d_Eq_write_26 : decode prog_1_method_10_code 26 = .ok (.invokevirtual 100, 3) := by decide +kernel
theorem d_Eq_write_29 : decode prog_1_method_10_code 29 = .ok (.ifCond .ne 5, 3) := by decide +kernel
theorem d_Eq_write_32 : decode prog_1_method_10_code 32 = .ok (.iconst (-1), 1) := by decide +kernel
theorem d_Eq_write_33 : decode prog_1_method_10_code 33 = .ok (.ireturn, 1) := by decide +kernel
theorem d_Eq_write_34 : decode prog_1_method_10_code 34 = .ok (.aload_n 0, 1) := by decide +kernel
theorem d_Eq_write_35 : decode prog_1_method_10_code 35 = .ok (.getfield 40, 3) := by decide +kernel
theorem d_Eq_write_38 : decode prog_1_method_10_code 38 = .ok (.astore_n 1, 1) := by decide +kernel
theorem d_Eq_write_39 : decode prog_1_method_10_code 39 = .ok (.aload_n 0, 1) := by decide +kernel
theorem d_Eq_write_40 : decode prog_1_method_10_code 40 = .ok (.aload_n 0, 1) := by decide +kernel
theorem d_Eq_write_41 : decode prog_1_method_10_code 41 = .ok (.getfield 43, 3) := by decide +kernel
theorem d_Eq_write_44 : decode prog_1_method_10_code 44 = .ok (.putfield 40, 3) := by decide +kernel
theorem d_Eq_write_47 : decode prog_1_method_10_code 47 = .ok (.aload_n 0, 1) := by decide +kernel
theorem d_Eq_write_48 : decode prog_1_method_10_code 48 = .ok (.aload_n 1, 1) := by decide +kernel
theorem d_Eq_write_49 : decode prog_1_method_10_code 49 = .ok (.putfield 43, 3) := by decide +kernel
theorem d_Eq_write_52 : decode prog_1_method_10_code 52 = .ok (.aload_n 0, 1) := by decide +kernel
theorem d_Eq_write_53 : decode prog_1_method_10_code 53 = .ok (.getfield 40, 3) := by decide +kernel
theorem d_Eq_write_56 : decode prog_1_method_10_code 56 = .ok (.invokevirtual 50, 3) := by decide +kernel
theorem d_Eq_write_59 : decode prog_1_method_10_code 59 = .ok (.ireturn, 1) := by decide +kernel
set_option maxHeartbeats 4000000 in
set_option maxRecDepth 100000 in
theorem c_Eq_write (l : Launch) (D : va_G) (cI cB cJ cS : ClassId) (h0 : Nat) (a_reader_h0 : Nat) (a_writer_h0 : Nat) (a_tree_h0 : Nat) (a_tape_h0 : Nat) (a_source_h0 : Nat) (a_form_h0 : Nat) (a_spareForm_h0 : Nat) (a_cells_a_tree_h0 : Nat) (a_tree_a_writer_h0 : Nat) (a_source_a_writer_h0 : Nat) (a_form_a_writer_h0 : Nat) (a_bytes_a_spareForm_h0 : Nat) (a_bytes_a_source_h0 : Nat) (fault_h0 : Int32) (count_a_tree_h0 : Int32) (indent_a_writer_h0 : Int32) (fits_a_writer_h0 : Int32) (size_a_spareForm_h0 : Int32) (n_a_cells_a_tree_h0 : Nat) (b_a_cells_a_tree_h0 : Nat → Int32) (n_a_bytes_a_spareForm_h0 : Nat) (b_a_bytes_a_spareForm_h0 : Nat → Int32) (size_a_source_h0 : Int32) (n_a_bytes_a_source_h0 : Nat) (b_a_bytes_a_source_h0 : Nat → Int32) (ret : Int32) (o_2_3 : Int32) (o_2_4 : Int32) (mc ms : Nat) (h : F_Eq_write fault_h0 count_a_tree_h0 indent_a_writer_h0 fits_a_writer_h0 size_a_spareForm_h0 n_a_cells_a_tree_h0 b_a_cells_a_tree_h0 n_a_bytes_a_spareForm_h0 b_a_bytes_a_spareForm_h0 size_a_source_h0 n_a_bytes_a_source_h0 b_a_bytes_a_source_h0 = some ((ret, o_2_3, o_2_4), mc, ms)) : Ct l D (gT cI cB cJ cS) y_Eq_write prog_1_method_10_code 2 (Option.some Jvm.ClassFile.FieldType.int) 9 221 mc ms [.ref h0] [(h0, .inr (7, [.ref a_reader_h0, .ref a_writer_h0, .ref a_tree_h0, .ref a_tape_h0, .ref a_source_h0, .ref a_form_h0, .ref a_spareForm_h0, .int fault_h0])), (a_tree_h0, .inr (1, [.ref a_cells_a_tree_h0, .int count_a_tree_h0])), (a_writer_h0, .inr (6, [.ref a_tree_a_writer_h0, .ref a_source_a_writer_h0, .ref a_form_a_writer_h0, .int indent_a_writer_h0, .int fits_a_writer_h0])), (a_spareForm_h0, .inr (3, [.ref a_bytes_a_spareForm_h0, .int size_a_spareForm_h0])), (a_cells_a_tree_h0, .inl (cI, n_a_cells_a_tree_h0, .inl b_a_cells_a_tree_h0)), (a_bytes_a_spareForm_h0, .inl (cB, n_a_bytes_a_spareForm_h0, .inl b_a_bytes_a_spareForm_h0)), (a_source_h0, .inr (3, [.ref a_bytes_a_source_h0, .int size_a_source_h0])), (a_bytes_a_source_h0, .inl (cB, n_a_bytes_a_source_h0, .inl b_a_bytes_a_source_h0))] (fun v w => ∃ nq_0_5 : Nat, ∃ nq_0_6 : Nat, ∃ nq_2_0 : Nat, ∃ nq_2_1 : Nat, ∃ nq_2_2 : Nat, v = some (.int ret) ∧ w = [(h0, .inr (7, [.ref a_reader_h0, .ref a_writer_h0, .ref a_tree_h0, .ref a_tape_h0, .ref a_source_h0, .ref nq_0_5, .ref nq_0_6, .int fault_h0])), (a_writer_h0, .inr (6, [.ref nq_2_0, .ref nq_2_1, .ref nq_2_2, .int o_2_3, .int o_2_4])), (a_cells_a_tree_h0, .inl (cI, n_a_cells_a_tree_h0, .inl b_a_cells_a_tree_h0)), (a_bytes_a_source_h0, .inl (cB, n_a_bytes_a_source_h0, .inl b_a_bytes_a_source_h0))]) := by
  refine Ct.mk (by decide) (Nat.le_of_ble_eq_true rfl) ?_
  intro p e s m below meth c hr hnm
  refine j_norm (pc' := 0) (lv' := [(0, .ref h0)]) (st' := []) (ws' := [(h0, .inr (7, [.ref a_reader_h0, .ref a_writer_h0, .ref a_tree_h0, .ref a_tape_h0, .ref a_source_h0, .ref a_form_h0, .ref a_spareForm_h0, .int fault_h0])), (a_tree_h0, .inr (1, [.ref a_cells_a_tree_h0, .int count_a_tree_h0])), (a_writer_h0, .inr (6, [.ref a_tree_a_writer_h0, .ref a_source_a_writer_h0, .ref a_form_a_writer_h0, .int indent_a_writer_h0, .int fits_a_writer_h0])), (a_spareForm_h0, .inr (3, [.ref a_bytes_a_spareForm_h0, .int size_a_spareForm_h0])), (a_cells_a_tree_h0, .inl (cI, n_a_cells_a_tree_h0, .inl b_a_cells_a_tree_h0)), (a_bytes_a_spareForm_h0, .inl (cB, n_a_bytes_a_spareForm_h0, .inl b_a_bytes_a_spareForm_h0)), (a_source_h0, .inr (3, [.ref a_bytes_a_source_h0, .int size_a_source_h0])), (a_bytes_a_source_h0, .inl (cB, n_a_bytes_a_source_h0, .inl b_a_bytes_a_source_h0))]) (cl' := 0) (sl' := 0) rfl rfl rfl rfl rfl rfl ?_
  unfold F_Eq_write at h
  have hC : 0 + mc ≤ mc := by omega
  have hS : 0 + ms ≤ ms := by omega
  refine j_aload_n d_Eq_write_0 rfl 0 rfl ?_
  refine j_get ig_Eq rfl 0 rfl 2 (by decide) rfl m_241 rfl d_Eq_write_1 ?_
  refine j_callV (n := 0) (As := []) (rest := []) (wr := [(h0, .inr (7, [.ref a_reader_h0, .ref a_writer_h0, .ref a_tree_h0, .ref a_tape_h0, .ref a_source_h0, .ref a_form_h0, .ref a_spareForm_h0, .int fault_h0])), (a_writer_h0, .inr (6, [.ref a_tree_a_writer_h0, .ref a_source_a_writer_h0, .ref a_form_a_writer_h0, .int indent_a_writer_h0, .int fits_a_writer_h0])), (a_spareForm_h0, .inr (3, [.ref a_bytes_a_spareForm_h0, .int size_a_spareForm_h0])), (a_cells_a_tree_h0, .inl (cI, n_a_cells_a_tree_h0, .inl b_a_cells_a_tree_h0)), (a_bytes_a_spareForm_h0, .inl (cB, n_a_bytes_a_spareForm_h0, .inl b_a_bytes_a_spareForm_h0)), (a_source_h0, .inr (3, [.ref a_bytes_a_source_h0, .int size_a_source_h0])), (a_bytes_a_source_h0, .inl (cB, n_a_bytes_a_source_h0, .inl b_a_bytes_a_source_h0))]) (c_Nd_count l D cI cB cJ cS a_tree_h0 a_cells_a_tree_h0 count_a_tree_h0  ) k_Eq_83 (by decide) ⟨Nat.le_of_ble_eq_true rfl, Nat.le_of_ble_eq_true rfl⟩ rfl 0 rfl [1] [0, 2, 3, 4, 5, 6, 7] rfl (by decide) rfl (by decide) (by decide) rfl rfl (Nat.le_of_ble_eq_true rfl) d_Eq_write_4 ⟨show 0 + 0 ≤ mc by omega, show 0 + 0 ≤ ms by omega⟩ (fun v w hq => ?_)
  obtain ⟨rfl, rfl⟩ := hq
  refine j_norm (pc' := 7) (st' := [.int count_a_tree_h0]) (ws' := [(h0, .inr (7, [.ref a_reader_h0, .ref a_writer_h0, .ref a_tree_h0, .ref a_tape_h0, .ref a_source_h0, .ref a_form_h0, .ref a_spareForm_h0, .int fault_h0])), (a_writer_h0, .inr (6, [.ref a_tree_a_writer_h0, .ref a_source_a_writer_h0, .ref a_form_a_writer_h0, .int indent_a_writer_h0, .int fits_a_writer_h0])), (a_spareForm_h0, .inr (3, [.ref a_bytes_a_spareForm_h0, .int size_a_spareForm_h0])), (a_cells_a_tree_h0, .inl (cI, n_a_cells_a_tree_h0, .inl b_a_cells_a_tree_h0)), (a_bytes_a_spareForm_h0, .inl (cB, n_a_bytes_a_spareForm_h0, .inl b_a_bytes_a_spareForm_h0)), (a_source_h0, .inr (3, [.ref a_bytes_a_source_h0, .int size_a_source_h0])), (a_bytes_a_source_h0, .inl (cB, n_a_bytes_a_source_h0, .inl b_a_bytes_a_source_h0)), (a_tree_h0, .inr (1, [.ref a_cells_a_tree_h0, .int count_a_tree_h0]))]) (cl' := 0) (sl' := 0) rfl rfl rfl rfl rfl rfl ?_
  refine j_if_eq (tgt := 32) d_Eq_write_7 (by decide) (fun c2 => ?_) (fun c2 => ?_)
  · replace h := it_t c2 h
    refine j_iconst (v := (-1)) d_Eq_write_32 (by decide) ?_
    replace h := lf_s h
    obtain ⟨h, e1, e2⟩ := h
    replace h := Prod.mk.inj h
    obtain ⟨h9, h⟩ := h
    subst h9
    replace h := Prod.mk.inj h
    obtain ⟨h9, h⟩ := h
    subst h9
    subst h
    refine j_widen (cl' := mc) (sl' := ms) (by omega) (by omega) ?_
    exact j_iret (w := [(h0, .inr (7, [.ref a_reader_h0, .ref a_writer_h0, .ref a_tree_h0, .ref a_tape_h0, .ref a_source_h0, .ref a_form_h0, .ref a_spareForm_h0, .int fault_h0])), (a_writer_h0, .inr (6, [.ref a_tree_a_writer_h0, .ref a_source_a_writer_h0, .ref a_form_a_writer_h0, .int indent_a_writer_h0, .int fits_a_writer_h0])), (a_cells_a_tree_h0, .inl (cI, n_a_cells_a_tree_h0, .inl b_a_cells_a_tree_h0)), (a_bytes_a_source_h0, .inl (cB, n_a_bytes_a_source_h0, .inl b_a_bytes_a_source_h0))]) hr d_Eq_write_33 [0, 1, 3, 6] rfl (by decide) ⟨a_form_h0, a_spareForm_h0, a_tree_a_writer_h0, a_source_a_writer_h0, a_form_a_writer_h0, rfl, rfl⟩
  · replace h := it_f c2 h
    refine j_aload_n d_Eq_write_10 rfl 0 rfl ?_
    refine j_get ig_Eq rfl 0 rfl 1 (by decide) rfl m_240 rfl d_Eq_write_11 ?_
    refine j_aload_n d_Eq_write_14 rfl 0 rfl ?_
    refine j_get ig_Eq rfl 0 rfl 2 (by decide) rfl m_241 rfl d_Eq_write_15 ?_
    refine j_aload_n d_Eq_write_18 rfl 0 rfl ?_
    refine j_get ig_Eq rfl 0 rfl 4 (by decide) rfl m_243 rfl d_Eq_write_19 ?_
    refine j_aload_n d_Eq_write_22 rfl 0 rfl ?_
    refine j_get ig_Eq rfl 0 rfl 6 (by decide) rfl m_245 rfl d_Eq_write_23 ?_
    replace h := bw_s h
    obtain ⟨⟨r3, r4, r5, r6, r7, r8⟩, C11, S12, C13, S14, k15, h, e1, e2⟩ := h
    replace hC : 0 + C11 + C13 ≤ mc := by omega
    replace hS : 0 + S12 + S14 ≤ ms := by omega
    clear e1 e2
    refine j_callV (n := 3) (As := [.ref a_tree_h0, .ref a_source_h0, .ref a_spareForm_h0]) (rest := []) (wr := [(h0, .inr (7, [.ref a_reader_h0, .ref a_writer_h0, .ref a_tree_h0, .ref a_tape_h0, .ref a_source_h0, .ref a_form_h0, .ref a_spareForm_h0, .int fault_h0]))]) (c_Wr_fits l D cI cB cJ cS a_writer_h0 a_tree_h0 a_source_h0 a_spareForm_h0 a_tree_a_writer_h0 a_source_a_writer_h0 a_form_a_writer_h0 a_bytes_a_spareForm_h0 a_cells_a_tree_h0 a_bytes_a_source_h0 indent_a_writer_h0 fits_a_writer_h0 size_a_spareForm_h0 count_a_tree_h0 n_a_cells_a_tree_h0 b_a_cells_a_tree_h0 n_a_bytes_a_spareForm_h0 b_a_bytes_a_spareForm_h0 size_a_source_h0 n_a_bytes_a_source_h0 b_a_bytes_a_source_h0  r3 r4 r5 r6 r7 r8 C11 S12 k15) k_Eq_100 (by decide) ⟨Nat.le_of_ble_eq_true rfl, Nat.le_of_ble_eq_true rfl⟩ rfl 0 rfl [1, 2, 7, 3, 4, 5, 6] [0] rfl (by decide) rfl (by decide) (by decide) rfl rfl (Nat.le_of_ble_eq_true rfl) d_Eq_write_26 ⟨show 0 + C11 ≤ mc by omega, show 0 + S12 ≤ ms by omega⟩ (fun v w hq => ?_)
    obtain ⟨q9, rfl, z10, rfl⟩ := hq
    refine j_norm (pc' := 29) (st' := [.int r3]) (ws' := [(h0, .inr (7, [.ref a_reader_h0, .ref a_writer_h0, .ref a_tree_h0, .ref a_tape_h0, .ref a_source_h0, .ref a_form_h0, .ref a_spareForm_h0, .int fault_h0])), (a_writer_h0, .inr (6, [.ref a_tree_h0, .ref a_source_h0, .ref a_spareForm_h0, .int r4, .int r5])), (a_spareForm_h0, .inr (3, [.ref q9, .int r6])), (a_tree_h0, .inr (1, [.ref a_cells_a_tree_h0, .int count_a_tree_h0])), (a_cells_a_tree_h0, .inl (cI, n_a_cells_a_tree_h0, .inl b_a_cells_a_tree_h0)), (a_source_h0, .inr (3, [.ref a_bytes_a_source_h0, .int size_a_source_h0])), (a_bytes_a_source_h0, .inl (cB, n_a_bytes_a_source_h0, .inl b_a_bytes_a_source_h0)), (q9, .inl (cB, r7, .inl r8))]) (cl' := 0 + C11) (sl' := 0 + S12) rfl rfl rfl rfl rfl rfl ?_
    refine j_if_ne (tgt := 34) d_Eq_write_29 (by decide) (fun c16 => ?_) (fun c16 => ?_)
    · replace h := it_f c16 h
      refine j_aload_n d_Eq_write_34 rfl 0 rfl ?_
      refine j_get ig_Eq rfl 0 rfl 5 (by decide) rfl m_244 rfl d_Eq_write_35 ?_
      refine j_astore_n (lv' := [(1, .ref a_form_h0), (0, .ref h0)]) d_Eq_write_38 rfl (by decide) rfl ?_
      refine j_aload_n d_Eq_write_39 rfl 1 rfl ?_
      refine j_aload_n d_Eq_write_40 rfl 1 rfl ?_
      refine j_get ig_Eq rfl 0 rfl 6 (by decide) rfl m_245 rfl d_Eq_write_41 ?_
      refine j_put (ws' := [(h0, .inr (7, [.ref a_reader_h0, .ref a_writer_h0, .ref a_tree_h0, .ref a_tape_h0, .ref a_source_h0, .ref a_spareForm_h0, .ref a_spareForm_h0, .int fault_h0])), (a_writer_h0, .inr (6, [.ref a_tree_h0, .ref a_source_h0, .ref a_spareForm_h0, .int r4, .int r5])), (a_spareForm_h0, .inr (3, [.ref q9, .int r6])), (a_tree_h0, .inr (1, [.ref a_cells_a_tree_h0, .int count_a_tree_h0])), (a_cells_a_tree_h0, .inl (cI, n_a_cells_a_tree_h0, .inl b_a_cells_a_tree_h0)), (a_source_h0, .inr (3, [.ref a_bytes_a_source_h0, .int size_a_source_h0])), (a_bytes_a_source_h0, .inl (cB, n_a_bytes_a_source_h0, .inl b_a_bytes_a_source_h0)), (q9, .inl (cB, r7, .inl r8))]) ig_Eq tk_Eq nm_Eq rfl 0 rfl 5 (by decide) rfl m_244 rfl (tk_Eq 5 (by decide)) rfl rfl (Nat.le_of_ble_eq_true rfl) d_Eq_write_44 rfl ?_
      refine j_aload_n d_Eq_write_47 rfl 1 rfl ?_
      refine j_aload_n d_Eq_write_48 rfl 0 rfl ?_
      refine j_put (ws' := [(h0, .inr (7, [.ref a_reader_h0, .ref a_writer_h0, .ref a_tree_h0, .ref a_tape_h0, .ref a_source_h0, .ref a_spareForm_h0, .ref a_form_h0, .int fault_h0])), (a_writer_h0, .inr (6, [.ref a_tree_h0, .ref a_source_h0, .ref a_spareForm_h0, .int r4, .int r5])), (a_spareForm_h0, .inr (3, [.ref q9, .int r6])), (a_tree_h0, .inr (1, [.ref a_cells_a_tree_h0, .int count_a_tree_h0])), (a_cells_a_tree_h0, .inl (cI, n_a_cells_a_tree_h0, .inl b_a_cells_a_tree_h0)), (a_source_h0, .inr (3, [.ref a_bytes_a_source_h0, .int size_a_source_h0])), (a_bytes_a_source_h0, .inl (cB, n_a_bytes_a_source_h0, .inl b_a_bytes_a_source_h0)), (q9, .inl (cB, r7, .inl r8))]) ig_Eq tk_Eq nm_Eq rfl 0 rfl 6 (by decide) rfl m_245 rfl (tk_Eq 6 (by decide)) rfl rfl (Nat.le_of_ble_eq_true rfl) d_Eq_write_49 rfl ?_
      refine j_aload_n d_Eq_write_52 rfl 1 rfl ?_
      refine j_get ig_Eq rfl 0 rfl 5 (by decide) rfl m_244 rfl d_Eq_write_53 ?_
      refine j_callV (n := 0) (As := []) (rest := []) (wr := [(h0, .inr (7, [.ref a_reader_h0, .ref a_writer_h0, .ref a_tree_h0, .ref a_tape_h0, .ref a_source_h0, .ref a_spareForm_h0, .ref a_form_h0, .int fault_h0])), (a_writer_h0, .inr (6, [.ref a_tree_h0, .ref a_source_h0, .ref a_spareForm_h0, .int r4, .int r5])), (a_tree_h0, .inr (1, [.ref a_cells_a_tree_h0, .int count_a_tree_h0])), (a_cells_a_tree_h0, .inl (cI, n_a_cells_a_tree_h0, .inl b_a_cells_a_tree_h0)), (a_source_h0, .inr (3, [.ref a_bytes_a_source_h0, .int size_a_source_h0])), (a_bytes_a_source_h0, .inl (cB, n_a_bytes_a_source_h0, .inl b_a_bytes_a_source_h0)), (q9, .inl (cB, r7, .inl r8))]) (c_Rw_size l D cI cB cJ cS a_spareForm_h0 q9 r6  ) k_Eq_50 (by decide) ⟨Nat.le_of_ble_eq_true rfl, Nat.le_of_ble_eq_true rfl⟩ rfl 0 rfl [2] [0, 1, 3, 4, 5, 6, 7] rfl (by decide) rfl (by decide) (by decide) rfl rfl (Nat.le_of_ble_eq_true rfl) d_Eq_write_56 ⟨show 0 + C11 + 0 ≤ mc by omega, show 0 + S12 + 0 ≤ ms by omega⟩ (fun v w hq => ?_)
      obtain ⟨rfl, rfl⟩ := hq
      refine j_norm (pc' := 59) (st' := [.int r6]) (ws' := [(h0, .inr (7, [.ref a_reader_h0, .ref a_writer_h0, .ref a_tree_h0, .ref a_tape_h0, .ref a_source_h0, .ref a_spareForm_h0, .ref a_form_h0, .int fault_h0])), (a_writer_h0, .inr (6, [.ref a_tree_h0, .ref a_source_h0, .ref a_spareForm_h0, .int r4, .int r5])), (a_tree_h0, .inr (1, [.ref a_cells_a_tree_h0, .int count_a_tree_h0])), (a_cells_a_tree_h0, .inl (cI, n_a_cells_a_tree_h0, .inl b_a_cells_a_tree_h0)), (a_source_h0, .inr (3, [.ref a_bytes_a_source_h0, .int size_a_source_h0])), (a_bytes_a_source_h0, .inl (cB, n_a_bytes_a_source_h0, .inl b_a_bytes_a_source_h0)), (q9, .inl (cB, r7, .inl r8)), (a_spareForm_h0, .inr (3, [.ref q9, .int r6]))]) (cl' := 0 + C11) (sl' := 0 + S12) rfl rfl rfl rfl rfl rfl ?_
      replace h := lf_s h
      obtain ⟨h, e1, e2⟩ := h
      replace h := Prod.mk.inj h
      obtain ⟨h9, h⟩ := h
      subst h9
      replace h := Prod.mk.inj h
      obtain ⟨h9, h⟩ := h
      subst h9
      subst h
      refine j_widen (cl' := mc) (sl' := ms) (by omega) (by omega) ?_
      exact j_iret (w := [(h0, .inr (7, [.ref a_reader_h0, .ref a_writer_h0, .ref a_tree_h0, .ref a_tape_h0, .ref a_source_h0, .ref a_spareForm_h0, .ref a_form_h0, .int fault_h0])), (a_writer_h0, .inr (6, [.ref a_tree_h0, .ref a_source_h0, .ref a_spareForm_h0, .int r4, .int r5])), (a_cells_a_tree_h0, .inl (cI, n_a_cells_a_tree_h0, .inl b_a_cells_a_tree_h0)), (a_bytes_a_source_h0, .inl (cB, n_a_bytes_a_source_h0, .inl b_a_bytes_a_source_h0))]) hr d_Eq_write_59 [0, 1, 3, 5] rfl (by decide) ⟨a_spareForm_h0, a_form_h0, a_tree_h0, a_source_h0, a_spareForm_h0, rfl, rfl⟩
    · replace h := it_t c16 h
      refine j_iconst (v := (-1)) d_Eq_write_32 (by decide) ?_
      replace h := lf_s h
      obtain ⟨h, e1, e2⟩ := h
      replace h := Prod.mk.inj h
      obtain ⟨h9, h⟩ := h
      subst h9
      replace h := Prod.mk.inj h
      obtain ⟨h9, h⟩ := h
      subst h9
      subst h
      refine j_widen (cl' := mc) (sl' := ms) (by omega) (by omega) ?_
      exact j_iret (w := [(h0, .inr (7, [.ref a_reader_h0, .ref a_writer_h0, .ref a_tree_h0, .ref a_tape_h0, .ref a_source_h0, .ref a_form_h0, .ref a_spareForm_h0, .int fault_h0])), (a_writer_h0, .inr (6, [.ref a_tree_h0, .ref a_source_h0, .ref a_spareForm_h0, .int r4, .int r5])), (a_cells_a_tree_h0, .inl (cI, n_a_cells_a_tree_h0, .inl b_a_cells_a_tree_h0)), (a_bytes_a_source_h0, .inl (cB, n_a_bytes_a_source_h0, .inl b_a_bytes_a_source_h0))]) hr d_Eq_write_33 [0, 1, 4, 6] rfl (by decide) ⟨a_form_h0, a_spareForm_h0, a_tree_h0, a_source_h0, a_spareForm_h0, rfl, rfl⟩
theorem d_Fr_initN_0 : decode prog_2_method_1_code 0 = .ok (.aload_n 0, 1) := by decide +kernel
theorem d_Fr_initN_1 : decode prog_2_method_1_code 1 = .ok (.invokespecial 3, 3) := by decide +kernel
theorem d_Fr_initN_4 : decode prog_2_method_1_code 4 = .ok (.aload_n 0, 1) := by decide +kernel
theorem d_Fr_initN_5 : decode prog_2_method_1_code 5 = .ok (.aconst_null, 1) := by decide +kernel
theorem d_Fr_initN_6 : decode prog_2_method_1_code 6 = .ok (.putfield 9, 3) := by decide +kernel
theorem d_Fr_initN_9 : decode prog_2_method_1_code 9 = .ok (.aload_n 0, 1) := by decide +kernel
theorem d_Fr_initN_10 : decode prog_2_method_1_code 10 = .ok (.iconst 0, 1) := by decide +kernel
theorem d_Fr_initN_11 : decode prog_2_method_1_code 11 = .ok (.putfield 17, 3) := by decide +kernel
theorem d_Fr_initN_14 : decode prog_2_method_1_code 14 = .ok (.aload_n 0, 1) := by decide +kernel
theorem d_Fr_initN_15 : decode prog_2_method_1_code 15 = .ok (.iconst 0, 1) := by decide +kernel
theorem d_Fr_initN_16 : decode prog_2_method_1_code 16 = .ok (.putfield 21, 3) := by decide +kernel
theorem d_Fr_initN_19 : decode prog_2_method_1_code 19 = .ok (.aload_n 0, 1) := by decide +kernel
theorem d_Fr_initN_20 : decode prog_2_method_1_code 20 = .ok (.iconst 0, 1) := by decide +kernel
theorem d_Fr_initN_21 : decode prog_2_method_1_code 21 = .ok (.putfield 24, 3) := by decide +kernel
theorem d_Fr_initN_24 : decode prog_2_method_1_code 24 = .ok (.aload_n 0, 1) := by decide +kernel
theorem d_Fr_initN_25 : decode prog_2_method_1_code 25 = .ok (.iconst (-1), 1) := by decide +kernel
theorem d_Fr_initN_26 : decode prog_2_method_1_code 26 = .ok (.putfield 27, 3) := by decide +kernel
theorem d_Fr_initN_29 : decode prog_2_method_1_code 29 = .ok (.aload_n 0, 1) := by decide +kernel
theorem d_Fr_initN_30 : decode prog_2_method_1_code 30 = .ok (.iconst 0, 1) := by decide +kernel
theorem d_Fr_initN_31 : decode prog_2_method_1_code 31 = .ok (.putfield 30, 3) := by decide +kernel
theorem d_Fr_initN_34 : decode prog_2_method_1_code 34 = .ok (.aload_n 0, 1) := by decide +kernel
theorem d_Fr_initN_35 : decode prog_2_method_1_code 35 = .ok (.iconst 0, 1) := by decide +kernel
theorem d_Fr_initN_36 : decode prog_2_method_1_code 36 = .ok (.putfield 33, 3) := by decide +kernel
theorem d_Fr_initN_39 : decode prog_2_method_1_code 39 = .ok (.aload_n 0, 1) := by decide +kernel
theorem d_Fr_initN_40 : decode prog_2_method_1_code 40 = .ok (.iconst 0, 1) := by decide +kernel
theorem d_Fr_initN_41 : decode prog_2_method_1_code 41 = .ok (.putfield 36, 3) := by decide +kernel
theorem d_Fr_initN_44 : decode prog_2_method_1_code 44 = .ok (.aload_n 0, 1) := by decide +kernel
theorem d_Fr_initN_45 : decode prog_2_method_1_code 45 = .ok (.iconst 0, 1) := by decide +kernel
theorem d_Fr_initN_46 : decode prog_2_method_1_code 46 = .ok (.putfield 39, 3) := by decide +kernel
theorem d_Fr_initN_49 : decode prog_2_method_1_code 49 = .ok (.aload_n 0, 1) := by decide +kernel
theorem d_Fr_initN_50 : decode prog_2_method_1_code 50 = .ok (.iconst 0, 1) := by decide +kernel
theorem d_Fr_initN_51 : decode prog_2_method_1_code 51 = .ok (.putfield 42, 3) := by decide +kernel
theorem d_Fr_initN_54 : decode prog_2_method_1_code 54 = .ok (.aload_n 0, 1) := by decide +kernel
theorem d_Fr_initN_55 : decode prog_2_method_1_code 55 = .ok (.iconst 0, 1) := by decide +kernel
theorem d_Fr_initN_56 : decode prog_2_method_1_code 56 = .ok (.putfield 45, 3) := by decide +kernel
theorem d_Fr_initN_59 : decode prog_2_method_1_code 59 = .ok (.aload_n 0, 1) := by decide +kernel
theorem d_Fr_initN_60 : decode prog_2_method_1_code 60 = .ok (.iconst 0, 1) := by decide +kernel
theorem d_Fr_initN_61 : decode prog_2_method_1_code 61 = .ok (.putfield 48, 3) := by decide +kernel
theorem d_Fr_initN_64 : decode prog_2_method_1_code 64 = .ok (.aload_n 0, 1) := by decide +kernel
theorem d_Fr_initN_65 : decode prog_2_method_1_code 65 = .ok (.iconst 0, 1) := by decide +kernel
theorem d_Fr_initN_66 : decode prog_2_method_1_code 66 = .ok (.putfield 52, 3) := by decide +kernel
theorem d_Fr_initN_69 : decode prog_2_method_1_code 69 = .ok (.aload_n 0, 1) := by decide +kernel
theorem d_Fr_initN_70 : decode prog_2_method_1_code 70 = .ok (.iconst 0, 1) := by decide +kernel
theorem d_Fr_initN_71 : decode prog_2_method_1_code 71 = .ok (.putfield 55, 3) := by decide +kernel
theorem d_Fr_initN_74 : decode prog_2_method_1_code 74 = .ok (.aload_n 0, 1) := by decide +kernel
theorem d_Fr_initN_75 : decode prog_2_method_1_code 75 = .ok (.aload_n 1, 1) := by decide +kernel
theorem d_Fr_initN_76 : decode prog_2_method_1_code 76 = .ok (.putfield 58, 3) := by decide +kernel
theorem d_Fr_initN_79 : decode prog_2_method_1_code 79 = .ok (.return_, 1) := by decide +kernel
set_option maxHeartbeats 4000000 in
set_option maxRecDepth 100000 in
theorem c_Fr_initN (l : Launch) (D : va_G) (cI cB cJ cS : ClassId) (h0 : Nat) : Ct l D (gT cI cB cJ cS) y_Fr_init prog_2_method_1_code 2 (Option.none : Option Jvm.ClassFile.FieldType) 1 20 0 0 [.ref h0, .null] [(h0, .inr (0, [.null, .null, .int 0, .int 0, .int 0, .int 0, .int 0, .int 0, .int 0, .int 0, .int 0, .int 0, .int 0, .int 0, .int 0]))] (fun v w => v = none ∧ w = [(h0, .inr (0, [.null, .null, .int 0, .int 0, .int 0, .int (-1), .int 0, .int 0, .int 0, .int 0, .int 0, .int 0, .int 0, .int 0, .int 0]))]) := by
  refine Ct.mk (by decide) (Nat.le_of_ble_eq_true rfl) ?_
  intro p e s m below meth c hr hnm
  refine j_norm (pc' := 0) (lv' := [(0, .ref h0), (1, .null)]) (st' := []) (ws' := [(h0, .inr (0, [.null, .null, .int 0, .int 0, .int 0, .int 0, .int 0, .int 0, .int 0, .int 0, .int 0, .int 0, .int 0, .int 0, .int 0]))]) (cl' := 0) (sl' := 0) rfl rfl rfl rfl rfl rfl ?_
  refine j_aload_n d_Fr_initN_0 rfl 0 rfl ?_
  refine j_oinit m_105 m_29 mc_obj (Nat.le_of_ble_eq_true rfl) (Nat.le_of_ble_eq_true rfl) d_Fr_initN_1 ?_
  refine j_aload_n d_Fr_initN_4 rfl 0 rfl ?_
  refine j_null d_Fr_initN_5 ?_
  refine j_put (ws' := [(h0, .inr (0, [.null, .null, .int 0, .int 0, .int 0, .int 0, .int 0, .int 0, .int 0, .int 0, .int 0, .int 0, .int 0, .int 0, .int 0]))]) ig_Fr tk_Fr nm_Fr rfl 0 rfl 1 (by decide) rfl m_108 rfl (tk_Fr 1 (by decide)) rfl rfl (Nat.le_of_ble_eq_true rfl) d_Fr_initN_6 rfl ?_
  refine j_aload_n d_Fr_initN_9 rfl 0 rfl ?_
  refine j_iconst (v := 0) d_Fr_initN_10 (by decide) ?_
  refine j_put (ws' := [(h0, .inr (0, [.null, .null, .int 0, .int 0, .int 0, .int 0, .int 0, .int 0, .int 0, .int 0, .int 0, .int 0, .int 0, .int 0, .int 0]))]) ig_Fr tk_Fr nm_Fr rfl 0 rfl 2 (by decide) rfl m_110 rfl (tk_Fr 2 (by decide)) rfl rfl (Nat.le_of_ble_eq_true rfl) d_Fr_initN_11 rfl ?_
  refine j_aload_n d_Fr_initN_14 rfl 0 rfl ?_
  refine j_iconst (v := 0) d_Fr_initN_15 (by decide) ?_
  refine j_put (ws' := [(h0, .inr (0, [.null, .null, .int 0, .int 0, .int 0, .int 0, .int 0, .int 0, .int 0, .int 0, .int 0, .int 0, .int 0, .int 0, .int 0]))]) ig_Fr tk_Fr nm_Fr rfl 0 rfl 3 (by decide) rfl m_112 rfl (tk_Fr 3 (by decide)) rfl rfl (Nat.le_of_ble_eq_true rfl) d_Fr_initN_16 rfl ?_
  refine j_aload_n d_Fr_initN_19 rfl 0 rfl ?_
  refine j_iconst (v := 0) d_Fr_initN_20 (by decide) ?_
  refine j_put (ws' := [(h0, .inr (0, [.null, .null, .int 0, .int 0, .int 0, .int 0, .int 0, .int 0, .int 0, .int 0, .int 0, .int 0, .int 0, .int 0, .int 0]))]) ig_Fr tk_Fr nm_Fr rfl 0 rfl 4 (by decide) rfl m_114 rfl (tk_Fr 4 (by decide)) rfl rfl (Nat.le_of_ble_eq_true rfl) d_Fr_initN_21 rfl ?_
  refine j_aload_n d_Fr_initN_24 rfl 0 rfl ?_
  refine j_iconst (v := (-1)) d_Fr_initN_25 (by decide) ?_
  refine j_put (ws' := [(h0, .inr (0, [.null, .null, .int 0, .int 0, .int 0, .int (-1), .int 0, .int 0, .int 0, .int 0, .int 0, .int 0, .int 0, .int 0, .int 0]))]) ig_Fr tk_Fr nm_Fr rfl 0 rfl 5 (by decide) rfl m_116 rfl (tk_Fr 5 (by decide)) rfl rfl (Nat.le_of_ble_eq_true rfl) d_Fr_initN_26 rfl ?_
  refine j_aload_n d_Fr_initN_29 rfl 0 rfl ?_
  refine j_iconst (v := 0) d_Fr_initN_30 (by decide) ?_
  refine j_put (ws' := [(h0, .inr (0, [.null, .null, .int 0, .int 0, .int 0, .int (-1), .int 0, .int 0, .int 0, .int 0, .int 0, .int 0, .int 0, .int 0, .int 0]))]) ig_Fr tk_Fr nm_Fr rfl 0 rfl 6 (by decide) rfl m_118 rfl (tk_Fr 6 (by decide)) rfl rfl (Nat.le_of_ble_eq_true rfl) d_Fr_initN_31 rfl ?_
  refine j_aload_n d_Fr_initN_34 rfl 0 rfl ?_
  refine j_iconst (v := 0) d_Fr_initN_35 (by decide) ?_
  refine j_put (ws' := [(h0, .inr (0, [.null, .null, .int 0, .int 0, .int 0, .int (-1), .int 0, .int 0, .int 0, .int 0, .int 0, .int 0, .int 0, .int 0, .int 0]))]) ig_Fr tk_Fr nm_Fr rfl 0 rfl 7 (by decide) rfl m_120 rfl (tk_Fr 7 (by decide)) rfl rfl (Nat.le_of_ble_eq_true rfl) d_Fr_initN_36 rfl ?_
  refine j_aload_n d_Fr_initN_39 rfl 0 rfl ?_
  refine j_iconst (v := 0) d_Fr_initN_40 (by decide) ?_
  refine j_put (ws' := [(h0, .inr (0, [.null, .null, .int 0, .int 0, .int 0, .int (-1), .int 0, .int 0, .int 0, .int 0, .int 0, .int 0, .int 0, .int 0, .int 0]))]) ig_Fr tk_Fr nm_Fr rfl 0 rfl 8 (by decide) rfl m_122 rfl (tk_Fr 8 (by decide)) rfl rfl (Nat.le_of_ble_eq_true rfl) d_Fr_initN_41 rfl ?_
  refine j_aload_n d_Fr_initN_44 rfl 0 rfl ?_
  refine j_iconst (v := 0) d_Fr_initN_45 (by decide) ?_
  refine j_put (ws' := [(h0, .inr (0, [.null, .null, .int 0, .int 0, .int 0, .int (-1), .int 0, .int 0, .int 0, .int 0, .int 0, .int 0, .int 0, .int 0, .int 0]))]) ig_Fr tk_Fr nm_Fr rfl 0 rfl 9 (by decide) rfl m_124 rfl (tk_Fr 9 (by decide)) rfl rfl (Nat.le_of_ble_eq_true rfl) d_Fr_initN_46 rfl ?_
  refine j_aload_n d_Fr_initN_49 rfl 0 rfl ?_
  refine j_iconst (v := 0) d_Fr_initN_50 (by decide) ?_
  refine j_put (ws' := [(h0, .inr (0, [.null, .null, .int 0, .int 0, .int 0, .int (-1), .int 0, .int 0, .int 0, .int 0, .int 0, .int 0, .int 0, .int 0, .int 0]))]) ig_Fr tk_Fr nm_Fr rfl 0 rfl 10 (by decide) rfl m_126 rfl (tk_Fr 10 (by decide)) rfl rfl (Nat.le_of_ble_eq_true rfl) d_Fr_initN_51 rfl ?_
  refine j_aload_n d_Fr_initN_54 rfl 0 rfl ?_
  refine j_iconst (v := 0) d_Fr_initN_55 (by decide) ?_
  refine j_put (ws' := [(h0, .inr (0, [.null, .null, .int 0, .int 0, .int 0, .int (-1), .int 0, .int 0, .int 0, .int 0, .int 0, .int 0, .int 0, .int 0, .int 0]))]) ig_Fr tk_Fr nm_Fr rfl 0 rfl 11 (by decide) rfl m_128 rfl (tk_Fr 11 (by decide)) rfl rfl (Nat.le_of_ble_eq_true rfl) d_Fr_initN_56 rfl ?_
  refine j_aload_n d_Fr_initN_59 rfl 0 rfl ?_
  refine j_iconst (v := 0) d_Fr_initN_60 (by decide) ?_
  refine j_put (ws' := [(h0, .inr (0, [.null, .null, .int 0, .int 0, .int 0, .int (-1), .int 0, .int 0, .int 0, .int 0, .int 0, .int 0, .int 0, .int 0, .int 0]))]) ig_Fr tk_Fr nm_Fr rfl 0 rfl 12 (by decide) rfl m_130 rfl (tk_Fr 12 (by decide)) (zb_n zb0) (zb_fit zb0) (Nat.le_of_ble_eq_true rfl) d_Fr_initN_61 rfl ?_
  refine j_aload_n d_Fr_initN_64 rfl 0 rfl ?_
  refine j_iconst (v := 0) d_Fr_initN_65 (by decide) ?_
  refine j_put (ws' := [(h0, .inr (0, [.null, .null, .int 0, .int 0, .int 0, .int (-1), .int 0, .int 0, .int 0, .int 0, .int 0, .int 0, .int 0, .int 0, .int 0]))]) ig_Fr tk_Fr nm_Fr rfl 0 rfl 13 (by decide) rfl m_132 rfl (tk_Fr 13 (by decide)) (zb_n zb0) (zb_fit zb0) (Nat.le_of_ble_eq_true rfl) d_Fr_initN_66 rfl ?_
  refine j_aload_n d_Fr_initN_69 rfl 0 rfl ?_
  refine j_iconst (v := 0) d_Fr_initN_70 (by decide) ?_
  refine j_put (ws' := [(h0, .inr (0, [.null, .null, .int 0, .int 0, .int 0, .int (-1), .int 0, .int 0, .int 0, .int 0, .int 0, .int 0, .int 0, .int 0, .int 0]))]) ig_Fr tk_Fr nm_Fr rfl 0 rfl 14 (by decide) rfl m_134 rfl (tk_Fr 14 (by decide)) (zb_n zb0) (zb_fit zb0) (Nat.le_of_ble_eq_true rfl) d_Fr_initN_71 rfl ?_
  refine j_aload_n d_Fr_initN_74 rfl 0 rfl ?_
  refine j_aload_nN d_Fr_initN_75 rfl 1 rfl ?_
  refine j_putF (ws' := [(h0, .inr (0, [.null, .null, .int 0, .int 0, .int 0, .int (-1), .int 0, .int 0, .int 0, .int 0, .int 0, .int 0, .int 0, .int 0, .int 0]))]) hnm ig_Fr tk_Fr nm_Fr rfl 0 rfl 0 (by decide) rfl m_106 rfl rfl (tk_Fr 0 (by decide)) rfl rfl (Nat.le_of_ble_eq_true rfl) d_Fr_initN_76 rfl ?_
  exact j_vret (w := [(h0, .inr (0, [.null, .null, .int 0, .int 0, .int 0, .int (-1), .int 0, .int 0, .int 0, .int 0, .int 0, .int 0, .int 0, .int 0, .int 0]))]) hr d_Fr_initN_79 [0] rfl (by decide) ⟨rfl, rfl⟩
