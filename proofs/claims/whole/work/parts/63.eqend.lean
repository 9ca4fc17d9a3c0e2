def F_Eq_end (p1 : Int32) (fault_h0 : Int32) (size_a_tape_h0 : Int32) : Option (Int32 × Int32) :=
  if p1 < 0 then (none)
  else if 20 < p1 then (none)
  else if 20 ≤ size_a_tape_h0 then (nm (F_Rw_cut ((size_a_tape_h0 - 20) + p1) size_a_tape_h0) fun r6 =>
    (some (r6, r6)))
  else (none)
theorem d_Eq_end_0 : decode prog_1_method_3_code 0 = .ok (.iload_n 1, 1) := by decide +kernel
theorem d_Eq_end_1 : decode prog_1_method_3_code 1 = .ok (.ifCond .lt 21, 3) := by decide +kernel
theorem d_Eq_end_4 : decode prog_1_method_3_code 4 = .ok (.iload_n 1, 1) := by decide +kernel
theorem d_Eq_end_5 : decode prog_1_method_3_code 5 = .ok (.bipush 20, 2) := by decide +kernel
theorem d_Eq_end_7 : decode prog_1_method_3_code 7 = .ok (.if_icmp .gt 15, 3) := by decide +kernel
theorem d_Eq_end_10 : decode prog_1_method_3_code 10 = .ok (.aload_n 0, 1) := by decide +kernel
theorem d_Eq_end_11 : decode prog_1_method_3_code 11 = .ok (.getfield 33, 3) := by decide +kernel
theorem d_Eq_end_14 : decode prog_1_method_3_code 14 = .ok (.invokevirtual 50, 3) := by decide +kernel
theorem d_Eq_end_17 : decode prog_1_method_3_code 17 = .ok (.bipush 20, 2) := by decide +kernel
theorem d_Eq_end_19 : decode prog_1_method_3_code 19 = .ok (.if_icmp .ge 13, 3) := by decide +kernel
theorem d_Eq_end_32 : decode prog_1_method_3_code 32 = .ok (.aload_n 0, 1) := by decide +kernel
theorem d_Eq_end_33 : decode prog_1_method_3_code 33 = .ok (.getfield 33, 3) := by decide +kernel
theorem d_Eq_end_36 : decode prog_1_method_3_code 36 = .ok (.aload_n 0, 1) := by decide +kernel
theorem d_Eq_end_37 : decode prog_1_method_3_code 37 = .ok (.getfield 33, 3) := by decide +kernel
theorem d_Eq_end_40 : decode prog_1_method_3_code 40 = .ok (.invokevirtual 50, 3) := by decide +kernel
theorem d_Eq_end_43 : decode prog_1_method_3_code 43 = .ok (.bipush 20, 2) := by decide +kernel
theorem d_Eq_end_45 : decode prog_1_method_3_code 45 = .ok (.isub, 1) := by decide +kernel
theorem d_Eq_end_46 : decode prog_1_method_3_code 46 = .ok (.iload_n 1, 1) := by decide +kernel
theorem d_Eq_end_47 : decode prog_1_method_3_code 47 = .ok (.iadd, 1) := by decide +kernel
theorem d_Eq_end_48 : decode prog_1_method_3_code 48 = .ok (.invokevirtual 66, 3) := by decide +kernel
theorem d_Eq_end_51 : decode prog_1_method_3_code 51 = .ok (.aload_n 0, 1) := by decide +kernel
theorem d_Eq_end_52 : decode prog_1_method_3_code 52 = .ok (.getfield 33, 3) := by decide +kernel
theorem d_Eq_end_55 : decode prog_1_method_3_code 55 = .ok (.invokevirtual 50, 3) := by decide +kernel
theorem d_Eq_end_58 : decode prog_1_method_3_code 58 = .ok (.ireturn, 1) := by decide +kernel
set_option maxHeartbeats 4000000 in
set_option maxRecDepth 100000 in
theorem c_Eq_end (l : Launch) (D : va_G) (cI cB cJ cS : ClassId) (h0 : Nat) (a_reader_h0 : Nat) (a_writer_h0 : Nat) (a_tree_h0 : Nat) (a_tape_h0 : Nat) (a_source_h0 : Nat) (a_form_h0 : Nat) (a_spareForm_h0 : Nat) (a_bytes_a_tape_h0 : Nat) (p1 : Int32) (fault_h0 : Int32) (size_a_tape_h0 : Int32) (ret : Int32) (o_1_1 : Int32) (h : F_Eq_end p1 fault_h0 size_a_tape_h0 = some (ret, o_1_1)) : Ct l D (gT cI cB cJ cS) y_Eq_end prog_1_method_3_code 2 (Option.some Jvm.ClassFile.FieldType.int) 1 21 0 0 [.ref h0, .int p1] [(h0, .inr (7, [.ref a_reader_h0, .ref a_writer_h0, .ref a_tree_h0, .ref a_tape_h0, .ref a_source_h0, .ref a_form_h0, .ref a_spareForm_h0, .int fault_h0])), (a_tape_h0, .inr (3, [.ref a_bytes_a_tape_h0, .int size_a_tape_h0]))] (fun v w => v = some (.int ret) ∧ w = [(h0, .inr (7, [.ref a_reader_h0, .ref a_writer_h0, .ref a_tree_h0, .ref a_tape_h0, .ref a_source_h0, .ref a_form_h0, .ref a_spareForm_h0, .int fault_h0])), (a_tape_h0, .inr (3, [.ref a_bytes_a_tape_h0, .int o_1_1]))]) := by
  refine Ct.mk (by decide) (Nat.le_of_ble_eq_true rfl) ?_
  intro p e s m below meth c hr hnm
  refine j_norm (pc' := 0) (lv' := [(0, .ref h0), (1, .int p1)]) (st' := []) (ws' := [(h0, .inr (7, [.ref a_reader_h0, .ref a_writer_h0, .ref a_tree_h0, .ref a_tape_h0, .ref a_source_h0, .ref a_form_h0, .ref a_spareForm_h0, .int fault_h0])), (a_tape_h0, .inr (3, [.ref a_bytes_a_tape_h0, .int size_a_tape_h0]))]) (cl' := 0) (sl' := 0) rfl rfl rfl rfl rfl rfl ?_
  unfold F_Eq_end at h
  refine j_iload_n d_Eq_end_0 rfl 1 rfl ?_
  refine j_if_lt (tgt := 22) d_Eq_end_1 (by decide) (fun c1 => ?_) (fun c1 => ?_)
  · replace h := it_t c1 h
    cases h
  · replace h := it_f c1 h
    refine j_iload_n d_Eq_end_4 rfl 1 rfl ?_
    refine j_bipush (v := 20) d_Eq_end_5 (by decide) ?_
    refine j_icmp_gt (tgt := 22) d_Eq_end_7 (by decide) (fun c2 => ?_) (fun c2 => ?_)
    · replace h := it_t c2 h
      cases h
    · replace h := it_f c2 h
      refine j_aload_n d_Eq_end_10 rfl 0 rfl ?_
      refine j_get ig_Eq rfl 0 rfl 3 (by decide) rfl m_242 rfl d_Eq_end_11 ?_
      refine j_callV (n := 0) (As := []) (rest := []) (wr := [(h0, .inr (7, [.ref a_reader_h0, .ref a_writer_h0, .ref a_tree_h0, .ref a_tape_h0, .ref a_source_h0, .ref a_form_h0, .ref a_spareForm_h0, .int fault_h0]))]) (c_Rw_size l D cI cB cJ cS a_tape_h0 a_bytes_a_tape_h0 size_a_tape_h0  ) k_Eq_50 (by decide) ⟨Nat.le_of_ble_eq_true rfl, Nat.le_of_ble_eq_true rfl⟩ rfl 0 rfl [1] [0] rfl (by decide) rfl (by decide) (by decide) rfl rfl (Nat.le_of_ble_eq_true rfl) d_Eq_end_14 ⟨Nat.le_of_ble_eq_true rfl, Nat.le_of_ble_eq_true rfl⟩ (fun v w hq => ?_)
      obtain ⟨rfl, rfl⟩ := hq
      refine j_norm (pc' := 17) (st' := [.int size_a_tape_h0]) (ws' := [(h0, .inr (7, [.ref a_reader_h0, .ref a_writer_h0, .ref a_tree_h0, .ref a_tape_h0, .ref a_source_h0, .ref a_form_h0, .ref a_spareForm_h0, .int fault_h0])), (a_tape_h0, .inr (3, [.ref a_bytes_a_tape_h0, .int size_a_tape_h0]))]) (cl' := 0) (sl' := 0) rfl rfl rfl rfl rfl rfl ?_
      refine j_bipush (v := 20) d_Eq_end_17 (by decide) ?_
      refine j_icmp_ge (tgt := 32) d_Eq_end_19 (by decide) (fun c4 => ?_) (fun c4 => ?_)
      · replace h := it_t c4 h
        refine j_aload_n d_Eq_end_32 rfl 0 rfl ?_
        refine j_get ig_Eq rfl 0 rfl 3 (by decide) rfl m_242 rfl d_Eq_end_33 ?_
        refine j_aload_n d_Eq_end_36 rfl 0 rfl ?_
        refine j_get ig_Eq rfl 0 rfl 3 (by decide) rfl m_242 rfl d_Eq_end_37 ?_
        refine j_callV (n := 0) (As := []) (rest := [.ref a_tape_h0]) (wr := [(h0, .inr (7, [.ref a_reader_h0, .ref a_writer_h0, .ref a_tree_h0, .ref a_tape_h0, .ref a_source_h0, .ref a_form_h0, .ref a_spareForm_h0, .int fault_h0]))]) (c_Rw_size l D cI cB cJ cS a_tape_h0 a_bytes_a_tape_h0 size_a_tape_h0  ) k_Eq_50 (by decide) ⟨Nat.le_of_ble_eq_true rfl, Nat.le_of_ble_eq_true rfl⟩ rfl 0 rfl [1] [0] rfl (by decide) rfl (by decide) (by decide) rfl rfl (Nat.le_of_ble_eq_true rfl) d_Eq_end_40 ⟨Nat.le_of_ble_eq_true rfl, Nat.le_of_ble_eq_true rfl⟩ (fun v w hq => ?_)
        obtain ⟨rfl, rfl⟩ := hq
        refine j_norm (pc' := 43) (st' := [.int size_a_tape_h0, .ref a_tape_h0]) (ws' := [(h0, .inr (7, [.ref a_reader_h0, .ref a_writer_h0, .ref a_tree_h0, .ref a_tape_h0, .ref a_source_h0, .ref a_form_h0, .ref a_spareForm_h0, .int fault_h0])), (a_tape_h0, .inr (3, [.ref a_bytes_a_tape_h0, .int size_a_tape_h0]))]) (cl' := 0) (sl' := 0) rfl rfl rfl rfl rfl rfl ?_
        refine j_bipush (v := 20) d_Eq_end_43 (by decide) ?_
        refine j_isub d_Eq_end_45 ?_
        refine j_iload_n d_Eq_end_46 rfl 1 rfl ?_
        refine j_iadd d_Eq_end_47 ?_
        obtain ⟨r6, k7⟩ : ∃ z, (F_Rw_cut ((size_a_tape_h0 - 20) + p1) size_a_tape_h0) = z := ⟨_, rfl⟩
        replace h := nm_at k7 h
        refine j_callV (n := 1) (As := [.int ((size_a_tape_h0 - 20) + p1)]) (rest := []) (wr := [(h0, .inr (7, [.ref a_reader_h0, .ref a_writer_h0, .ref a_tree_h0, .ref a_tape_h0, .ref a_source_h0, .ref a_form_h0, .ref a_spareForm_h0, .int fault_h0]))]) (c_Rw_cut l D cI cB cJ cS a_tape_h0 a_bytes_a_tape_h0 ((size_a_tape_h0 - 20) + p1) size_a_tape_h0  r6 k7) k_Eq_66 (by decide) ⟨Nat.le_of_ble_eq_true rfl, Nat.le_of_ble_eq_true rfl⟩ rfl 0 rfl [1] [0] rfl (by decide) rfl (by decide) (by decide) rfl rfl (Nat.le_of_ble_eq_true rfl) d_Eq_end_48 ⟨Nat.le_of_ble_eq_true rfl, Nat.le_of_ble_eq_true rfl⟩ (fun v w hq => ?_)
        obtain ⟨rfl, rfl⟩ := hq
        refine j_norm (pc' := 51) (st' := []) (ws' := [(h0, .inr (7, [.ref a_reader_h0, .ref a_writer_h0, .ref a_tree_h0, .ref a_tape_h0, .ref a_source_h0, .ref a_form_h0, .ref a_spareForm_h0, .int fault_h0])), (a_tape_h0, .inr (3, [.ref a_bytes_a_tape_h0, .int r6]))]) (cl' := 0) (sl' := 0) rfl rfl rfl rfl rfl rfl ?_
        refine j_aload_n d_Eq_end_51 rfl 0 rfl ?_
        refine j_get ig_Eq rfl 0 rfl 3 (by decide) rfl m_242 rfl d_Eq_end_52 ?_
        refine j_callV (n := 0) (As := []) (rest := []) (wr := [(h0, .inr (7, [.ref a_reader_h0, .ref a_writer_h0, .ref a_tree_h0, .ref a_tape_h0, .ref a_source_h0, .ref a_form_h0, .ref a_spareForm_h0, .int fault_h0]))]) (c_Rw_size l D cI cB cJ cS a_tape_h0 a_bytes_a_tape_h0 r6  ) k_Eq_50 (by decide) ⟨Nat.le_of_ble_eq_true rfl, Nat.le_of_ble_eq_true rfl⟩ rfl 0 rfl [1] [0] rfl (by decide) rfl (by decide) (by decide) rfl rfl (Nat.le_of_ble_eq_true rfl) d_Eq_end_55 ⟨Nat.le_of_ble_eq_true rfl, Nat.le_of_ble_eq_true rfl⟩ (fun v w hq => ?_)
        obtain ⟨rfl, rfl⟩ := hq
        refine j_norm (pc' := 58) (st' := [.int r6]) (ws' := [(h0, .inr (7, [.ref a_reader_h0, .ref a_writer_h0, .ref a_tree_h0, .ref a_tape_h0, .ref a_source_h0, .ref a_form_h0, .ref a_spareForm_h0, .int fault_h0])), (a_tape_h0, .inr (3, [.ref a_bytes_a_tape_h0, .int r6]))]) (cl' := 0) (sl' := 0) rfl rfl rfl rfl rfl rfl ?_
        replace h := Option.some.inj h
        replace h := Prod.mk.inj h
        obtain ⟨h9, h⟩ := h
        subst h9
        subst h
        exact j_iret (w := [(h0, .inr (7, [.ref a_reader_h0, .ref a_writer_h0, .ref a_tree_h0, .ref a_tape_h0, .ref a_source_h0, .ref a_form_h0, .ref a_spareForm_h0, .int fault_h0])), (a_tape_h0, .inr (3, [.ref a_bytes_a_tape_h0, .int r6]))]) hr d_Eq_end_58 [0, 1] rfl (by decide) ⟨rfl, rfl⟩
      · replace h := it_f c4 h
        cases h
