def F_Wr_needsBrackets (p1 : Int32) (p2 : Int32) (indent_h0 : Int32) (fits_h0 : Int32) (count_a_tree_h0 : Int32) (n_a_cells_a_tree_h0 : Nat) (b_a_cells_a_tree_h0 : Nat → Int32) (size_a_source_h0 : Int32) (n_a_bytes_a_source_h0 : Nat) (b_a_bytes_a_source_h0 : Nat → Int32) : Option (Int32) :=
  Option.bind (F_Wr_kind p1 indent_h0 fits_h0 count_a_tree_h0 n_a_cells_a_tree_h0 b_a_cells_a_tree_h0) fun r1 =>
  if r1 = 38 then (Option.bind (F_Wr_rank p2 indent_h0 fits_h0 count_a_tree_h0 n_a_cells_a_tree_h0 b_a_cells_a_tree_h0 size_a_source_h0 n_a_bytes_a_source_h0 b_a_bytes_a_source_h0) fun r4 =>
    if 9 ≤ r4 then (some 0)
    else (some 1))
  else if r1 = 39 then (Option.bind (F_Wr_rank p2 indent_h0 fits_h0 count_a_tree_h0 n_a_cells_a_tree_h0 b_a_cells_a_tree_h0 size_a_source_h0 n_a_bytes_a_source_h0 b_a_bytes_a_source_h0) fun r8 =>
    if 7 ≤ r8 then (some 0)
    else (some 1))
  else if r1 = 40 then (if p2 = (p1 + 1) then (Option.bind (F_Wr_rank p2 indent_h0 fits_h0 count_a_tree_h0 n_a_cells_a_tree_h0 b_a_cells_a_tree_h0 size_a_source_h0 n_a_bytes_a_source_h0 b_a_bytes_a_source_h0) fun r22 =>
      Option.bind (F_Wr_rank p1 indent_h0 fits_h0 count_a_tree_h0 n_a_cells_a_tree_h0 b_a_cells_a_tree_h0 size_a_source_h0 n_a_bytes_a_source_h0 b_a_bytes_a_source_h0) fun r24 =>
      if r24 ≤ r22 then (some 0)
      else (some 1))
    else (Option.bind (F_Wr_rank p2 indent_h0 fits_h0 count_a_tree_h0 n_a_cells_a_tree_h0 b_a_cells_a_tree_h0 size_a_source_h0 n_a_bytes_a_source_h0 b_a_bytes_a_source_h0) fun r13 =>
      Option.bind (F_Wr_rank p1 indent_h0 fits_h0 count_a_tree_h0 n_a_cells_a_tree_h0 b_a_cells_a_tree_h0 size_a_source_h0 n_a_bytes_a_source_h0 b_a_bytes_a_source_h0) fun r15 =>
      if r15 < r13 then (some 0)
      else (Option.bind (F_Wr_isPowerSign p1 p2 indent_h0 fits_h0 count_a_tree_h0 n_a_cells_a_tree_h0 b_a_cells_a_tree_h0 size_a_source_h0 n_a_bytes_a_source_h0 b_a_bytes_a_source_h0) fun r18 =>
        if r18 = 0 then (some 1)
        else (some 0))))
  else if r1 = 41 then (Option.bind (F_Wr_rank p2 indent_h0 fits_h0 count_a_tree_h0 n_a_cells_a_tree_h0 b_a_cells_a_tree_h0 size_a_source_h0 n_a_bytes_a_source_h0 b_a_bytes_a_source_h0) fun r28 =>
    if 5 ≤ r28 then (some 0)
    else (some 1))
  else (some 0)
theorem d_Wr_needsBrackets_0 : decode prog_10_method_18_code 0 = .ok (.aload_n 0, 1) := by decide +kernel
theorem d_Wr_needsBrackets_1 : decode prog_10_method_18_code 1 = .ok (.iload_n 1, 1) := by decide +kernel
theorem d_Wr_needsBrackets_2 : decode prog_10_method_18_code 2 = .ok (.invokevirtual 105, 3) := by decide +kernel
theorem d_Wr_needsBrackets_5 : decode prog_10_method_18_code 5 = .ok (.tableswitch 134 38 41 #[118, 102, 31, 87], 31) := by decide +kernel
theorem d_Wr_needsBrackets_36 : decode prog_10_method_18_code 36 = .ok (.iload_n 2, 1) := by decide +kernel
theorem d_Wr_needsBrackets_37 : decode prog_10_method_18_code 37 = .ok (.iload_n 1, 1) := by decide +kernel
theorem d_Wr_needsBrackets_38 : decode prog_10_method_18_code 38 = .ok (.iconst 1, 1) := by decide +kernel
theorem d_Wr_needsBrackets_39 : decode prog_10_method_18_code 39 = .ok (.iadd, 1) := by decide +kernel
theorem d_Wr_needsBrackets_40 : decode prog_10_method_18_code 40 = .ok (.if_icmp .ne 24, 3) := by decide +kernel
theorem d_Wr_needsBrackets_43 : decode prog_10_method_18_code 43 = .ok (.aload_n 0, 1) := by decide +kernel
theorem d_Wr_needsBrackets_44 : decode prog_10_method_18_code 44 = .ok (.iload_n 2, 1) := by decide +kernel
theorem d_Wr_needsBrackets_45 : decode prog_10_method_18_code 45 = .ok (.invokevirtual 145, 3) := by decide +kernel
theorem d_Wr_needsBrackets_48 : decode prog_10_method_18_code 48 = .ok (.aload_n 0, 1) := by decide +kernel
theorem d_Wr_needsBrackets_49 : decode prog_10_method_18_code 49 = .ok (.iload_n 1, 1) := by decide +kernel
theorem d_Wr_needsBrackets_50 : decode prog_10_method_18_code 50 = .ok (.invokevirtual 145, 3) := by decide +kernel
theorem d_Wr_needsBrackets_53 : decode prog_10_method_18_code 53 = .ok (.if_icmp .ge 7, 3) := by decide +kernel
theorem d_Wr_needsBrackets_56 : decode prog_10_method_18_code 56 = .ok (.iconst 1, 1) := by decide +kernel
theorem d_Wr_needsBrackets_57 : decode prog_10_method_18_code 57 = .ok (.goto 34, 3) := by decide +kernel
theorem d_Wr_needsBrackets_60 : decode prog_10_method_18_code 60 = .ok (.iconst 0, 1) := by decide +kernel
theorem d_Wr_needsBrackets_61 : decode prog_10_method_18_code 61 = .ok (.goto 30, 3) := by decide +kernel
theorem d_Wr_needsBrackets_64 : decode prog_10_method_18_code 64 = .ok (.aload_n 0, 1) := by decide +kernel
theorem d_Wr_needsBrackets_65 : decode prog_10_method_18_code 65 = .ok (.iload_n 2, 1) := by decide +kernel
theorem d_Wr_needsBrackets_66 : decode prog_10_method_18_code 66 = .ok (.invokevirtual 145, 3) := by decide +kernel
theorem d_Wr_needsBrackets_69 : decode prog_10_method_18_code 69 = .ok (.aload_n 0, 1) := by decide +kernel
theorem d_Wr_needsBrackets_70 : decode prog_10_method_18_code 70 = .ok (.iload_n 1, 1) := by decide +kernel
theorem d_Wr_needsBrackets_71 : decode prog_10_method_18_code 71 = .ok (.invokevirtual 145, 3) := by decide +kernel
theorem d_Wr_needsBrackets_74 : decode prog_10_method_18_code 74 = .ok (.if_icmp .gt 16, 3) := by decide +kernel
theorem d_Wr_needsBrackets_77 : decode prog_10_method_18_code 77 = .ok (.aload_n 0, 1) := by decide +kernel
theorem d_Wr_needsBrackets_78 : decode prog_10_method_18_code 78 = .ok (.iload_n 1, 1) := by decide +kernel
theorem d_Wr_needsBrackets_79 : decode prog_10_method_18_code 79 = .ok (.iload_n 2, 1) := by decide +kernel
theorem d_Wr_needsBrackets_80 : decode prog_10_method_18_code 80 = .ok (.invokevirtual 180, 3) := by decide +kernel
theorem d_Wr_needsBrackets_83 : decode prog_10_method_18_code 83 = .ok (.ifCond .ne 7, 3) := by decide +kernel
theorem d_Wr_needsBrackets_86 : decode prog_10_method_18_code 86 = .ok (.iconst 1, 1) := by decide +kernel
theorem d_Wr_needsBrackets_87 : decode prog_10_method_18_code 87 = .ok (.goto 4, 3) := by decide +kernel
theorem d_Wr_needsBrackets_90 : decode prog_10_method_18_code 90 = .ok (.iconst 0, 1) := by decide +kernel
theorem d_Wr_needsBrackets_91 : decode prog_10_method_18_code 91 = .ok (.ireturn, 1) := by decide +kernel
theorem d_Wr_needsBrackets_92 : decode prog_10_method_18_code 92 = .ok (.aload_n 0, 1) := by decide +kernel
theorem d_Wr_needsBrackets_93 : decode prog_10_method_18_code 93 = .ok (.iload_n 2, 1) := by decide +kernel
theorem d_Wr_needsBrackets_94 : decode prog_10_method_18_code 94 = .ok (.invokevirtual 145, 3) := by decide +kernel
theorem d_Wr_needsBrackets_97 : decode prog_10_method_18_code 97 = .ok (.iconst 5, 1) := by decide +kernel
theorem d_Wr_needsBrackets_98 : decode prog_10_method_18_code 98 = .ok (.if_icmp .ge 7, 3) := by decide +kernel
theorem d_Wr_needsBrackets_101 : decode prog_10_method_18_code 101 = .ok (.iconst 1, 1) := by decide +kernel
theorem d_Wr_needsBrackets_102 : decode prog_10_method_18_code 102 = .ok (.goto 4, 3) := by decide +kernel
theorem d_Wr_needsBrackets_105 : decode prog_10_method_18_code 105 = .ok (.iconst 0, 1) := by decide +kernel
theorem d_Wr_needsBrackets_106 : decode prog_10_method_18_code 106 = .ok (.ireturn, 1) := by decide +kernel
theorem d_Wr_needsBrackets_107 : decode prog_10_method_18_code 107 = .ok (.aload_n 0, 1) := by decide +kernel
theorem d_Wr_needsBrackets_108 : decode prog_10_method_18_code 108 = .ok (.iload_n 2, 1) := by decide +kernel
theorem d_Wr_needsBrackets_109 : decode prog_10_method_18_code 109 = .ok (.invokevirtual 145, 3) := by decide +kernel
theorem d_Wr_needsBrackets_112 : decode prog_10_method_18_code 112 = .ok (.bipush 7, 2) := by decide +kernel
theorem d_Wr_needsBrackets_114 : decode prog_10_method_18_code 114 = .ok (.if_icmp .ge 7, 3) := by decide +kernel
theorem d_Wr_needsBrackets_117 : decode prog_10_method_18_code 117 = .ok (.iconst 1, 1) := by decide +kernel
theorem d_Wr_needsBrackets_118 : decode prog_10_method_18_code 118 = .ok (.goto 4, 3) := by decide +kernel
theorem d_Wr_needsBrackets_121 : decode prog_10_method_18_code 121 = .ok (.iconst 0, 1) := by decide +kernel
theorem d_Wr_needsBrackets_122 : decode prog_10_method_18_code 122 = .ok (.ireturn, 1) := by decide +kernel
theorem d_Wr_needsBrackets_123 : decode prog_10_method_18_code 123 = .ok (.aload_n 0, 1) := by decide +kernel
theorem d_Wr_needsBrackets_124 : decode prog_10_method_18_code 124 = .ok (.iload_n 2, 1) := by decide +kernel
theorem d_Wr_needsBrackets_125 : decode prog_10_method_18_code 125 = .ok (.invokevirtual 145, 3) := by decide +kernel
theorem d_Wr_needsBrackets_128 : decode prog_10_method_18_code 128 = .ok (.bipush 9, 2) := by decide +kernel
theorem d_Wr_needsBrackets_130 : decode prog_10_method_18_code 130 = .ok (.if_icmp .ge 7, 3) := by decide +kernel
theorem d_Wr_needsBrackets_133 : decode prog_10_method_18_code 133 = .ok (.iconst 1, 1) := by decide +kernel
theorem d_Wr_needsBrackets_134 : decode prog_10_method_18_code 134 = .ok (.goto 4, 3) := by decide +kernel
theorem d_Wr_needsBrackets_137 : decode prog_10_method_18_code 137 = .ok (.iconst 0, 1) := by decide +kernel
theorem d_Wr_needsBrackets_138 : decode prog_10_method_18_code 138 = .ok (.ireturn, 1) := by decide +kernel
theorem d_Wr_needsBrackets_139 : decode prog_10_method_18_code 139 = .ok (.iconst 0, 1) := by decide +kernel
theorem d_Wr_needsBrackets_140 : decode prog_10_method_18_code 140 = .ok (.ireturn, 1) := by decide +kernel
set_option maxHeartbeats 4000000 in
set_option maxRecDepth 100000 in
theorem c_Wr_needsBrackets (l : Launch) (D : va_G) (cI cB cJ cS : ClassId) (h0 : Nat) (a_tree_h0 : Nat) (a_source_h0 : Nat) (a_form_h0 : Nat) (a_cells_a_tree_h0 : Nat) (a_bytes_a_source_h0 : Nat) (p1 : Int32) (p2 : Int32) (indent_h0 : Int32) (fits_h0 : Int32) (count_a_tree_h0 : Int32) (n_a_cells_a_tree_h0 : Nat) (b_a_cells_a_tree_h0 : Nat → Int32) (size_a_source_h0 : Int32) (n_a_bytes_a_source_h0 : Nat) (b_a_bytes_a_source_h0 : Nat → Int32) (ret : Int32) (h : F_Wr_needsBrackets p1 p2 indent_h0 fits_h0 count_a_tree_h0 n_a_cells_a_tree_h0 b_a_cells_a_tree_h0 size_a_source_h0 n_a_bytes_a_source_h0 b_a_bytes_a_source_h0 = some ret) : Ct l D (gT cI cB cJ cS) y_Wr_needsBrackets prog_10_method_18_code 3 (Option.some Jvm.ClassFile.FieldType.boolean) 4 87 0 0 [.ref h0, .int p1, .int p2] [(h0, .inr (6, [.ref a_tree_h0, .ref a_source_h0, .ref a_form_h0, .int indent_h0, .int fits_h0])), (a_tree_h0, .inr (1, [.ref a_cells_a_tree_h0, .int count_a_tree_h0])), (a_cells_a_tree_h0, .inl (cI, n_a_cells_a_tree_h0, .inl b_a_cells_a_tree_h0)), (a_source_h0, .inr (3, [.ref a_bytes_a_source_h0, .int size_a_source_h0])), (a_bytes_a_source_h0, .inl (cB, n_a_bytes_a_source_h0, .inl b_a_bytes_a_source_h0))] (fun v w => v = some (.int ret) ∧ zb ret ∧ w = [(h0, .inr (6, [.ref a_tree_h0, .ref a_source_h0, .ref a_form_h0, .int indent_h0, .int fits_h0])), (a_tree_h0, .inr (1, [.ref a_cells_a_tree_h0, .int count_a_tree_h0])), (a_cells_a_tree_h0, .inl (cI, n_a_cells_a_tree_h0, .inl b_a_cells_a_tree_h0)), (a_source_h0, .inr (3, [.ref a_bytes_a_source_h0, .int size_a_source_h0])), (a_bytes_a_source_h0, .inl (cB, n_a_bytes_a_source_h0, .inl b_a_bytes_a_source_h0))]) := by
  refine Ct.mk (by decide) (Nat.le_of_ble_eq_true rfl) ?_
  intro p e s m below meth c hr hnm
  refine j_norm (pc' := 0) (lv' := [(0, .ref h0), (1, .int p1), (2, .int p2)]) (st' := []) (ws' := [(h0, .inr (6, [.ref a_tree_h0, .ref a_source_h0, .ref a_form_h0, .int indent_h0, .int fits_h0])), (a_tree_h0, .inr (1, [.ref a_cells_a_tree_h0, .int count_a_tree_h0])), (a_cells_a_tree_h0, .inl (cI, n_a_cells_a_tree_h0, .inl b_a_cells_a_tree_h0)), (a_source_h0, .inr (3, [.ref a_bytes_a_source_h0, .int size_a_source_h0])), (a_bytes_a_source_h0, .inl (cB, n_a_bytes_a_source_h0, .inl b_a_bytes_a_source_h0))]) (cl' := 0) (sl' := 0) rfl rfl rfl rfl rfl rfl ?_
  unfold F_Wr_needsBrackets at h
  refine j_aload_n d_Wr_needsBrackets_0 rfl 0 rfl ?_
  refine j_iload_n d_Wr_needsBrackets_1 rfl 1 rfl ?_
  replace h := bd_s h
  obtain ⟨r1, k2, h⟩ := h
  refine j_callV (n := 1) (As := [.int p1]) (rest := []) (wr := [(a_source_h0, .inr (3, [.ref a_bytes_a_source_h0, .int size_a_source_h0])), (a_bytes_a_source_h0, .inl (cB, n_a_bytes_a_source_h0, .inl b_a_bytes_a_source_h0))]) (c_Wr_kind l D cI cB cJ cS h0 a_tree_h0 a_source_h0 a_form_h0 a_cells_a_tree_h0 p1 indent_h0 fits_h0 count_a_tree_h0 n_a_cells_a_tree_h0 b_a_cells_a_tree_h0  r1 k2) k_Wr_105 (by decide) ⟨Nat.le_of_ble_eq_true rfl, Nat.le_of_ble_eq_true rfl⟩ rfl 0 rfl [0, 1, 2] [3, 4] rfl (by decide) rfl (by decide) (by decide) rfl rfl (Nat.le_of_ble_eq_true rfl) d_Wr_needsBrackets_2 ⟨Nat.le_of_ble_eq_true rfl, Nat.le_of_ble_eq_true rfl⟩ (fun v w hq => ?_)
  obtain ⟨rfl, rfl⟩ := hq
  refine j_norm (pc' := 5) (st' := [.int r1]) (ws' := [(a_source_h0, .inr (3, [.ref a_bytes_a_source_h0, .int size_a_source_h0])), (a_bytes_a_source_h0, .inl (cB, n_a_bytes_a_source_h0, .inl b_a_bytes_a_source_h0)), (h0, .inr (6, [.ref a_tree_h0, .ref a_source_h0, .ref a_form_h0, .int indent_h0, .int fits_h0])), (a_tree_h0, .inr (1, [.ref a_cells_a_tree_h0, .int count_a_tree_h0])), (a_cells_a_tree_h0, .inl (cI, n_a_cells_a_tree_h0, .inl b_a_cells_a_tree_h0))]) (cl' := 0) (sl' := 0) rfl rfl rfl rfl rfl rfl ?_
  by_cases c3 : r1 = 38
  · replace h := it_t c3 h
    refine j_tabIn (tgt := 123) (off := 118) d_Wr_needsBrackets_5 38 c3 (by decide) (by decide) (by decide) (by decide) ?_
    refine j_aload_n d_Wr_needsBrackets_123 rfl 0 rfl ?_
    refine j_iload_n d_Wr_needsBrackets_124 rfl 2 rfl ?_
    replace h := bd_s h
    obtain ⟨r4, k5, h⟩ := h
    refine j_callV (n := 1) (As := [.int p2]) (rest := []) (wr := []) (c_Wr_rank l D cI cB cJ cS h0 a_tree_h0 a_source_h0 a_form_h0 a_cells_a_tree_h0 a_bytes_a_source_h0 p2 indent_h0 fits_h0 count_a_tree_h0 n_a_cells_a_tree_h0 b_a_cells_a_tree_h0 size_a_source_h0 n_a_bytes_a_source_h0 b_a_bytes_a_source_h0  r4 k5) k_Wr_145 (by decide) ⟨Nat.le_of_ble_eq_true rfl, Nat.le_of_ble_eq_true rfl⟩ rfl 0 rfl [2, 3, 4, 0, 1] [] rfl (by decide) rfl (by decide) (by decide) rfl rfl (Nat.le_of_ble_eq_true rfl) d_Wr_needsBrackets_125 ⟨Nat.le_of_ble_eq_true rfl, Nat.le_of_ble_eq_true rfl⟩ (fun v w hq => ?_)
    obtain ⟨rfl, rfl⟩ := hq
    refine j_norm (pc' := 128) (st' := [.int r4]) (ws' := [(h0, .inr (6, [.ref a_tree_h0, .ref a_source_h0, .ref a_form_h0, .int indent_h0, .int fits_h0])), (a_tree_h0, .inr (1, [.ref a_cells_a_tree_h0, .int count_a_tree_h0])), (a_cells_a_tree_h0, .inl (cI, n_a_cells_a_tree_h0, .inl b_a_cells_a_tree_h0)), (a_source_h0, .inr (3, [.ref a_bytes_a_source_h0, .int size_a_source_h0])), (a_bytes_a_source_h0, .inl (cB, n_a_bytes_a_source_h0, .inl b_a_bytes_a_source_h0))]) (cl' := 0) (sl' := 0) rfl rfl rfl rfl rfl rfl ?_
    refine j_bipush (v := 9) d_Wr_needsBrackets_128 (by decide) ?_
    refine j_icmp_ge (tgt := 137) d_Wr_needsBrackets_130 (by decide) (fun c6 => ?_) (fun c6 => ?_)
    · replace h := it_t c6 h
      refine j_iconst (v := 0) d_Wr_needsBrackets_137 (by decide) ?_
      replace h := Option.some.inj h
      subst h
      exact j_zret (w := [(h0, .inr (6, [.ref a_tree_h0, .ref a_source_h0, .ref a_form_h0, .int indent_h0, .int fits_h0])), (a_tree_h0, .inr (1, [.ref a_cells_a_tree_h0, .int count_a_tree_h0])), (a_cells_a_tree_h0, .inl (cI, n_a_cells_a_tree_h0, .inl b_a_cells_a_tree_h0)), (a_source_h0, .inr (3, [.ref a_bytes_a_source_h0, .int size_a_source_h0])), (a_bytes_a_source_h0, .inl (cB, n_a_bytes_a_source_h0, .inl b_a_bytes_a_source_h0))]) hr (zb_n zb0) d_Wr_needsBrackets_138 [0, 1, 2, 3, 4] rfl (by decide) ⟨rfl, zb0, rfl⟩
    · replace h := it_f c6 h
      refine j_iconst (v := 1) d_Wr_needsBrackets_133 (by decide) ?_
      refine j_goto (tgt := 138) d_Wr_needsBrackets_134 (by decide) ?_
      replace h := Option.some.inj h
      subst h
      exact j_zret (w := [(h0, .inr (6, [.ref a_tree_h0, .ref a_source_h0, .ref a_form_h0, .int indent_h0, .int fits_h0])), (a_tree_h0, .inr (1, [.ref a_cells_a_tree_h0, .int count_a_tree_h0])), (a_cells_a_tree_h0, .inl (cI, n_a_cells_a_tree_h0, .inl b_a_cells_a_tree_h0)), (a_source_h0, .inr (3, [.ref a_bytes_a_source_h0, .int size_a_source_h0])), (a_bytes_a_source_h0, .inl (cB, n_a_bytes_a_source_h0, .inl b_a_bytes_a_source_h0))]) hr (zb_n zb1) d_Wr_needsBrackets_138 [0, 1, 2, 3, 4] rfl (by decide) ⟨rfl, zb1, rfl⟩
  · replace h := it_f c3 h
    by_cases c7 : r1 = 39
    · replace h := it_t c7 h
      refine j_tabIn (tgt := 107) (off := 102) d_Wr_needsBrackets_5 39 c7 (by decide) (by decide) (by decide) (by decide) ?_
      refine j_aload_n d_Wr_needsBrackets_107 rfl 0 rfl ?_
      refine j_iload_n d_Wr_needsBrackets_108 rfl 2 rfl ?_
      replace h := bd_s h
      obtain ⟨r8, k9, h⟩ := h
      refine j_callV (n := 1) (As := [.int p2]) (rest := []) (wr := []) (c_Wr_rank l D cI cB cJ cS h0 a_tree_h0 a_source_h0 a_form_h0 a_cells_a_tree_h0 a_bytes_a_source_h0 p2 indent_h0 fits_h0 count_a_tree_h0 n_a_cells_a_tree_h0 b_a_cells_a_tree_h0 size_a_source_h0 n_a_bytes_a_source_h0 b_a_bytes_a_source_h0  r8 k9) k_Wr_145 (by decide) ⟨Nat.le_of_ble_eq_true rfl, Nat.le_of_ble_eq_true rfl⟩ rfl 0 rfl [2, 3, 4, 0, 1] [] rfl (by decide) rfl (by decide) (by decide) rfl rfl (Nat.le_of_ble_eq_true rfl) d_Wr_needsBrackets_109 ⟨Nat.le_of_ble_eq_true rfl, Nat.le_of_ble_eq_true rfl⟩ (fun v w hq => ?_)
      obtain ⟨rfl, rfl⟩ := hq
      refine j_norm (pc' := 112) (st' := [.int r8]) (ws' := [(h0, .inr (6, [.ref a_tree_h0, .ref a_source_h0, .ref a_form_h0, .int indent_h0, .int fits_h0])), (a_tree_h0, .inr (1, [.ref a_cells_a_tree_h0, .int count_a_tree_h0])), (a_cells_a_tree_h0, .inl (cI, n_a_cells_a_tree_h0, .inl b_a_cells_a_tree_h0)), (a_source_h0, .inr (3, [.ref a_bytes_a_source_h0, .int size_a_source_h0])), (a_bytes_a_source_h0, .inl (cB, n_a_bytes_a_source_h0, .inl b_a_bytes_a_source_h0))]) (cl' := 0) (sl' := 0) rfl rfl rfl rfl rfl rfl ?_
      refine j_bipush (v := 7) d_Wr_needsBrackets_112 (by decide) ?_
      refine j_icmp_ge (tgt := 121) d_Wr_needsBrackets_114 (by decide) (fun c10 => ?_) (fun c10 => ?_)
      · replace h := it_t c10 h
        refine j_iconst (v := 0) d_Wr_needsBrackets_121 (by decide) ?_
        replace h := Option.some.inj h
        subst h
        exact j_zret (w := [(h0, .inr (6, [.ref a_tree_h0, .ref a_source_h0, .ref a_form_h0, .int indent_h0, .int fits_h0])), (a_tree_h0, .inr (1, [.ref a_cells_a_tree_h0, .int count_a_tree_h0])), (a_cells_a_tree_h0, .inl (cI, n_a_cells_a_tree_h0, .inl b_a_cells_a_tree_h0)), (a_source_h0, .inr (3, [.ref a_bytes_a_source_h0, .int size_a_source_h0])), (a_bytes_a_source_h0, .inl (cB, n_a_bytes_a_source_h0, .inl b_a_bytes_a_source_h0))]) hr (zb_n zb0) d_Wr_needsBrackets_122 [0, 1, 2, 3, 4] rfl (by decide) ⟨rfl, zb0, rfl⟩
      · replace h := it_f c10 h
        refine j_iconst (v := 1) d_Wr_needsBrackets_117 (by decide) ?_
        refine j_goto (tgt := 122) d_Wr_needsBrackets_118 (by decide) ?_
        replace h := Option.some.inj h
        subst h
        exact j_zret (w := [(h0, .inr (6, [.ref a_tree_h0, .ref a_source_h0, .ref a_form_h0, .int indent_h0, .int fits_h0])), (a_tree_h0, .inr (1, [.ref a_cells_a_tree_h0, .int count_a_tree_h0])), (a_cells_a_tree_h0, .inl (cI, n_a_cells_a_tree_h0, .inl b_a_cells_a_tree_h0)), (a_source_h0, .inr (3, [.ref a_bytes_a_source_h0, .int size_a_source_h0])), (a_bytes_a_source_h0, .inl (cB, n_a_bytes_a_source_h0, .inl b_a_bytes_a_source_h0))]) hr (zb_n zb1) d_Wr_needsBrackets_122 [0, 1, 2, 3, 4] rfl (by decide) ⟨rfl, zb1, rfl⟩
    · replace h := it_f c7 h
      by_cases c11 : r1 = 40
      · replace h := it_t c11 h
        refine j_tabIn (tgt := 36) (off := 31) d_Wr_needsBrackets_5 40 c11 (by decide) (by decide) (by decide) (by decide) ?_
        refine j_iload_n d_Wr_needsBrackets_36 rfl 2 rfl ?_
        refine j_iload_n d_Wr_needsBrackets_37 rfl 1 rfl ?_
        refine j_iconst (v := 1) d_Wr_needsBrackets_38 (by decide) ?_
        refine j_iadd d_Wr_needsBrackets_39 ?_
        refine j_icmp_ne (tgt := 64) d_Wr_needsBrackets_40 (by decide) (fun c12 => ?_) (fun c12 => ?_)
        · replace h := it_f c12 h
          refine j_aload_n d_Wr_needsBrackets_64 rfl 0 rfl ?_
          refine j_iload_n d_Wr_needsBrackets_65 rfl 2 rfl ?_
          replace h := bd_s h
          obtain ⟨r13, k14, h⟩ := h
          refine j_callV (n := 1) (As := [.int p2]) (rest := []) (wr := []) (c_Wr_rank l D cI cB cJ cS h0 a_tree_h0 a_source_h0 a_form_h0 a_cells_a_tree_h0 a_bytes_a_source_h0 p2 indent_h0 fits_h0 count_a_tree_h0 n_a_cells_a_tree_h0 b_a_cells_a_tree_h0 size_a_source_h0 n_a_bytes_a_source_h0 b_a_bytes_a_source_h0  r13 k14) k_Wr_145 (by decide) ⟨Nat.le_of_ble_eq_true rfl, Nat.le_of_ble_eq_true rfl⟩ rfl 0 rfl [2, 3, 4, 0, 1] [] rfl (by decide) rfl (by decide) (by decide) rfl rfl (Nat.le_of_ble_eq_true rfl) d_Wr_needsBrackets_66 ⟨Nat.le_of_ble_eq_true rfl, Nat.le_of_ble_eq_true rfl⟩ (fun v w hq => ?_)
          obtain ⟨rfl, rfl⟩ := hq
          refine j_norm (pc' := 69) (st' := [.int r13]) (ws' := [(h0, .inr (6, [.ref a_tree_h0, .ref a_source_h0, .ref a_form_h0, .int indent_h0, .int fits_h0])), (a_tree_h0, .inr (1, [.ref a_cells_a_tree_h0, .int count_a_tree_h0])), (a_cells_a_tree_h0, .inl (cI, n_a_cells_a_tree_h0, .inl b_a_cells_a_tree_h0)), (a_source_h0, .inr (3, [.ref a_bytes_a_source_h0, .int size_a_source_h0])), (a_bytes_a_source_h0, .inl (cB, n_a_bytes_a_source_h0, .inl b_a_bytes_a_source_h0))]) (cl' := 0) (sl' := 0) rfl rfl rfl rfl rfl rfl ?_
          refine j_aload_n d_Wr_needsBrackets_69 rfl 0 rfl ?_
          refine j_iload_n d_Wr_needsBrackets_70 rfl 1 rfl ?_
          replace h := bd_s h
          obtain ⟨r15, k16, h⟩ := h
          refine j_callV (n := 1) (As := [.int p1]) (rest := [.int r13]) (wr := []) (c_Wr_rank l D cI cB cJ cS h0 a_tree_h0 a_source_h0 a_form_h0 a_cells_a_tree_h0 a_bytes_a_source_h0 p1 indent_h0 fits_h0 count_a_tree_h0 n_a_cells_a_tree_h0 b_a_cells_a_tree_h0 size_a_source_h0 n_a_bytes_a_source_h0 b_a_bytes_a_source_h0  r15 k16) k_Wr_145 (by decide) ⟨Nat.le_of_ble_eq_true rfl, Nat.le_of_ble_eq_true rfl⟩ rfl 0 rfl [0, 1, 2, 3, 4] [] rfl (by decide) rfl (by decide) (by decide) rfl rfl (Nat.le_of_ble_eq_true rfl) d_Wr_needsBrackets_71 ⟨Nat.le_of_ble_eq_true rfl, Nat.le_of_ble_eq_true rfl⟩ (fun v w hq => ?_)
          obtain ⟨rfl, rfl⟩ := hq
          refine j_norm (pc' := 74) (st' := [.int r15, .int r13]) (ws' := [(h0, .inr (6, [.ref a_tree_h0, .ref a_source_h0, .ref a_form_h0, .int indent_h0, .int fits_h0])), (a_tree_h0, .inr (1, [.ref a_cells_a_tree_h0, .int count_a_tree_h0])), (a_cells_a_tree_h0, .inl (cI, n_a_cells_a_tree_h0, .inl b_a_cells_a_tree_h0)), (a_source_h0, .inr (3, [.ref a_bytes_a_source_h0, .int size_a_source_h0])), (a_bytes_a_source_h0, .inl (cB, n_a_bytes_a_source_h0, .inl b_a_bytes_a_source_h0))]) (cl' := 0) (sl' := 0) rfl rfl rfl rfl rfl rfl ?_
          refine j_icmp_gt (tgt := 90) d_Wr_needsBrackets_74 (by decide) (fun c17 => ?_) (fun c17 => ?_)
          · replace h := it_t c17 h
            refine j_iconst (v := 0) d_Wr_needsBrackets_90 (by decide) ?_
            replace h := Option.some.inj h
            subst h
            exact j_zret (w := [(h0, .inr (6, [.ref a_tree_h0, .ref a_source_h0, .ref a_form_h0, .int indent_h0, .int fits_h0])), (a_tree_h0, .inr (1, [.ref a_cells_a_tree_h0, .int count_a_tree_h0])), (a_cells_a_tree_h0, .inl (cI, n_a_cells_a_tree_h0, .inl b_a_cells_a_tree_h0)), (a_source_h0, .inr (3, [.ref a_bytes_a_source_h0, .int size_a_source_h0])), (a_bytes_a_source_h0, .inl (cB, n_a_bytes_a_source_h0, .inl b_a_bytes_a_source_h0))]) hr (zb_n zb0) d_Wr_needsBrackets_91 [0, 1, 2, 3, 4] rfl (by decide) ⟨rfl, zb0, rfl⟩
          · replace h := it_f c17 h
            refine j_aload_n d_Wr_needsBrackets_77 rfl 0 rfl ?_
            refine j_iload_n d_Wr_needsBrackets_78 rfl 1 rfl ?_
            refine j_iload_n d_Wr_needsBrackets_79 rfl 2 rfl ?_
            replace h := bd_s h
            obtain ⟨r18, k20, h⟩ := h
            refine j_callV (n := 2) (As := [.int p1, .int p2]) (rest := []) (wr := []) (c_Wr_isPowerSign l D cI cB cJ cS h0 a_tree_h0 a_source_h0 a_form_h0 a_cells_a_tree_h0 a_bytes_a_source_h0 p1 p2 indent_h0 fits_h0 count_a_tree_h0 n_a_cells_a_tree_h0 b_a_cells_a_tree_h0 size_a_source_h0 n_a_bytes_a_source_h0 b_a_bytes_a_source_h0  r18 k20) k_Wr_180 (by decide) ⟨Nat.le_of_ble_eq_true rfl, Nat.le_of_ble_eq_true rfl⟩ rfl 0 rfl [0, 1, 2, 3, 4] [] rfl (by decide) rfl (by decide) (by decide) rfl rfl (Nat.le_of_ble_eq_true rfl) d_Wr_needsBrackets_80 ⟨Nat.le_of_ble_eq_true rfl, Nat.le_of_ble_eq_true rfl⟩ (fun v w hq => ?_)
            obtain ⟨rfl, z19, rfl⟩ := hq
            refine j_norm (pc' := 83) (st' := [.int r18]) (ws' := [(h0, .inr (6, [.ref a_tree_h0, .ref a_source_h0, .ref a_form_h0, .int indent_h0, .int fits_h0])), (a_tree_h0, .inr (1, [.ref a_cells_a_tree_h0, .int count_a_tree_h0])), (a_cells_a_tree_h0, .inl (cI, n_a_cells_a_tree_h0, .inl b_a_cells_a_tree_h0)), (a_source_h0, .inr (3, [.ref a_bytes_a_source_h0, .int size_a_source_h0])), (a_bytes_a_source_h0, .inl (cB, n_a_bytes_a_source_h0, .inl b_a_bytes_a_source_h0))]) (cl' := 0) (sl' := 0) rfl rfl rfl rfl rfl rfl ?_
            refine j_if_ne (tgt := 90) d_Wr_needsBrackets_83 (by decide) (fun c21 => ?_) (fun c21 => ?_)
            · replace h := it_f c21 h
              refine j_iconst (v := 0) d_Wr_needsBrackets_90 (by decide) ?_
              replace h := Option.some.inj h
              subst h
              exact j_zret (w := [(h0, .inr (6, [.ref a_tree_h0, .ref a_source_h0, .ref a_form_h0, .int indent_h0, .int fits_h0])), (a_tree_h0, .inr (1, [.ref a_cells_a_tree_h0, .int count_a_tree_h0])), (a_cells_a_tree_h0, .inl (cI, n_a_cells_a_tree_h0, .inl b_a_cells_a_tree_h0)), (a_source_h0, .inr (3, [.ref a_bytes_a_source_h0, .int size_a_source_h0])), (a_bytes_a_source_h0, .inl (cB, n_a_bytes_a_source_h0, .inl b_a_bytes_a_source_h0))]) hr (zb_n zb0) d_Wr_needsBrackets_91 [0, 1, 2, 3, 4] rfl (by decide) ⟨rfl, zb0, rfl⟩
            · replace h := it_t c21 h
              refine j_iconst (v := 1) d_Wr_needsBrackets_86 (by decide) ?_
              refine j_goto (tgt := 91) d_Wr_needsBrackets_87 (by decide) ?_
              replace h := Option.some.inj h
              subst h
              exact j_zret (w := [(h0, .inr (6, [.ref a_tree_h0, .ref a_source_h0, .ref a_form_h0, .int indent_h0, .int fits_h0])), (a_tree_h0, .inr (1, [.ref a_cells_a_tree_h0, .int count_a_tree_h0])), (a_cells_a_tree_h0, .inl (cI, n_a_cells_a_tree_h0, .inl b_a_cells_a_tree_h0)), (a_source_h0, .inr (3, [.ref a_bytes_a_source_h0, .int size_a_source_h0])), (a_bytes_a_source_h0, .inl (cB, n_a_bytes_a_source_h0, .inl b_a_bytes_a_source_h0))]) hr (zb_n zb1) d_Wr_needsBrackets_91 [0, 1, 2, 3, 4] rfl (by decide) ⟨rfl, zb1, rfl⟩
        · replace h := it_t c12 h
          refine j_aload_n d_Wr_needsBrackets_43 rfl 0 rfl ?_
          refine j_iload_n d_Wr_needsBrackets_44 rfl 2 rfl ?_
          replace h := bd_s h
          obtain ⟨r22, k23, h⟩ := h
          refine j_callV (n := 1) (As := [.int p2]) (rest := []) (wr := []) (c_Wr_rank l D cI cB cJ cS h0 a_tree_h0 a_source_h0 a_form_h0 a_cells_a_tree_h0 a_bytes_a_source_h0 p2 indent_h0 fits_h0 count_a_tree_h0 n_a_cells_a_tree_h0 b_a_cells_a_tree_h0 size_a_source_h0 n_a_bytes_a_source_h0 b_a_bytes_a_source_h0  r22 k23) k_Wr_145 (by decide) ⟨Nat.le_of_ble_eq_true rfl, Nat.le_of_ble_eq_true rfl⟩ rfl 0 rfl [2, 3, 4, 0, 1] [] rfl (by decide) rfl (by decide) (by decide) rfl rfl (Nat.le_of_ble_eq_true rfl) d_Wr_needsBrackets_45 ⟨Nat.le_of_ble_eq_true rfl, Nat.le_of_ble_eq_true rfl⟩ (fun v w hq => ?_)
          obtain ⟨rfl, rfl⟩ := hq
          refine j_norm (pc' := 48) (st' := [.int r22]) (ws' := [(h0, .inr (6, [.ref a_tree_h0, .ref a_source_h0, .ref a_form_h0, .int indent_h0, .int fits_h0])), (a_tree_h0, .inr (1, [.ref a_cells_a_tree_h0, .int count_a_tree_h0])), (a_cells_a_tree_h0, .inl (cI, n_a_cells_a_tree_h0, .inl b_a_cells_a_tree_h0)), (a_source_h0, .inr (3, [.ref a_bytes_a_source_h0, .int size_a_source_h0])), (a_bytes_a_source_h0, .inl (cB, n_a_bytes_a_source_h0, .inl b_a_bytes_a_source_h0))]) (cl' := 0) (sl' := 0) rfl rfl rfl rfl rfl rfl ?_
          refine j_aload_n d_Wr_needsBrackets_48 rfl 0 rfl ?_
          refine j_iload_n d_Wr_needsBrackets_49 rfl 1 rfl ?_
          replace h := bd_s h
          obtain ⟨r24, k25, h⟩ := h
          refine j_callV (n := 1) (As := [.int p1]) (rest := [.int r22]) (wr := []) (c_Wr_rank l D cI cB cJ cS h0 a_tree_h0 a_source_h0 a_form_h0 a_cells_a_tree_h0 a_bytes_a_source_h0 p1 indent_h0 fits_h0 count_a_tree_h0 n_a_cells_a_tree_h0 b_a_cells_a_tree_h0 size_a_source_h0 n_a_bytes_a_source_h0 b_a_bytes_a_source_h0  r24 k25) k_Wr_145 (by decide) ⟨Nat.le_of_ble_eq_true rfl, Nat.le_of_ble_eq_true rfl⟩ rfl 0 rfl [0, 1, 2, 3, 4] [] rfl (by decide) rfl (by decide) (by decide) rfl rfl (Nat.le_of_ble_eq_true rfl) d_Wr_needsBrackets_50 ⟨Nat.le_of_ble_eq_true rfl, Nat.le_of_ble_eq_true rfl⟩ (fun v w hq => ?_)
          obtain ⟨rfl, rfl⟩ := hq
          refine j_norm (pc' := 53) (st' := [.int r24, .int r22]) (ws' := [(h0, .inr (6, [.ref a_tree_h0, .ref a_source_h0, .ref a_form_h0, .int indent_h0, .int fits_h0])), (a_tree_h0, .inr (1, [.ref a_cells_a_tree_h0, .int count_a_tree_h0])), (a_cells_a_tree_h0, .inl (cI, n_a_cells_a_tree_h0, .inl b_a_cells_a_tree_h0)), (a_source_h0, .inr (3, [.ref a_bytes_a_source_h0, .int size_a_source_h0])), (a_bytes_a_source_h0, .inl (cB, n_a_bytes_a_source_h0, .inl b_a_bytes_a_source_h0))]) (cl' := 0) (sl' := 0) rfl rfl rfl rfl rfl rfl ?_
          refine j_icmp_ge (tgt := 60) d_Wr_needsBrackets_53 (by decide) (fun c26 => ?_) (fun c26 => ?_)
          · replace h := it_t c26 h
            refine j_iconst (v := 0) d_Wr_needsBrackets_60 (by decide) ?_
            refine j_goto (tgt := 91) d_Wr_needsBrackets_61 (by decide) ?_
            replace h := Option.some.inj h
            subst h
            exact j_zret (w := [(h0, .inr (6, [.ref a_tree_h0, .ref a_source_h0, .ref a_form_h0, .int indent_h0, .int fits_h0])), (a_tree_h0, .inr (1, [.ref a_cells_a_tree_h0, .int count_a_tree_h0])), (a_cells_a_tree_h0, .inl (cI, n_a_cells_a_tree_h0, .inl b_a_cells_a_tree_h0)), (a_source_h0, .inr (3, [.ref a_bytes_a_source_h0, .int size_a_source_h0])), (a_bytes_a_source_h0, .inl (cB, n_a_bytes_a_source_h0, .inl b_a_bytes_a_source_h0))]) hr (zb_n zb0) d_Wr_needsBrackets_91 [0, 1, 2, 3, 4] rfl (by decide) ⟨rfl, zb0, rfl⟩
          · replace h := it_f c26 h
            refine j_iconst (v := 1) d_Wr_needsBrackets_56 (by decide) ?_
            refine j_goto (tgt := 91) d_Wr_needsBrackets_57 (by decide) ?_
            replace h := Option.some.inj h
            subst h
            exact j_zret (w := [(h0, .inr (6, [.ref a_tree_h0, .ref a_source_h0, .ref a_form_h0, .int indent_h0, .int fits_h0])), (a_tree_h0, .inr (1, [.ref a_cells_a_tree_h0, .int count_a_tree_h0])), (a_cells_a_tree_h0, .inl (cI, n_a_cells_a_tree_h0, .inl b_a_cells_a_tree_h0)), (a_source_h0, .inr (3, [.ref a_bytes_a_source_h0, .int size_a_source_h0])), (a_bytes_a_source_h0, .inl (cB, n_a_bytes_a_source_h0, .inl b_a_bytes_a_source_h0))]) hr (zb_n zb1) d_Wr_needsBrackets_91 [0, 1, 2, 3, 4] rfl (by decide) ⟨rfl, zb1, rfl⟩
      · replace h := it_f c11 h
        by_cases c27 : r1 = 41
        · replace h := it_t c27 h
          refine j_tabIn (tgt := 92) (off := 87) d_Wr_needsBrackets_5 41 c27 (by decide) (by decide) (by decide) (by decide) ?_
          refine j_aload_n d_Wr_needsBrackets_92 rfl 0 rfl ?_
          refine j_iload_n d_Wr_needsBrackets_93 rfl 2 rfl ?_
          replace h := bd_s h
          obtain ⟨r28, k29, h⟩ := h
          refine j_callV (n := 1) (As := [.int p2]) (rest := []) (wr := []) (c_Wr_rank l D cI cB cJ cS h0 a_tree_h0 a_source_h0 a_form_h0 a_cells_a_tree_h0 a_bytes_a_source_h0 p2 indent_h0 fits_h0 count_a_tree_h0 n_a_cells_a_tree_h0 b_a_cells_a_tree_h0 size_a_source_h0 n_a_bytes_a_source_h0 b_a_bytes_a_source_h0  r28 k29) k_Wr_145 (by decide) ⟨Nat.le_of_ble_eq_true rfl, Nat.le_of_ble_eq_true rfl⟩ rfl 0 rfl [2, 3, 4, 0, 1] [] rfl (by decide) rfl (by decide) (by decide) rfl rfl (Nat.le_of_ble_eq_true rfl) d_Wr_needsBrackets_94 ⟨Nat.le_of_ble_eq_true rfl, Nat.le_of_ble_eq_true rfl⟩ (fun v w hq => ?_)
          obtain ⟨rfl, rfl⟩ := hq
          refine j_norm (pc' := 97) (st' := [.int r28]) (ws' := [(h0, .inr (6, [.ref a_tree_h0, .ref a_source_h0, .ref a_form_h0, .int indent_h0, .int fits_h0])), (a_tree_h0, .inr (1, [.ref a_cells_a_tree_h0, .int count_a_tree_h0])), (a_cells_a_tree_h0, .inl (cI, n_a_cells_a_tree_h0, .inl b_a_cells_a_tree_h0)), (a_source_h0, .inr (3, [.ref a_bytes_a_source_h0, .int size_a_source_h0])), (a_bytes_a_source_h0, .inl (cB, n_a_bytes_a_source_h0, .inl b_a_bytes_a_source_h0))]) (cl' := 0) (sl' := 0) rfl rfl rfl rfl rfl rfl ?_
          refine j_iconst (v := 5) d_Wr_needsBrackets_97 (by decide) ?_
          refine j_icmp_ge (tgt := 105) d_Wr_needsBrackets_98 (by decide) (fun c30 => ?_) (fun c30 => ?_)
          · replace h := it_t c30 h
            refine j_iconst (v := 0) d_Wr_needsBrackets_105 (by decide) ?_
            replace h := Option.some.inj h
            subst h
            exact j_zret (w := [(h0, .inr (6, [.ref a_tree_h0, .ref a_source_h0, .ref a_form_h0, .int indent_h0, .int fits_h0])), (a_tree_h0, .inr (1, [.ref a_cells_a_tree_h0, .int count_a_tree_h0])), (a_cells_a_tree_h0, .inl (cI, n_a_cells_a_tree_h0, .inl b_a_cells_a_tree_h0)), (a_source_h0, .inr (3, [.ref a_bytes_a_source_h0, .int size_a_source_h0])), (a_bytes_a_source_h0, .inl (cB, n_a_bytes_a_source_h0, .inl b_a_bytes_a_source_h0))]) hr (zb_n zb0) d_Wr_needsBrackets_106 [0, 1, 2, 3, 4] rfl (by decide) ⟨rfl, zb0, rfl⟩
          · replace h := it_f c30 h
            refine j_iconst (v := 1) d_Wr_needsBrackets_101 (by decide) ?_
            refine j_goto (tgt := 106) d_Wr_needsBrackets_102 (by decide) ?_
            replace h := Option.some.inj h
            subst h
            exact j_zret (w := [(h0, .inr (6, [.ref a_tree_h0, .ref a_source_h0, .ref a_form_h0, .int indent_h0, .int fits_h0])), (a_tree_h0, .inr (1, [.ref a_cells_a_tree_h0, .int count_a_tree_h0])), (a_cells_a_tree_h0, .inl (cI, n_a_cells_a_tree_h0, .inl b_a_cells_a_tree_h0)), (a_source_h0, .inr (3, [.ref a_bytes_a_source_h0, .int size_a_source_h0])), (a_bytes_a_source_h0, .inl (cB, n_a_bytes_a_source_h0, .inl b_a_bytes_a_source_h0))]) hr (zb_n zb1) d_Wr_needsBrackets_106 [0, 1, 2, 3, 4] rfl (by decide) ⟨rfl, zb1, rfl⟩
        · replace h := it_f c27 h
          refine j_tabOut (tgt := 139) d_Wr_needsBrackets_5 (by have := lv_neT c3 (by decide : (38 : Int32).toInt = 38); have := lv_neT c7 (by decide : (39 : Int32).toInt = 39); have := lv_neT c11 (by decide : (40 : Int32).toInt = 40); have := lv_neT c27 (by decide : (41 : Int32).toInt = 41); omega) (by decide) ?_
          refine j_iconst (v := 0) d_Wr_needsBrackets_139 (by decide) ?_
          replace h := Option.some.inj h
          subst h
          exact j_zret (w := [(h0, .inr (6, [.ref a_tree_h0, .ref a_source_h0, .ref a_form_h0, .int indent_h0, .int fits_h0])), (a_tree_h0, .inr (1, [.ref a_cells_a_tree_h0, .int count_a_tree_h0])), (a_cells_a_tree_h0, .inl (cI, n_a_cells_a_tree_h0, .inl b_a_cells_a_tree_h0)), (a_source_h0, .inr (3, [.ref a_bytes_a_source_h0, .int size_a_source_h0])), (a_bytes_a_source_h0, .inl (cB, n_a_bytes_a_source_h0, .inl b_a_bytes_a_source_h0))]) hr (zb_n zb0) d_Wr_needsBrackets_140 [2, 3, 4, 0, 1] rfl (by decide) ⟨rfl, zb0, rfl⟩
def F_Sc_scanName_65 (next_h0 : Int32) (kind_h0 : Int32) (start_h0 : Int32) (size_a_text_h0 : Int32) (n_a_bytes_a_text_h0 : Nat) (b_a_bytes_a_text_h0 : Nat → Int32) (v1_65 : Int32) : Option (Int32 × Int32) :=
    if (v1_65 - start_h0) ≤ 255 then (Option.bind (F_Sc_wordOrName next_h0 kind_h0 start_h0 (v1_65 - start_h0) size_a_text_h0 n_a_bytes_a_text_h0 b_a_bytes_a_text_h0) fun r2 =>
      (some (r2, (v1_65 - start_h0))))
    else (some (1, v1_65 - start_h0))
def F_Sc_scanName_7 (next_h0 : Int32) (kind_h0 : Int32) (start_h0 : Int32) (size_a_text_h0 : Int32) (n_a_bytes_a_text_h0 : Nat) (b_a_bytes_a_text_h0 : Nat → Int32) : Nat → Int32 → Option (Int32 × Int32)
  | 0, _ => none
  | k_7 + 1, v1_7 =>
    if size_a_text_h0 ≤ v1_7 then (F_Sc_scanName_65 next_h0 kind_h0 start_h0 size_a_text_h0 n_a_bytes_a_text_h0 b_a_bytes_a_text_h0   v1_7)
    else (Option.bind (F_Rw_at v1_7 size_a_text_h0 n_a_bytes_a_text_h0 b_a_bytes_a_text_h0) fun r6 =>
      nm (F_Sc_isLetter r6) fun r8 =>
      if r8 = 0 then (Option.bind (F_Rw_at v1_7 size_a_text_h0 n_a_bytes_a_text_h0 b_a_bytes_a_text_h0) fun r12 =>
        nm (F_Sc_isDigit r12) fun r14 =>
        if r14 = 0 then (Option.bind (F_Rw_at v1_7 size_a_text_h0 n_a_bytes_a_text_h0 b_a_bytes_a_text_h0) fun r18 =>
          if r18 = 95 then (F_Sc_scanName_7 next_h0 kind_h0 start_h0 size_a_text_h0 n_a_bytes_a_text_h0 b_a_bytes_a_text_h0  k_7 (v1_7 + 1))
          else (F_Sc_scanName_65 next_h0 kind_h0 start_h0 size_a_text_h0 n_a_bytes_a_text_h0 b_a_bytes_a_text_h0   v1_7))
        else (F_Sc_scanName_7 next_h0 kind_h0 start_h0 size_a_text_h0 n_a_bytes_a_text_h0 b_a_bytes_a_text_h0  k_7 (v1_7 + 1)))
      else (F_Sc_scanName_7 next_h0 kind_h0 start_h0 size_a_text_h0 n_a_bytes_a_text_h0 b_a_bytes_a_text_h0  k_7 (v1_7 + 1)))
def F_Sc_scanName (next_h0 : Int32) (kind_h0 : Int32) (start_h0 : Int32) (width_h0 : Int32) (size_a_text_h0 : Int32) (n_a_bytes_a_text_h0 : Nat) (b_a_bytes_a_text_h0 : Nat → Int32) : Option (Int32 × Int32) :=
  F_Sc_scanName_7 next_h0 kind_h0 start_h0 size_a_text_h0 n_a_bytes_a_text_h0 b_a_bytes_a_text_h0  FU (start_h0 + 1)
theorem d_Sc_scanName_0 : decode prog_8_method_12_code 0 = .ok (.aload_n 0, 1) := by decide +kernel
theorem d_Sc_scanName_1 : decode prog_8_method_12_code 1 = .ok (.getfield 25, 3) := by decide +kernel
theorem d_Sc_scanName_4 : decode prog_8_method_12_code 4 = .ok (.iconst 1, 1) := by decide +kernel
theorem d_Sc_scanName_5 : decode prog_8_method_12_code 5 = .ok (.iadd, 1) := by decide +kernel
theorem d_Sc_scanName_6 : decode prog_8_method_12_code 6 = .ok (.istore_n 1, 1) := by decide +kernel
theorem d_Sc_scanName_7 : decode prog_8_method_12_code 7 = .ok (.iload_n 1, 1) := by decide +kernel
theorem d_Sc_scanName_8 : decode prog_8_method_12_code 8 = .ok (.aload_n 0, 1) := by decide +kernel
theorem d_Sc_scanName_9 : decode prog_8_method_12_code 9 = .ok (.getfield 12, 3) := by decide +kernel
theorem d_Sc_scanName_12 : decode prog_8_method_12_code 12 = .ok (.invokevirtual 58, 3) := by decide +kernel
theorem d_Sc_scanName_15 : decode prog_8_method_12_code 15 = .ok (.if_icmp .ge 50, 3) := by decide +kernel
theorem d_Sc_scanName_18 : decode prog_8_method_12_code 18 = .ok (.aload_n 0, 1) := by decide +kernel
theorem d_Sc_scanName_19 : decode prog_8_method_12_code 19 = .ok (.getfield 12, 3) := by decide +kernel
theorem d_Sc_scanName_22 : decode prog_8_method_12_code 22 = .ok (.iload_n 1, 1) := by decide +kernel
theorem d_Sc_scanName_23 : decode prog_8_method_12_code 23 = .ok (.invokevirtual 34, 3) := by decide +kernel
theorem d_Sc_scanName_26 : decode prog_8_method_12_code 26 = .ok (.invokestatic 38, 3) := by decide +kernel
theorem d_Sc_scanName_29 : decode prog_8_method_12_code 29 = .ok (.ifCond .ne 30, 3) := by decide +kernel
theorem d_Sc_scanName_32 : decode prog_8_method_12_code 32 = .ok (.aload_n 0, 1) := by decide +kernel
theorem d_Sc_scanName_33 : decode prog_8_method_12_code 33 = .ok (.getfield 12, 3) := by decide +kernel
theorem d_Sc_scanName_36 : decode prog_8_method_12_code 36 = .ok (.iload_n 1, 1) := by decide +kernel
theorem d_Sc_scanName_37 : decode prog_8_method_12_code 37 = .ok (.invokevirtual 34, 3) := by decide +kernel
theorem d_Sc_scanName_40 : decode prog_8_method_12_code 40 = .ok (.invokestatic 45, 3) := by decide +kernel
theorem d_Sc_scanName_43 : decode prog_8_method_12_code 43 = .ok (.ifCond .ne 16, 3) := by decide +kernel
theorem d_Sc_scanName_46 : decode prog_8_method_12_code 46 = .ok (.aload_n 0, 1) := by decide +kernel
theorem d_Sc_scanName_47 : decode prog_8_method_12_code 47 = .ok (.getfield 12, 3) := by decide +kernel
theorem d_Sc_scanName_50 : decode prog_8_method_12_code 50 = .ok (.iload_n 1, 1) := by decide +kernel
theorem d_Sc_scanName_51 : decode prog_8_method_12_code 51 = .ok (.invokevirtual 34, 3) := by decide +kernel
theorem d_Sc_scanName_54 : decode prog_8_method_12_code 54 = .ok (.bipush 95, 2) := by decide +kernel
theorem d_Sc_scanName_56 : decode prog_8_method_12_code 56 = .ok (.if_icmp .ne 9, 3) := by decide +kernel
theorem d_Sc_scanName_59 : decode prog_8_method_12_code 59 = .ok (.iinc 1 1, 3) := by decide +kernel
theorem d_Sc_scanName_62 : decode prog_8_method_12_code 62 = .ok (.goto (-55), 3) := by decide +kernel
theorem d_Sc_scanName_65 : decode prog_8_method_12_code 65 = .ok (.aload_n 0, 1) := by decide +kernel
theorem d_Sc_scanName_66 : decode prog_8_method_12_code 66 = .ok (.iload_n 1, 1) := by decide +kernel
theorem d_Sc_scanName_67 : decode prog_8_method_12_code 67 = .ok (.aload_n 0, 1) := by decide +kernel
theorem d_Sc_scanName_68 : decode prog_8_method_12_code 68 = .ok (.getfield 25, 3) := by decide +kernel
theorem d_Sc_scanName_71 : decode prog_8_method_12_code 71 = .ok (.isub, 1) := by decide +kernel
theorem d_Sc_scanName_72 : decode prog_8_method_12_code 72 = .ok (.putfield 28, 3) := by decide +kernel
theorem d_Sc_scanName_75 : decode prog_8_method_12_code 75 = .ok (.aload_n 0, 1) := by decide +kernel
theorem d_Sc_scanName_76 : decode prog_8_method_12_code 76 = .ok (.aload_n 0, 1) := by decide +kernel
theorem d_Sc_scanName_77 : decode prog_8_method_12_code 77 = .ok (.getfield 28, 3) := by decide +kernel
theorem d_Sc_scanName_80 : decode prog_8_method_12_code 80 = .ok (.sipush 255, 3) := by decide +kernel
theorem d_Sc_scanName_83 : decode prog_8_method_12_code 83 = .ok (.if_icmp .le 7, 3) := by decide +kernel
theorem d_Sc_scanName_86 : decode prog_8_method_12_code 86 = .ok (.iconst 1, 1) := by decide +kernel
theorem d_Sc_scanName_87 : decode prog_8_method_12_code 87 = .ok (.goto 7, 3) := by decide +kernel
theorem d_Sc_scanName_90 : decode prog_8_method_12_code 90 = .ok (.aload_n 0, 1) := by decide +kernel
theorem d_Sc_scanName_91 : decode prog_8_method_12_code 91 = .ok (.invokevirtual 62, 3) := by decide +kernel
theorem d_Sc_scanName_94 : decode prog_8_method_12_code 94 = .ok (.putfield 22, 3) := by decide +kernel
theorem d_Sc_scanName_97 : decode prog_8_method_12_code 97 = .ok (.return_, 1) := by decide +kernel
set_option maxHeartbeats 4000000 in
set_option maxRecDepth 100000 in
theorem L_Sc_scanName_65 (l : Launch) (D : va_G) (cI cB cJ cS : ClassId) (h0 : Nat) (a_text_h0 : Nat) (a_bytes_a_text_h0 : Nat) (next_h0 : Int32) (kind_h0 : Int32) (start_h0 : Int32) (width_h0 : Int32) (size_a_text_h0 : Int32) (n_a_bytes_a_text_h0 : Nat) (b_a_bytes_a_text_h0 : Nat → Int32) (o_0_2 : Int32) (o_0_4 : Int32) (p : Program) (e : Env) (s : State) (m : MethodId) (below : List Frame) (meth : Method) (c : Code) (hr : meth.sig.returnType = (Option.none : Option Jvm.ClassFile.FieldType)) (hnm : meth.name = y_Sc_scanName.name) : ∀ (v1_65 : Int32), F_Sc_scanName_65 next_h0 kind_h0 start_h0 size_a_text_h0 n_a_bytes_a_text_h0 b_a_bytes_a_text_h0   v1_65 = some (o_0_2, o_0_4) → J (KxOf p l e { frames := 6, cells := 0, slots := 0, locals := 127 } s m [.ref h0].toArray below meth c D (gT cI cB cJ cS) [(h0, .inr (4, [.ref a_text_h0, .int next_h0, .int kind_h0, .int start_h0, .int width_h0])), (a_text_h0, .inr (3, [.ref a_bytes_a_text_h0, .int size_a_text_h0])), (a_bytes_a_text_h0, .inl (cB, n_a_bytes_a_text_h0, .inl b_a_bytes_a_text_h0))] (fun v w => v = none ∧ w = [(h0, .inr (4, [.ref a_text_h0, .int next_h0, .int o_0_2, .int start_h0, .int o_0_4])), (a_text_h0, .inr (3, [.ref a_bytes_a_text_h0, .int size_a_text_h0])), (a_bytes_a_text_h0, .inl (cB, n_a_bytes_a_text_h0, .inl b_a_bytes_a_text_h0))]) 0 0) prog_8_method_12_code 2 R_Sc 65 [(1, .int v1_65), (0, .ref h0)] [] [(h0, .inr (4, [.ref a_text_h0, .int next_h0, .int kind_h0, .int start_h0, .int width_h0])), (a_bytes_a_text_h0, .inl (cB, n_a_bytes_a_text_h0, .inl b_a_bytes_a_text_h0)), (a_text_h0, .inr (3, [.ref a_bytes_a_text_h0, .int size_a_text_h0]))] 0 0 := by
  intro v1_65 h
  unfold F_Sc_scanName_65 at h
  refine j_aload_n d_Sc_scanName_65 rfl 1 rfl ?_
  refine j_iload_n d_Sc_scanName_66 rfl 0 rfl ?_
  refine j_aload_n d_Sc_scanName_67 rfl 1 rfl ?_
  refine j_get ig_Sc rfl 0 rfl 3 (by decide) rfl m_60 rfl d_Sc_scanName_68 ?_
  refine j_isub d_Sc_scanName_71 ?_
  refine j_put (ws' := [(h0, .inr (4, [.ref a_text_h0, .int next_h0, .int kind_h0, .int start_h0, .int (v1_65 - start_h0)])), (a_bytes_a_text_h0, .inl (cB, n_a_bytes_a_text_h0, .inl b_a_bytes_a_text_h0)), (a_text_h0, .inr (3, [.ref a_bytes_a_text_h0, .int size_a_text_h0]))]) ig_Sc tk_Sc nm_Sc rfl 0 rfl 4 (by decide) rfl m_61 rfl (tk_Sc 4 (by decide)) rfl rfl (Nat.le_of_ble_eq_true rfl) d_Sc_scanName_72 rfl ?_
  refine j_aload_n d_Sc_scanName_75 rfl 1 rfl ?_
  refine j_aload_n d_Sc_scanName_76 rfl 1 rfl ?_
  refine j_get ig_Sc rfl 0 rfl 4 (by decide) rfl m_61 rfl d_Sc_scanName_77 ?_
  refine j_sipush (v := 255) d_Sc_scanName_80 (by decide) ?_
  refine j_icmp_le (tgt := 90) d_Sc_scanName_83 (by decide) (fun c1 => ?_) (fun c1 => ?_)
  · replace h := it_t c1 h
    refine j_aload_n d_Sc_scanName_90 rfl 1 rfl ?_
    replace h := bd_s h
    obtain ⟨r2, k3, h⟩ := h
    refine j_callV (n := 0) (As := []) (rest := [.ref h0]) (wr := []) (c_Sc_wordOrName l D cI cB cJ cS h0 a_text_h0 a_bytes_a_text_h0 next_h0 kind_h0 start_h0 (v1_65 - start_h0) size_a_text_h0 n_a_bytes_a_text_h0 b_a_bytes_a_text_h0  r2 k3) k_Sc_62 (by decide) ⟨Nat.le_of_ble_eq_true rfl, Nat.le_of_ble_eq_true rfl⟩ rfl 0 rfl [0, 2, 1] [] rfl (by decide) rfl (by decide) (by decide) rfl rfl (Nat.le_of_ble_eq_true rfl) d_Sc_scanName_91 ⟨Nat.le_of_ble_eq_true rfl, Nat.le_of_ble_eq_true rfl⟩ (fun v w hq => ?_)
    obtain ⟨rfl, rfl⟩ := hq
    refine j_norm (pc' := 94) (st' := [.int r2, .ref h0]) (ws' := [(h0, .inr (4, [.ref a_text_h0, .int next_h0, .int kind_h0, .int start_h0, .int (v1_65 - start_h0)])), (a_text_h0, .inr (3, [.ref a_bytes_a_text_h0, .int size_a_text_h0])), (a_bytes_a_text_h0, .inl (cB, n_a_bytes_a_text_h0, .inl b_a_bytes_a_text_h0))]) (cl' := 0) (sl' := 0) rfl rfl rfl rfl rfl rfl ?_
    refine j_put (ws' := [(h0, .inr (4, [.ref a_text_h0, .int next_h0, .int r2, .int start_h0, .int (v1_65 - start_h0)])), (a_text_h0, .inr (3, [.ref a_bytes_a_text_h0, .int size_a_text_h0])), (a_bytes_a_text_h0, .inl (cB, n_a_bytes_a_text_h0, .inl b_a_bytes_a_text_h0))]) ig_Sc tk_Sc nm_Sc rfl 0 rfl 2 (by decide) rfl m_59 rfl (tk_Sc 2 (by decide)) rfl rfl (Nat.le_of_ble_eq_true rfl) d_Sc_scanName_94 rfl ?_
    replace h := Option.some.inj h
    replace h := Prod.mk.inj h
    obtain ⟨h9, h⟩ := h
    subst h9
    subst h
    exact j_vret (w := [(h0, .inr (4, [.ref a_text_h0, .int next_h0, .int r2, .int start_h0, .int (v1_65 - start_h0)])), (a_text_h0, .inr (3, [.ref a_bytes_a_text_h0, .int size_a_text_h0])), (a_bytes_a_text_h0, .inl (cB, n_a_bytes_a_text_h0, .inl b_a_bytes_a_text_h0))]) hr d_Sc_scanName_97 [0, 1, 2] rfl (by decide) ⟨rfl, rfl⟩
  · replace h := it_f c1 h
    refine j_iconst (v := 1) d_Sc_scanName_86 (by decide) ?_
    refine j_goto (tgt := 94) d_Sc_scanName_87 (by decide) ?_
    refine j_put (ws' := [(h0, .inr (4, [.ref a_text_h0, .int next_h0, .int 1, .int start_h0, .int (v1_65 - start_h0)])), (a_bytes_a_text_h0, .inl (cB, n_a_bytes_a_text_h0, .inl b_a_bytes_a_text_h0)), (a_text_h0, .inr (3, [.ref a_bytes_a_text_h0, .int size_a_text_h0]))]) ig_Sc tk_Sc nm_Sc rfl 0 rfl 2 (by decide) rfl m_59 rfl (tk_Sc 2 (by decide)) rfl rfl (Nat.le_of_ble_eq_true rfl) d_Sc_scanName_94 rfl ?_
    replace h := Option.some.inj h
    replace h := Prod.mk.inj h
    obtain ⟨h9, h⟩ := h
    subst h9
    subst h
    exact j_vret (w := [(h0, .inr (4, [.ref a_text_h0, .int next_h0, .int 1, .int start_h0, .int (v1_65 - start_h0)])), (a_text_h0, .inr (3, [.ref a_bytes_a_text_h0, .int size_a_text_h0])), (a_bytes_a_text_h0, .inl (cB, n_a_bytes_a_text_h0, .inl b_a_bytes_a_text_h0))]) hr d_Sc_scanName_97 [0, 2, 1] rfl (by decide) ⟨rfl, rfl⟩
set_option maxHeartbeats 4000000 in
set_option maxRecDepth 100000 in
theorem L_Sc_scanName_7 (l : Launch) (D : va_G) (cI cB cJ cS : ClassId) (h0 : Nat) (a_text_h0 : Nat) (a_bytes_a_text_h0 : Nat) (next_h0 : Int32) (kind_h0 : Int32) (start_h0 : Int32) (width_h0 : Int32) (size_a_text_h0 : Int32) (n_a_bytes_a_text_h0 : Nat) (b_a_bytes_a_text_h0 : Nat → Int32) (o_0_2 : Int32) (o_0_4 : Int32) (p : Program) (e : Env) (s : State) (m : MethodId) (below : List Frame) (meth : Method) (c : Code) (hr : meth.sig.returnType = (Option.none : Option Jvm.ClassFile.FieldType)) (hnm : meth.name = y_Sc_scanName.name) : ∀ (k_7 : Nat) (v1_7 : Int32), F_Sc_scanName_7 next_h0 kind_h0 start_h0 size_a_text_h0 n_a_bytes_a_text_h0 b_a_bytes_a_text_h0  k_7 v1_7 = some (o_0_2, o_0_4) → J (KxOf p l e { frames := 6, cells := 0, slots := 0, locals := 127 } s m [.ref h0].toArray below meth c D (gT cI cB cJ cS) [(h0, .inr (4, [.ref a_text_h0, .int next_h0, .int kind_h0, .int start_h0, .int width_h0])), (a_text_h0, .inr (3, [.ref a_bytes_a_text_h0, .int size_a_text_h0])), (a_bytes_a_text_h0, .inl (cB, n_a_bytes_a_text_h0, .inl b_a_bytes_a_text_h0))] (fun v w => v = none ∧ w = [(h0, .inr (4, [.ref a_text_h0, .int next_h0, .int o_0_2, .int start_h0, .int o_0_4])), (a_text_h0, .inr (3, [.ref a_bytes_a_text_h0, .int size_a_text_h0])), (a_bytes_a_text_h0, .inl (cB, n_a_bytes_a_text_h0, .inl b_a_bytes_a_text_h0))]) 0 0) prog_8_method_12_code 2 R_Sc 7 [(1, .int v1_7), (0, .ref h0)] [] [(h0, .inr (4, [.ref a_text_h0, .int next_h0, .int kind_h0, .int start_h0, .int width_h0])), (a_text_h0, .inr (3, [.ref a_bytes_a_text_h0, .int size_a_text_h0])), (a_bytes_a_text_h0, .inl (cB, n_a_bytes_a_text_h0, .inl b_a_bytes_a_text_h0))] 0 0 := by
  intro k_7
  induction k_7 with
  | zero => intro v1_7 h; rw [F_Sc_scanName_7] at h; cases h
  | succ k_7 ih_7 =>
    intro v1_7 h
    rw [F_Sc_scanName_7] at h
    refine j_iload_n d_Sc_scanName_7 rfl 0 rfl ?_
    refine j_aload_n d_Sc_scanName_8 rfl 1 rfl ?_
    refine j_get ig_Sc rfl 0 rfl 0 (by decide) rfl m_57 rfl d_Sc_scanName_9 ?_
    refine j_callV (n := 0) (As := []) (rest := [.int v1_7]) (wr := [(h0, .inr (4, [.ref a_text_h0, .int next_h0, .int kind_h0, .int start_h0, .int width_h0])), (a_bytes_a_text_h0, .inl (cB, n_a_bytes_a_text_h0, .inl b_a_bytes_a_text_h0))]) (c_Rw_size l D cI cB cJ cS a_text_h0 a_bytes_a_text_h0 size_a_text_h0  ) k_Sc_58 (by decide) ⟨Nat.le_of_ble_eq_true rfl, Nat.le_of_ble_eq_true rfl⟩ rfl 0 rfl [1] [0, 2] rfl (by decide) rfl (by decide) (by decide) rfl rfl (Nat.le_of_ble_eq_true rfl) d_Sc_scanName_12 ⟨Nat.le_of_ble_eq_true rfl, Nat.le_of_ble_eq_true rfl⟩ (fun v w hq => ?_)
    obtain ⟨rfl, rfl⟩ := hq
    refine j_norm (pc' := 15) (st' := [.int size_a_text_h0, .int v1_7]) (ws' := [(h0, .inr (4, [.ref a_text_h0, .int next_h0, .int kind_h0, .int start_h0, .int width_h0])), (a_bytes_a_text_h0, .inl (cB, n_a_bytes_a_text_h0, .inl b_a_bytes_a_text_h0)), (a_text_h0, .inr (3, [.ref a_bytes_a_text_h0, .int size_a_text_h0]))]) (cl' := 0) (sl' := 0) rfl rfl rfl rfl rfl rfl ?_
    refine j_icmp_ge (tgt := 65) d_Sc_scanName_15 (by decide) (fun c5 => ?_) (fun c5 => ?_)
    · replace h := it_t c5 h
      refine j_sub (w := [(h0, .inr (4, [.ref a_text_h0, .int next_h0, .int kind_h0, .int start_h0, .int width_h0])), (a_bytes_a_text_h0, .inl (cB, n_a_bytes_a_text_h0, .inl b_a_bytes_a_text_h0)), (a_text_h0, .inr (3, [.ref a_bytes_a_text_h0, .int size_a_text_h0]))]) (lv' := [(1, .int v1_7), (0, .ref h0)]) [0, 1, 2] rfl (by decide) [0, 1] rfl ?_
      exact L_Sc_scanName_65 l D cI cB cJ cS h0 a_text_h0 a_bytes_a_text_h0 next_h0 kind_h0 start_h0 width_h0 size_a_text_h0 n_a_bytes_a_text_h0 b_a_bytes_a_text_h0 o_0_2 o_0_4 p e s m below meth c hr hnm v1_7 h
    · replace h := it_f c5 h
      refine j_aload_n d_Sc_scanName_18 rfl 1 rfl ?_
      refine j_get ig_Sc rfl 0 rfl 0 (by decide) rfl m_57 rfl d_Sc_scanName_19 ?_
      refine j_iload_n d_Sc_scanName_22 rfl 0 rfl ?_
      replace h := bd_s h
      obtain ⟨r6, k7, h⟩ := h
      refine j_callV (n := 1) (As := [.int v1_7]) (rest := []) (wr := [(h0, .inr (4, [.ref a_text_h0, .int next_h0, .int kind_h0, .int start_h0, .int width_h0]))]) (c_Rw_at l D cI cB cJ cS a_text_h0 a_bytes_a_text_h0 v1_7 size_a_text_h0 n_a_bytes_a_text_h0 b_a_bytes_a_text_h0  r6 k7) k_Sc_34 (by decide) ⟨Nat.le_of_ble_eq_true rfl, Nat.le_of_ble_eq_true rfl⟩ rfl 0 rfl [2, 1] [0] rfl (by decide) rfl (by decide) (by decide) rfl rfl (Nat.le_of_ble_eq_true rfl) d_Sc_scanName_23 ⟨Nat.le_of_ble_eq_true rfl, Nat.le_of_ble_eq_true rfl⟩ (fun v w hq => ?_)
      obtain ⟨rfl, rfl⟩ := hq
      refine j_norm (pc' := 26) (st' := [.int r6]) (ws' := [(h0, .inr (4, [.ref a_text_h0, .int next_h0, .int kind_h0, .int start_h0, .int width_h0])), (a_text_h0, .inr (3, [.ref a_bytes_a_text_h0, .int size_a_text_h0])), (a_bytes_a_text_h0, .inl (cB, n_a_bytes_a_text_h0, .inl b_a_bytes_a_text_h0))]) (cl' := 0) (sl' := 0) rfl rfl rfl rfl rfl rfl ?_
      obtain ⟨r8, k10⟩ : ∃ z, (F_Sc_isLetter r6) = z := ⟨_, rfl⟩
      replace h := nm_at k10 h
      refine j_callS (n := 1) (As := [.int r6]) (rest := []) (wr := [(h0, .inr (4, [.ref a_text_h0, .int next_h0, .int kind_h0, .int start_h0, .int width_h0])), (a_text_h0, .inr (3, [.ref a_bytes_a_text_h0, .int size_a_text_h0])), (a_bytes_a_text_h0, .inl (cB, n_a_bytes_a_text_h0, .inl b_a_bytes_a_text_h0))]) (c_Sc_isLetter l D cI cB cJ cS r6  r8 k10) k_Sc_38 (by decide) ⟨Nat.le_of_ble_eq_true rfl, Nat.le_of_ble_eq_true rfl⟩ [] [0, 1, 2] rfl (by decide) rfl (by decide) (by decide) rfl rfl (Nat.le_of_ble_eq_true rfl) d_Sc_scanName_26 ⟨Nat.le_of_ble_eq_true rfl, Nat.le_of_ble_eq_true rfl⟩ (fun v w hq => ?_)
      obtain ⟨rfl, z9, rfl⟩ := hq
      refine j_norm (pc' := 29) (st' := [.int r8]) (ws' := [(h0, .inr (4, [.ref a_text_h0, .int next_h0, .int kind_h0, .int start_h0, .int width_h0])), (a_text_h0, .inr (3, [.ref a_bytes_a_text_h0, .int size_a_text_h0])), (a_bytes_a_text_h0, .inl (cB, n_a_bytes_a_text_h0, .inl b_a_bytes_a_text_h0))]) (cl' := 0) (sl' := 0) rfl rfl rfl rfl rfl rfl ?_
      refine j_if_ne (tgt := 59) d_Sc_scanName_29 (by decide) (fun c11 => ?_) (fun c11 => ?_)
      · replace h := it_f c11 h
        refine j_iinc (v := v1_7 + 1) (lv' := [(1, .int (v1_7 + 1)), (0, .ref h0)]) d_Sc_scanName_59 0 rfl rfl (by decide) rfl ?_
        refine j_goto (tgt := 7) d_Sc_scanName_62 (by decide) ?_
        refine j_sub (w := [(h0, .inr (4, [.ref a_text_h0, .int next_h0, .int kind_h0, .int start_h0, .int width_h0])), (a_text_h0, .inr (3, [.ref a_bytes_a_text_h0, .int size_a_text_h0])), (a_bytes_a_text_h0, .inl (cB, n_a_bytes_a_text_h0, .inl b_a_bytes_a_text_h0))]) (lv' := [(1, .int (v1_7 + 1)), (0, .ref h0)]) [0, 1, 2] rfl (by decide) [0, 1] rfl ?_
        exact ih_7 (v1_7 + 1) h
      · replace h := it_t c11 h
        refine j_aload_n d_Sc_scanName_32 rfl 1 rfl ?_
        refine j_get ig_Sc rfl 0 rfl 0 (by decide) rfl m_57 rfl d_Sc_scanName_33 ?_
        refine j_iload_n d_Sc_scanName_36 rfl 0 rfl ?_
        replace h := bd_s h
        obtain ⟨r12, k13, h⟩ := h
        refine j_callV (n := 1) (As := [.int v1_7]) (rest := []) (wr := [(h0, .inr (4, [.ref a_text_h0, .int next_h0, .int kind_h0, .int start_h0, .int width_h0]))]) (c_Rw_at l D cI cB cJ cS a_text_h0 a_bytes_a_text_h0 v1_7 size_a_text_h0 n_a_bytes_a_text_h0 b_a_bytes_a_text_h0  r12 k13) k_Sc_34 (by decide) ⟨Nat.le_of_ble_eq_true rfl, Nat.le_of_ble_eq_true rfl⟩ rfl 0 rfl [1, 2] [0] rfl (by decide) rfl (by decide) (by decide) rfl rfl (Nat.le_of_ble_eq_true rfl) d_Sc_scanName_37 ⟨Nat.le_of_ble_eq_true rfl, Nat.le_of_ble_eq_true rfl⟩ (fun v w hq => ?_)
        obtain ⟨rfl, rfl⟩ := hq
        refine j_norm (pc' := 40) (st' := [.int r12]) (ws' := [(h0, .inr (4, [.ref a_text_h0, .int next_h0, .int kind_h0, .int start_h0, .int width_h0])), (a_text_h0, .inr (3, [.ref a_bytes_a_text_h0, .int size_a_text_h0])), (a_bytes_a_text_h0, .inl (cB, n_a_bytes_a_text_h0, .inl b_a_bytes_a_text_h0))]) (cl' := 0) (sl' := 0) rfl rfl rfl rfl rfl rfl ?_
        obtain ⟨r14, k16⟩ : ∃ z, (F_Sc_isDigit r12) = z := ⟨_, rfl⟩
        replace h := nm_at k16 h
        refine j_callS (n := 1) (As := [.int r12]) (rest := []) (wr := [(h0, .inr (4, [.ref a_text_h0, .int next_h0, .int kind_h0, .int start_h0, .int width_h0])), (a_text_h0, .inr (3, [.ref a_bytes_a_text_h0, .int size_a_text_h0])), (a_bytes_a_text_h0, .inl (cB, n_a_bytes_a_text_h0, .inl b_a_bytes_a_text_h0))]) (c_Sc_isDigit l D cI cB cJ cS r12  r14 k16) k_Sc_45 (by decide) ⟨Nat.le_of_ble_eq_true rfl, Nat.le_of_ble_eq_true rfl⟩ [] [0, 1, 2] rfl (by decide) rfl (by decide) (by decide) rfl rfl (Nat.le_of_ble_eq_true rfl) d_Sc_scanName_40 ⟨Nat.le_of_ble_eq_true rfl, Nat.le_of_ble_eq_true rfl⟩ (fun v w hq => ?_)
        obtain ⟨rfl, z15, rfl⟩ := hq
        refine j_norm (pc' := 43) (st' := [.int r14]) (ws' := [(h0, .inr (4, [.ref a_text_h0, .int next_h0, .int kind_h0, .int start_h0, .int width_h0])), (a_text_h0, .inr (3, [.ref a_bytes_a_text_h0, .int size_a_text_h0])), (a_bytes_a_text_h0, .inl (cB, n_a_bytes_a_text_h0, .inl b_a_bytes_a_text_h0))]) (cl' := 0) (sl' := 0) rfl rfl rfl rfl rfl rfl ?_
        refine j_if_ne (tgt := 59) d_Sc_scanName_43 (by decide) (fun c17 => ?_) (fun c17 => ?_)
        · replace h := it_f c17 h
          refine j_iinc (v := v1_7 + 1) (lv' := [(1, .int (v1_7 + 1)), (0, .ref h0)]) d_Sc_scanName_59 0 rfl rfl (by decide) rfl ?_
          refine j_goto (tgt := 7) d_Sc_scanName_62 (by decide) ?_
          refine j_sub (w := [(h0, .inr (4, [.ref a_text_h0, .int next_h0, .int kind_h0, .int start_h0, .int width_h0])), (a_text_h0, .inr (3, [.ref a_bytes_a_text_h0, .int size_a_text_h0])), (a_bytes_a_text_h0, .inl (cB, n_a_bytes_a_text_h0, .inl b_a_bytes_a_text_h0))]) (lv' := [(1, .int (v1_7 + 1)), (0, .ref h0)]) [0, 1, 2] rfl (by decide) [0, 1] rfl ?_
          exact ih_7 (v1_7 + 1) h
        · replace h := it_t c17 h
          refine j_aload_n d_Sc_scanName_46 rfl 1 rfl ?_
          refine j_get ig_Sc rfl 0 rfl 0 (by decide) rfl m_57 rfl d_Sc_scanName_47 ?_
          refine j_iload_n d_Sc_scanName_50 rfl 0 rfl ?_
          replace h := bd_s h
          obtain ⟨r18, k19, h⟩ := h
          refine j_callV (n := 1) (As := [.int v1_7]) (rest := []) (wr := [(h0, .inr (4, [.ref a_text_h0, .int next_h0, .int kind_h0, .int start_h0, .int width_h0]))]) (c_Rw_at l D cI cB cJ cS a_text_h0 a_bytes_a_text_h0 v1_7 size_a_text_h0 n_a_bytes_a_text_h0 b_a_bytes_a_text_h0  r18 k19) k_Sc_34 (by decide) ⟨Nat.le_of_ble_eq_true rfl, Nat.le_of_ble_eq_true rfl⟩ rfl 0 rfl [1, 2] [0] rfl (by decide) rfl (by decide) (by decide) rfl rfl (Nat.le_of_ble_eq_true rfl) d_Sc_scanName_51 ⟨Nat.le_of_ble_eq_true rfl, Nat.le_of_ble_eq_true rfl⟩ (fun v w hq => ?_)
          obtain ⟨rfl, rfl⟩ := hq
          refine j_norm (pc' := 54) (st' := [.int r18]) (ws' := [(h0, .inr (4, [.ref a_text_h0, .int next_h0, .int kind_h0, .int start_h0, .int width_h0])), (a_text_h0, .inr (3, [.ref a_bytes_a_text_h0, .int size_a_text_h0])), (a_bytes_a_text_h0, .inl (cB, n_a_bytes_a_text_h0, .inl b_a_bytes_a_text_h0))]) (cl' := 0) (sl' := 0) rfl rfl rfl rfl rfl rfl ?_
          refine j_bipush (v := 95) d_Sc_scanName_54 (by decide) ?_
          refine j_icmp_ne (tgt := 65) d_Sc_scanName_56 (by decide) (fun c20 => ?_) (fun c20 => ?_)
          · replace h := it_f c20 h
            refine j_sub (w := [(h0, .inr (4, [.ref a_text_h0, .int next_h0, .int kind_h0, .int start_h0, .int width_h0])), (a_bytes_a_text_h0, .inl (cB, n_a_bytes_a_text_h0, .inl b_a_bytes_a_text_h0)), (a_text_h0, .inr (3, [.ref a_bytes_a_text_h0, .int size_a_text_h0]))]) (lv' := [(1, .int v1_7), (0, .ref h0)]) [0, 2, 1] rfl (by decide) [0, 1] rfl ?_
            exact L_Sc_scanName_65 l D cI cB cJ cS h0 a_text_h0 a_bytes_a_text_h0 next_h0 kind_h0 start_h0 width_h0 size_a_text_h0 n_a_bytes_a_text_h0 b_a_bytes_a_text_h0 o_0_2 o_0_4 p e s m below meth c hr hnm v1_7 h
          · replace h := it_t c20 h
            refine j_iinc (v := v1_7 + 1) (lv' := [(1, .int (v1_7 + 1)), (0, .ref h0)]) d_Sc_scanName_59 0 rfl rfl (by decide) rfl ?_
            refine j_goto (tgt := 7) d_Sc_scanName_62 (by decide) ?_
            refine j_sub (w := [(h0, .inr (4, [.ref a_text_h0, .int next_h0, .int kind_h0, .int start_h0, .int width_h0])), (a_text_h0, .inr (3, [.ref a_bytes_a_text_h0, .int size_a_text_h0])), (a_bytes_a_text_h0, .inl (cB, n_a_bytes_a_text_h0, .inl b_a_bytes_a_text_h0))]) (lv' := [(1, .int (v1_7 + 1)), (0, .ref h0)]) [0, 1, 2] rfl (by decide) [0, 1] rfl ?_
            exact ih_7 (v1_7 + 1) h
set_option maxHeartbeats 4000000 in
set_option maxRecDepth 100000 in
theorem c_Sc_scanName (l : Launch) (D : va_G) (cI cB cJ cS : ClassId) (h0 : Nat) (a_text_h0 : Nat) (a_bytes_a_text_h0 : Nat) (next_h0 : Int32) (kind_h0 : Int32) (start_h0 : Int32) (width_h0 : Int32) (size_a_text_h0 : Int32) (n_a_bytes_a_text_h0 : Nat) (b_a_bytes_a_text_h0 : Nat → Int32) (o_0_2 : Int32) (o_0_4 : Int32) (h : F_Sc_scanName next_h0 kind_h0 start_h0 width_h0 size_a_text_h0 n_a_bytes_a_text_h0 b_a_bytes_a_text_h0 = some (o_0_2, o_0_4)) : Ct l D (gT cI cB cJ cS) y_Sc_scanName prog_8_method_12_code 2 (Option.none : Option Jvm.ClassFile.FieldType) 6 127 0 0 [.ref h0] [(h0, .inr (4, [.ref a_text_h0, .int next_h0, .int kind_h0, .int start_h0, .int width_h0])), (a_text_h0, .inr (3, [.ref a_bytes_a_text_h0, .int size_a_text_h0])), (a_bytes_a_text_h0, .inl (cB, n_a_bytes_a_text_h0, .inl b_a_bytes_a_text_h0))] (fun v w => v = none ∧ w = [(h0, .inr (4, [.ref a_text_h0, .int next_h0, .int o_0_2, .int start_h0, .int o_0_4])), (a_text_h0, .inr (3, [.ref a_bytes_a_text_h0, .int size_a_text_h0])), (a_bytes_a_text_h0, .inl (cB, n_a_bytes_a_text_h0, .inl b_a_bytes_a_text_h0))]) := by
  refine Ct.mk (by decide) (Nat.le_of_ble_eq_true rfl) ?_
  intro p e s m below meth c hr hnm
  refine j_norm (pc' := 0) (lv' := [(0, .ref h0)]) (st' := []) (ws' := [(h0, .inr (4, [.ref a_text_h0, .int next_h0, .int kind_h0, .int start_h0, .int width_h0])), (a_text_h0, .inr (3, [.ref a_bytes_a_text_h0, .int size_a_text_h0])), (a_bytes_a_text_h0, .inl (cB, n_a_bytes_a_text_h0, .inl b_a_bytes_a_text_h0))]) (cl' := 0) (sl' := 0) rfl rfl rfl rfl rfl rfl ?_
  unfold F_Sc_scanName at h
  refine j_aload_n d_Sc_scanName_0 rfl 0 rfl ?_
  refine j_get ig_Sc rfl 0 rfl 3 (by decide) rfl m_60 rfl d_Sc_scanName_1 ?_
  refine j_iconst (v := 1) d_Sc_scanName_4 (by decide) ?_
  refine j_iadd d_Sc_scanName_5 ?_
  refine j_istore_n (lv' := [(1, .int (start_h0 + 1)), (0, .ref h0)]) d_Sc_scanName_6 rfl (by decide) rfl ?_
  refine j_sub (w := [(h0, .inr (4, [.ref a_text_h0, .int next_h0, .int kind_h0, .int start_h0, .int width_h0])), (a_text_h0, .inr (3, [.ref a_bytes_a_text_h0, .int size_a_text_h0])), (a_bytes_a_text_h0, .inl (cB, n_a_bytes_a_text_h0, .inl b_a_bytes_a_text_h0))]) (lv' := [(1, .int (start_h0 + 1)), (0, .ref h0)]) [0, 1, 2] rfl (by decide) [0, 1] rfl ?_
  exact L_Sc_scanName_7 l D cI cB cJ cS h0 a_text_h0 a_bytes_a_text_h0 next_h0 kind_h0 start_h0 width_h0 size_a_text_h0 n_a_bytes_a_text_h0 b_a_bytes_a_text_h0 o_0_2 o_0_4 p e s m below meth c hr hnm FU (start_h0 + 1) h
def F_Sc_scanNumeral_114 (next_h0 : Int32) (kind_h0 : Int32) (start_h0 : Int32) (size_a_text_h0 : Int32) (n_a_bytes_a_text_h0 : Nat) (b_a_bytes_a_text_h0 : Nat → Int32) (v2_114 : Int32) (v1_114 : Int32) : Option (Int32 × Int32) :=
    Option.bind (F_Sc_isFinite v2_114 v1_114 next_h0 kind_h0 start_h0 (v1_114 - start_h0) size_a_text_h0 n_a_bytes_a_text_h0 b_a_bytes_a_text_h0) fun r1 =>
    if r1 = 0 then (some (1, (v1_114 - start_h0)))
    else (some (3, (v1_114 - start_h0)))
def F_Sc_scanNumeral_90 (next_h0 : Int32) (kind_h0 : Int32) (start_h0 : Int32) (width_h0 : Int32) (size_a_text_h0 : Int32) (n_a_bytes_a_text_h0 : Nat) (b_a_bytes_a_text_h0 : Nat → Int32) (v3_90 : Int32) (v2_90 : Int32) (v1_90 : Int32) (t0_90 : Int32) : Option (Int32 × Int32) :=
    Option.bind (F_Sc_digitsEnd t0_90 next_h0 kind_h0 start_h0 width_h0 size_a_text_h0 n_a_bytes_a_text_h0 b_a_bytes_a_text_h0) fun r5 =>
    if r5 ≤ t0_90 then (F_Sc_scanNumeral_114 next_h0 kind_h0 start_h0 size_a_text_h0 n_a_bytes_a_text_h0 b_a_bytes_a_text_h0   v2_90 v1_90)
    else (F_Sc_scanNumeral_114 next_h0 kind_h0 start_h0 size_a_text_h0 n_a_bytes_a_text_h0 b_a_bytes_a_text_h0   v2_90 r5)
def F_Sc_scanNumeral_43 (next_h0 : Int32) (kind_h0 : Int32) (start_h0 : Int32) (width_h0 : Int32) (size_a_text_h0 : Int32) (n_a_bytes_a_text_h0 : Nat) (b_a_bytes_a_text_h0 : Nat → Int32) (v1_43 : Int32) : Option (Int32 × Int32) :=
    Option.bind (F_Rw_at v1_43 size_a_text_h0 n_a_bytes_a_text_h0 b_a_bytes_a_text_h0) fun r8 =>
    if r8 = 101 then (Option.bind (F_Rw_at (v1_43 + 1) size_a_text_h0 n_a_bytes_a_text_h0 b_a_bytes_a_text_h0) fun r11 =>
      if r11 = 43 then (F_Sc_scanNumeral_90 next_h0 kind_h0 start_h0 width_h0 size_a_text_h0 n_a_bytes_a_text_h0 b_a_bytes_a_text_h0   r11 v1_43 v1_43 (v1_43 + 2))
      else if r11 = 45 then (F_Sc_scanNumeral_90 next_h0 kind_h0 start_h0 width_h0 size_a_text_h0 n_a_bytes_a_text_h0 b_a_bytes_a_text_h0   r11 v1_43 v1_43 (v1_43 + 2))
      else (F_Sc_scanNumeral_90 next_h0 kind_h0 start_h0 width_h0 size_a_text_h0 n_a_bytes_a_text_h0 b_a_bytes_a_text_h0   r11 v1_43 v1_43 (v1_43 + 1)))
    else (F_Sc_scanNumeral_114 next_h0 kind_h0 start_h0 size_a_text_h0 n_a_bytes_a_text_h0 b_a_bytes_a_text_h0   v1_43 v1_43)
def F_Sc_scanNumeral (next_h0 : Int32) (kind_h0 : Int32) (start_h0 : Int32) (width_h0 : Int32) (size_a_text_h0 : Int32) (n_a_bytes_a_text_h0 : Nat) (b_a_bytes_a_text_h0 : Nat → Int32) : Option (Int32 × Int32) :=
  Option.bind (F_Sc_digitsEnd start_h0 next_h0 kind_h0 start_h0 width_h0 size_a_text_h0 n_a_bytes_a_text_h0 b_a_bytes_a_text_h0) fun r15 =>
  Option.bind (F_Rw_at r15 size_a_text_h0 n_a_bytes_a_text_h0 b_a_bytes_a_text_h0) fun r17 =>
  if r17 = 46 then (Option.bind (F_Sc_digitsEnd (r15 + 1) next_h0 kind_h0 start_h0 width_h0 size_a_text_h0 n_a_bytes_a_text_h0 b_a_bytes_a_text_h0) fun r20 =>
    if r20 ≤ (r15 + 1) then (F_Sc_scanNumeral_43 next_h0 kind_h0 start_h0 width_h0 size_a_text_h0 n_a_bytes_a_text_h0 b_a_bytes_a_text_h0   r15)
    else (F_Sc_scanNumeral_43 next_h0 kind_h0 start_h0 width_h0 size_a_text_h0 n_a_bytes_a_text_h0 b_a_bytes_a_text_h0   r20))
  else (F_Sc_scanNumeral_43 next_h0 kind_h0 start_h0 width_h0 size_a_text_h0 n_a_bytes_a_text_h0 b_a_bytes_a_text_h0   r15)
theorem d_Sc_scanNumeral_0 : decode prog_8_method_16_code 0 = .ok (.aload_n 0, 1) := by decide +kernel
theorem d_Sc_scanNumeral_1 : decode prog_8_method_16_code 1 = .ok (.aload_n 0, 1) := by decide +kernel
theorem d_Sc_scanNumeral_2 : decode prog_8_method_16_code 2 = .ok (.getfield 25, 3) := by decide +kernel
theorem d_Sc_scanNumeral_5 : decode prog_8_method_16_code 5 = .ok (.invokevirtual 106, 3) := by decide +kernel
theorem d_Sc_scanNumeral_8 : decode prog_8_method_16_code 8 = .ok (.istore_n 1, 1) := by decide +kernel
theorem d_Sc_scanNumeral_9 : decode prog_8_method_16_code 9 = .ok (.aload_n 0, 1) := by decide +kernel
theorem d_Sc_scanNumeral_10 : decode prog_8_method_16_code 10 = .ok (.getfield 12, 3) := by decide +kernel
theorem d_Sc_scanNumeral_13 : decode prog_8_method_16_code 13 = .ok (.iload_n 1, 1) := by decide +kernel
theorem d_Sc_scanNumeral_14 : decode prog_8_method_16_code 14 = .ok (.invokevirtual 34, 3) := by decide +kernel
theorem d_Sc_scanNumeral_17 : decode prog_8_method_16_code 17 = .ok (.bipush 46, 2) := by decide +kernel
theorem d_Sc_scanNumeral_19 : decode prog_8_method_16_code 19 = .ok (.if_icmp .ne 24, 3) := by decide +kernel
theorem d_Sc_scanNumeral_22 : decode prog_8_method_16_code 22 = .ok (.aload_n 0, 1) := by decide +kernel
theorem d_Sc_scanNumeral_23 : decode prog_8_method_16_code 23 = .ok (.iload_n 1, 1) := by decide +kernel
theorem d_Sc_scanNumeral_24 : decode prog_8_method_16_code 24 = .ok (.iconst 1, 1) := by decide +kernel
theorem d_Sc_scanNumeral_25 : decode prog_8_method_16_code 25 = .ok (.iadd, 1) := by decide +kernel
theorem d_Sc_scanNumeral_26 : decode prog_8_method_16_code 26 = .ok (.invokevirtual 106, 3) := by decide +kernel
theorem d_Sc_scanNumeral_29 : decode prog_8_method_16_code 29 = .ok (.istore_n 2, 1) := by decide +kernel
theorem d_Sc_scanNumeral_30 : decode prog_8_method_16_code 30 = .ok (.iload_n 2, 1) := by decide +kernel
theorem d_Sc_scanNumeral_31 : decode prog_8_method_16_code 31 = .ok (.iload_n 1, 1) := by decide +kernel
theorem d_Sc_scanNumeral_32 : decode prog_8_method_16_code 32 = .ok (.iconst 1, 1) := by decide +kernel
theorem d_Sc_scanNumeral_33 : decode prog_8_method_16_code 33 = .ok (.iadd, 1) := by decide +kernel
theorem d_Sc_scanNumeral_34 : decode prog_8_method_16_code 34 = .ok (.if_icmp .le 7, 3) := by decide +kernel
theorem d_Sc_scanNumeral_37 : decode prog_8_method_16_code 37 = .ok (.iload_n 2, 1) := by decide +kernel
theorem d_Sc_scanNumeral_38 : decode prog_8_method_16_code 38 = .ok (.goto 4, 3) := by decide +kernel
theorem d_Sc_scanNumeral_41 : decode prog_8_method_16_code 41 = .ok (.iload_n 1, 1) := by decide +kernel
theorem d_Sc_scanNumeral_42 : decode prog_8_method_16_code 42 = .ok (.istore_n 1, 1) := by decide +kernel
theorem d_Sc_scanNumeral_43 : decode prog_8_method_16_code 43 = .ok (.iload_n 1, 1) := by decide +kernel
theorem d_Sc_scanNumeral_44 : decode prog_8_method_16_code 44 = .ok (.istore_n 2, 1) := by decide +kernel
theorem d_Sc_scanNumeral_45 : decode prog_8_method_16_code 45 = .ok (.aload_n 0, 1) := by decide +kernel
theorem d_Sc_scanNumeral_46 : decode prog_8_method_16_code 46 = .ok (.getfield 12, 3) := by decide +kernel
theorem d_Sc_scanNumeral_49 : decode prog_8_method_16_code 49 = .ok (.iload_n 1, 1) := by decide +kernel
theorem d_Sc_scanNumeral_50 : decode prog_8_method_16_code 50 = .ok (.invokevirtual 34, 3) := by decide +kernel
theorem d_Sc_scanNumeral_53 : decode prog_8_method_16_code 53 = .ok (.bipush 101, 2) := by decide +kernel
theorem d_Sc_scanNumeral_55 : decode prog_8_method_16_code 55 = .ok (.if_icmp .ne 59, 3) := by decide +kernel
theorem d_Sc_scanNumeral_58 : decode prog_8_method_16_code 58 = .ok (.aload_n 0, 1) := by decide +kernel
theorem d_Sc_scanNumeral_59 : decode prog_8_method_16_code 59 = .ok (.getfield 12, 3) := by decide +kernel
theorem d_Sc_scanNumeral_62 : decode prog_8_method_16_code 62 = .ok (.iload_n 1, 1) := by decide +kernel
theorem d_Sc_scanNumeral_63 : decode prog_8_method_16_code 63 = .ok (.iconst 1, 1) := by decide +kernel
theorem d_Sc_scanNumeral_64 : decode prog_8_method_16_code 64 = .ok (.iadd, 1) := by decide +kernel
theorem d_Sc_scanNumeral_65 : decode prog_8_method_16_code 65 = .ok (.invokevirtual 34, 3) := by decide +kernel
theorem d_Sc_scanNumeral_68 : decode prog_8_method_16_code 68 = .ok (.istore_n 3, 1) := by decide +kernel
theorem d_Sc_scanNumeral_69 : decode prog_8_method_16_code 69 = .ok (.iload_n 3, 1) := by decide +kernel
theorem d_Sc_scanNumeral_70 : decode prog_8_method_16_code 70 = .ok (.bipush 43, 2) := by decide +kernel
theorem d_Sc_scanNumeral_72 : decode prog_8_method_16_code 72 = .ok (.if_icmp .eq 9, 3) := by decide +kernel
theorem d_Sc_scanNumeral_75 : decode prog_8_method_16_code 75 = .ok (.iload_n 3, 1) := by decide +kernel
theorem d_Sc_scanNumeral_76 : decode prog_8_method_16_code 76 = .ok (.bipush 45, 2) := by decide +kernel
theorem d_Sc_scanNumeral_78 : decode prog_8_method_16_code 78 = .ok (.if_icmp .ne 9, 3) := by decide +kernel
theorem d_Sc_scanNumeral_81 : decode prog_8_method_16_code 81 = .ok (.iload_n 1, 1) := by decide +kernel
theorem d_Sc_scanNumeral_82 : decode prog_8_method_16_code 82 = .ok (.iconst 2, 1) := by decide +kernel
theorem d_Sc_scanNumeral_83 : decode prog_8_method_16_code 83 = .ok (.iadd, 1) := by decide +kernel
theorem d_Sc_scanNumeral_84 : decode prog_8_method_16_code 84 = .ok (.goto 6, 3) := by decide +kernel
theorem d_Sc_scanNumeral_87 : decode prog_8_method_16_code 87 = .ok (.iload_n 1, 1) := by decide +kernel
theorem d_Sc_scanNumeral_88 : decode prog_8_method_16_code 88 = .ok (.iconst 1, 1) := by decide +kernel
theorem d_Sc_scanNumeral_89 : decode prog_8_method_16_code 89 = .ok (.iadd, 1) := by decide +kernel
theorem d_Sc_scanNumeral_90 : decode prog_8_method_16_code 90 = .ok (.istore 4, 2) := by decide +kernel
theorem d_Sc_scanNumeral_92 : decode prog_8_method_16_code 92 = .ok (.aload_n 0, 1) := by decide +kernel
theorem d_Sc_scanNumeral_93 : decode prog_8_method_16_code 93 = .ok (.iload 4, 2) := by decide +kernel
theorem d_Sc_scanNumeral_95 : decode prog_8_method_16_code 95 = .ok (.invokevirtual 106, 3) := by decide +kernel
theorem d_Sc_scanNumeral_98 : decode prog_8_method_16_code 98 = .ok (.istore 5, 2) := by decide +kernel
theorem d_Sc_scanNumeral_100 : decode prog_8_method_16_code 100 = .ok (.iload 5, 2) := by decide +kernel
theorem d_Sc_scanNumeral_102 : decode prog_8_method_16_code 102 = .ok (.iload 4, 2) := by decide +kernel
theorem d_Sc_scanNumeral_104 : decode prog_8_method_16_code 104 = .ok (.if_icmp .le 8, 3) := by decide +kernel
theorem d_Sc_scanNumeral_107 : decode prog_8_method_16_code 107 = .ok (.iload 5, 2) := by decide +kernel
theorem d_Sc_scanNumeral_109 : decode prog_8_method_16_code 109 = .ok (.goto 4, 3) := by decide +kernel
theorem d_Sc_scanNumeral_112 : decode prog_8_method_16_code 112 = .ok (.iload_n 1, 1) := by decide +kernel
theorem d_Sc_scanNumeral_113 : decode prog_8_method_16_code 113 = .ok (.istore_n 1, 1) := by decide +kernel
theorem d_Sc_scanNumeral_114 : decode prog_8_method_16_code 114 = .ok (.aload_n 0, 1) := by decide +kernel
theorem d_Sc_scanNumeral_115 : decode prog_8_method_16_code 115 = .ok (.iload_n 1, 1) := by decide +kernel
theorem d_Sc_scanNumeral_116 : decode prog_8_method_16_code 116 = .ok (.aload_n 0, 1) := by decide +kernel
theorem d_Sc_scanNumeral_117 : decode prog_8_method_16_code 117 = .ok (.getfield 25, 3) := by decide +kernel
theorem d_Sc_scanNumeral_120 : decode prog_8_method_16_code 120 = .ok (.isub, 1) := by decide +kernel
theorem d_Sc_scanNumeral_121 : decode prog_8_method_16_code 121 = .ok (.putfield 28, 3) := by decide +kernel
theorem d_Sc_scanNumeral_124 : decode prog_8_method_16_code 124 = .ok (.aload_n 0, 1) := by decide +kernel
theorem d_Sc_scanNumeral_125 : decode prog_8_method_16_code 125 = .ok (.aload_n 0, 1) := by decide +kernel
theorem d_Sc_scanNumeral_126 : decode prog_8_method_16_code 126 = .ok (.iload_n 2, 1) := by decide +kernel
theorem d_Sc_scanNumeral_127 : decode prog_8_method_16_code 127 = .ok (.iload_n 1, 1) := by decide +kernel
theorem d_Sc_scanNumeral_128 : decode prog_8_method_16_code 128 = .ok (.invokevirtual 109, 3) := by decide +kernel
theorem d_Sc_scanNumeral_131 : decode prog_8_method_16_code 131 = .ok (.ifCond .eq 7, 3) := by decide +kernel
theorem d_Sc_scanNumeral_134 : decode prog_8_method_16_code 134 = .ok (.iconst 3, 1) := by decide +kernel
theorem d_Sc_scanNumeral_135 : decode prog_8_method_16_code 135 = .ok (.goto 4, 3) := by decide +kernel
theorem d_Sc_scanNumeral_138 : decode prog_8_method_16_code 138 = .ok (.iconst 1, 1) := by decide +kernel
theorem d_Sc_scanNumeral_139 : decode prog_8_method_16_code 139 = .ok (.putfield 22, 3) := by decide +kernel
theorem d_Sc_scanNumeral_142 : decode prog_8_method_16_code 142 = .ok (.return_, 1) := by decide +kernel
set_option maxHeartbeats 4000000 in
set_option maxRecDepth 100000 in
theorem L_Sc_scanNumeral_114 (l : Launch) (D : va_G) (cI cB cJ cS : ClassId) (h0 : Nat) (a_text_h0 : Nat) (a_bytes_a_text_h0 : Nat) (next_h0 : Int32) (kind_h0 : Int32) (start_h0 : Int32) (width_h0 : Int32) (size_a_text_h0 : Int32) (n_a_bytes_a_text_h0 : Nat) (b_a_bytes_a_text_h0 : Nat → Int32) (o_0_2 : Int32) (o_0_4 : Int32) (p : Program) (e : Env) (s : State) (m : MethodId) (below : List Frame) (meth : Method) (c : Code) (hr : meth.sig.returnType = (Option.none : Option Jvm.ClassFile.FieldType)) (hnm : meth.name = y_Sc_scanNumeral.name) : ∀ (v2_114 : Int32) (v1_114 : Int32), F_Sc_scanNumeral_114 next_h0 kind_h0 start_h0 size_a_text_h0 n_a_bytes_a_text_h0 b_a_bytes_a_text_h0   v2_114 v1_114 = some (o_0_2, o_0_4) → J (KxOf p l e { frames := 6, cells := 0, slots := 0, locals := 137 } s m [.ref h0].toArray below meth c D (gT cI cB cJ cS) [(h0, .inr (4, [.ref a_text_h0, .int next_h0, .int kind_h0, .int start_h0, .int width_h0])), (a_text_h0, .inr (3, [.ref a_bytes_a_text_h0, .int size_a_text_h0])), (a_bytes_a_text_h0, .inl (cB, n_a_bytes_a_text_h0, .inl b_a_bytes_a_text_h0))] (fun v w => v = none ∧ w = [(h0, .inr (4, [.ref a_text_h0, .int next_h0, .int o_0_2, .int start_h0, .int o_0_4])), (a_text_h0, .inr (3, [.ref a_bytes_a_text_h0, .int size_a_text_h0])), (a_bytes_a_text_h0, .inl (cB, n_a_bytes_a_text_h0, .inl b_a_bytes_a_text_h0))]) 0 0) prog_8_method_16_code 6 R_Sc 114 [(2, .int v2_114), (1, .int v1_114), (0, .ref h0)] [] [(h0, .inr (4, [.ref a_text_h0, .int next_h0, .int kind_h0, .int start_h0, .int width_h0])), (a_text_h0, .inr (3, [.ref a_bytes_a_text_h0, .int size_a_text_h0])), (a_bytes_a_text_h0, .inl (cB, n_a_bytes_a_text_h0, .inl b_a_bytes_a_text_h0))] 0 0 := by
  intro v2_114 v1_114 h
  unfold F_Sc_scanNumeral_114 at h
  refine j_aload_n d_Sc_scanNumeral_114 rfl 2 rfl ?_
  refine j_iload_n d_Sc_scanNumeral_115 rfl 1 rfl ?_
  refine j_aload_n d_Sc_scanNumeral_116 rfl 2 rfl ?_
  refine j_get ig_Sc rfl 0 rfl 3 (by decide) rfl m_60 rfl d_Sc_scanNumeral_117 ?_
  refine j_isub d_Sc_scanNumeral_120 ?_
  refine j_put (ws' := [(h0, .inr (4, [.ref a_text_h0, .int next_h0, .int kind_h0, .int start_h0, .int (v1_114 - start_h0)])), (a_text_h0, .inr (3, [.ref a_bytes_a_text_h0, .int size_a_text_h0])), (a_bytes_a_text_h0, .inl (cB, n_a_bytes_a_text_h0, .inl b_a_bytes_a_text_h0))]) ig_Sc tk_Sc nm_Sc rfl 0 rfl 4 (by decide) rfl m_61 rfl (tk_Sc 4 (by decide)) rfl rfl (Nat.le_of_ble_eq_true rfl) d_Sc_scanNumeral_121 rfl ?_
  refine j_aload_n d_Sc_scanNumeral_124 rfl 2 rfl ?_
  refine j_aload_n d_Sc_scanNumeral_125 rfl 2 rfl ?_
  refine j_iload_n d_Sc_scanNumeral_126 rfl 0 rfl ?_
  refine j_iload_n d_Sc_scanNumeral_127 rfl 1 rfl ?_
  replace h := bd_s h
  obtain ⟨r1, k3, h⟩ := h
  refine j_callV (n := 2) (As := [.int v2_114, .int v1_114]) (rest := [.ref h0]) (wr := []) (c_Sc_isFinite l D cI cB cJ cS h0 a_text_h0 a_bytes_a_text_h0 v2_114 v1_114 next_h0 kind_h0 start_h0 (v1_114 - start_h0) size_a_text_h0 n_a_bytes_a_text_h0 b_a_bytes_a_text_h0  r1 k3) k_Sc_109 (by decide) ⟨Nat.le_of_ble_eq_true rfl, Nat.le_of_ble_eq_true rfl⟩ rfl 0 rfl [0, 1, 2] [] rfl (by decide) rfl (by decide) (by decide) rfl rfl (Nat.le_of_ble_eq_true rfl) d_Sc_scanNumeral_128 ⟨Nat.le_of_ble_eq_true rfl, Nat.le_of_ble_eq_true rfl⟩ (fun v w hq => ?_)
  obtain ⟨rfl, z2, rfl⟩ := hq
  refine j_norm (pc' := 131) (st' := [.int r1, .ref h0]) (ws' := [(h0, .inr (4, [.ref a_text_h0, .int next_h0, .int kind_h0, .int start_h0, .int (v1_114 - start_h0)])), (a_text_h0, .inr (3, [.ref a_bytes_a_text_h0, .int size_a_text_h0])), (a_bytes_a_text_h0, .inl (cB, n_a_bytes_a_text_h0, .inl b_a_bytes_a_text_h0))]) (cl' := 0) (sl' := 0) rfl rfl rfl rfl rfl rfl ?_
  refine j_if_eq (tgt := 138) d_Sc_scanNumeral_131 (by decide) (fun c4 => ?_) (fun c4 => ?_)
  · replace h := it_t c4 h
    refine j_iconst (v := 1) d_Sc_scanNumeral_138 (by decide) ?_
    refine j_put (ws' := [(h0, .inr (4, [.ref a_text_h0, .int next_h0, .int 1, .int start_h0, .int (v1_114 - start_h0)])), (a_text_h0, .inr (3, [.ref a_bytes_a_text_h0, .int size_a_text_h0])), (a_bytes_a_text_h0, .inl (cB, n_a_bytes_a_text_h0, .inl b_a_bytes_a_text_h0))]) ig_Sc tk_Sc nm_Sc rfl 0 rfl 2 (by decide) rfl m_59 rfl (tk_Sc 2 (by decide)) rfl rfl (Nat.le_of_ble_eq_true rfl) d_Sc_scanNumeral_139 rfl ?_
    replace h := Option.some.inj h
    replace h := Prod.mk.inj h
    obtain ⟨h9, h⟩ := h
    subst h9
    subst h
    exact j_vret (w := [(h0, .inr (4, [.ref a_text_h0, .int next_h0, .int 1, .int start_h0, .int (v1_114 - start_h0)])), (a_text_h0, .inr (3, [.ref a_bytes_a_text_h0, .int size_a_text_h0])), (a_bytes_a_text_h0, .inl (cB, n_a_bytes_a_text_h0, .inl b_a_bytes_a_text_h0))]) hr d_Sc_scanNumeral_142 [0, 1, 2] rfl (by decide) ⟨rfl, rfl⟩
  · replace h := it_f c4 h
    refine j_iconst (v := 3) d_Sc_scanNumeral_134 (by decide) ?_
    refine j_goto (tgt := 139) d_Sc_scanNumeral_135 (by decide) ?_
    refine j_put (ws' := [(h0, .inr (4, [.ref a_text_h0, .int next_h0, .int 3, .int start_h0, .int (v1_114 - start_h0)])), (a_text_h0, .inr (3, [.ref a_bytes_a_text_h0, .int size_a_text_h0])), (a_bytes_a_text_h0, .inl (cB, n_a_bytes_a_text_h0, .inl b_a_bytes_a_text_h0))]) ig_Sc tk_Sc nm_Sc rfl 0 rfl 2 (by decide) rfl m_59 rfl (tk_Sc 2 (by decide)) rfl rfl (Nat.le_of_ble_eq_true rfl) d_Sc_scanNumeral_139 rfl ?_
    replace h := Option.some.inj h
    replace h := Prod.mk.inj h
    obtain ⟨h9, h⟩ := h
    subst h9
    subst h
    exact j_vret (w := [(h0, .inr (4, [.ref a_text_h0, .int next_h0, .int 3, .int start_h0, .int (v1_114 - start_h0)])), (a_text_h0, .inr (3, [.ref a_bytes_a_text_h0, .int size_a_text_h0])), (a_bytes_a_text_h0, .inl (cB, n_a_bytes_a_text_h0, .inl b_a_bytes_a_text_h0))]) hr d_Sc_scanNumeral_142 [0, 1, 2] rfl (by decide) ⟨rfl, rfl⟩
set_option maxHeartbeats 4000000 in
set_option maxRecDepth 100000 in
theorem L_Sc_scanNumeral_90 (l : Launch) (D : va_G) (cI cB cJ cS : ClassId) (h0 : Nat) (a_text_h0 : Nat) (a_bytes_a_text_h0 : Nat) (next_h0 : Int32) (kind_h0 : Int32) (start_h0 : Int32) (width_h0 : Int32) (size_a_text_h0 : Int32) (n_a_bytes_a_text_h0 : Nat) (b_a_bytes_a_text_h0 : Nat → Int32) (o_0_2 : Int32) (o_0_4 : Int32) (p : Program) (e : Env) (s : State) (m : MethodId) (below : List Frame) (meth : Method) (c : Code) (hr : meth.sig.returnType = (Option.none : Option Jvm.ClassFile.FieldType)) (hnm : meth.name = y_Sc_scanNumeral.name) : ∀ (v3_90 : Int32) (v2_90 : Int32) (v1_90 : Int32) (t0_90 : Int32), F_Sc_scanNumeral_90 next_h0 kind_h0 start_h0 width_h0 size_a_text_h0 n_a_bytes_a_text_h0 b_a_bytes_a_text_h0   v3_90 v2_90 v1_90 t0_90 = some (o_0_2, o_0_4) → J (KxOf p l e { frames := 6, cells := 0, slots := 0, locals := 137 } s m [.ref h0].toArray below meth c D (gT cI cB cJ cS) [(h0, .inr (4, [.ref a_text_h0, .int next_h0, .int kind_h0, .int start_h0, .int width_h0])), (a_text_h0, .inr (3, [.ref a_bytes_a_text_h0, .int size_a_text_h0])), (a_bytes_a_text_h0, .inl (cB, n_a_bytes_a_text_h0, .inl b_a_bytes_a_text_h0))] (fun v w => v = none ∧ w = [(h0, .inr (4, [.ref a_text_h0, .int next_h0, .int o_0_2, .int start_h0, .int o_0_4])), (a_text_h0, .inr (3, [.ref a_bytes_a_text_h0, .int size_a_text_h0])), (a_bytes_a_text_h0, .inl (cB, n_a_bytes_a_text_h0, .inl b_a_bytes_a_text_h0))]) 0 0) prog_8_method_16_code 6 R_Sc 90 [(3, .int v3_90), (2, .int v2_90), (1, .int v1_90), (0, .ref h0)] [.int t0_90] [(h0, .inr (4, [.ref a_text_h0, .int next_h0, .int kind_h0, .int start_h0, .int width_h0])), (a_text_h0, .inr (3, [.ref a_bytes_a_text_h0, .int size_a_text_h0])), (a_bytes_a_text_h0, .inl (cB, n_a_bytes_a_text_h0, .inl b_a_bytes_a_text_h0))] 0 0 := by
  intro v3_90 v2_90 v1_90 t0_90 h
  unfold F_Sc_scanNumeral_90 at h
  refine j_istore (lv' := [(4, .int t0_90), (3, .int v3_90), (2, .int v2_90), (1, .int v1_90), (0, .ref h0)]) d_Sc_scanNumeral_90 (by decide) rfl ?_
  refine j_aload_n d_Sc_scanNumeral_92 rfl 4 rfl ?_
  refine j_iload d_Sc_scanNumeral_93 0 rfl ?_
  replace h := bd_s h
  obtain ⟨r5, k6, h⟩ := h
  refine j_callV (n := 1) (As := [.int t0_90]) (rest := []) (wr := []) (c_Sc_digitsEnd l D cI cB cJ cS h0 a_text_h0 a_bytes_a_text_h0 t0_90 next_h0 kind_h0 start_h0 width_h0 size_a_text_h0 n_a_bytes_a_text_h0 b_a_bytes_a_text_h0  r5 k6) k_Sc_106 (by decide) ⟨Nat.le_of_ble_eq_true rfl, Nat.le_of_ble_eq_true rfl⟩ rfl 0 rfl [0, 1, 2] [] rfl (by decide) rfl (by decide) (by decide) rfl rfl (Nat.le_of_ble_eq_true rfl) d_Sc_scanNumeral_95 ⟨Nat.le_of_ble_eq_true rfl, Nat.le_of_ble_eq_true rfl⟩ (fun v w hq => ?_)
  obtain ⟨rfl, rfl⟩ := hq
  refine j_norm (pc' := 98) (st' := [.int r5]) (ws' := [(h0, .inr (4, [.ref a_text_h0, .int next_h0, .int kind_h0, .int start_h0, .int width_h0])), (a_text_h0, .inr (3, [.ref a_bytes_a_text_h0, .int size_a_text_h0])), (a_bytes_a_text_h0, .inl (cB, n_a_bytes_a_text_h0, .inl b_a_bytes_a_text_h0))]) (cl' := 0) (sl' := 0) rfl rfl rfl rfl rfl rfl ?_
  refine j_istore (lv' := [(5, .int r5), (4, .int t0_90), (3, .int v3_90), (2, .int v2_90), (1, .int v1_90), (0, .ref h0)]) d_Sc_scanNumeral_98 (by decide) rfl ?_
  refine j_iload d_Sc_scanNumeral_100 0 rfl ?_
  refine j_iload d_Sc_scanNumeral_102 1 rfl ?_
  refine j_icmp_le (tgt := 112) d_Sc_scanNumeral_104 (by decide) (fun c7 => ?_) (fun c7 => ?_)
  · replace h := it_t c7 h
    refine j_iload_n d_Sc_scanNumeral_112 rfl 4 rfl ?_
    refine j_istore_n (lv' := [(1, .int v1_90), (5, .int r5), (4, .int t0_90), (3, .int v3_90), (2, .int v2_90), (0, .ref h0)]) d_Sc_scanNumeral_113 rfl (by decide) rfl ?_
    refine j_sub (w := [(h0, .inr (4, [.ref a_text_h0, .int next_h0, .int kind_h0, .int start_h0, .int width_h0])), (a_text_h0, .inr (3, [.ref a_bytes_a_text_h0, .int size_a_text_h0])), (a_bytes_a_text_h0, .inl (cB, n_a_bytes_a_text_h0, .inl b_a_bytes_a_text_h0))]) (lv' := [(2, .int v2_90), (1, .int v1_90), (0, .ref h0)]) [0, 1, 2] rfl (by decide) [4, 0, 5] rfl ?_
    exact L_Sc_scanNumeral_114 l D cI cB cJ cS h0 a_text_h0 a_bytes_a_text_h0 next_h0 kind_h0 start_h0 width_h0 size_a_text_h0 n_a_bytes_a_text_h0 b_a_bytes_a_text_h0 o_0_2 o_0_4 p e s m below meth c hr hnm v2_90 v1_90 h
  · replace h := it_f c7 h
    refine j_iload d_Sc_scanNumeral_107 0 rfl ?_
    refine j_goto (tgt := 113) d_Sc_scanNumeral_109 (by decide) ?_
    refine j_istore_n (lv' := [(1, .int r5), (5, .int r5), (4, .int t0_90), (3, .int v3_90), (2, .int v2_90), (0, .ref h0)]) d_Sc_scanNumeral_113 rfl (by decide) rfl ?_
    refine j_sub (w := [(h0, .inr (4, [.ref a_text_h0, .int next_h0, .int kind_h0, .int start_h0, .int width_h0])), (a_text_h0, .inr (3, [.ref a_bytes_a_text_h0, .int size_a_text_h0])), (a_bytes_a_text_h0, .inl (cB, n_a_bytes_a_text_h0, .inl b_a_bytes_a_text_h0))]) (lv' := [(2, .int v2_90), (1, .int r5), (0, .ref h0)]) [0, 1, 2] rfl (by decide) [4, 0, 5] rfl ?_
    exact L_Sc_scanNumeral_114 l D cI cB cJ cS h0 a_text_h0 a_bytes_a_text_h0 next_h0 kind_h0 start_h0 width_h0 size_a_text_h0 n_a_bytes_a_text_h0 b_a_bytes_a_text_h0 o_0_2 o_0_4 p e s m below meth c hr hnm v2_90 r5 h
set_option maxHeartbeats 4000000 in
set_option maxRecDepth 100000 in
theorem L_Sc_scanNumeral_43 (l : Launch) (D : va_G) (cI cB cJ cS : ClassId) (h0 : Nat) (a_text_h0 : Nat) (a_bytes_a_text_h0 : Nat) (next_h0 : Int32) (kind_h0 : Int32) (start_h0 : Int32) (width_h0 : Int32) (size_a_text_h0 : Int32) (n_a_bytes_a_text_h0 : Nat) (b_a_bytes_a_text_h0 : Nat → Int32) (o_0_2 : Int32) (o_0_4 : Int32) (p : Program) (e : Env) (s : State) (m : MethodId) (below : List Frame) (meth : Method) (c : Code) (hr : meth.sig.returnType = (Option.none : Option Jvm.ClassFile.FieldType)) (hnm : meth.name = y_Sc_scanNumeral.name) : ∀ (v1_43 : Int32), F_Sc_scanNumeral_43 next_h0 kind_h0 start_h0 width_h0 size_a_text_h0 n_a_bytes_a_text_h0 b_a_bytes_a_text_h0   v1_43 = some (o_0_2, o_0_4) → J (KxOf p l e { frames := 6, cells := 0, slots := 0, locals := 137 } s m [.ref h0].toArray below meth c D (gT cI cB cJ cS) [(h0, .inr (4, [.ref a_text_h0, .int next_h0, .int kind_h0, .int start_h0, .int width_h0])), (a_text_h0, .inr (3, [.ref a_bytes_a_text_h0, .int size_a_text_h0])), (a_bytes_a_text_h0, .inl (cB, n_a_bytes_a_text_h0, .inl b_a_bytes_a_text_h0))] (fun v w => v = none ∧ w = [(h0, .inr (4, [.ref a_text_h0, .int next_h0, .int o_0_2, .int start_h0, .int o_0_4])), (a_text_h0, .inr (3, [.ref a_bytes_a_text_h0, .int size_a_text_h0])), (a_bytes_a_text_h0, .inl (cB, n_a_bytes_a_text_h0, .inl b_a_bytes_a_text_h0))]) 0 0) prog_8_method_16_code 6 R_Sc 43 [(1, .int v1_43), (0, .ref h0)] [] [(h0, .inr (4, [.ref a_text_h0, .int next_h0, .int kind_h0, .int start_h0, .int width_h0])), (a_text_h0, .inr (3, [.ref a_bytes_a_text_h0, .int size_a_text_h0])), (a_bytes_a_text_h0, .inl (cB, n_a_bytes_a_text_h0, .inl b_a_bytes_a_text_h0))] 0 0 := by
  intro v1_43 h
  unfold F_Sc_scanNumeral_43 at h
  refine j_iload_n d_Sc_scanNumeral_43 rfl 0 rfl ?_
  refine j_istore_n (lv' := [(2, .int v1_43), (1, .int v1_43), (0, .ref h0)]) d_Sc_scanNumeral_44 rfl (by decide) rfl ?_
  refine j_aload_n d_Sc_scanNumeral_45 rfl 2 rfl ?_
  refine j_get ig_Sc rfl 0 rfl 0 (by decide) rfl m_57 rfl d_Sc_scanNumeral_46 ?_
  refine j_iload_n d_Sc_scanNumeral_49 rfl 1 rfl ?_
  replace h := bd_s h
  obtain ⟨r8, k9, h⟩ := h
  refine j_callV (n := 1) (As := [.int v1_43]) (rest := []) (wr := [(h0, .inr (4, [.ref a_text_h0, .int next_h0, .int kind_h0, .int start_h0, .int width_h0]))]) (c_Rw_at l D cI cB cJ cS a_text_h0 a_bytes_a_text_h0 v1_43 size_a_text_h0 n_a_bytes_a_text_h0 b_a_bytes_a_text_h0  r8 k9) k_Sc_34 (by decide) ⟨Nat.le_of_ble_eq_true rfl, Nat.le_of_ble_eq_true rfl⟩ rfl 0 rfl [1, 2] [0] rfl (by decide) rfl (by decide) (by decide) rfl rfl (Nat.le_of_ble_eq_true rfl) d_Sc_scanNumeral_50 ⟨Nat.le_of_ble_eq_true rfl, Nat.le_of_ble_eq_true rfl⟩ (fun v w hq => ?_)
  obtain ⟨rfl, rfl⟩ := hq
  refine j_norm (pc' := 53) (st' := [.int r8]) (ws' := [(h0, .inr (4, [.ref a_text_h0, .int next_h0, .int kind_h0, .int start_h0, .int width_h0])), (a_text_h0, .inr (3, [.ref a_bytes_a_text_h0, .int size_a_text_h0])), (a_bytes_a_text_h0, .inl (cB, n_a_bytes_a_text_h0, .inl b_a_bytes_a_text_h0))]) (cl' := 0) (sl' := 0) rfl rfl rfl rfl rfl rfl ?_
  refine j_bipush (v := 101) d_Sc_scanNumeral_53 (by decide) ?_
  refine j_icmp_ne (tgt := 114) d_Sc_scanNumeral_55 (by decide) (fun c10 => ?_) (fun c10 => ?_)
  · replace h := it_f c10 h
    refine j_sub (w := [(h0, .inr (4, [.ref a_text_h0, .int next_h0, .int kind_h0, .int start_h0, .int width_h0])), (a_text_h0, .inr (3, [.ref a_bytes_a_text_h0, .int size_a_text_h0])), (a_bytes_a_text_h0, .inl (cB, n_a_bytes_a_text_h0, .inl b_a_bytes_a_text_h0))]) (lv' := [(2, .int v1_43), (1, .int v1_43), (0, .ref h0)]) [0, 1, 2] rfl (by decide) [0, 1, 2] rfl ?_
    exact L_Sc_scanNumeral_114 l D cI cB cJ cS h0 a_text_h0 a_bytes_a_text_h0 next_h0 kind_h0 start_h0 width_h0 size_a_text_h0 n_a_bytes_a_text_h0 b_a_bytes_a_text_h0 o_0_2 o_0_4 p e s m below meth c hr hnm v1_43 v1_43 h
  · replace h := it_t c10 h
    refine j_aload_n d_Sc_scanNumeral_58 rfl 2 rfl ?_
    refine j_get ig_Sc rfl 0 rfl 0 (by decide) rfl m_57 rfl d_Sc_scanNumeral_59 ?_
    refine j_iload_n d_Sc_scanNumeral_62 rfl 1 rfl ?_
    refine j_iconst (v := 1) d_Sc_scanNumeral_63 (by decide) ?_
    refine j_iadd d_Sc_scanNumeral_64 ?_
    replace h := bd_s h
    obtain ⟨r11, k12, h⟩ := h
    refine j_callV (n := 1) (As := [.int (v1_43 + 1)]) (rest := []) (wr := [(h0, .inr (4, [.ref a_text_h0, .int next_h0, .int kind_h0, .int start_h0, .int width_h0]))]) (c_Rw_at l D cI cB cJ cS a_text_h0 a_bytes_a_text_h0 (v1_43 + 1) size_a_text_h0 n_a_bytes_a_text_h0 b_a_bytes_a_text_h0  r11 k12) k_Sc_34 (by decide) ⟨Nat.le_of_ble_eq_true rfl, Nat.le_of_ble_eq_true rfl⟩ rfl 0 rfl [1, 2] [0] rfl (by decide) rfl (by decide) (by decide) rfl rfl (Nat.le_of_ble_eq_true rfl) d_Sc_scanNumeral_65 ⟨Nat.le_of_ble_eq_true rfl, Nat.le_of_ble_eq_true rfl⟩ (fun v w hq => ?_)
    obtain ⟨rfl, rfl⟩ := hq
    refine j_norm (pc' := 68) (st' := [.int r11]) (ws' := [(h0, .inr (4, [.ref a_text_h0, .int next_h0, .int kind_h0, .int start_h0, .int width_h0])), (a_text_h0, .inr (3, [.ref a_bytes_a_text_h0, .int size_a_text_h0])), (a_bytes_a_text_h0, .inl (cB, n_a_bytes_a_text_h0, .inl b_a_bytes_a_text_h0))]) (cl' := 0) (sl' := 0) rfl rfl rfl rfl rfl rfl ?_
    refine j_istore_n (lv' := [(3, .int r11), (2, .int v1_43), (1, .int v1_43), (0, .ref h0)]) d_Sc_scanNumeral_68 rfl (by decide) rfl ?_
    refine j_iload_n d_Sc_scanNumeral_69 rfl 0 rfl ?_
    refine j_bipush (v := 43) d_Sc_scanNumeral_70 (by decide) ?_
    refine j_icmp_eq (tgt := 81) d_Sc_scanNumeral_72 (by decide) (fun c13 => ?_) (fun c13 => ?_)
    · replace h := it_t c13 h
      refine j_iload_n d_Sc_scanNumeral_81 rfl 2 rfl ?_
      refine j_iconst (v := 2) d_Sc_scanNumeral_82 (by decide) ?_
      refine j_iadd d_Sc_scanNumeral_83 ?_
      refine j_goto (tgt := 90) d_Sc_scanNumeral_84 (by decide) ?_
      refine j_sub (w := [(h0, .inr (4, [.ref a_text_h0, .int next_h0, .int kind_h0, .int start_h0, .int width_h0])), (a_text_h0, .inr (3, [.ref a_bytes_a_text_h0, .int size_a_text_h0])), (a_bytes_a_text_h0, .inl (cB, n_a_bytes_a_text_h0, .inl b_a_bytes_a_text_h0))]) (lv' := [(3, .int r11), (2, .int v1_43), (1, .int v1_43), (0, .ref h0)]) [0, 1, 2] rfl (by decide) [0, 1, 2, 3] rfl ?_
      exact L_Sc_scanNumeral_90 l D cI cB cJ cS h0 a_text_h0 a_bytes_a_text_h0 next_h0 kind_h0 start_h0 width_h0 size_a_text_h0 n_a_bytes_a_text_h0 b_a_bytes_a_text_h0 o_0_2 o_0_4 p e s m below meth c hr hnm r11 v1_43 v1_43 (v1_43 + 2) h
    · replace h := it_f c13 h
      refine j_iload_n d_Sc_scanNumeral_75 rfl 0 rfl ?_
      refine j_bipush (v := 45) d_Sc_scanNumeral_76 (by decide) ?_
      refine j_icmp_ne (tgt := 87) d_Sc_scanNumeral_78 (by decide) (fun c14 => ?_) (fun c14 => ?_)
      · replace h := it_f c14 h
        refine j_iload_n d_Sc_scanNumeral_87 rfl 2 rfl ?_
        refine j_iconst (v := 1) d_Sc_scanNumeral_88 (by decide) ?_
        refine j_iadd d_Sc_scanNumeral_89 ?_
        refine j_sub (w := [(h0, .inr (4, [.ref a_text_h0, .int next_h0, .int kind_h0, .int start_h0, .int width_h0])), (a_text_h0, .inr (3, [.ref a_bytes_a_text_h0, .int size_a_text_h0])), (a_bytes_a_text_h0, .inl (cB, n_a_bytes_a_text_h0, .inl b_a_bytes_a_text_h0))]) (lv' := [(3, .int r11), (2, .int v1_43), (1, .int v1_43), (0, .ref h0)]) [0, 1, 2] rfl (by decide) [0, 1, 2, 3] rfl ?_
        exact L_Sc_scanNumeral_90 l D cI cB cJ cS h0 a_text_h0 a_bytes_a_text_h0 next_h0 kind_h0 start_h0 width_h0 size_a_text_h0 n_a_bytes_a_text_h0 b_a_bytes_a_text_h0 o_0_2 o_0_4 p e s m below meth c hr hnm r11 v1_43 v1_43 (v1_43 + 1) h
      · replace h := it_t c14 h
        refine j_iload_n d_Sc_scanNumeral_81 rfl 2 rfl ?_
        refine j_iconst (v := 2) d_Sc_scanNumeral_82 (by decide) ?_
        refine j_iadd d_Sc_scanNumeral_83 ?_
        refine j_goto (tgt := 90) d_Sc_scanNumeral_84 (by decide) ?_
        refine j_sub (w := [(h0, .inr (4, [.ref a_text_h0, .int next_h0, .int kind_h0, .int start_h0, .int width_h0])), (a_text_h0, .inr (3, [.ref a_bytes_a_text_h0, .int size_a_text_h0])), (a_bytes_a_text_h0, .inl (cB, n_a_bytes_a_text_h0, .inl b_a_bytes_a_text_h0))]) (lv' := [(3, .int r11), (2, .int v1_43), (1, .int v1_43), (0, .ref h0)]) [0, 1, 2] rfl (by decide) [0, 1, 2, 3] rfl ?_
        exact L_Sc_scanNumeral_90 l D cI cB cJ cS h0 a_text_h0 a_bytes_a_text_h0 next_h0 kind_h0 start_h0 width_h0 size_a_text_h0 n_a_bytes_a_text_h0 b_a_bytes_a_text_h0 o_0_2 o_0_4 p e s m below meth c hr hnm r11 v1_43 v1_43 (v1_43 + 2) h
set_option maxHeartbeats 4000000 in
set_option maxRecDepth 100000 in
theorem c_Sc_scanNumeral (l : Launch) (D : va_G) (cI cB cJ cS : ClassId) (h0 : Nat) (a_text_h0 : Nat) (a_bytes_a_text_h0 : Nat) (next_h0 : Int32) (kind_h0 : Int32) (start_h0 : Int32) (width_h0 : Int32) (size_a_text_h0 : Int32) (n_a_bytes_a_text_h0 : Nat) (b_a_bytes_a_text_h0 : Nat → Int32) (o_0_2 : Int32) (o_0_4 : Int32) (h : F_Sc_scanNumeral next_h0 kind_h0 start_h0 width_h0 size_a_text_h0 n_a_bytes_a_text_h0 b_a_bytes_a_text_h0 = some (o_0_2, o_0_4)) : Ct l D (gT cI cB cJ cS) y_Sc_scanNumeral prog_8_method_16_code 6 (Option.none : Option Jvm.ClassFile.FieldType) 6 137 0 0 [.ref h0] [(h0, .inr (4, [.ref a_text_h0, .int next_h0, .int kind_h0, .int start_h0, .int width_h0])), (a_text_h0, .inr (3, [.ref a_bytes_a_text_h0, .int size_a_text_h0])), (a_bytes_a_text_h0, .inl (cB, n_a_bytes_a_text_h0, .inl b_a_bytes_a_text_h0))] (fun v w => v = none ∧ w = [(h0, .inr (4, [.ref a_text_h0, .int next_h0, .int o_0_2, .int start_h0, .int o_0_4])), (a_text_h0, .inr (3, [.ref a_bytes_a_text_h0, .int size_a_text_h0])), (a_bytes_a_text_h0, .inl (cB, n_a_bytes_a_text_h0, .inl b_a_bytes_a_text_h0))]) := by
  refine Ct.mk (by decide) (Nat.le_of_ble_eq_true rfl) ?_
  intro p e s m below meth c hr hnm
  refine j_norm (pc' := 0) (lv' := [(0, .ref h0)]) (st' := []) (ws' := [(h0, .inr (4, [.ref a_text_h0, .int next_h0, .int kind_h0, .int start_h0, .int width_h0])), (a_text_h0, .inr (3, [.ref a_bytes_a_text_h0, .int size_a_text_h0])), (a_bytes_a_text_h0, .inl (cB, n_a_bytes_a_text_h0, .inl b_a_bytes_a_text_h0))]) (cl' := 0) (sl' := 0) rfl rfl rfl rfl rfl rfl ?_
  unfold F_Sc_scanNumeral at h
  refine j_aload_n d_Sc_scanNumeral_0 rfl 0 rfl ?_
  refine j_aload_n d_Sc_scanNumeral_1 rfl 0 rfl ?_
  refine j_get ig_Sc rfl 0 rfl 3 (by decide) rfl m_60 rfl d_Sc_scanNumeral_2 ?_
  replace h := bd_s h
  obtain ⟨r15, k16, h⟩ := h
  refine j_callV (n := 1) (As := [.int start_h0]) (rest := []) (wr := []) (c_Sc_digitsEnd l D cI cB cJ cS h0 a_text_h0 a_bytes_a_text_h0 start_h0 next_h0 kind_h0 start_h0 width_h0 size_a_text_h0 n_a_bytes_a_text_h0 b_a_bytes_a_text_h0  r15 k16) k_Sc_106 (by decide) ⟨Nat.le_of_ble_eq_true rfl, Nat.le_of_ble_eq_true rfl⟩ rfl 0 rfl [0, 1, 2] [] rfl (by decide) rfl (by decide) (by decide) rfl rfl (Nat.le_of_ble_eq_true rfl) d_Sc_scanNumeral_5 ⟨Nat.le_of_ble_eq_true rfl, Nat.le_of_ble_eq_true rfl⟩ (fun v w hq => ?_)
  obtain ⟨rfl, rfl⟩ := hq
  refine j_norm (pc' := 8) (st' := [.int r15]) (ws' := [(h0, .inr (4, [.ref a_text_h0, .int next_h0, .int kind_h0, .int start_h0, .int width_h0])), (a_text_h0, .inr (3, [.ref a_bytes_a_text_h0, .int size_a_text_h0])), (a_bytes_a_text_h0, .inl (cB, n_a_bytes_a_text_h0, .inl b_a_bytes_a_text_h0))]) (cl' := 0) (sl' := 0) rfl rfl rfl rfl rfl rfl ?_
  refine j_istore_n (lv' := [(1, .int r15), (0, .ref h0)]) d_Sc_scanNumeral_8 rfl (by decide) rfl ?_
  refine j_aload_n d_Sc_scanNumeral_9 rfl 1 rfl ?_
  refine j_get ig_Sc rfl 0 rfl 0 (by decide) rfl m_57 rfl d_Sc_scanNumeral_10 ?_
  refine j_iload_n d_Sc_scanNumeral_13 rfl 0 rfl ?_
  replace h := bd_s h
  obtain ⟨r17, k18, h⟩ := h
  refine j_callV (n := 1) (As := [.int r15]) (rest := []) (wr := [(h0, .inr (4, [.ref a_text_h0, .int next_h0, .int kind_h0, .int start_h0, .int width_h0]))]) (c_Rw_at l D cI cB cJ cS a_text_h0 a_bytes_a_text_h0 r15 size_a_text_h0 n_a_bytes_a_text_h0 b_a_bytes_a_text_h0  r17 k18) k_Sc_34 (by decide) ⟨Nat.le_of_ble_eq_true rfl, Nat.le_of_ble_eq_true rfl⟩ rfl 0 rfl [1, 2] [0] rfl (by decide) rfl (by decide) (by decide) rfl rfl (Nat.le_of_ble_eq_true rfl) d_Sc_scanNumeral_14 ⟨Nat.le_of_ble_eq_true rfl, Nat.le_of_ble_eq_true rfl⟩ (fun v w hq => ?_)
  obtain ⟨rfl, rfl⟩ := hq
  refine j_norm (pc' := 17) (st' := [.int r17]) (ws' := [(h0, .inr (4, [.ref a_text_h0, .int next_h0, .int kind_h0, .int start_h0, .int width_h0])), (a_text_h0, .inr (3, [.ref a_bytes_a_text_h0, .int size_a_text_h0])), (a_bytes_a_text_h0, .inl (cB, n_a_bytes_a_text_h0, .inl b_a_bytes_a_text_h0))]) (cl' := 0) (sl' := 0) rfl rfl rfl rfl rfl rfl ?_
  refine j_bipush (v := 46) d_Sc_scanNumeral_17 (by decide) ?_
  refine j_icmp_ne (tgt := 43) d_Sc_scanNumeral_19 (by decide) (fun c19 => ?_) (fun c19 => ?_)
  · replace h := it_f c19 h
    refine j_sub (w := [(h0, .inr (4, [.ref a_text_h0, .int next_h0, .int kind_h0, .int start_h0, .int width_h0])), (a_text_h0, .inr (3, [.ref a_bytes_a_text_h0, .int size_a_text_h0])), (a_bytes_a_text_h0, .inl (cB, n_a_bytes_a_text_h0, .inl b_a_bytes_a_text_h0))]) (lv' := [(1, .int r15), (0, .ref h0)]) [0, 1, 2] rfl (by decide) [0, 1] rfl ?_
    exact L_Sc_scanNumeral_43 l D cI cB cJ cS h0 a_text_h0 a_bytes_a_text_h0 next_h0 kind_h0 start_h0 width_h0 size_a_text_h0 n_a_bytes_a_text_h0 b_a_bytes_a_text_h0 o_0_2 o_0_4 p e s m below meth c hr hnm r15 h
  · replace h := it_t c19 h
    refine j_aload_n d_Sc_scanNumeral_22 rfl 1 rfl ?_
    refine j_iload_n d_Sc_scanNumeral_23 rfl 0 rfl ?_
    refine j_iconst (v := 1) d_Sc_scanNumeral_24 (by decide) ?_
    refine j_iadd d_Sc_scanNumeral_25 ?_
    replace h := bd_s h
    obtain ⟨r20, k21, h⟩ := h
    refine j_callV (n := 1) (As := [.int (r15 + 1)]) (rest := []) (wr := []) (c_Sc_digitsEnd l D cI cB cJ cS h0 a_text_h0 a_bytes_a_text_h0 (r15 + 1) next_h0 kind_h0 start_h0 width_h0 size_a_text_h0 n_a_bytes_a_text_h0 b_a_bytes_a_text_h0  r20 k21) k_Sc_106 (by decide) ⟨Nat.le_of_ble_eq_true rfl, Nat.le_of_ble_eq_true rfl⟩ rfl 0 rfl [0, 1, 2] [] rfl (by decide) rfl (by decide) (by decide) rfl rfl (Nat.le_of_ble_eq_true rfl) d_Sc_scanNumeral_26 ⟨Nat.le_of_ble_eq_true rfl, Nat.le_of_ble_eq_true rfl⟩ (fun v w hq => ?_)
    obtain ⟨rfl, rfl⟩ := hq
    refine j_norm (pc' := 29) (st' := [.int r20]) (ws' := [(h0, .inr (4, [.ref a_text_h0, .int next_h0, .int kind_h0, .int start_h0, .int width_h0])), (a_text_h0, .inr (3, [.ref a_bytes_a_text_h0, .int size_a_text_h0])), (a_bytes_a_text_h0, .inl (cB, n_a_bytes_a_text_h0, .inl b_a_bytes_a_text_h0))]) (cl' := 0) (sl' := 0) rfl rfl rfl rfl rfl rfl ?_
    refine j_istore_n (lv' := [(2, .int r20), (1, .int r15), (0, .ref h0)]) d_Sc_scanNumeral_29 rfl (by decide) rfl ?_
    refine j_iload_n d_Sc_scanNumeral_30 rfl 0 rfl ?_
    refine j_iload_n d_Sc_scanNumeral_31 rfl 1 rfl ?_
    refine j_iconst (v := 1) d_Sc_scanNumeral_32 (by decide) ?_
    refine j_iadd d_Sc_scanNumeral_33 ?_
    refine j_icmp_le (tgt := 41) d_Sc_scanNumeral_34 (by decide) (fun c22 => ?_) (fun c22 => ?_)
    · replace h := it_t c22 h
      refine j_iload_n d_Sc_scanNumeral_41 rfl 1 rfl ?_
      refine j_istore_n (lv' := [(1, .int r15), (2, .int r20), (0, .ref h0)]) d_Sc_scanNumeral_42 rfl (by decide) rfl ?_
      refine j_sub (w := [(h0, .inr (4, [.ref a_text_h0, .int next_h0, .int kind_h0, .int start_h0, .int width_h0])), (a_text_h0, .inr (3, [.ref a_bytes_a_text_h0, .int size_a_text_h0])), (a_bytes_a_text_h0, .inl (cB, n_a_bytes_a_text_h0, .inl b_a_bytes_a_text_h0))]) (lv' := [(1, .int r15), (0, .ref h0)]) [0, 1, 2] rfl (by decide) [0, 2] rfl ?_
      exact L_Sc_scanNumeral_43 l D cI cB cJ cS h0 a_text_h0 a_bytes_a_text_h0 next_h0 kind_h0 start_h0 width_h0 size_a_text_h0 n_a_bytes_a_text_h0 b_a_bytes_a_text_h0 o_0_2 o_0_4 p e s m below meth c hr hnm r15 h
    · replace h := it_f c22 h
      refine j_iload_n d_Sc_scanNumeral_37 rfl 0 rfl ?_
      refine j_goto (tgt := 42) d_Sc_scanNumeral_38 (by decide) ?_
      refine j_istore_n (lv' := [(1, .int r20), (2, .int r20), (0, .ref h0)]) d_Sc_scanNumeral_42 rfl (by decide) rfl ?_
      refine j_sub (w := [(h0, .inr (4, [.ref a_text_h0, .int next_h0, .int kind_h0, .int start_h0, .int width_h0])), (a_text_h0, .inr (3, [.ref a_bytes_a_text_h0, .int size_a_text_h0])), (a_bytes_a_text_h0, .inl (cB, n_a_bytes_a_text_h0, .inl b_a_bytes_a_text_h0))]) (lv' := [(1, .int r20), (0, .ref h0)]) [0, 1, 2] rfl (by decide) [0, 2] rfl ?_
      exact L_Sc_scanNumeral_43 l D cI cB cJ cS h0 a_text_h0 a_bytes_a_text_h0 next_h0 kind_h0 start_h0 width_h0 size_a_text_h0 n_a_bytes_a_text_h0 b_a_bytes_a_text_h0 o_0_2 o_0_4 p e s m below meth c hr hnm r20 h
noncomputable def F_Wr_leave (p1 : Int32) (indent_h0 : Int32) (fits_h0 : Int32) (count_a_tree_h0 : Int32) (n_a_cells_a_tree_h0 : Nat) (b_a_cells_a_tree_h0 : Nat → Int32) (size_a_form_h0 : Int32) (n_a_bytes_a_form_h0 : Nat) (b_a_bytes_a_form_h0 : Nat → Int32) (size_a_source_h0 : Int32) (n_a_bytes_a_source_h0 : Nat) (b_a_bytes_a_source_h0 : Nat → Int32) : Option ((Int32 × Int32 × Int32 × Nat × (Nat → Int32)) × Nat × Nat) :=
  Option.bind (F_Nd_get p1 6 count_a_tree_h0 n_a_cells_a_tree_h0 b_a_cells_a_tree_h0) fun r1 =>
  bw (F_Wr_finish p1 indent_h0 fits_h0 count_a_tree_h0 n_a_cells_a_tree_h0 b_a_cells_a_tree_h0 size_a_form_h0 n_a_bytes_a_form_h0 b_a_bytes_a_form_h0) fun ⟨r3, r4, r5, r6, r7⟩ =>
  Option.bind (F_Wr_needsBrackets r1 p1 r3 r4 count_a_tree_h0 n_a_cells_a_tree_h0 b_a_cells_a_tree_h0 size_a_source_h0 n_a_bytes_a_source_h0 b_a_bytes_a_source_h0) fun r14 =>
  if r14 = 0 then (bw (F_Wr_trail r1 p1 r3 r4 count_a_tree_h0 n_a_cells_a_tree_h0 b_a_cells_a_tree_h0 r5 r6 r7 size_a_source_h0 n_a_bytes_a_source_h0 b_a_bytes_a_source_h0) fun ⟨r18, r19, r20, r21⟩ =>
    (some ((r3, r18, r19, r20, r21), 0, 0)))
  else (bw (F_Wr_put 34 r3 r4 r5 r6 r7) fun ⟨r28, r29, r30, r31⟩ =>
    bw (F_Wr_trail r1 p1 r3 r28 count_a_tree_h0 n_a_cells_a_tree_h0 b_a_cells_a_tree_h0 r29 r30 r31 size_a_source_h0 n_a_bytes_a_source_h0 b_a_bytes_a_source_h0) fun ⟨r38, r39, r40, r41⟩ =>
    (some ((r3, r38, r39, r40, r41), 0, 0)))
theorem d_Wr_leave_0 : decode prog_10_method_8_code 0 = .ok (.aload_n 0, 1) := by decide +kernel
theorem d_Wr_leave_1 : decode prog_10_method_8_code 1 = .ok (.getfield 10, 3) := by decide +kernel
theorem d_Wr_leave_4 : decode prog_10_method_8_code 4 = .ok (.iload_n 1, 1) := by decide +kernel
theorem d_Wr_leave_5 : decode prog_10_method_8_code 5 = .ok (.bipush 6, 2) := by decide +kernel
theorem d_Wr_leave_7 : decode prog_10_method_8_code 7 = .ok (.invokevirtual 52, 3) := by decide +kernel
theorem d_Wr_leave_10 : decode prog_10_method_8_code 10 = .ok (.istore_n 2, 1) := by decide +kernel
theorem d_Wr_leave_11 : decode prog_10_method_8_code 11 = .ok (.aload_n 0, 1) := by decide +kernel
theorem d_Wr_leave_12 : decode prog_10_method_8_code 12 = .ok (.iload_n 1, 1) := by decide +kernel
theorem d_Wr_leave_13 : decode prog_10_method_8_code 13 = .ok (.invokevirtual 97, 3) := by decide +kernel
theorem d_Wr_leave_16 : decode prog_10_method_8_code 16 = .ok (.aload_n 0, 1) := by decide +kernel
theorem d_Wr_leave_17 : decode prog_10_method_8_code 17 = .ok (.iload_n 2, 1) := by decide +kernel
theorem d_Wr_leave_18 : decode prog_10_method_8_code 18 = .ok (.iload_n 1, 1) := by decide +kernel
theorem d_Wr_leave_19 : decode prog_10_method_8_code 19 = .ok (.invokevirtual 88, 3) := by decide +kernel
theorem d_Wr_leave_22 : decode prog_10_method_8_code 22 = .ok (.ifCond .eq 9, 3) := by decide +kernel
theorem d_Wr_leave_25 : decode prog_10_method_8_code 25 = .ok (.aload_n 0, 1) := by decide +kernel
theorem d_Wr_leave_26 : decode prog_10_method_8_code 26 = .ok (.ldc 100, 2) := by decide +kernel
theorem d_Wr_leave_28 : decode prog_10_method_8_code 28 = .ok (.invokevirtual 77, 3) := by decide +kernel
theorem d_Wr_leave_31 : decode prog_10_method_8_code 31 = .ok (.aload_n 0, 1) := by decide +kernel
theorem d_Wr_leave_32 : decode prog_10_method_8_code 32 = .ok (.iload_n 2, 1) := by decide +kernel
theorem d_Wr_leave_33 : decode prog_10_method_8_code 33 = .ok (.iload_n 1, 1) := by decide +kernel
theorem d_Wr_leave_34 : decode prog_10_method_8_code 34 = .ok (.invokevirtual 102, 3) := by decide +kernel
theorem d_Wr_leave_37 : decode prog_10_method_8_code 37 = .ok (.return_, 1) := by decide +kernel
set_option maxHeartbeats 4000000 in
set_option maxRecDepth 100000 in
theorem c_Wr_leave (l : Launch) (D : va_G) (cI cB cJ cS : ClassId) (h0 : Nat) (a_tree_h0 : Nat) (a_source_h0 : Nat) (a_form_h0 : Nat) (a_cells_a_tree_h0 : Nat) (a_bytes_a_form_h0 : Nat) (a_bytes_a_source_h0 : Nat) (p1 : Int32) (indent_h0 : Int32) (fits_h0 : Int32) (count_a_tree_h0 : Int32) (n_a_cells_a_tree_h0 : Nat) (b_a_cells_a_tree_h0 : Nat → Int32) (size_a_form_h0 : Int32) (n_a_bytes_a_form_h0 : Nat) (b_a_bytes_a_form_h0 : Nat → Int32) (size_a_source_h0 : Int32) (n_a_bytes_a_source_h0 : Nat) (b_a_bytes_a_source_h0 : Nat → Int32) (o_0_3 : Int32) (o_0_4 : Int32) (o_3_1 : Int32) (on_nq_3_0 : Nat) (ob_nq_3_0 : Nat → Int32) (mc ms : Nat) (h : F_Wr_leave p1 indent_h0 fits_h0 count_a_tree_h0 n_a_cells_a_tree_h0 b_a_cells_a_tree_h0 size_a_form_h0 n_a_bytes_a_form_h0 b_a_bytes_a_form_h0 size_a_source_h0 n_a_bytes_a_source_h0 b_a_bytes_a_source_h0 = some ((o_0_3, o_0_4, o_3_1, on_nq_3_0, ob_nq_3_0), mc, ms)) : Ct l D (gT cI cB cJ cS) y_Wr_leave prog_10_method_8_code 3 (Option.none : Option Jvm.ClassFile.FieldType) 7 173 mc ms [.ref h0, .int p1] [(h0, .inr (6, [.ref a_tree_h0, .ref a_source_h0, .ref a_form_h0, .int indent_h0, .int fits_h0])), (a_tree_h0, .inr (1, [.ref a_cells_a_tree_h0, .int count_a_tree_h0])), (a_cells_a_tree_h0, .inl (cI, n_a_cells_a_tree_h0, .inl b_a_cells_a_tree_h0)), (a_form_h0, .inr (3, [.ref a_bytes_a_form_h0, .int size_a_form_h0])), (a_bytes_a_form_h0, .inl (cB, n_a_bytes_a_form_h0, .inl b_a_bytes_a_form_h0)), (a_source_h0, .inr (3, [.ref a_bytes_a_source_h0, .int size_a_source_h0])), (a_bytes_a_source_h0, .inl (cB, n_a_bytes_a_source_h0, .inl b_a_bytes_a_source_h0))] (fun v w => ∃ nq_3_0 : Nat, v = none ∧ w = [(h0, .inr (6, [.ref a_tree_h0, .ref a_source_h0, .ref a_form_h0, .int o_0_3, .int o_0_4])), (a_tree_h0, .inr (1, [.ref a_cells_a_tree_h0, .int count_a_tree_h0])), (a_cells_a_tree_h0, .inl (cI, n_a_cells_a_tree_h0, .inl b_a_cells_a_tree_h0)), (a_form_h0, .inr (3, [.ref nq_3_0, .int o_3_1])), (a_source_h0, .inr (3, [.ref a_bytes_a_source_h0, .int size_a_source_h0])), (a_bytes_a_source_h0, .inl (cB, n_a_bytes_a_source_h0, .inl b_a_bytes_a_source_h0)), (nq_3_0, .inl (cB, on_nq_3_0, .inl ob_nq_3_0))]) := by
  refine Ct.mk (by decide) (Nat.le_of_ble_eq_true rfl) ?_
  intro p e s m below meth c hr hnm
  refine j_norm (pc' := 0) (lv' := [(0, .ref h0), (1, .int p1)]) (st' := []) (ws' := [(h0, .inr (6, [.ref a_tree_h0, .ref a_source_h0, .ref a_form_h0, .int indent_h0, .int fits_h0])), (a_tree_h0, .inr (1, [.ref a_cells_a_tree_h0, .int count_a_tree_h0])), (a_cells_a_tree_h0, .inl (cI, n_a_cells_a_tree_h0, .inl b_a_cells_a_tree_h0)), (a_form_h0, .inr (3, [.ref a_bytes_a_form_h0, .int size_a_form_h0])), (a_bytes_a_form_h0, .inl (cB, n_a_bytes_a_form_h0, .inl b_a_bytes_a_form_h0)), (a_source_h0, .inr (3, [.ref a_bytes_a_source_h0, .int size_a_source_h0])), (a_bytes_a_source_h0, .inl (cB, n_a_bytes_a_source_h0, .inl b_a_bytes_a_source_h0))]) (cl' := 0) (sl' := 0) rfl rfl rfl rfl rfl rfl ?_
  unfold F_Wr_leave at h
  have hC : 0 + mc ≤ mc := by omega
  have hS : 0 + ms ≤ ms := by omega
  refine j_aload_n d_Wr_leave_0 rfl 0 rfl ?_
  refine j_get ig_Wr rfl 0 rfl 0 (by decide) rfl m_219 rfl d_Wr_leave_1 ?_
  refine j_iload_n d_Wr_leave_4 rfl 1 rfl ?_
  refine j_bipush (v := 6) d_Wr_leave_5 (by decide) ?_
  replace h := bd_s h
  obtain ⟨r1, k2, h⟩ := h
  refine j_callV (n := 2) (As := [.int p1, .int 6]) (rest := []) (wr := [(h0, .inr (6, [.ref a_tree_h0, .ref a_source_h0, .ref a_form_h0, .int indent_h0, .int fits_h0])), (a_form_h0, .inr (3, [.ref a_bytes_a_form_h0, .int size_a_form_h0])), (a_bytes_a_form_h0, .inl (cB, n_a_bytes_a_form_h0, .inl b_a_bytes_a_form_h0)), (a_source_h0, .inr (3, [.ref a_bytes_a_source_h0, .int size_a_source_h0])), (a_bytes_a_source_h0, .inl (cB, n_a_bytes_a_source_h0, .inl b_a_bytes_a_source_h0))]) (c_Nd_get l D cI cB cJ cS a_tree_h0 a_cells_a_tree_h0 p1 6 count_a_tree_h0 n_a_cells_a_tree_h0 b_a_cells_a_tree_h0  r1 k2) k_Wr_52 (by decide) ⟨Nat.le_of_ble_eq_true rfl, Nat.le_of_ble_eq_true rfl⟩ rfl 0 rfl [1, 2] [0, 3, 4, 5, 6] rfl (by decide) rfl (by decide) (by decide) rfl rfl (Nat.le_of_ble_eq_true rfl) d_Wr_leave_7 ⟨show 0 + 0 ≤ mc by omega, show 0 + 0 ≤ ms by omega⟩ (fun v w hq => ?_)
  obtain ⟨rfl, rfl⟩ := hq
  refine j_norm (pc' := 10) (st' := [.int r1]) (ws' := [(h0, .inr (6, [.ref a_tree_h0, .ref a_source_h0, .ref a_form_h0, .int indent_h0, .int fits_h0])), (a_form_h0, .inr (3, [.ref a_bytes_a_form_h0, .int size_a_form_h0])), (a_bytes_a_form_h0, .inl (cB, n_a_bytes_a_form_h0, .inl b_a_bytes_a_form_h0)), (a_source_h0, .inr (3, [.ref a_bytes_a_source_h0, .int size_a_source_h0])), (a_bytes_a_source_h0, .inl (cB, n_a_bytes_a_source_h0, .inl b_a_bytes_a_source_h0)), (a_tree_h0, .inr (1, [.ref a_cells_a_tree_h0, .int count_a_tree_h0])), (a_cells_a_tree_h0, .inl (cI, n_a_cells_a_tree_h0, .inl b_a_cells_a_tree_h0))]) (cl' := 0) (sl' := 0) rfl rfl rfl rfl rfl rfl ?_
  refine j_istore_n (lv' := [(2, .int r1), (0, .ref h0), (1, .int p1)]) d_Wr_leave_10 rfl (by decide) rfl ?_
  refine j_aload_n d_Wr_leave_11 rfl 1 rfl ?_
  refine j_iload_n d_Wr_leave_12 rfl 2 rfl ?_
  replace h := bw_s h
  obtain ⟨⟨r3, r4, r5, r6, r7⟩, C9, S10, C11, S12, k13, h, e1, e2⟩ := h
  replace hC : 0 + C9 + C11 ≤ mc := by omega
  replace hS : 0 + S10 + S12 ≤ ms := by omega
  clear e1 e2
  refine j_callV (n := 1) (As := [.int p1]) (rest := []) (wr := [(a_source_h0, .inr (3, [.ref a_bytes_a_source_h0, .int size_a_source_h0])), (a_bytes_a_source_h0, .inl (cB, n_a_bytes_a_source_h0, .inl b_a_bytes_a_source_h0))]) (c_Wr_finish l D cI cB cJ cS h0 a_tree_h0 a_source_h0 a_form_h0 a_cells_a_tree_h0 a_bytes_a_form_h0 p1 indent_h0 fits_h0 count_a_tree_h0 n_a_cells_a_tree_h0 b_a_cells_a_tree_h0 size_a_form_h0 n_a_bytes_a_form_h0 b_a_bytes_a_form_h0  r3 r4 r5 r6 r7 C9 S10 k13) k_Wr_97 (by decide) ⟨Nat.le_of_ble_eq_true rfl, Nat.le_of_ble_eq_true rfl⟩ rfl 0 rfl [0, 5, 6, 1, 2] [3, 4] rfl (by decide) rfl (by decide) (by decide) rfl rfl (Nat.le_of_ble_eq_true rfl) d_Wr_leave_13 ⟨show 0 + C9 ≤ mc by omega, show 0 + S10 ≤ ms by omega⟩ (fun v w hq => ?_)
  obtain ⟨q8, rfl, rfl⟩ := hq
  refine j_norm (pc' := 16) (st' := []) (ws' := [(a_source_h0, .inr (3, [.ref a_bytes_a_source_h0, .int size_a_source_h0])), (a_bytes_a_source_h0, .inl (cB, n_a_bytes_a_source_h0, .inl b_a_bytes_a_source_h0)), (h0, .inr (6, [.ref a_tree_h0, .ref a_source_h0, .ref a_form_h0, .int r3, .int r4])), (a_tree_h0, .inr (1, [.ref a_cells_a_tree_h0, .int count_a_tree_h0])), (a_cells_a_tree_h0, .inl (cI, n_a_cells_a_tree_h0, .inl b_a_cells_a_tree_h0)), (a_form_h0, .inr (3, [.ref q8, .int r5])), (q8, .inl (cB, r6, .inl r7))]) (cl' := 0 + C9) (sl' := 0 + S10) rfl rfl rfl rfl rfl rfl ?_
  refine j_aload_n d_Wr_leave_16 rfl 1 rfl ?_
  refine j_iload_n d_Wr_leave_17 rfl 0 rfl ?_
  refine j_iload_n d_Wr_leave_18 rfl 2 rfl ?_
  replace h := bd_s h
  obtain ⟨r14, k16, h⟩ := h
  refine j_callV (n := 2) (As := [.int r1, .int p1]) (rest := []) (wr := [(a_form_h0, .inr (3, [.ref q8, .int r5])), (q8, .inl (cB, r6, .inl r7))]) (c_Wr_needsBrackets l D cI cB cJ cS h0 a_tree_h0 a_source_h0 a_form_h0 a_cells_a_tree_h0 a_bytes_a_source_h0 r1 p1 r3 r4 count_a_tree_h0 n_a_cells_a_tree_h0 b_a_cells_a_tree_h0 size_a_source_h0 n_a_bytes_a_source_h0 b_a_bytes_a_source_h0  r14 k16) k_Wr_88 (by decide) ⟨Nat.le_of_ble_eq_true rfl, Nat.le_of_ble_eq_true rfl⟩ rfl 0 rfl [2, 3, 4, 0, 1] [5, 6] rfl (by decide) rfl (by decide) (by decide) rfl rfl (Nat.le_of_ble_eq_true rfl) d_Wr_leave_19 ⟨show 0 + C9 + 0 ≤ mc by omega, show 0 + S10 + 0 ≤ ms by omega⟩ (fun v w hq => ?_)
  obtain ⟨rfl, z15, rfl⟩ := hq
  refine j_norm (pc' := 22) (st' := [.int r14]) (ws' := [(a_form_h0, .inr (3, [.ref q8, .int r5])), (q8, .inl (cB, r6, .inl r7)), (h0, .inr (6, [.ref a_tree_h0, .ref a_source_h0, .ref a_form_h0, .int r3, .int r4])), (a_tree_h0, .inr (1, [.ref a_cells_a_tree_h0, .int count_a_tree_h0])), (a_cells_a_tree_h0, .inl (cI, n_a_cells_a_tree_h0, .inl b_a_cells_a_tree_h0)), (a_source_h0, .inr (3, [.ref a_bytes_a_source_h0, .int size_a_source_h0])), (a_bytes_a_source_h0, .inl (cB, n_a_bytes_a_source_h0, .inl b_a_bytes_a_source_h0))]) (cl' := 0 + C9) (sl' := 0 + S10) rfl rfl rfl rfl rfl rfl ?_
  refine j_if_eq (tgt := 31) d_Wr_leave_22 (by decide) (fun c17 => ?_) (fun c17 => ?_)
  · replace h := it_t c17 h
    refine j_aload_n d_Wr_leave_31 rfl 1 rfl ?_
    refine j_iload_n d_Wr_leave_32 rfl 0 rfl ?_
    refine j_iload_n d_Wr_leave_33 rfl 2 rfl ?_
    replace h := bw_s h
    obtain ⟨⟨r18, r19, r20, r21⟩, C23, S24, C25, S26, k27, h, e1, e2⟩ := h
    replace hC : 0 + C9 + C23 + C25 ≤ mc := by omega
    replace hS : 0 + S10 + S24 + S26 ≤ ms := by omega
    clear e1 e2
    refine j_callV (n := 2) (As := [.int r1, .int p1]) (rest := []) (wr := []) (c_Wr_trail l D cI cB cJ cS h0 a_tree_h0 a_source_h0 a_form_h0 a_cells_a_tree_h0 q8 a_bytes_a_source_h0 r1 p1 r3 r4 count_a_tree_h0 n_a_cells_a_tree_h0 b_a_cells_a_tree_h0 r5 r6 r7 size_a_source_h0 n_a_bytes_a_source_h0 b_a_bytes_a_source_h0  r18 r19 r20 r21 C23 S24 k27) k_Wr_102 (by decide) ⟨Nat.le_of_ble_eq_true rfl, Nat.le_of_ble_eq_true rfl⟩ rfl 0 rfl [2, 3, 4, 0, 1, 5, 6] [] rfl (by decide) rfl (by decide) (by decide) rfl rfl (Nat.le_of_ble_eq_true rfl) d_Wr_leave_34 ⟨show 0 + C9 + C23 ≤ mc by omega, show 0 + S10 + S24 ≤ ms by omega⟩ (fun v w hq => ?_)
    obtain ⟨q22, rfl, rfl⟩ := hq
    refine j_norm (pc' := 37) (st' := []) (ws' := [(h0, .inr (6, [.ref a_tree_h0, .ref a_source_h0, .ref a_form_h0, .int r3, .int r18])), (a_tree_h0, .inr (1, [.ref a_cells_a_tree_h0, .int count_a_tree_h0])), (a_cells_a_tree_h0, .inl (cI, n_a_cells_a_tree_h0, .inl b_a_cells_a_tree_h0)), (a_form_h0, .inr (3, [.ref q22, .int r19])), (a_source_h0, .inr (3, [.ref a_bytes_a_source_h0, .int size_a_source_h0])), (a_bytes_a_source_h0, .inl (cB, n_a_bytes_a_source_h0, .inl b_a_bytes_a_source_h0)), (q22, .inl (cB, r20, .inl r21))]) (cl' := 0 + C9 + C23) (sl' := 0 + S10 + S24) rfl rfl rfl rfl rfl rfl ?_
    replace h := lf_s h
    obtain ⟨h, e1, e2⟩ := h
    replace h := Prod.mk.inj h
    obtain ⟨h9, h⟩ := h
    subst h9
    replace h := Prod.mk.inj h
    obtain ⟨h9, h⟩ := h
    subst h9
    replace h := Prod.mk.inj h
    obtain ⟨h9, h⟩ := h
    subst h9
    replace h := Prod.mk.inj h
    obtain ⟨h9, h⟩ := h
    subst h9
    subst h
    refine j_widen (cl' := mc) (sl' := ms) (by omega) (by omega) ?_
    exact j_vret (w := [(h0, .inr (6, [.ref a_tree_h0, .ref a_source_h0, .ref a_form_h0, .int r3, .int r18])), (a_tree_h0, .inr (1, [.ref a_cells_a_tree_h0, .int count_a_tree_h0])), (a_cells_a_tree_h0, .inl (cI, n_a_cells_a_tree_h0, .inl b_a_cells_a_tree_h0)), (a_form_h0, .inr (3, [.ref q22, .int r19])), (a_source_h0, .inr (3, [.ref a_bytes_a_source_h0, .int size_a_source_h0])), (a_bytes_a_source_h0, .inl (cB, n_a_bytes_a_source_h0, .inl b_a_bytes_a_source_h0)), (q22, .inl (cB, r20, .inl r21))]) hr d_Wr_leave_37 [0, 1, 2, 3, 4, 5, 6] rfl (by decide) ⟨q22, rfl, rfl⟩
  · replace h := it_f c17 h
    refine j_aload_n d_Wr_leave_25 rfl 1 rfl ?_
    refine j_ldcS (i := 34) rfl d_Wr_leave_26 ?_
    replace h := bw_s h
    obtain ⟨⟨r28, r29, r30, r31⟩, C33, S34, C35, S36, k37, h, e1, e2⟩ := h
    replace hC : 0 + C9 + C33 + C35 ≤ mc := by omega
    replace hS : 0 + S10 + S34 + S36 ≤ ms := by omega
    clear e1 e2
    refine j_callV (n := 1) (As := [.ref (sA D 34)]) (rest := []) (wr := [(a_tree_h0, .inr (1, [.ref a_cells_a_tree_h0, .int count_a_tree_h0])), (a_cells_a_tree_h0, .inl (cI, n_a_cells_a_tree_h0, .inl b_a_cells_a_tree_h0)), (a_source_h0, .inr (3, [.ref a_bytes_a_source_h0, .int size_a_source_h0])), (a_bytes_a_source_h0, .inl (cB, n_a_bytes_a_source_h0, .inl b_a_bytes_a_source_h0))]) (c_Wr_put l D cI cB cJ cS h0 a_tree_h0 a_source_h0 a_form_h0 q8 34 r3 r4 r5 r6 r7  r28 r29 r30 r31 C33 S34 k37) k_Wr_77 (by decide) ⟨Nat.le_of_ble_eq_true rfl, Nat.le_of_ble_eq_true rfl⟩ rfl 0 rfl [2, 0, 1] [3, 4, 5, 6] rfl (by decide) rfl (by decide) (by decide) rfl rfl (Nat.le_of_ble_eq_true rfl) d_Wr_leave_28 ⟨show 0 + C9 + C33 ≤ mc by omega, show 0 + S10 + S34 ≤ ms by omega⟩ (fun v w hq => ?_)
    obtain ⟨q32, rfl, rfl⟩ := hq
    refine j_norm (pc' := 31) (st' := []) (ws' := [(a_tree_h0, .inr (1, [.ref a_cells_a_tree_h0, .int count_a_tree_h0])), (a_cells_a_tree_h0, .inl (cI, n_a_cells_a_tree_h0, .inl b_a_cells_a_tree_h0)), (a_source_h0, .inr (3, [.ref a_bytes_a_source_h0, .int size_a_source_h0])), (a_bytes_a_source_h0, .inl (cB, n_a_bytes_a_source_h0, .inl b_a_bytes_a_source_h0)), (h0, .inr (6, [.ref a_tree_h0, .ref a_source_h0, .ref a_form_h0, .int r3, .int r28])), (a_form_h0, .inr (3, [.ref q32, .int r29])), (q32, .inl (cB, r30, .inl r31))]) (cl' := 0 + C9 + C33) (sl' := 0 + S10 + S34) rfl rfl rfl rfl rfl rfl ?_
    refine j_aload_n d_Wr_leave_31 rfl 1 rfl ?_
    refine j_iload_n d_Wr_leave_32 rfl 0 rfl ?_
    refine j_iload_n d_Wr_leave_33 rfl 2 rfl ?_
    replace h := bw_s h
    obtain ⟨⟨r38, r39, r40, r41⟩, C43, S44, C45, S46, k47, h, e1, e2⟩ := h
    replace hC : 0 + C9 + C33 + C43 + C45 ≤ mc := by omega
    replace hS : 0 + S10 + S34 + S44 + S46 ≤ ms := by omega
    clear e1 e2
    refine j_callV (n := 2) (As := [.int r1, .int p1]) (rest := []) (wr := []) (c_Wr_trail l D cI cB cJ cS h0 a_tree_h0 a_source_h0 a_form_h0 a_cells_a_tree_h0 q32 a_bytes_a_source_h0 r1 p1 r3 r28 count_a_tree_h0 n_a_cells_a_tree_h0 b_a_cells_a_tree_h0 r29 r30 r31 size_a_source_h0 n_a_bytes_a_source_h0 b_a_bytes_a_source_h0  r38 r39 r40 r41 C43 S44 k47) k_Wr_102 (by decide) ⟨Nat.le_of_ble_eq_true rfl, Nat.le_of_ble_eq_true rfl⟩ rfl 0 rfl [4, 0, 1, 5, 6, 2, 3] [] rfl (by decide) rfl (by decide) (by decide) rfl rfl (Nat.le_of_ble_eq_true rfl) d_Wr_leave_34 ⟨show 0 + C9 + C33 + C43 ≤ mc by omega, show 0 + S10 + S34 + S44 ≤ ms by omega⟩ (fun v w hq => ?_)
    obtain ⟨q42, rfl, rfl⟩ := hq
    refine j_norm (pc' := 37) (st' := []) (ws' := [(h0, .inr (6, [.ref a_tree_h0, .ref a_source_h0, .ref a_form_h0, .int r3, .int r38])), (a_tree_h0, .inr (1, [.ref a_cells_a_tree_h0, .int count_a_tree_h0])), (a_cells_a_tree_h0, .inl (cI, n_a_cells_a_tree_h0, .inl b_a_cells_a_tree_h0)), (a_form_h0, .inr (3, [.ref q42, .int r39])), (a_source_h0, .inr (3, [.ref a_bytes_a_source_h0, .int size_a_source_h0])), (a_bytes_a_source_h0, .inl (cB, n_a_bytes_a_source_h0, .inl b_a_bytes_a_source_h0)), (q42, .inl (cB, r40, .inl r41))]) (cl' := 0 + C9 + C33 + C43) (sl' := 0 + S10 + S34 + S44) rfl rfl rfl rfl rfl rfl ?_
    replace h := lf_s h
    obtain ⟨h, e1, e2⟩ := h
    replace h := Prod.mk.inj h
    obtain ⟨h9, h⟩ := h
    subst h9
    replace h := Prod.mk.inj h
    obtain ⟨h9, h⟩ := h
    subst h9
    replace h := Prod.mk.inj h
    obtain ⟨h9, h⟩ := h
    subst h9
    replace h := Prod.mk.inj h
    obtain ⟨h9, h⟩ := h
    subst h9
    subst h
    refine j_widen (cl' := mc) (sl' := ms) (by omega) (by omega) ?_
    exact j_vret (w := [(h0, .inr (6, [.ref a_tree_h0, .ref a_source_h0, .ref a_form_h0, .int r3, .int r38])), (a_tree_h0, .inr (1, [.ref a_cells_a_tree_h0, .int count_a_tree_h0])), (a_cells_a_tree_h0, .inl (cI, n_a_cells_a_tree_h0, .inl b_a_cells_a_tree_h0)), (a_form_h0, .inr (3, [.ref q42, .int r39])), (a_source_h0, .inr (3, [.ref a_bytes_a_source_h0, .int size_a_source_h0])), (a_bytes_a_source_h0, .inl (cB, n_a_bytes_a_source_h0, .inl b_a_bytes_a_source_h0)), (q42, .inl (cB, r40, .inl r41))]) hr d_Wr_leave_37 [0, 1, 2, 3, 4, 5, 6] rfl (by decide) ⟨q42, rfl, rfl⟩
noncomputable def F_Wr_lead (p1 : Int32) (p2 : Int32) (indent_h0 : Int32) (fits_h0 : Int32) (count_a_tree_h0 : Int32) (n_a_cells_a_tree_h0 : Nat) (b_a_cells_a_tree_h0 : Nat → Int32) (size_a_form_h0 : Int32) (n_a_bytes_a_form_h0 : Nat) (b_a_bytes_a_form_h0 : Nat → Int32) (size_a_source_h0 : Int32) (n_a_bytes_a_source_h0 : Nat) (b_a_bytes_a_source_h0 : Nat → Int32) : Option ((Int32 × Int32 × Nat × (Nat → Int32)) × Nat × Nat) :=
  Option.bind (F_Wr_kind p1 indent_h0 fits_h0 count_a_tree_h0 n_a_cells_a_tree_h0 b_a_cells_a_tree_h0) fun r1 =>
  if r1 = 2 then (bw (F_Wr_put 22 indent_h0 fits_h0 size_a_form_h0 n_a_bytes_a_form_h0 b_a_bytes_a_form_h0) fun ⟨r4, r5, r6, r7⟩ =>
    (some ((r4, r5, r6, r7), 0, 0)))
  else if r1 = 3 then (some ((fits_h0, size_a_form_h0, n_a_bytes_a_form_h0, b_a_bytes_a_form_h0), 0, 0))
  else if r1 = 4 then (some ((fits_h0, size_a_form_h0, n_a_bytes_a_form_h0, b_a_bytes_a_form_h0), 0, 0))
  else if r1 = 5 then (some ((fits_h0, size_a_form_h0, n_a_bytes_a_form_h0, b_a_bytes_a_form_h0), 0, 0))
  else if r1 = 6 then (some ((fits_h0, size_a_form_h0, n_a_bytes_a_form_h0, b_a_bytes_a_form_h0), 0, 0))
  else if r1 = 7 then (some ((fits_h0, size_a_form_h0, n_a_bytes_a_form_h0, b_a_bytes_a_form_h0), 0, 0))
  else if r1 = 8 then (some ((fits_h0, size_a_form_h0, n_a_bytes_a_form_h0, b_a_bytes_a_form_h0), 0, 0))
  else if r1 = 9 then (some ((fits_h0, size_a_form_h0, n_a_bytes_a_form_h0, b_a_bytes_a_form_h0), 0, 0))
  else if r1 = 10 then (some ((fits_h0, size_a_form_h0, n_a_bytes_a_form_h0, b_a_bytes_a_form_h0), 0, 0))
  else if r1 = 11 then (Option.bind (F_Wr_kind p2 indent_h0 fits_h0 count_a_tree_h0 n_a_cells_a_tree_h0 b_a_cells_a_tree_h0) fun r23 =>
    if r23 = 3 then (Option.bind (F_Wr_isElse p1 p2 indent_h0 fits_h0 count_a_tree_h0 n_a_cells_a_tree_h0 b_a_cells_a_tree_h0) fun r26 =>
      if r26 = 0 then (some ((fits_h0, size_a_form_h0, n_a_bytes_a_form_h0, b_a_bytes_a_form_h0), 0, 0))
      else (bw (F_Wr_beginLine 28 indent_h0 fits_h0 size_a_form_h0 n_a_bytes_a_form_h0 b_a_bytes_a_form_h0) fun ⟨r30, r31, r32, r33⟩ =>
        (some ((r30, r31, r32, r33), 0, 0))))
    else (bw (F_Wr_beginLine 27 indent_h0 fits_h0 size_a_form_h0 n_a_bytes_a_form_h0 b_a_bytes_a_form_h0) fun ⟨r40, r41, r42, r43⟩ =>
      (some ((r40, r41, r42, r43), 0, 0))))
  else if r1 = 12 then (some ((fits_h0, size_a_form_h0, n_a_bytes_a_form_h0, b_a_bytes_a_form_h0), 0, 0))
  else if r1 = 13 then (some ((fits_h0, size_a_form_h0, n_a_bytes_a_form_h0, b_a_bytes_a_form_h0), 0, 0))
  else if r1 = 14 then (bw (F_Wr_beginLine 29 indent_h0 fits_h0 size_a_form_h0 n_a_bytes_a_form_h0 b_a_bytes_a_form_h0) fun ⟨r53, r54, r55, r56⟩ =>
    (some ((r53, r54, r55, r56), 0, 0)))
  else if r1 = 15 then (some ((fits_h0, size_a_form_h0, n_a_bytes_a_form_h0, b_a_bytes_a_form_h0), 0, 0))
  else if r1 = 16 then (some ((fits_h0, size_a_form_h0, n_a_bytes_a_form_h0, b_a_bytes_a_form_h0), 0, 0))
  else if r1 = 17 then (some ((fits_h0, size_a_form_h0, n_a_bytes_a_form_h0, b_a_bytes_a_form_h0), 0, 0))
  else if r1 = 18 then (bw (F_Wr_put 22 indent_h0 fits_h0 size_a_form_h0 n_a_bytes_a_form_h0 b_a_bytes_a_form_h0) fun ⟨r67, r68, r69, r70⟩ =>
    (some ((r67, r68, r69, r70), 0, 0)))
  else if r1 = 19 then (bw (F_Wr_put 22 indent_h0 fits_h0 size_a_form_h0 n_a_bytes_a_form_h0 b_a_bytes_a_form_h0) fun ⟨r78, r79, r80, r81⟩ =>
    (some ((r78, r79, r80, r81), 0, 0)))
  else if r1 = 20 then (some ((fits_h0, size_a_form_h0, n_a_bytes_a_form_h0, b_a_bytes_a_form_h0), 0, 0))
  else if r1 = 21 then (bw (F_Wr_put 24 indent_h0 fits_h0 size_a_form_h0 n_a_bytes_a_form_h0 b_a_bytes_a_form_h0) fun ⟨r90, r91, r92, r93⟩ =>
    (some ((r90, r91, r92, r93), 0, 0)))
  else if r1 = 22 then (some ((fits_h0, size_a_form_h0, n_a_bytes_a_form_h0, b_a_bytes_a_form_h0), 0, 0))
  else if r1 = 23 then (some ((fits_h0, size_a_form_h0, n_a_bytes_a_form_h0, b_a_bytes_a_form_h0), 0, 0))
  else if r1 = 24 then (some ((fits_h0, size_a_form_h0, n_a_bytes_a_form_h0, b_a_bytes_a_form_h0), 0, 0))
  else if r1 = 25 then (some ((fits_h0, size_a_form_h0, n_a_bytes_a_form_h0, b_a_bytes_a_form_h0), 0, 0))
  else if r1 = 26 then (some ((fits_h0, size_a_form_h0, n_a_bytes_a_form_h0, b_a_bytes_a_form_h0), 0, 0))
  else if r1 = 27 then (some ((fits_h0, size_a_form_h0, n_a_bytes_a_form_h0, b_a_bytes_a_form_h0), 0, 0))
  else if r1 = 28 then (some ((fits_h0, size_a_form_h0, n_a_bytes_a_form_h0, b_a_bytes_a_form_h0), 0, 0))
  else if r1 = 29 then (some ((fits_h0, size_a_form_h0, n_a_bytes_a_form_h0, b_a_bytes_a_form_h0), 0, 0))
  else if r1 = 30 then (some ((fits_h0, size_a_form_h0, n_a_bytes_a_form_h0, b_a_bytes_a_form_h0), 0, 0))
  else if r1 = 31 then (some ((fits_h0, size_a_form_h0, n_a_bytes_a_form_h0, b_a_bytes_a_form_h0), 0, 0))
  else if r1 = 32 then (some ((fits_h0, size_a_form_h0, n_a_bytes_a_form_h0, b_a_bytes_a_form_h0), 0, 0))
  else if r1 = 33 then (bw (F_Wr_put 22 indent_h0 fits_h0 size_a_form_h0 n_a_bytes_a_form_h0 b_a_bytes_a_form_h0) fun ⟨r112, r113, r114, r115⟩ =>
    (some ((r112, r113, r114, r115), 0, 0)))
  else if r1 = 34 then (some ((fits_h0, size_a_form_h0, n_a_bytes_a_form_h0, b_a_bytes_a_form_h0), 0, 0))
  else if r1 = 35 then (some ((fits_h0, size_a_form_h0, n_a_bytes_a_form_h0, b_a_bytes_a_form_h0), 0, 0))
  else if r1 = 36 then (bw (F_Wr_put 23 indent_h0 fits_h0 size_a_form_h0 n_a_bytes_a_form_h0 b_a_bytes_a_form_h0) fun ⟨r125, r126, r127, r128⟩ =>
    (some ((r125, r126, r127, r128), 0, 0)))
  else if r1 = 37 then (bw (F_Wr_put 22 indent_h0 fits_h0 size_a_form_h0 n_a_bytes_a_form_h0 b_a_bytes_a_form_h0) fun ⟨r136, r137, r138, r139⟩ =>
    (some ((r136, r137, r138, r139), 0, 0)))
  else if r1 = 38 then (some ((fits_h0, size_a_form_h0, n_a_bytes_a_form_h0, b_a_bytes_a_form_h0), 0, 0))
  else if r1 = 39 then (some ((fits_h0, size_a_form_h0, n_a_bytes_a_form_h0, b_a_bytes_a_form_h0), 0, 0))
  else if r1 = 40 then (bw (F_Wr_putOperation p1 indent_h0 fits_h0 count_a_tree_h0 n_a_cells_a_tree_h0 b_a_cells_a_tree_h0 size_a_source_h0 n_a_bytes_a_source_h0 b_a_bytes_a_source_h0 size_a_form_h0 n_a_bytes_a_form_h0 b_a_bytes_a_form_h0) fun ⟨r149, r150, r151, r152⟩ =>
    (some ((r149, r150, r151, r152), 0, 0)))
  else if r1 = 41 then (bw (F_Wr_put 25 indent_h0 fits_h0 size_a_form_h0 n_a_bytes_a_form_h0 b_a_bytes_a_form_h0) fun ⟨r160, r161, r162, r163⟩ =>
    (some ((r160, r161, r162, r163), 0, 0)))
  else (some ((fits_h0, size_a_form_h0, n_a_bytes_a_form_h0, b_a_bytes_a_form_h0), 0, 0))
theorem d_Wr_lead_0 : decode prog_10_method_10_code 0 = .ok (.aload_n 0, 1) := by decide +kernel
theorem d_Wr_lead_1 : decode prog_10_method_10_code 1 = .ok (.iload_n 1, 1) := by decide +kernel
theorem d_Wr_lead_2 : decode prog_10_method_10_code 2 = .ok (.invokevirtual 105, 3) := by decide +kernel
theorem d_Wr_lead_5 : decode prog_10_method_10_code 5 = .ok (.tableswitch 264 2 41 #[175, 264, 264, 264, 264, 264, 264, 264, 264, 219, 264, 264, 255, 264, 264, 264, 175, 175, 264, 193, 264, 264, 264, 264, 264, 264, 264, 264, 264, 264, 264, 175, 264, 264, 184, 175, 264, 264, 211, 202], 175) := by decide +kernel
theorem d_Wr_lead_180 : decode prog_10_method_10_code 180 = .ok (.aload_n 0, 1) := by decide +kernel
theorem d_Wr_lead_181 : decode prog_10_method_10_code 181 = .ok (.ldc 123, 2) := by decide +kernel
theorem d_Wr_lead_183 : decode prog_10_method_10_code 183 = .ok (.invokevirtual 77, 3) := by decide +kernel
theorem d_Wr_lead_186 : decode prog_10_method_10_code 186 = .ok (.goto 83, 3) := by decide +kernel
theorem d_Wr_lead_189 : decode prog_10_method_10_code 189 = .ok (.aload_n 0, 1) := by decide +kernel
theorem d_Wr_lead_190 : decode prog_10_method_10_code 190 = .ok (.ldc 125, 2) := by decide +kernel
theorem d_Wr_lead_192 : decode prog_10_method_10_code 192 = .ok (.invokevirtual 77, 3) := by decide +kernel
theorem d_Wr_lead_195 : decode prog_10_method_10_code 195 = .ok (.goto 74, 3) := by decide +kernel
theorem d_Wr_lead_198 : decode prog_10_method_10_code 198 = .ok (.aload_n 0, 1) := by decide +kernel
theorem d_Wr_lead_199 : decode prog_10_method_10_code 199 = .ok (.ldc 127, 2) := by decide +kernel
theorem d_Wr_lead_201 : decode prog_10_method_10_code 201 = .ok (.invokevirtual 77, 3) := by decide +kernel
theorem d_Wr_lead_204 : decode prog_10_method_10_code 204 = .ok (.goto 65, 3) := by decide +kernel
theorem d_Wr_lead_207 : decode prog_10_method_10_code 207 = .ok (.aload_n 0, 1) := by decide +kernel
theorem d_Wr_lead_208 : decode prog_10_method_10_code 208 = .ok (.ldc 129, 2) := by decide +kernel
theorem d_Wr_lead_210 : decode prog_10_method_10_code 210 = .ok (.invokevirtual 77, 3) := by decide +kernel
theorem d_Wr_lead_213 : decode prog_10_method_10_code 213 = .ok (.goto 56, 3) := by decide +kernel
theorem d_Wr_lead_216 : decode prog_10_method_10_code 216 = .ok (.aload_n 0, 1) := by decide +kernel
theorem d_Wr_lead_217 : decode prog_10_method_10_code 217 = .ok (.iload_n 1, 1) := by decide +kernel
theorem d_Wr_lead_218 : decode prog_10_method_10_code 218 = .ok (.invokevirtual 131, 3) := by decide +kernel
theorem d_Wr_lead_221 : decode prog_10_method_10_code 221 = .ok (.goto 48, 3) := by decide +kernel
theorem d_Wr_lead_224 : decode prog_10_method_10_code 224 = .ok (.aload_n 0, 1) := by decide +kernel
theorem d_Wr_lead_225 : decode prog_10_method_10_code 225 = .ok (.iload_n 2, 1) := by decide +kernel
theorem d_Wr_lead_226 : decode prog_10_method_10_code 226 = .ok (.invokevirtual 105, 3) := by decide +kernel
theorem d_Wr_lead_229 : decode prog_10_method_10_code 229 = .ok (.iconst 3, 1) := by decide +kernel
theorem d_Wr_lead_230 : decode prog_10_method_10_code 230 = .ok (.if_icmp .eq 12, 3) := by decide +kernel
theorem d_Wr_lead_233 : decode prog_10_method_10_code 233 = .ok (.aload_n 0, 1) := by decide +kernel
theorem d_Wr_lead_234 : decode prog_10_method_10_code 234 = .ok (.ldc 136, 2) := by decide +kernel
theorem d_Wr_lead_236 : decode prog_10_method_10_code 236 = .ok (.invokevirtual 114, 3) := by decide +kernel
theorem d_Wr_lead_239 : decode prog_10_method_10_code 239 = .ok (.goto 30, 3) := by decide +kernel
theorem d_Wr_lead_242 : decode prog_10_method_10_code 242 = .ok (.aload_n 0, 1) := by decide +kernel
theorem d_Wr_lead_243 : decode prog_10_method_10_code 243 = .ok (.iload_n 1, 1) := by decide +kernel
theorem d_Wr_lead_244 : decode prog_10_method_10_code 244 = .ok (.iload_n 2, 1) := by decide +kernel
theorem d_Wr_lead_245 : decode prog_10_method_10_code 245 = .ok (.invokevirtual 138, 3) := by decide +kernel
theorem d_Wr_lead_248 : decode prog_10_method_10_code 248 = .ok (.ifCond .eq 21, 3) := by decide +kernel
theorem d_Wr_lead_251 : decode prog_10_method_10_code 251 = .ok (.aload_n 0, 1) := by decide +kernel
theorem d_Wr_lead_252 : decode prog_10_method_10_code 252 = .ok (.ldc 141, 2) := by decide +kernel
theorem d_Wr_lead_254 : decode prog_10_method_10_code 254 = .ok (.invokevirtual 114, 3) := by decide +kernel
theorem d_Wr_lead_257 : decode prog_10_method_10_code 257 = .ok (.goto 12, 3) := by decide +kernel
theorem d_Wr_lead_260 : decode prog_10_method_10_code 260 = .ok (.aload_n 0, 1) := by decide +kernel
theorem d_Wr_lead_261 : decode prog_10_method_10_code 261 = .ok (.ldc 143, 2) := by decide +kernel
theorem d_Wr_lead_263 : decode prog_10_method_10_code 263 = .ok (.invokevirtual 114, 3) := by decide +kernel
theorem d_Wr_lead_266 : decode prog_10_method_10_code 266 = .ok (.goto 3, 3) := by decide +kernel
theorem d_Wr_lead_269 : decode prog_10_method_10_code 269 = .ok (.return_, 1) := by decide +kernel
set_option maxHeartbeats 4000000 in
set_option maxRecDepth 100000 in
theorem c_Wr_lead (l : Launch) (D : va_G) (cI cB cJ cS : ClassId) (h0 : Nat) (a_tree_h0 : Nat) (a_source_h0 : Nat) (a_form_h0 : Nat) (a_cells_a_tree_h0 : Nat) (a_bytes_a_form_h0 : Nat) (a_bytes_a_source_h0 : Nat) (p1 : Int32) (p2 : Int32) (indent_h0 : Int32) (fits_h0 : Int32) (count_a_tree_h0 : Int32) (n_a_cells_a_tree_h0 : Nat) (b_a_cells_a_tree_h0 : Nat → Int32) (size_a_form_h0 : Int32) (n_a_bytes_a_form_h0 : Nat) (b_a_bytes_a_form_h0 : Nat → Int32) (size_a_source_h0 : Int32) (n_a_bytes_a_source_h0 : Nat) (b_a_bytes_a_source_h0 : Nat → Int32) (o_0_4 : Int32) (o_3_1 : Int32) (on_nq_3_0 : Nat) (ob_nq_3_0 : Nat → Int32) (mc ms : Nat) (h : F_Wr_lead p1 p2 indent_h0 fits_h0 count_a_tree_h0 n_a_cells_a_tree_h0 b_a_cells_a_tree_h0 size_a_form_h0 n_a_bytes_a_form_h0 b_a_bytes_a_form_h0 size_a_source_h0 n_a_bytes_a_source_h0 b_a_bytes_a_source_h0 = some ((o_0_4, o_3_1, on_nq_3_0, ob_nq_3_0), mc, ms)) : Ct l D (gT cI cB cJ cS) y_Wr_lead prog_10_method_10_code 3 (Option.none : Option Jvm.ClassFile.FieldType) 6 149 mc ms [.ref h0, .int p1, .int p2] [(h0, .inr (6, [.ref a_tree_h0, .ref a_source_h0, .ref a_form_h0, .int indent_h0, .int fits_h0])), (a_tree_h0, .inr (1, [.ref a_cells_a_tree_h0, .int count_a_tree_h0])), (a_cells_a_tree_h0, .inl (cI, n_a_cells_a_tree_h0, .inl b_a_cells_a_tree_h0)), (a_form_h0, .inr (3, [.ref a_bytes_a_form_h0, .int size_a_form_h0])), (a_bytes_a_form_h0, .inl (cB, n_a_bytes_a_form_h0, .inl b_a_bytes_a_form_h0)), (a_source_h0, .inr (3, [.ref a_bytes_a_source_h0, .int size_a_source_h0])), (a_bytes_a_source_h0, .inl (cB, n_a_bytes_a_source_h0, .inl b_a_bytes_a_source_h0))] (fun v w => ∃ nq_3_0 : Nat, v = none ∧ w = [(h0, .inr (6, [.ref a_tree_h0, .ref a_source_h0, .ref a_form_h0, .int indent_h0, .int o_0_4])), (a_tree_h0, .inr (1, [.ref a_cells_a_tree_h0, .int count_a_tree_h0])), (a_cells_a_tree_h0, .inl (cI, n_a_cells_a_tree_h0, .inl b_a_cells_a_tree_h0)), (a_form_h0, .inr (3, [.ref nq_3_0, .int o_3_1])), (a_source_h0, .inr (3, [.ref a_bytes_a_source_h0, .int size_a_source_h0])), (a_bytes_a_source_h0, .inl (cB, n_a_bytes_a_source_h0, .inl b_a_bytes_a_source_h0)), (nq_3_0, .inl (cB, on_nq_3_0, .inl ob_nq_3_0))]) := by
  refine Ct.mk (by decide) (Nat.le_of_ble_eq_true rfl) ?_
  intro p e s m below meth c hr hnm
  refine j_norm (pc' := 0) (lv' := [(0, .ref h0), (1, .int p1), (2, .int p2)]) (st' := []) (ws' := [(h0, .inr (6, [.ref a_tree_h0, .ref a_source_h0, .ref a_form_h0, .int indent_h0, .int fits_h0])), (a_tree_h0, .inr (1, [.ref a_cells_a_tree_h0, .int count_a_tree_h0])), (a_cells_a_tree_h0, .inl (cI, n_a_cells_a_tree_h0, .inl b_a_cells_a_tree_h0)), (a_form_h0, .inr (3, [.ref a_bytes_a_form_h0, .int size_a_form_h0])), (a_bytes_a_form_h0, .inl (cB, n_a_bytes_a_form_h0, .inl b_a_bytes_a_form_h0)), (a_source_h0, .inr (3, [.ref a_bytes_a_source_h0, .int size_a_source_h0])), (a_bytes_a_source_h0, .inl (cB, n_a_bytes_a_source_h0, .inl b_a_bytes_a_source_h0))]) (cl' := 0) (sl' := 0) rfl rfl rfl rfl rfl rfl ?_
  unfold F_Wr_lead at h
  have hC : 0 + mc ≤ mc := by omega
  have hS : 0 + ms ≤ ms := by omega
  refine j_aload_n d_Wr_lead_0 rfl 0 rfl ?_
  refine j_iload_n d_Wr_lead_1 rfl 1 rfl ?_
  replace h := bd_s h
  obtain ⟨r1, k2, h⟩ := h
  refine j_callV (n := 1) (As := [.int p1]) (rest := []) (wr := [(a_form_h0, .inr (3, [.ref a_bytes_a_form_h0, .int size_a_form_h0])), (a_bytes_a_form_h0, .inl (cB, n_a_bytes_a_form_h0, .inl b_a_bytes_a_form_h0)), (a_source_h0, .inr (3, [.ref a_bytes_a_source_h0, .int size_a_source_h0])), (a_bytes_a_source_h0, .inl (cB, n_a_bytes_a_source_h0, .inl b_a_bytes_a_source_h0))]) (c_Wr_kind l D cI cB cJ cS h0 a_tree_h0 a_source_h0 a_form_h0 a_cells_a_tree_h0 p1 indent_h0 fits_h0 count_a_tree_h0 n_a_cells_a_tree_h0 b_a_cells_a_tree_h0  r1 k2) k_Wr_105 (by decide) ⟨Nat.le_of_ble_eq_true rfl, Nat.le_of_ble_eq_true rfl⟩ rfl 0 rfl [0, 1, 2] [3, 4, 5, 6] rfl (by decide) rfl (by decide) (by decide) rfl rfl (Nat.le_of_ble_eq_true rfl) d_Wr_lead_2 ⟨show 0 + 0 ≤ mc by omega, show 0 + 0 ≤ ms by omega⟩ (fun v w hq => ?_)
  obtain ⟨rfl, rfl⟩ := hq
  refine j_norm (pc' := 5) (st' := [.int r1]) (ws' := [(a_form_h0, .inr (3, [.ref a_bytes_a_form_h0, .int size_a_form_h0])), (a_bytes_a_form_h0, .inl (cB, n_a_bytes_a_form_h0, .inl b_a_bytes_a_form_h0)), (a_source_h0, .inr (3, [.ref a_bytes_a_source_h0, .int size_a_source_h0])), (a_bytes_a_source_h0, .inl (cB, n_a_bytes_a_source_h0, .inl b_a_bytes_a_source_h0)), (h0, .inr (6, [.ref a_tree_h0, .ref a_source_h0, .ref a_form_h0, .int indent_h0, .int fits_h0])), (a_tree_h0, .inr (1, [.ref a_cells_a_tree_h0, .int count_a_tree_h0])), (a_cells_a_tree_h0, .inl (cI, n_a_cells_a_tree_h0, .inl b_a_cells_a_tree_h0))]) (cl' := 0) (sl' := 0) rfl rfl rfl rfl rfl rfl ?_
  by_cases c3 : r1 = 2
  · replace h := it_t c3 h
    refine j_tabIn (tgt := 180) (off := 175) d_Wr_lead_5 2 c3 (by decide) (by decide) (by decide) (by decide) ?_
    refine j_aload_n d_Wr_lead_180 rfl 0 rfl ?_
    refine j_ldcS (i := 22) rfl d_Wr_lead_181 ?_
    replace h := bw_s h
    obtain ⟨⟨r4, r5, r6, r7⟩, C9, S10, C11, S12, k13, h, e1, e2⟩ := h
    replace hC : 0 + C9 + C11 ≤ mc := by omega
    replace hS : 0 + S10 + S12 ≤ ms := by omega
    clear e1 e2
    refine j_callV (n := 1) (As := [.ref (sA D 22)]) (rest := []) (wr := [(a_source_h0, .inr (3, [.ref a_bytes_a_source_h0, .int size_a_source_h0])), (a_bytes_a_source_h0, .inl (cB, n_a_bytes_a_source_h0, .inl b_a_bytes_a_source_h0)), (a_tree_h0, .inr (1, [.ref a_cells_a_tree_h0, .int count_a_tree_h0])), (a_cells_a_tree_h0, .inl (cI, n_a_cells_a_tree_h0, .inl b_a_cells_a_tree_h0))]) (c_Wr_put l D cI cB cJ cS h0 a_tree_h0 a_source_h0 a_form_h0 a_bytes_a_form_h0 22 indent_h0 fits_h0 size_a_form_h0 n_a_bytes_a_form_h0 b_a_bytes_a_form_h0  r4 r5 r6 r7 C9 S10 k13) k_Wr_77 (by decide) ⟨Nat.le_of_ble_eq_true rfl, Nat.le_of_ble_eq_true rfl⟩ rfl 0 rfl [4, 0, 1] [2, 3, 5, 6] rfl (by decide) rfl (by decide) (by decide) rfl rfl (Nat.le_of_ble_eq_true rfl) d_Wr_lead_183 ⟨show 0 + C9 ≤ mc by omega, show 0 + S10 ≤ ms by omega⟩ (fun v w hq => ?_)
    obtain ⟨q8, rfl, rfl⟩ := hq
    refine j_norm (pc' := 186) (st' := []) (ws' := [(a_source_h0, .inr (3, [.ref a_bytes_a_source_h0, .int size_a_source_h0])), (a_bytes_a_source_h0, .inl (cB, n_a_bytes_a_source_h0, .inl b_a_bytes_a_source_h0)), (a_tree_h0, .inr (1, [.ref a_cells_a_tree_h0, .int count_a_tree_h0])), (a_cells_a_tree_h0, .inl (cI, n_a_cells_a_tree_h0, .inl b_a_cells_a_tree_h0)), (h0, .inr (6, [.ref a_tree_h0, .ref a_source_h0, .ref a_form_h0, .int indent_h0, .int r4])), (a_form_h0, .inr (3, [.ref q8, .int r5])), (q8, .inl (cB, r6, .inl r7))]) (cl' := 0 + C9) (sl' := 0 + S10) rfl rfl rfl rfl rfl rfl ?_
    refine j_goto (tgt := 269) d_Wr_lead_186 (by decide) ?_
    replace h := lf_s h
    obtain ⟨h, e1, e2⟩ := h
    replace h := Prod.mk.inj h
    obtain ⟨h9, h⟩ := h
    subst h9
    replace h := Prod.mk.inj h
    obtain ⟨h9, h⟩ := h
    subst h9
    replace h := Prod.mk.inj h
    obtain ⟨h9, h⟩ := h
    subst h9
    subst h
    refine j_widen (cl' := mc) (sl' := ms) (by omega) (by omega) ?_
    exact j_vret (w := [(h0, .inr (6, [.ref a_tree_h0, .ref a_source_h0, .ref a_form_h0, .int indent_h0, .int r4])), (a_tree_h0, .inr (1, [.ref a_cells_a_tree_h0, .int count_a_tree_h0])), (a_cells_a_tree_h0, .inl (cI, n_a_cells_a_tree_h0, .inl b_a_cells_a_tree_h0)), (a_form_h0, .inr (3, [.ref q8, .int r5])), (a_source_h0, .inr (3, [.ref a_bytes_a_source_h0, .int size_a_source_h0])), (a_bytes_a_source_h0, .inl (cB, n_a_bytes_a_source_h0, .inl b_a_bytes_a_source_h0)), (q8, .inl (cB, r6, .inl r7))]) hr d_Wr_lead_269 [4, 2, 3, 5, 0, 1, 6] rfl (by decide) ⟨q8, rfl, rfl⟩
  · replace h := it_f c3 h
    by_cases c14 : r1 = 3
    · replace h := it_t c14 h
      refine j_tabIn (tgt := 269) (off := 264) d_Wr_lead_5 3 c14 (by decide) (by decide) (by decide) (by decide) ?_
      replace h := lf_s h
      obtain ⟨h, e1, e2⟩ := h
      replace h := Prod.mk.inj h
      obtain ⟨h9, h⟩ := h
      subst h9
      replace h := Prod.mk.inj h
      obtain ⟨h9, h⟩ := h
      subst h9
      replace h := Prod.mk.inj h
      obtain ⟨h9, h⟩ := h
      subst h9
      subst h
      refine j_widen (cl' := mc) (sl' := ms) (by omega) (by omega) ?_
      exact j_vret (w := [(h0, .inr (6, [.ref a_tree_h0, .ref a_source_h0, .ref a_form_h0, .int indent_h0, .int fits_h0])), (a_tree_h0, .inr (1, [.ref a_cells_a_tree_h0, .int count_a_tree_h0])), (a_cells_a_tree_h0, .inl (cI, n_a_cells_a_tree_h0, .inl b_a_cells_a_tree_h0)), (a_form_h0, .inr (3, [.ref a_bytes_a_form_h0, .int size_a_form_h0])), (a_source_h0, .inr (3, [.ref a_bytes_a_source_h0, .int size_a_source_h0])), (a_bytes_a_source_h0, .inl (cB, n_a_bytes_a_source_h0, .inl b_a_bytes_a_source_h0)), (a_bytes_a_form_h0, .inl (cB, n_a_bytes_a_form_h0, .inl b_a_bytes_a_form_h0))]) hr d_Wr_lead_269 [4, 5, 6, 0, 2, 3, 1] rfl (by decide) ⟨a_bytes_a_form_h0, rfl, rfl⟩
    · replace h := it_f c14 h
      by_cases c15 : r1 = 4
      · replace h := it_t c15 h
        refine j_tabIn (tgt := 269) (off := 264) d_Wr_lead_5 4 c15 (by decide) (by decide) (by decide) (by decide) ?_
        replace h := lf_s h
        obtain ⟨h, e1, e2⟩ := h
        replace h := Prod.mk.inj h
        obtain ⟨h9, h⟩ := h
        subst h9
        replace h := Prod.mk.inj h
        obtain ⟨h9, h⟩ := h
        subst h9
        replace h := Prod.mk.inj h
        obtain ⟨h9, h⟩ := h
        subst h9
        subst h
        refine j_widen (cl' := mc) (sl' := ms) (by omega) (by omega) ?_
        exact j_vret (w := [(h0, .inr (6, [.ref a_tree_h0, .ref a_source_h0, .ref a_form_h0, .int indent_h0, .int fits_h0])), (a_tree_h0, .inr (1, [.ref a_cells_a_tree_h0, .int count_a_tree_h0])), (a_cells_a_tree_h0, .inl (cI, n_a_cells_a_tree_h0, .inl b_a_cells_a_tree_h0)), (a_form_h0, .inr (3, [.ref a_bytes_a_form_h0, .int size_a_form_h0])), (a_source_h0, .inr (3, [.ref a_bytes_a_source_h0, .int size_a_source_h0])), (a_bytes_a_source_h0, .inl (cB, n_a_bytes_a_source_h0, .inl b_a_bytes_a_source_h0)), (a_bytes_a_form_h0, .inl (cB, n_a_bytes_a_form_h0, .inl b_a_bytes_a_form_h0))]) hr d_Wr_lead_269 [4, 5, 6, 0, 2, 3, 1] rfl (by decide) ⟨a_bytes_a_form_h0, rfl, rfl⟩
      · replace h := it_f c15 h
        by_cases c16 : r1 = 5
        · replace h := it_t c16 h
          refine j_tabIn (tgt := 269) (off := 264) d_Wr_lead_5 5 c16 (by decide) (by decide) (by decide) (by decide) ?_
          replace h := lf_s h
          obtain ⟨h, e1, e2⟩ := h
          replace h := Prod.mk.inj h
          obtain ⟨h9, h⟩ := h
          subst h9
          replace h := Prod.mk.inj h
          obtain ⟨h9, h⟩ := h
          subst h9
          replace h := Prod.mk.inj h
          obtain ⟨h9, h⟩ := h
          subst h9
          subst h
          refine j_widen (cl' := mc) (sl' := ms) (by omega) (by omega) ?_
          exact j_vret (w := [(h0, .inr (6, [.ref a_tree_h0, .ref a_source_h0, .ref a_form_h0, .int indent_h0, .int fits_h0])), (a_tree_h0, .inr (1, [.ref a_cells_a_tree_h0, .int count_a_tree_h0])), (a_cells_a_tree_h0, .inl (cI, n_a_cells_a_tree_h0, .inl b_a_cells_a_tree_h0)), (a_form_h0, .inr (3, [.ref a_bytes_a_form_h0, .int size_a_form_h0])), (a_source_h0, .inr (3, [.ref a_bytes_a_source_h0, .int size_a_source_h0])), (a_bytes_a_source_h0, .inl (cB, n_a_bytes_a_source_h0, .inl b_a_bytes_a_source_h0)), (a_bytes_a_form_h0, .inl (cB, n_a_bytes_a_form_h0, .inl b_a_bytes_a_form_h0))]) hr d_Wr_lead_269 [4, 5, 6, 0, 2, 3, 1] rfl (by decide) ⟨a_bytes_a_form_h0, rfl, rfl⟩
        · replace h := it_f c16 h
          by_cases c17 : r1 = 6
          · replace h := it_t c17 h
            refine j_tabIn (tgt := 269) (off := 264) d_Wr_lead_5 6 c17 (by decide) (by decide) (by decide) (by decide) ?_
            replace h := lf_s h
            obtain ⟨h, e1, e2⟩ := h
            replace h := Prod.mk.inj h
            obtain ⟨h9, h⟩ := h
            subst h9
            replace h := Prod.mk.inj h
            obtain ⟨h9, h⟩ := h
            subst h9
            replace h := Prod.mk.inj h
            obtain ⟨h9, h⟩ := h
            subst h9
            subst h
            refine j_widen (cl' := mc) (sl' := ms) (by omega) (by omega) ?_
            exact j_vret (w := [(h0, .inr (6, [.ref a_tree_h0, .ref a_source_h0, .ref a_form_h0, .int indent_h0, .int fits_h0])), (a_tree_h0, .inr (1, [.ref a_cells_a_tree_h0, .int count_a_tree_h0])), (a_cells_a_tree_h0, .inl (cI, n_a_cells_a_tree_h0, .inl b_a_cells_a_tree_h0)), (a_form_h0, .inr (3, [.ref a_bytes_a_form_h0, .int size_a_form_h0])), (a_source_h0, .inr (3, [.ref a_bytes_a_source_h0, .int size_a_source_h0])), (a_bytes_a_source_h0, .inl (cB, n_a_bytes_a_source_h0, .inl b_a_bytes_a_source_h0)), (a_bytes_a_form_h0, .inl (cB, n_a_bytes_a_form_h0, .inl b_a_bytes_a_form_h0))]) hr d_Wr_lead_269 [4, 5, 6, 0, 2, 3, 1] rfl (by decide) ⟨a_bytes_a_form_h0, rfl, rfl⟩
          · replace h := it_f c17 h
            by_cases c18 : r1 = 7
            · replace h := it_t c18 h
              refine j_tabIn (tgt := 269) (off := 264) d_Wr_lead_5 7 c18 (by decide) (by decide) (by decide) (by decide) ?_
              replace h := lf_s h
              obtain ⟨h, e1, e2⟩ := h
              replace h := Prod.mk.inj h
              obtain ⟨h9, h⟩ := h
              subst h9
              replace h := Prod.mk.inj h
              obtain ⟨h9, h⟩ := h
              subst h9
              replace h := Prod.mk.inj h
              obtain ⟨h9, h⟩ := h
              subst h9
              subst h
              refine j_widen (cl' := mc) (sl' := ms) (by omega) (by omega) ?_
              exact j_vret (w := [(h0, .inr (6, [.ref a_tree_h0, .ref a_source_h0, .ref a_form_h0, .int indent_h0, .int fits_h0])), (a_tree_h0, .inr (1, [.ref a_cells_a_tree_h0, .int count_a_tree_h0])), (a_cells_a_tree_h0, .inl (cI, n_a_cells_a_tree_h0, .inl b_a_cells_a_tree_h0)), (a_form_h0, .inr (3, [.ref a_bytes_a_form_h0, .int size_a_form_h0])), (a_source_h0, .inr (3, [.ref a_bytes_a_source_h0, .int size_a_source_h0])), (a_bytes_a_source_h0, .inl (cB, n_a_bytes_a_source_h0, .inl b_a_bytes_a_source_h0)), (a_bytes_a_form_h0, .inl (cB, n_a_bytes_a_form_h0, .inl b_a_bytes_a_form_h0))]) hr d_Wr_lead_269 [4, 5, 6, 0, 2, 3, 1] rfl (by decide) ⟨a_bytes_a_form_h0, rfl, rfl⟩
            · replace h := it_f c18 h
              by_cases c19 : r1 = 8
              · replace h := it_t c19 h
                refine j_tabIn (tgt := 269) (off := 264) d_Wr_lead_5 8 c19 (by decide) (by decide) (by decide) (by decide) ?_
                replace h := lf_s h
                obtain ⟨h, e1, e2⟩ := h
                replace h := Prod.mk.inj h
                obtain ⟨h9, h⟩ := h
                subst h9
                replace h := Prod.mk.inj h
                obtain ⟨h9, h⟩ := h
                subst h9
                replace h := Prod.mk.inj h
                obtain ⟨h9, h⟩ := h
                subst h9
                subst h
                refine j_widen (cl' := mc) (sl' := ms) (by omega) (by omega) ?_
                exact j_vret (w := [(h0, .inr (6, [.ref a_tree_h0, .ref a_source_h0, .ref a_form_h0, .int indent_h0, .int fits_h0])), (a_tree_h0, .inr (1, [.ref a_cells_a_tree_h0, .int count_a_tree_h0])), (a_cells_a_tree_h0, .inl (cI, n_a_cells_a_tree_h0, .inl b_a_cells_a_tree_h0)), (a_form_h0, .inr (3, [.ref a_bytes_a_form_h0, .int size_a_form_h0])), (a_source_h0, .inr (3, [.ref a_bytes_a_source_h0, .int size_a_source_h0])), (a_bytes_a_source_h0, .inl (cB, n_a_bytes_a_source_h0, .inl b_a_bytes_a_source_h0)), (a_bytes_a_form_h0, .inl (cB, n_a_bytes_a_form_h0, .inl b_a_bytes_a_form_h0))]) hr d_Wr_lead_269 [4, 5, 6, 0, 2, 3, 1] rfl (by decide) ⟨a_bytes_a_form_h0, rfl, rfl⟩
              · replace h := it_f c19 h
                by_cases c20 : r1 = 9
                · replace h := it_t c20 h
                  refine j_tabIn (tgt := 269) (off := 264) d_Wr_lead_5 9 c20 (by decide) (by decide) (by decide) (by decide) ?_
                  replace h := lf_s h
                  obtain ⟨h, e1, e2⟩ := h
                  replace h := Prod.mk.inj h
                  obtain ⟨h9, h⟩ := h
                  subst h9
                  replace h := Prod.mk.inj h
                  obtain ⟨h9, h⟩ := h
                  subst h9
                  replace h := Prod.mk.inj h
                  obtain ⟨h9, h⟩ := h
                  subst h9
                  subst h
                  refine j_widen (cl' := mc) (sl' := ms) (by omega) (by omega) ?_
                  exact j_vret (w := [(h0, .inr (6, [.ref a_tree_h0, .ref a_source_h0, .ref a_form_h0, .int indent_h0, .int fits_h0])), (a_tree_h0, .inr (1, [.ref a_cells_a_tree_h0, .int count_a_tree_h0])), (a_cells_a_tree_h0, .inl (cI, n_a_cells_a_tree_h0, .inl b_a_cells_a_tree_h0)), (a_form_h0, .inr (3, [.ref a_bytes_a_form_h0, .int size_a_form_h0])), (a_source_h0, .inr (3, [.ref a_bytes_a_source_h0, .int size_a_source_h0])), (a_bytes_a_source_h0, .inl (cB, n_a_bytes_a_source_h0, .inl b_a_bytes_a_source_h0)), (a_bytes_a_form_h0, .inl (cB, n_a_bytes_a_form_h0, .inl b_a_bytes_a_form_h0))]) hr d_Wr_lead_269 [4, 5, 6, 0, 2, 3, 1] rfl (by decide) ⟨a_bytes_a_form_h0, rfl, rfl⟩
                · replace h := it_f c20 h
                  by_cases c21 : r1 = 10
                  · replace h := it_t c21 h
                    refine j_tabIn (tgt := 269) (off := 264) d_Wr_lead_5 10 c21 (by decide) (by decide) (by decide) (by decide) ?_
                    replace h := lf_s h
                    obtain ⟨h, e1, e2⟩ := h
                    replace h := Prod.mk.inj h
                    obtain ⟨h9, h⟩ := h
                    subst h9
                    replace h := Prod.mk.inj h
                    obtain ⟨h9, h⟩ := h
                    subst h9
                    replace h := Prod.mk.inj h
                    obtain ⟨h9, h⟩ := h
                    subst h9
                    subst h
                    refine j_widen (cl' := mc) (sl' := ms) (by omega) (by omega) ?_
                    exact j_vret (w := [(h0, .inr (6, [.ref a_tree_h0, .ref a_source_h0, .ref a_form_h0, .int indent_h0, .int fits_h0])), (a_tree_h0, .inr (1, [.ref a_cells_a_tree_h0, .int count_a_tree_h0])), (a_cells_a_tree_h0, .inl (cI, n_a_cells_a_tree_h0, .inl b_a_cells_a_tree_h0)), (a_form_h0, .inr (3, [.ref a_bytes_a_form_h0, .int size_a_form_h0])), (a_source_h0, .inr (3, [.ref a_bytes_a_source_h0, .int size_a_source_h0])), (a_bytes_a_source_h0, .inl (cB, n_a_bytes_a_source_h0, .inl b_a_bytes_a_source_h0)), (a_bytes_a_form_h0, .inl (cB, n_a_bytes_a_form_h0, .inl b_a_bytes_a_form_h0))]) hr d_Wr_lead_269 [4, 5, 6, 0, 2, 3, 1] rfl (by decide) ⟨a_bytes_a_form_h0, rfl, rfl⟩
                  · replace h := it_f c21 h
                    by_cases c22 : r1 = 11
                    · replace h := it_t c22 h
                      refine j_tabIn (tgt := 224) (off := 219) d_Wr_lead_5 11 c22 (by decide) (by decide) (by decide) (by decide) ?_
                      refine j_aload_n d_Wr_lead_224 rfl 0 rfl ?_
                      refine j_iload_n d_Wr_lead_225 rfl 2 rfl ?_
                      replace h := bd_s h
                      obtain ⟨r23, k24, h⟩ := h
                      refine j_callV (n := 1) (As := [.int p2]) (rest := []) (wr := [(a_form_h0, .inr (3, [.ref a_bytes_a_form_h0, .int size_a_form_h0])), (a_bytes_a_form_h0, .inl (cB, n_a_bytes_a_form_h0, .inl b_a_bytes_a_form_h0)), (a_source_h0, .inr (3, [.ref a_bytes_a_source_h0, .int size_a_source_h0])), (a_bytes_a_source_h0, .inl (cB, n_a_bytes_a_source_h0, .inl b_a_bytes_a_source_h0))]) (c_Wr_kind l D cI cB cJ cS h0 a_tree_h0 a_source_h0 a_form_h0 a_cells_a_tree_h0 p2 indent_h0 fits_h0 count_a_tree_h0 n_a_cells_a_tree_h0 b_a_cells_a_tree_h0  r23 k24) k_Wr_105 (by decide) ⟨Nat.le_of_ble_eq_true rfl, Nat.le_of_ble_eq_true rfl⟩ rfl 0 rfl [4, 5, 6] [0, 1, 2, 3] rfl (by decide) rfl (by decide) (by decide) rfl rfl (Nat.le_of_ble_eq_true rfl) d_Wr_lead_226 ⟨show 0 + 0 ≤ mc by omega, show 0 + 0 ≤ ms by omega⟩ (fun v w hq => ?_)
                      obtain ⟨rfl, rfl⟩ := hq
                      refine j_norm (pc' := 229) (st' := [.int r23]) (ws' := [(a_form_h0, .inr (3, [.ref a_bytes_a_form_h0, .int size_a_form_h0])), (a_bytes_a_form_h0, .inl (cB, n_a_bytes_a_form_h0, .inl b_a_bytes_a_form_h0)), (a_source_h0, .inr (3, [.ref a_bytes_a_source_h0, .int size_a_source_h0])), (a_bytes_a_source_h0, .inl (cB, n_a_bytes_a_source_h0, .inl b_a_bytes_a_source_h0)), (h0, .inr (6, [.ref a_tree_h0, .ref a_source_h0, .ref a_form_h0, .int indent_h0, .int fits_h0])), (a_tree_h0, .inr (1, [.ref a_cells_a_tree_h0, .int count_a_tree_h0])), (a_cells_a_tree_h0, .inl (cI, n_a_cells_a_tree_h0, .inl b_a_cells_a_tree_h0))]) (cl' := 0) (sl' := 0) rfl rfl rfl rfl rfl rfl ?_
                      refine j_iconst (v := 3) d_Wr_lead_229 (by decide) ?_
                      refine j_icmp_eq (tgt := 242) d_Wr_lead_230 (by decide) (fun c25 => ?_) (fun c25 => ?_)
                      · replace h := it_t c25 h
                        refine j_aload_n d_Wr_lead_242 rfl 0 rfl ?_
                        refine j_iload_n d_Wr_lead_243 rfl 1 rfl ?_
                        refine j_iload_n d_Wr_lead_244 rfl 2 rfl ?_
                        replace h := bd_s h
                        obtain ⟨r26, k28, h⟩ := h
                        refine j_callV (n := 2) (As := [.int p1, .int p2]) (rest := []) (wr := [(a_form_h0, .inr (3, [.ref a_bytes_a_form_h0, .int size_a_form_h0])), (a_bytes_a_form_h0, .inl (cB, n_a_bytes_a_form_h0, .inl b_a_bytes_a_form_h0)), (a_source_h0, .inr (3, [.ref a_bytes_a_source_h0, .int size_a_source_h0])), (a_bytes_a_source_h0, .inl (cB, n_a_bytes_a_source_h0, .inl b_a_bytes_a_source_h0))]) (c_Wr_isElse l D cI cB cJ cS h0 a_tree_h0 a_source_h0 a_form_h0 a_cells_a_tree_h0 p1 p2 indent_h0 fits_h0 count_a_tree_h0 n_a_cells_a_tree_h0 b_a_cells_a_tree_h0  r26 k28) k_Wr_138 (by decide) ⟨Nat.le_of_ble_eq_true rfl, Nat.le_of_ble_eq_true rfl⟩ rfl 0 rfl [4, 5, 6] [0, 1, 2, 3] rfl (by decide) rfl (by decide) (by decide) rfl rfl (Nat.le_of_ble_eq_true rfl) d_Wr_lead_245 ⟨show 0 + 0 ≤ mc by omega, show 0 + 0 ≤ ms by omega⟩ (fun v w hq => ?_)
                        obtain ⟨rfl, z27, rfl⟩ := hq
                        refine j_norm (pc' := 248) (st' := [.int r26]) (ws' := [(a_form_h0, .inr (3, [.ref a_bytes_a_form_h0, .int size_a_form_h0])), (a_bytes_a_form_h0, .inl (cB, n_a_bytes_a_form_h0, .inl b_a_bytes_a_form_h0)), (a_source_h0, .inr (3, [.ref a_bytes_a_source_h0, .int size_a_source_h0])), (a_bytes_a_source_h0, .inl (cB, n_a_bytes_a_source_h0, .inl b_a_bytes_a_source_h0)), (h0, .inr (6, [.ref a_tree_h0, .ref a_source_h0, .ref a_form_h0, .int indent_h0, .int fits_h0])), (a_tree_h0, .inr (1, [.ref a_cells_a_tree_h0, .int count_a_tree_h0])), (a_cells_a_tree_h0, .inl (cI, n_a_cells_a_tree_h0, .inl b_a_cells_a_tree_h0))]) (cl' := 0) (sl' := 0) rfl rfl rfl rfl rfl rfl ?_
                        refine j_if_eq (tgt := 269) d_Wr_lead_248 (by decide) (fun c29 => ?_) (fun c29 => ?_)
                        · replace h := it_t c29 h
                          replace h := lf_s h
                          obtain ⟨h, e1, e2⟩ := h
                          replace h := Prod.mk.inj h
                          obtain ⟨h9, h⟩ := h
                          subst h9
                          replace h := Prod.mk.inj h
                          obtain ⟨h9, h⟩ := h
                          subst h9
                          replace h := Prod.mk.inj h
                          obtain ⟨h9, h⟩ := h
                          subst h9
                          subst h
                          refine j_widen (cl' := mc) (sl' := ms) (by omega) (by omega) ?_
                          exact j_vret (w := [(h0, .inr (6, [.ref a_tree_h0, .ref a_source_h0, .ref a_form_h0, .int indent_h0, .int fits_h0])), (a_tree_h0, .inr (1, [.ref a_cells_a_tree_h0, .int count_a_tree_h0])), (a_cells_a_tree_h0, .inl (cI, n_a_cells_a_tree_h0, .inl b_a_cells_a_tree_h0)), (a_form_h0, .inr (3, [.ref a_bytes_a_form_h0, .int size_a_form_h0])), (a_source_h0, .inr (3, [.ref a_bytes_a_source_h0, .int size_a_source_h0])), (a_bytes_a_source_h0, .inl (cB, n_a_bytes_a_source_h0, .inl b_a_bytes_a_source_h0)), (a_bytes_a_form_h0, .inl (cB, n_a_bytes_a_form_h0, .inl b_a_bytes_a_form_h0))]) hr d_Wr_lead_269 [4, 5, 6, 0, 2, 3, 1] rfl (by decide) ⟨a_bytes_a_form_h0, rfl, rfl⟩
                        · replace h := it_f c29 h
                          refine j_aload_n d_Wr_lead_251 rfl 0 rfl ?_
                          refine j_ldcS (i := 28) rfl d_Wr_lead_252 ?_
                          replace h := bw_s h
                          obtain ⟨⟨r30, r31, r32, r33⟩, C35, S36, C37, S38, k39, h, e1, e2⟩ := h
                          replace hC : 0 + C35 + C37 ≤ mc := by omega
                          replace hS : 0 + S36 + S38 ≤ ms := by omega
                          clear e1 e2
                          refine j_callV (n := 1) (As := [.ref (sA D 28)]) (rest := []) (wr := [(a_source_h0, .inr (3, [.ref a_bytes_a_source_h0, .int size_a_source_h0])), (a_bytes_a_source_h0, .inl (cB, n_a_bytes_a_source_h0, .inl b_a_bytes_a_source_h0)), (a_tree_h0, .inr (1, [.ref a_cells_a_tree_h0, .int count_a_tree_h0])), (a_cells_a_tree_h0, .inl (cI, n_a_cells_a_tree_h0, .inl b_a_cells_a_tree_h0))]) (c_Wr_beginLine l D cI cB cJ cS h0 a_tree_h0 a_source_h0 a_form_h0 a_bytes_a_form_h0 28 indent_h0 fits_h0 size_a_form_h0 n_a_bytes_a_form_h0 b_a_bytes_a_form_h0  r30 r31 r32 r33 C35 S36 k39) k_Wr_114 (by decide) ⟨Nat.le_of_ble_eq_true rfl, Nat.le_of_ble_eq_true rfl⟩ rfl 0 rfl [4, 0, 1] [2, 3, 5, 6] rfl (by decide) rfl (by decide) (by decide) rfl rfl (Nat.le_of_ble_eq_true rfl) d_Wr_lead_254 ⟨show 0 + C35 ≤ mc by omega, show 0 + S36 ≤ ms by omega⟩ (fun v w hq => ?_)
                          obtain ⟨q34, rfl, rfl⟩ := hq
                          refine j_norm (pc' := 257) (st' := []) (ws' := [(a_source_h0, .inr (3, [.ref a_bytes_a_source_h0, .int size_a_source_h0])), (a_bytes_a_source_h0, .inl (cB, n_a_bytes_a_source_h0, .inl b_a_bytes_a_source_h0)), (a_tree_h0, .inr (1, [.ref a_cells_a_tree_h0, .int count_a_tree_h0])), (a_cells_a_tree_h0, .inl (cI, n_a_cells_a_tree_h0, .inl b_a_cells_a_tree_h0)), (h0, .inr (6, [.ref a_tree_h0, .ref a_source_h0, .ref a_form_h0, .int indent_h0, .int r30])), (a_form_h0, .inr (3, [.ref q34, .int r31])), (q34, .inl (cB, r32, .inl r33))]) (cl' := 0 + C35) (sl' := 0 + S36) rfl rfl rfl rfl rfl rfl ?_
                          refine j_goto (tgt := 269) d_Wr_lead_257 (by decide) ?_
                          replace h := lf_s h
                          obtain ⟨h, e1, e2⟩ := h
                          replace h := Prod.mk.inj h
                          obtain ⟨h9, h⟩ := h
                          subst h9
                          replace h := Prod.mk.inj h
                          obtain ⟨h9, h⟩ := h
                          subst h9
                          replace h := Prod.mk.inj h
                          obtain ⟨h9, h⟩ := h
                          subst h9
                          subst h
                          refine j_widen (cl' := mc) (sl' := ms) (by omega) (by omega) ?_
                          exact j_vret (w := [(h0, .inr (6, [.ref a_tree_h0, .ref a_source_h0, .ref a_form_h0, .int indent_h0, .int r30])), (a_tree_h0, .inr (1, [.ref a_cells_a_tree_h0, .int count_a_tree_h0])), (a_cells_a_tree_h0, .inl (cI, n_a_cells_a_tree_h0, .inl b_a_cells_a_tree_h0)), (a_form_h0, .inr (3, [.ref q34, .int r31])), (a_source_h0, .inr (3, [.ref a_bytes_a_source_h0, .int size_a_source_h0])), (a_bytes_a_source_h0, .inl (cB, n_a_bytes_a_source_h0, .inl b_a_bytes_a_source_h0)), (q34, .inl (cB, r32, .inl r33))]) hr d_Wr_lead_269 [4, 2, 3, 5, 0, 1, 6] rfl (by decide) ⟨q34, rfl, rfl⟩
                      · replace h := it_f c25 h
                        refine j_aload_n d_Wr_lead_233 rfl 0 rfl ?_
                        refine j_ldcS (i := 27) rfl d_Wr_lead_234 ?_
                        replace h := bw_s h
                        obtain ⟨⟨r40, r41, r42, r43⟩, C45, S46, C47, S48, k49, h, e1, e2⟩ := h
                        replace hC : 0 + C45 + C47 ≤ mc := by omega
                        replace hS : 0 + S46 + S48 ≤ ms := by omega
                        clear e1 e2
                        refine j_callV (n := 1) (As := [.ref (sA D 27)]) (rest := []) (wr := [(a_source_h0, .inr (3, [.ref a_bytes_a_source_h0, .int size_a_source_h0])), (a_bytes_a_source_h0, .inl (cB, n_a_bytes_a_source_h0, .inl b_a_bytes_a_source_h0)), (a_tree_h0, .inr (1, [.ref a_cells_a_tree_h0, .int count_a_tree_h0])), (a_cells_a_tree_h0, .inl (cI, n_a_cells_a_tree_h0, .inl b_a_cells_a_tree_h0))]) (c_Wr_beginLine l D cI cB cJ cS h0 a_tree_h0 a_source_h0 a_form_h0 a_bytes_a_form_h0 27 indent_h0 fits_h0 size_a_form_h0 n_a_bytes_a_form_h0 b_a_bytes_a_form_h0  r40 r41 r42 r43 C45 S46 k49) k_Wr_114 (by decide) ⟨Nat.le_of_ble_eq_true rfl, Nat.le_of_ble_eq_true rfl⟩ rfl 0 rfl [4, 0, 1] [2, 3, 5, 6] rfl (by decide) rfl (by decide) (by decide) rfl rfl (Nat.le_of_ble_eq_true rfl) d_Wr_lead_236 ⟨show 0 + C45 ≤ mc by omega, show 0 + S46 ≤ ms by omega⟩ (fun v w hq => ?_)
                        obtain ⟨q44, rfl, rfl⟩ := hq
                        refine j_norm (pc' := 239) (st' := []) (ws' := [(a_source_h0, .inr (3, [.ref a_bytes_a_source_h0, .int size_a_source_h0])), (a_bytes_a_source_h0, .inl (cB, n_a_bytes_a_source_h0, .inl b_a_bytes_a_source_h0)), (a_tree_h0, .inr (1, [.ref a_cells_a_tree_h0, .int count_a_tree_h0])), (a_cells_a_tree_h0, .inl (cI, n_a_cells_a_tree_h0, .inl b_a_cells_a_tree_h0)), (h0, .inr (6, [.ref a_tree_h0, .ref a_source_h0, .ref a_form_h0, .int indent_h0, .int r40])), (a_form_h0, .inr (3, [.ref q44, .int r41])), (q44, .inl (cB, r42, .inl r43))]) (cl' := 0 + C45) (sl' := 0 + S46) rfl rfl rfl rfl rfl rfl ?_
                        refine j_goto (tgt := 269) d_Wr_lead_239 (by decide) ?_
                        replace h := lf_s h
                        obtain ⟨h, e1, e2⟩ := h
                        replace h := Prod.mk.inj h
                        obtain ⟨h9, h⟩ := h
                        subst h9
                        replace h := Prod.mk.inj h
                        obtain ⟨h9, h⟩ := h
                        subst h9
                        replace h := Prod.mk.inj h
                        obtain ⟨h9, h⟩ := h
                        subst h9
                        subst h
                        refine j_widen (cl' := mc) (sl' := ms) (by omega) (by omega) ?_
                        exact j_vret (w := [(h0, .inr (6, [.ref a_tree_h0, .ref a_source_h0, .ref a_form_h0, .int indent_h0, .int r40])), (a_tree_h0, .inr (1, [.ref a_cells_a_tree_h0, .int count_a_tree_h0])), (a_cells_a_tree_h0, .inl (cI, n_a_cells_a_tree_h0, .inl b_a_cells_a_tree_h0)), (a_form_h0, .inr (3, [.ref q44, .int r41])), (a_source_h0, .inr (3, [.ref a_bytes_a_source_h0, .int size_a_source_h0])), (a_bytes_a_source_h0, .inl (cB, n_a_bytes_a_source_h0, .inl b_a_bytes_a_source_h0)), (q44, .inl (cB, r42, .inl r43))]) hr d_Wr_lead_269 [4, 2, 3, 5, 0, 1, 6] rfl (by decide) ⟨q44, rfl, rfl⟩
                    · replace h := it_f c22 h
                      by_cases c50 : r1 = 12
                      · replace h := it_t c50 h
                        refine j_tabIn (tgt := 269) (off := 264) d_Wr_lead_5 12 c50 (by decide) (by decide) (by decide) (by decide) ?_
                        replace h := lf_s h
                        obtain ⟨h, e1, e2⟩ := h
                        replace h := Prod.mk.inj h
                        obtain ⟨h9, h⟩ := h
                        subst h9
                        replace h := Prod.mk.inj h
                        obtain ⟨h9, h⟩ := h
                        subst h9
                        replace h := Prod.mk.inj h
                        obtain ⟨h9, h⟩ := h
                        subst h9
                        subst h
                        refine j_widen (cl' := mc) (sl' := ms) (by omega) (by omega) ?_
                        exact j_vret (w := [(h0, .inr (6, [.ref a_tree_h0, .ref a_source_h0, .ref a_form_h0, .int indent_h0, .int fits_h0])), (a_tree_h0, .inr (1, [.ref a_cells_a_tree_h0, .int count_a_tree_h0])), (a_cells_a_tree_h0, .inl (cI, n_a_cells_a_tree_h0, .inl b_a_cells_a_tree_h0)), (a_form_h0, .inr (3, [.ref a_bytes_a_form_h0, .int size_a_form_h0])), (a_source_h0, .inr (3, [.ref a_bytes_a_source_h0, .int size_a_source_h0])), (a_bytes_a_source_h0, .inl (cB, n_a_bytes_a_source_h0, .inl b_a_bytes_a_source_h0)), (a_bytes_a_form_h0, .inl (cB, n_a_bytes_a_form_h0, .inl b_a_bytes_a_form_h0))]) hr d_Wr_lead_269 [4, 5, 6, 0, 2, 3, 1] rfl (by decide) ⟨a_bytes_a_form_h0, rfl, rfl⟩
                      · replace h := it_f c50 h
                        by_cases c51 : r1 = 13
                        · replace h := it_t c51 h
                          refine j_tabIn (tgt := 269) (off := 264) d_Wr_lead_5 13 c51 (by decide) (by decide) (by decide) (by decide) ?_
                          replace h := lf_s h
                          obtain ⟨h, e1, e2⟩ := h
                          replace h := Prod.mk.inj h
                          obtain ⟨h9, h⟩ := h
                          subst h9
                          replace h := Prod.mk.inj h
                          obtain ⟨h9, h⟩ := h
                          subst h9
                          replace h := Prod.mk.inj h
                          obtain ⟨h9, h⟩ := h
                          subst h9
                          subst h
                          refine j_widen (cl' := mc) (sl' := ms) (by omega) (by omega) ?_
                          exact j_vret (w := [(h0, .inr (6, [.ref a_tree_h0, .ref a_source_h0, .ref a_form_h0, .int indent_h0, .int fits_h0])), (a_tree_h0, .inr (1, [.ref a_cells_a_tree_h0, .int count_a_tree_h0])), (a_cells_a_tree_h0, .inl (cI, n_a_cells_a_tree_h0, .inl b_a_cells_a_tree_h0)), (a_form_h0, .inr (3, [.ref a_bytes_a_form_h0, .int size_a_form_h0])), (a_source_h0, .inr (3, [.ref a_bytes_a_source_h0, .int size_a_source_h0])), (a_bytes_a_source_h0, .inl (cB, n_a_bytes_a_source_h0, .inl b_a_bytes_a_source_h0)), (a_bytes_a_form_h0, .inl (cB, n_a_bytes_a_form_h0, .inl b_a_bytes_a_form_h0))]) hr d_Wr_lead_269 [4, 5, 6, 0, 2, 3, 1] rfl (by decide) ⟨a_bytes_a_form_h0, rfl, rfl⟩
                        · replace h := it_f c51 h
                          by_cases c52 : r1 = 14
                          · replace h := it_t c52 h
                            refine j_tabIn (tgt := 260) (off := 255) d_Wr_lead_5 14 c52 (by decide) (by decide) (by decide) (by decide) ?_
                            refine j_aload_n d_Wr_lead_260 rfl 0 rfl ?_
                            refine j_ldcS (i := 29) rfl d_Wr_lead_261 ?_
                            replace h := bw_s h
                            obtain ⟨⟨r53, r54, r55, r56⟩, C58, S59, C60, S61, k62, h, e1, e2⟩ := h
                            replace hC : 0 + C58 + C60 ≤ mc := by omega
                            replace hS : 0 + S59 + S61 ≤ ms := by omega
                            clear e1 e2
                            refine j_callV (n := 1) (As := [.ref (sA D 29)]) (rest := []) (wr := [(a_source_h0, .inr (3, [.ref a_bytes_a_source_h0, .int size_a_source_h0])), (a_bytes_a_source_h0, .inl (cB, n_a_bytes_a_source_h0, .inl b_a_bytes_a_source_h0)), (a_tree_h0, .inr (1, [.ref a_cells_a_tree_h0, .int count_a_tree_h0])), (a_cells_a_tree_h0, .inl (cI, n_a_cells_a_tree_h0, .inl b_a_cells_a_tree_h0))]) (c_Wr_beginLine l D cI cB cJ cS h0 a_tree_h0 a_source_h0 a_form_h0 a_bytes_a_form_h0 29 indent_h0 fits_h0 size_a_form_h0 n_a_bytes_a_form_h0 b_a_bytes_a_form_h0  r53 r54 r55 r56 C58 S59 k62) k_Wr_114 (by decide) ⟨Nat.le_of_ble_eq_true rfl, Nat.le_of_ble_eq_true rfl⟩ rfl 0 rfl [4, 0, 1] [2, 3, 5, 6] rfl (by decide) rfl (by decide) (by decide) rfl rfl (Nat.le_of_ble_eq_true rfl) d_Wr_lead_263 ⟨show 0 + C58 ≤ mc by omega, show 0 + S59 ≤ ms by omega⟩ (fun v w hq => ?_)
                            obtain ⟨q57, rfl, rfl⟩ := hq
                            refine j_norm (pc' := 266) (st' := []) (ws' := [(a_source_h0, .inr (3, [.ref a_bytes_a_source_h0, .int size_a_source_h0])), (a_bytes_a_source_h0, .inl (cB, n_a_bytes_a_source_h0, .inl b_a_bytes_a_source_h0)), (a_tree_h0, .inr (1, [.ref a_cells_a_tree_h0, .int count_a_tree_h0])), (a_cells_a_tree_h0, .inl (cI, n_a_cells_a_tree_h0, .inl b_a_cells_a_tree_h0)), (h0, .inr (6, [.ref a_tree_h0, .ref a_source_h0, .ref a_form_h0, .int indent_h0, .int r53])), (a_form_h0, .inr (3, [.ref q57, .int r54])), (q57, .inl (cB, r55, .inl r56))]) (cl' := 0 + C58) (sl' := 0 + S59) rfl rfl rfl rfl rfl rfl ?_
                            refine j_goto (tgt := 269) d_Wr_lead_266 (by decide) ?_
                            replace h := lf_s h
                            obtain ⟨h, e1, e2⟩ := h
                            replace h := Prod.mk.inj h
                            obtain ⟨h9, h⟩ := h
                            subst h9
                            replace h := Prod.mk.inj h
                            obtain ⟨h9, h⟩ := h
                            subst h9
                            replace h := Prod.mk.inj h
                            obtain ⟨h9, h⟩ := h
                            subst h9
                            subst h
                            refine j_widen (cl' := mc) (sl' := ms) (by omega) (by omega) ?_
                            exact j_vret (w := [(h0, .inr (6, [.ref a_tree_h0, .ref a_source_h0, .ref a_form_h0, .int indent_h0, .int r53])), (a_tree_h0, .inr (1, [.ref a_cells_a_tree_h0, .int count_a_tree_h0])), (a_cells_a_tree_h0, .inl (cI, n_a_cells_a_tree_h0, .inl b_a_cells_a_tree_h0)), (a_form_h0, .inr (3, [.ref q57, .int r54])), (a_source_h0, .inr (3, [.ref a_bytes_a_source_h0, .int size_a_source_h0])), (a_bytes_a_source_h0, .inl (cB, n_a_bytes_a_source_h0, .inl b_a_bytes_a_source_h0)), (q57, .inl (cB, r55, .inl r56))]) hr d_Wr_lead_269 [4, 2, 3, 5, 0, 1, 6] rfl (by decide) ⟨q57, rfl, rfl⟩
                          · replace h := it_f c52 h
                            by_cases c63 : r1 = 15
                            · replace h := it_t c63 h
                              refine j_tabIn (tgt := 269) (off := 264) d_Wr_lead_5 15 c63 (by decide) (by decide) (by decide) (by decide) ?_
                              replace h := lf_s h
                              obtain ⟨h, e1, e2⟩ := h
                              replace h := Prod.mk.inj h
                              obtain ⟨h9, h⟩ := h
                              subst h9
                              replace h := Prod.mk.inj h
                              obtain ⟨h9, h⟩ := h
                              subst h9
                              replace h := Prod.mk.inj h
                              obtain ⟨h9, h⟩ := h
                              subst h9
                              subst h
                              refine j_widen (cl' := mc) (sl' := ms) (by omega) (by omega) ?_
                              exact j_vret (w := [(h0, .inr (6, [.ref a_tree_h0, .ref a_source_h0, .ref a_form_h0, .int indent_h0, .int fits_h0])), (a_tree_h0, .inr (1, [.ref a_cells_a_tree_h0, .int count_a_tree_h0])), (a_cells_a_tree_h0, .inl (cI, n_a_cells_a_tree_h0, .inl b_a_cells_a_tree_h0)), (a_form_h0, .inr (3, [.ref a_bytes_a_form_h0, .int size_a_form_h0])), (a_source_h0, .inr (3, [.ref a_bytes_a_source_h0, .int size_a_source_h0])), (a_bytes_a_source_h0, .inl (cB, n_a_bytes_a_source_h0, .inl b_a_bytes_a_source_h0)), (a_bytes_a_form_h0, .inl (cB, n_a_bytes_a_form_h0, .inl b_a_bytes_a_form_h0))]) hr d_Wr_lead_269 [4, 5, 6, 0, 2, 3, 1] rfl (by decide) ⟨a_bytes_a_form_h0, rfl, rfl⟩
                            · replace h := it_f c63 h
                              by_cases c64 : r1 = 16
                              · replace h := it_t c64 h
                                refine j_tabIn (tgt := 269) (off := 264) d_Wr_lead_5 16 c64 (by decide) (by decide) (by decide) (by decide) ?_
                                replace h := lf_s h
                                obtain ⟨h, e1, e2⟩ := h
                                replace h := Prod.mk.inj h
                                obtain ⟨h9, h⟩ := h
                                subst h9
                                replace h := Prod.mk.inj h
                                obtain ⟨h9, h⟩ := h
                                subst h9
                                replace h := Prod.mk.inj h
                                obtain ⟨h9, h⟩ := h
                                subst h9
                                subst h
                                refine j_widen (cl' := mc) (sl' := ms) (by omega) (by omega) ?_
                                exact j_vret (w := [(h0, .inr (6, [.ref a_tree_h0, .ref a_source_h0, .ref a_form_h0, .int indent_h0, .int fits_h0])), (a_tree_h0, .inr (1, [.ref a_cells_a_tree_h0, .int count_a_tree_h0])), (a_cells_a_tree_h0, .inl (cI, n_a_cells_a_tree_h0, .inl b_a_cells_a_tree_h0)), (a_form_h0, .inr (3, [.ref a_bytes_a_form_h0, .int size_a_form_h0])), (a_source_h0, .inr (3, [.ref a_bytes_a_source_h0, .int size_a_source_h0])), (a_bytes_a_source_h0, .inl (cB, n_a_bytes_a_source_h0, .inl b_a_bytes_a_source_h0)), (a_bytes_a_form_h0, .inl (cB, n_a_bytes_a_form_h0, .inl b_a_bytes_a_form_h0))]) hr d_Wr_lead_269 [4, 5, 6, 0, 2, 3, 1] rfl (by decide) ⟨a_bytes_a_form_h0, rfl, rfl⟩
                              · replace h := it_f c64 h
                                by_cases c65 : r1 = 17
                                · replace h := it_t c65 h
                                  refine j_tabIn (tgt := 269) (off := 264) d_Wr_lead_5 17 c65 (by decide) (by decide) (by decide) (by decide) ?_
                                  replace h := lf_s h
                                  obtain ⟨h, e1, e2⟩ := h
                                  replace h := Prod.mk.inj h
                                  obtain ⟨h9, h⟩ := h
                                  subst h9
                                  replace h := Prod.mk.inj h
                                  obtain ⟨h9, h⟩ := h
                                  subst h9
                                  replace h := Prod.mk.inj h
                                  obtain ⟨h9, h⟩ := h
                                  subst h9
                                  subst h
                                  refine j_widen (cl' := mc) (sl' := ms) (by omega) (by omega) ?_
                                  exact j_vret (w := [(h0, .inr (6, [.ref a_tree_h0, .ref a_source_h0, .ref a_form_h0, .int indent_h0, .int fits_h0])), (a_tree_h0, .inr (1, [.ref a_cells_a_tree_h0, .int count_a_tree_h0])), (a_cells_a_tree_h0, .inl (cI, n_a_cells_a_tree_h0, .inl b_a_cells_a_tree_h0)), (a_form_h0, .inr (3, [.ref a_bytes_a_form_h0, .int size_a_form_h0])), (a_source_h0, .inr (3, [.ref a_bytes_a_source_h0, .int size_a_source_h0])), (a_bytes_a_source_h0, .inl (cB, n_a_bytes_a_source_h0, .inl b_a_bytes_a_source_h0)), (a_bytes_a_form_h0, .inl (cB, n_a_bytes_a_form_h0, .inl b_a_bytes_a_form_h0))]) hr d_Wr_lead_269 [4, 5, 6, 0, 2, 3, 1] rfl (by decide) ⟨a_bytes_a_form_h0, rfl, rfl⟩
                                · replace h := it_f c65 h
                                  by_cases c66 : r1 = 18
                                  · replace h := it_t c66 h
                                    refine j_tabIn (tgt := 180) (off := 175) d_Wr_lead_5 18 c66 (by decide) (by decide) (by decide) (by decide) ?_
                                    refine j_aload_n d_Wr_lead_180 rfl 0 rfl ?_
                                    refine j_ldcS (i := 22) rfl d_Wr_lead_181 ?_
                                    replace h := bw_s h
                                    obtain ⟨⟨r67, r68, r69, r70⟩, C72, S73, C74, S75, k76, h, e1, e2⟩ := h
                                    replace hC : 0 + C72 + C74 ≤ mc := by omega
                                    replace hS : 0 + S73 + S75 ≤ ms := by omega
                                    clear e1 e2
                                    refine j_callV (n := 1) (As := [.ref (sA D 22)]) (rest := []) (wr := [(a_source_h0, .inr (3, [.ref a_bytes_a_source_h0, .int size_a_source_h0])), (a_bytes_a_source_h0, .inl (cB, n_a_bytes_a_source_h0, .inl b_a_bytes_a_source_h0)), (a_tree_h0, .inr (1, [.ref a_cells_a_tree_h0, .int count_a_tree_h0])), (a_cells_a_tree_h0, .inl (cI, n_a_cells_a_tree_h0, .inl b_a_cells_a_tree_h0))]) (c_Wr_put l D cI cB cJ cS h0 a_tree_h0 a_source_h0 a_form_h0 a_bytes_a_form_h0 22 indent_h0 fits_h0 size_a_form_h0 n_a_bytes_a_form_h0 b_a_bytes_a_form_h0  r67 r68 r69 r70 C72 S73 k76) k_Wr_77 (by decide) ⟨Nat.le_of_ble_eq_true rfl, Nat.le_of_ble_eq_true rfl⟩ rfl 0 rfl [4, 0, 1] [2, 3, 5, 6] rfl (by decide) rfl (by decide) (by decide) rfl rfl (Nat.le_of_ble_eq_true rfl) d_Wr_lead_183 ⟨show 0 + C72 ≤ mc by omega, show 0 + S73 ≤ ms by omega⟩ (fun v w hq => ?_)
                                    obtain ⟨q71, rfl, rfl⟩ := hq
                                    refine j_norm (pc' := 186) (st' := []) (ws' := [(a_source_h0, .inr (3, [.ref a_bytes_a_source_h0, .int size_a_source_h0])), (a_bytes_a_source_h0, .inl (cB, n_a_bytes_a_source_h0, .inl b_a_bytes_a_source_h0)), (a_tree_h0, .inr (1, [.ref a_cells_a_tree_h0, .int count_a_tree_h0])), (a_cells_a_tree_h0, .inl (cI, n_a_cells_a_tree_h0, .inl b_a_cells_a_tree_h0)), (h0, .inr (6, [.ref a_tree_h0, .ref a_source_h0, .ref a_form_h0, .int indent_h0, .int r67])), (a_form_h0, .inr (3, [.ref q71, .int r68])), (q71, .inl (cB, r69, .inl r70))]) (cl' := 0 + C72) (sl' := 0 + S73) rfl rfl rfl rfl rfl rfl ?_
                                    refine j_goto (tgt := 269) d_Wr_lead_186 (by decide) ?_
                                    replace h := lf_s h
                                    obtain ⟨h, e1, e2⟩ := h
                                    replace h := Prod.mk.inj h
                                    obtain ⟨h9, h⟩ := h
                                    subst h9
                                    replace h := Prod.mk.inj h
                                    obtain ⟨h9, h⟩ := h
                                    subst h9
                                    replace h := Prod.mk.inj h
                                    obtain ⟨h9, h⟩ := h
                                    subst h9
                                    subst h
                                    refine j_widen (cl' := mc) (sl' := ms) (by omega) (by omega) ?_
                                    exact j_vret (w := [(h0, .inr (6, [.ref a_tree_h0, .ref a_source_h0, .ref a_form_h0, .int indent_h0, .int r67])), (a_tree_h0, .inr (1, [.ref a_cells_a_tree_h0, .int count_a_tree_h0])), (a_cells_a_tree_h0, .inl (cI, n_a_cells_a_tree_h0, .inl b_a_cells_a_tree_h0)), (a_form_h0, .inr (3, [.ref q71, .int r68])), (a_source_h0, .inr (3, [.ref a_bytes_a_source_h0, .int size_a_source_h0])), (a_bytes_a_source_h0, .inl (cB, n_a_bytes_a_source_h0, .inl b_a_bytes_a_source_h0)), (q71, .inl (cB, r69, .inl r70))]) hr d_Wr_lead_269 [4, 2, 3, 5, 0, 1, 6] rfl (by decide) ⟨q71, rfl, rfl⟩
                                  · replace h := it_f c66 h
                                    by_cases c77 : r1 = 19
                                    · replace h := it_t c77 h
                                      refine j_tabIn (tgt := 180) (off := 175) d_Wr_lead_5 19 c77 (by decide) (by decide) (by decide) (by decide) ?_
                                      refine j_aload_n d_Wr_lead_180 rfl 0 rfl ?_
                                      refine j_ldcS (i := 22) rfl d_Wr_lead_181 ?_
                                      replace h := bw_s h
                                      obtain ⟨⟨r78, r79, r80, r81⟩, C83, S84, C85, S86, k87, h, e1, e2⟩ := h
                                      replace hC : 0 + C83 + C85 ≤ mc := by omega
                                      replace hS : 0 + S84 + S86 ≤ ms := by omega
                                      clear e1 e2
                                      refine j_callV (n := 1) (As := [.ref (sA D 22)]) (rest := []) (wr := [(a_source_h0, .inr (3, [.ref a_bytes_a_source_h0, .int size_a_source_h0])), (a_bytes_a_source_h0, .inl (cB, n_a_bytes_a_source_h0, .inl b_a_bytes_a_source_h0)), (a_tree_h0, .inr (1, [.ref a_cells_a_tree_h0, .int count_a_tree_h0])), (a_cells_a_tree_h0, .inl (cI, n_a_cells_a_tree_h0, .inl b_a_cells_a_tree_h0))]) (c_Wr_put l D cI cB cJ cS h0 a_tree_h0 a_source_h0 a_form_h0 a_bytes_a_form_h0 22 indent_h0 fits_h0 size_a_form_h0 n_a_bytes_a_form_h0 b_a_bytes_a_form_h0  r78 r79 r80 r81 C83 S84 k87) k_Wr_77 (by decide) ⟨Nat.le_of_ble_eq_true rfl, Nat.le_of_ble_eq_true rfl⟩ rfl 0 rfl [4, 0, 1] [2, 3, 5, 6] rfl (by decide) rfl (by decide) (by decide) rfl rfl (Nat.le_of_ble_eq_true rfl) d_Wr_lead_183 ⟨show 0 + C83 ≤ mc by omega, show 0 + S84 ≤ ms by omega⟩ (fun v w hq => ?_)
                                      obtain ⟨q82, rfl, rfl⟩ := hq
                                      refine j_norm (pc' := 186) (st' := []) (ws' := [(a_source_h0, .inr (3, [.ref a_bytes_a_source_h0, .int size_a_source_h0])), (a_bytes_a_source_h0, .inl (cB, n_a_bytes_a_source_h0, .inl b_a_bytes_a_source_h0)), (a_tree_h0, .inr (1, [.ref a_cells_a_tree_h0, .int count_a_tree_h0])), (a_cells_a_tree_h0, .inl (cI, n_a_cells_a_tree_h0, .inl b_a_cells_a_tree_h0)), (h0, .inr (6, [.ref a_tree_h0, .ref a_source_h0, .ref a_form_h0, .int indent_h0, .int r78])), (a_form_h0, .inr (3, [.ref q82, .int r79])), (q82, .inl (cB, r80, .inl r81))]) (cl' := 0 + C83) (sl' := 0 + S84) rfl rfl rfl rfl rfl rfl ?_
                                      refine j_goto (tgt := 269) d_Wr_lead_186 (by decide) ?_
                                      replace h := lf_s h
                                      obtain ⟨h, e1, e2⟩ := h
                                      replace h := Prod.mk.inj h
                                      obtain ⟨h9, h⟩ := h
                                      subst h9
                                      replace h := Prod.mk.inj h
                                      obtain ⟨h9, h⟩ := h
                                      subst h9
                                      replace h := Prod.mk.inj h
                                      obtain ⟨h9, h⟩ := h
                                      subst h9
                                      subst h
                                      refine j_widen (cl' := mc) (sl' := ms) (by omega) (by omega) ?_
                                      exact j_vret (w := [(h0, .inr (6, [.ref a_tree_h0, .ref a_source_h0, .ref a_form_h0, .int indent_h0, .int r78])), (a_tree_h0, .inr (1, [.ref a_cells_a_tree_h0, .int count_a_tree_h0])), (a_cells_a_tree_h0, .inl (cI, n_a_cells_a_tree_h0, .inl b_a_cells_a_tree_h0)), (a_form_h0, .inr (3, [.ref q82, .int r79])), (a_source_h0, .inr (3, [.ref a_bytes_a_source_h0, .int size_a_source_h0])), (a_bytes_a_source_h0, .inl (cB, n_a_bytes_a_source_h0, .inl b_a_bytes_a_source_h0)), (q82, .inl (cB, r80, .inl r81))]) hr d_Wr_lead_269 [4, 2, 3, 5, 0, 1, 6] rfl (by decide) ⟨q82, rfl, rfl⟩
                                    · replace h := it_f c77 h
                                      by_cases c88 : r1 = 20
                                      · replace h := it_t c88 h
                                        refine j_tabIn (tgt := 269) (off := 264) d_Wr_lead_5 20 c88 (by decide) (by decide) (by decide) (by decide) ?_
                                        replace h := lf_s h
                                        obtain ⟨h, e1, e2⟩ := h
                                        replace h := Prod.mk.inj h
                                        obtain ⟨h9, h⟩ := h
                                        subst h9
                                        replace h := Prod.mk.inj h
                                        obtain ⟨h9, h⟩ := h
                                        subst h9
                                        replace h := Prod.mk.inj h
                                        obtain ⟨h9, h⟩ := h
                                        subst h9
                                        subst h
                                        refine j_widen (cl' := mc) (sl' := ms) (by omega) (by omega) ?_
                                        exact j_vret (w := [(h0, .inr (6, [.ref a_tree_h0, .ref a_source_h0, .ref a_form_h0, .int indent_h0, .int fits_h0])), (a_tree_h0, .inr (1, [.ref a_cells_a_tree_h0, .int count_a_tree_h0])), (a_cells_a_tree_h0, .inl (cI, n_a_cells_a_tree_h0, .inl b_a_cells_a_tree_h0)), (a_form_h0, .inr (3, [.ref a_bytes_a_form_h0, .int size_a_form_h0])), (a_source_h0, .inr (3, [.ref a_bytes_a_source_h0, .int size_a_source_h0])), (a_bytes_a_source_h0, .inl (cB, n_a_bytes_a_source_h0, .inl b_a_bytes_a_source_h0)), (a_bytes_a_form_h0, .inl (cB, n_a_bytes_a_form_h0, .inl b_a_bytes_a_form_h0))]) hr d_Wr_lead_269 [4, 5, 6, 0, 2, 3, 1] rfl (by decide) ⟨a_bytes_a_form_h0, rfl, rfl⟩
                                      · replace h := it_f c88 h
                                        by_cases c89 : r1 = 21
                                        · replace h := it_t c89 h
                                          refine j_tabIn (tgt := 198) (off := 193) d_Wr_lead_5 21 c89 (by decide) (by decide) (by decide) (by decide) ?_
                                          refine j_aload_n d_Wr_lead_198 rfl 0 rfl ?_
                                          refine j_ldcS (i := 24) rfl d_Wr_lead_199 ?_
                                          replace h := bw_s h
                                          obtain ⟨⟨r90, r91, r92, r93⟩, C95, S96, C97, S98, k99, h, e1, e2⟩ := h
                                          replace hC : 0 + C95 + C97 ≤ mc := by omega
                                          replace hS : 0 + S96 + S98 ≤ ms := by omega
                                          clear e1 e2
                                          refine j_callV (n := 1) (As := [.ref (sA D 24)]) (rest := []) (wr := [(a_source_h0, .inr (3, [.ref a_bytes_a_source_h0, .int size_a_source_h0])), (a_bytes_a_source_h0, .inl (cB, n_a_bytes_a_source_h0, .inl b_a_bytes_a_source_h0)), (a_tree_h0, .inr (1, [.ref a_cells_a_tree_h0, .int count_a_tree_h0])), (a_cells_a_tree_h0, .inl (cI, n_a_cells_a_tree_h0, .inl b_a_cells_a_tree_h0))]) (c_Wr_put l D cI cB cJ cS h0 a_tree_h0 a_source_h0 a_form_h0 a_bytes_a_form_h0 24 indent_h0 fits_h0 size_a_form_h0 n_a_bytes_a_form_h0 b_a_bytes_a_form_h0  r90 r91 r92 r93 C95 S96 k99) k_Wr_77 (by decide) ⟨Nat.le_of_ble_eq_true rfl, Nat.le_of_ble_eq_true rfl⟩ rfl 0 rfl [4, 0, 1] [2, 3, 5, 6] rfl (by decide) rfl (by decide) (by decide) rfl rfl (Nat.le_of_ble_eq_true rfl) d_Wr_lead_201 ⟨show 0 + C95 ≤ mc by omega, show 0 + S96 ≤ ms by omega⟩ (fun v w hq => ?_)
                                          obtain ⟨q94, rfl, rfl⟩ := hq
                                          refine j_norm (pc' := 204) (st' := []) (ws' := [(a_source_h0, .inr (3, [.ref a_bytes_a_source_h0, .int size_a_source_h0])), (a_bytes_a_source_h0, .inl (cB, n_a_bytes_a_source_h0, .inl b_a_bytes_a_source_h0)), (a_tree_h0, .inr (1, [.ref a_cells_a_tree_h0, .int count_a_tree_h0])), (a_cells_a_tree_h0, .inl (cI, n_a_cells_a_tree_h0, .inl b_a_cells_a_tree_h0)), (h0, .inr (6, [.ref a_tree_h0, .ref a_source_h0, .ref a_form_h0, .int indent_h0, .int r90])), (a_form_h0, .inr (3, [.ref q94, .int r91])), (q94, .inl (cB, r92, .inl r93))]) (cl' := 0 + C95) (sl' := 0 + S96) rfl rfl rfl rfl rfl rfl ?_
                                          refine j_goto (tgt := 269) d_Wr_lead_204 (by decide) ?_
                                          replace h := lf_s h
                                          obtain ⟨h, e1, e2⟩ := h
                                          replace h := Prod.mk.inj h
                                          obtain ⟨h9, h⟩ := h
                                          subst h9
                                          replace h := Prod.mk.inj h
                                          obtain ⟨h9, h⟩ := h
                                          subst h9
                                          replace h := Prod.mk.inj h
                                          obtain ⟨h9, h⟩ := h
                                          subst h9
                                          subst h
                                          refine j_widen (cl' := mc) (sl' := ms) (by omega) (by omega) ?_
                                          exact j_vret (w := [(h0, .inr (6, [.ref a_tree_h0, .ref a_source_h0, .ref a_form_h0, .int indent_h0, .int r90])), (a_tree_h0, .inr (1, [.ref a_cells_a_tree_h0, .int count_a_tree_h0])), (a_cells_a_tree_h0, .inl (cI, n_a_cells_a_tree_h0, .inl b_a_cells_a_tree_h0)), (a_form_h0, .inr (3, [.ref q94, .int r91])), (a_source_h0, .inr (3, [.ref a_bytes_a_source_h0, .int size_a_source_h0])), (a_bytes_a_source_h0, .inl (cB, n_a_bytes_a_source_h0, .inl b_a_bytes_a_source_h0)), (q94, .inl (cB, r92, .inl r93))]) hr d_Wr_lead_269 [4, 2, 3, 5, 0, 1, 6] rfl (by decide) ⟨q94, rfl, rfl⟩
                                        · replace h := it_f c89 h
                                          by_cases c100 : r1 = 22
                                          · replace h := it_t c100 h
                                            refine j_tabIn (tgt := 269) (off := 264) d_Wr_lead_5 22 c100 (by decide) (by decide) (by decide) (by decide) ?_
                                            replace h := lf_s h
                                            obtain ⟨h, e1, e2⟩ := h
                                            replace h := Prod.mk.inj h
                                            obtain ⟨h9, h⟩ := h
                                            subst h9
                                            replace h := Prod.mk.inj h
                                            obtain ⟨h9, h⟩ := h
                                            subst h9
                                            replace h := Prod.mk.inj h
                                            obtain ⟨h9, h⟩ := h
                                            subst h9
                                            subst h
                                            refine j_widen (cl' := mc) (sl' := ms) (by omega) (by omega) ?_
                                            exact j_vret (w := [(h0, .inr (6, [.ref a_tree_h0, .ref a_source_h0, .ref a_form_h0, .int indent_h0, .int fits_h0])), (a_tree_h0, .inr (1, [.ref a_cells_a_tree_h0, .int count_a_tree_h0])), (a_cells_a_tree_h0, .inl (cI, n_a_cells_a_tree_h0, .inl b_a_cells_a_tree_h0)), (a_form_h0, .inr (3, [.ref a_bytes_a_form_h0, .int size_a_form_h0])), (a_source_h0, .inr (3, [.ref a_bytes_a_source_h0, .int size_a_source_h0])), (a_bytes_a_source_h0, .inl (cB, n_a_bytes_a_source_h0, .inl b_a_bytes_a_source_h0)), (a_bytes_a_form_h0, .inl (cB, n_a_bytes_a_form_h0, .inl b_a_bytes_a_form_h0))]) hr d_Wr_lead_269 [4, 5, 6, 0, 2, 3, 1] rfl (by decide) ⟨a_bytes_a_form_h0, rfl, rfl⟩
                                          · replace h := it_f c100 h
                                            by_cases c101 : r1 = 23
                                            · replace h := it_t c101 h
                                              refine j_tabIn (tgt := 269) (off := 264) d_Wr_lead_5 23 c101 (by decide) (by decide) (by decide) (by decide) ?_
                                              replace h := lf_s h
                                              obtain ⟨h, e1, e2⟩ := h
                                              replace h := Prod.mk.inj h
                                              obtain ⟨h9, h⟩ := h
                                              subst h9
                                              replace h := Prod.mk.inj h
                                              obtain ⟨h9, h⟩ := h
                                              subst h9
                                              replace h := Prod.mk.inj h
                                              obtain ⟨h9, h⟩ := h
                                              subst h9
                                              subst h
                                              refine j_widen (cl' := mc) (sl' := ms) (by omega) (by omega) ?_
                                              exact j_vret (w := [(h0, .inr (6, [.ref a_tree_h0, .ref a_source_h0, .ref a_form_h0, .int indent_h0, .int fits_h0])), (a_tree_h0, .inr (1, [.ref a_cells_a_tree_h0, .int count_a_tree_h0])), (a_cells_a_tree_h0, .inl (cI, n_a_cells_a_tree_h0, .inl b_a_cells_a_tree_h0)), (a_form_h0, .inr (3, [.ref a_bytes_a_form_h0, .int size_a_form_h0])), (a_source_h0, .inr (3, [.ref a_bytes_a_source_h0, .int size_a_source_h0])), (a_bytes_a_source_h0, .inl (cB, n_a_bytes_a_source_h0, .inl b_a_bytes_a_source_h0)), (a_bytes_a_form_h0, .inl (cB, n_a_bytes_a_form_h0, .inl b_a_bytes_a_form_h0))]) hr d_Wr_lead_269 [4, 5, 6, 0, 2, 3, 1] rfl (by decide) ⟨a_bytes_a_form_h0, rfl, rfl⟩
                                            · replace h := it_f c101 h
                                              by_cases c102 : r1 = 24
                                              · replace h := it_t c102 h
                                                refine j_tabIn (tgt := 269) (off := 264) d_Wr_lead_5 24 c102 (by decide) (by decide) (by decide) (by decide) ?_
                                                replace h := lf_s h
                                                obtain ⟨h, e1, e2⟩ := h
                                                replace h := Prod.mk.inj h
                                                obtain ⟨h9, h⟩ := h
                                                subst h9
                                                replace h := Prod.mk.inj h
                                                obtain ⟨h9, h⟩ := h
                                                subst h9
                                                replace h := Prod.mk.inj h
                                                obtain ⟨h9, h⟩ := h
                                                subst h9
                                                subst h
                                                refine j_widen (cl' := mc) (sl' := ms) (by omega) (by omega) ?_
                                                exact j_vret (w := [(h0, .inr (6, [.ref a_tree_h0, .ref a_source_h0, .ref a_form_h0, .int indent_h0, .int fits_h0])), (a_tree_h0, .inr (1, [.ref a_cells_a_tree_h0, .int count_a_tree_h0])), (a_cells_a_tree_h0, .inl (cI, n_a_cells_a_tree_h0, .inl b_a_cells_a_tree_h0)), (a_form_h0, .inr (3, [.ref a_bytes_a_form_h0, .int size_a_form_h0])), (a_source_h0, .inr (3, [.ref a_bytes_a_source_h0, .int size_a_source_h0])), (a_bytes_a_source_h0, .inl (cB, n_a_bytes_a_source_h0, .inl b_a_bytes_a_source_h0)), (a_bytes_a_form_h0, .inl (cB, n_a_bytes_a_form_h0, .inl b_a_bytes_a_form_h0))]) hr d_Wr_lead_269 [4, 5, 6, 0, 2, 3, 1] rfl (by decide) ⟨a_bytes_a_form_h0, rfl, rfl⟩
                                              · replace h := it_f c102 h
                                                by_cases c103 : r1 = 25
                                                · replace h := it_t c103 h
                                                  refine j_tabIn (tgt := 269) (off := 264) d_Wr_lead_5 25 c103 (by decide) (by decide) (by decide) (by decide) ?_
                                                  replace h := lf_s h
                                                  obtain ⟨h, e1, e2⟩ := h
                                                  replace h := Prod.mk.inj h
                                                  obtain ⟨h9, h⟩ := h
                                                  subst h9
                                                  replace h := Prod.mk.inj h
                                                  obtain ⟨h9, h⟩ := h
                                                  subst h9
                                                  replace h := Prod.mk.inj h
                                                  obtain ⟨h9, h⟩ := h
                                                  subst h9
                                                  subst h
                                                  refine j_widen (cl' := mc) (sl' := ms) (by omega) (by omega) ?_
                                                  exact j_vret (w := [(h0, .inr (6, [.ref a_tree_h0, .ref a_source_h0, .ref a_form_h0, .int indent_h0, .int fits_h0])), (a_tree_h0, .inr (1, [.ref a_cells_a_tree_h0, .int count_a_tree_h0])), (a_cells_a_tree_h0, .inl (cI, n_a_cells_a_tree_h0, .inl b_a_cells_a_tree_h0)), (a_form_h0, .inr (3, [.ref a_bytes_a_form_h0, .int size_a_form_h0])), (a_source_h0, .inr (3, [.ref a_bytes_a_source_h0, .int size_a_source_h0])), (a_bytes_a_source_h0, .inl (cB, n_a_bytes_a_source_h0, .inl b_a_bytes_a_source_h0)), (a_bytes_a_form_h0, .inl (cB, n_a_bytes_a_form_h0, .inl b_a_bytes_a_form_h0))]) hr d_Wr_lead_269 [4, 5, 6, 0, 2, 3, 1] rfl (by decide) ⟨a_bytes_a_form_h0, rfl, rfl⟩
                                                · replace h := it_f c103 h
                                                  by_cases c104 : r1 = 26
                                                  · replace h := it_t c104 h
                                                    refine j_tabIn (tgt := 269) (off := 264) d_Wr_lead_5 26 c104 (by decide) (by decide) (by decide) (by decide) ?_
                                                    replace h := lf_s h
                                                    obtain ⟨h, e1, e2⟩ := h
                                                    replace h := Prod.mk.inj h
                                                    obtain ⟨h9, h⟩ := h
                                                    subst h9
                                                    replace h := Prod.mk.inj h
                                                    obtain ⟨h9, h⟩ := h
                                                    subst h9
                                                    replace h := Prod.mk.inj h
                                                    obtain ⟨h9, h⟩ := h
                                                    subst h9
                                                    subst h
                                                    refine j_widen (cl' := mc) (sl' := ms) (by omega) (by omega) ?_
                                                    exact j_vret (w := [(h0, .inr (6, [.ref a_tree_h0, .ref a_source_h0, .ref a_form_h0, .int indent_h0, .int fits_h0])), (a_tree_h0, .inr (1, [.ref a_cells_a_tree_h0, .int count_a_tree_h0])), (a_cells_a_tree_h0, .inl (cI, n_a_cells_a_tree_h0, .inl b_a_cells_a_tree_h0)), (a_form_h0, .inr (3, [.ref a_bytes_a_form_h0, .int size_a_form_h0])), (a_source_h0, .inr (3, [.ref a_bytes_a_source_h0, .int size_a_source_h0])), (a_bytes_a_source_h0, .inl (cB, n_a_bytes_a_source_h0, .inl b_a_bytes_a_source_h0)), (a_bytes_a_form_h0, .inl (cB, n_a_bytes_a_form_h0, .inl b_a_bytes_a_form_h0))]) hr d_Wr_lead_269 [4, 5, 6, 0, 2, 3, 1] rfl (by decide) ⟨a_bytes_a_form_h0, rfl, rfl⟩
                                                  · replace h := it_f c104 h
                                                    by_cases c105 : r1 = 27
                                                    · replace h := it_t c105 h
                                                      refine j_tabIn (tgt := 269) (off := 264) d_Wr_lead_5 27 c105 (by decide) (by decide) (by decide) (by decide) ?_
                                                      replace h := lf_s h
                                                      obtain ⟨h, e1, e2⟩ := h
                                                      replace h := Prod.mk.inj h
                                                      obtain ⟨h9, h⟩ := h
                                                      subst h9
                                                      replace h := Prod.mk.inj h
                                                      obtain ⟨h9, h⟩ := h
                                                      subst h9
                                                      replace h := Prod.mk.inj h
                                                      obtain ⟨h9, h⟩ := h
                                                      subst h9
                                                      subst h
                                                      refine j_widen (cl' := mc) (sl' := ms) (by omega) (by omega) ?_
                                                      exact j_vret (w := [(h0, .inr (6, [.ref a_tree_h0, .ref a_source_h0, .ref a_form_h0, .int indent_h0, .int fits_h0])), (a_tree_h0, .inr (1, [.ref a_cells_a_tree_h0, .int count_a_tree_h0])), (a_cells_a_tree_h0, .inl (cI, n_a_cells_a_tree_h0, .inl b_a_cells_a_tree_h0)), (a_form_h0, .inr (3, [.ref a_bytes_a_form_h0, .int size_a_form_h0])), (a_source_h0, .inr (3, [.ref a_bytes_a_source_h0, .int size_a_source_h0])), (a_bytes_a_source_h0, .inl (cB, n_a_bytes_a_source_h0, .inl b_a_bytes_a_source_h0)), (a_bytes_a_form_h0, .inl (cB, n_a_bytes_a_form_h0, .inl b_a_bytes_a_form_h0))]) hr d_Wr_lead_269 [4, 5, 6, 0, 2, 3, 1] rfl (by decide) ⟨a_bytes_a_form_h0, rfl, rfl⟩
                                                    · replace h := it_f c105 h
                                                      by_cases c106 : r1 = 28
                                                      · replace h := it_t c106 h
                                                        refine j_tabIn (tgt := 269) (off := 264) d_Wr_lead_5 28 c106 (by decide) (by decide) (by decide) (by decide) ?_
                                                        replace h := lf_s h
                                                        obtain ⟨h, e1, e2⟩ := h
                                                        replace h := Prod.mk.inj h
                                                        obtain ⟨h9, h⟩ := h
                                                        subst h9
                                                        replace h := Prod.mk.inj h
                                                        obtain ⟨h9, h⟩ := h
                                                        subst h9
                                                        replace h := Prod.mk.inj h
                                                        obtain ⟨h9, h⟩ := h
                                                        subst h9
                                                        subst h
                                                        refine j_widen (cl' := mc) (sl' := ms) (by omega) (by omega) ?_
                                                        exact j_vret (w := [(h0, .inr (6, [.ref a_tree_h0, .ref a_source_h0, .ref a_form_h0, .int indent_h0, .int fits_h0])), (a_tree_h0, .inr (1, [.ref a_cells_a_tree_h0, .int count_a_tree_h0])), (a_cells_a_tree_h0, .inl (cI, n_a_cells_a_tree_h0, .inl b_a_cells_a_tree_h0)), (a_form_h0, .inr (3, [.ref a_bytes_a_form_h0, .int size_a_form_h0])), (a_source_h0, .inr (3, [.ref a_bytes_a_source_h0, .int size_a_source_h0])), (a_bytes_a_source_h0, .inl (cB, n_a_bytes_a_source_h0, .inl b_a_bytes_a_source_h0)), (a_bytes_a_form_h0, .inl (cB, n_a_bytes_a_form_h0, .inl b_a_bytes_a_form_h0))]) hr d_Wr_lead_269 [4, 5, 6, 0, 2, 3, 1] rfl (by decide) ⟨a_bytes_a_form_h0, rfl, rfl⟩
                                                      · replace h := it_f c106 h
                                                        by_cases c107 : r1 = 29
                                                        · replace h := it_t c107 h
                                                          refine j_tabIn (tgt := 269) (off := 264) d_Wr_lead_5 29 c107 (by decide) (by decide) (by decide) (by decide) ?_
                                                          replace h := lf_s h
                                                          obtain ⟨h, e1, e2⟩ := h
                                                          replace h := Prod.mk.inj h
                                                          obtain ⟨h9, h⟩ := h
                                                          subst h9
                                                          replace h := Prod.mk.inj h
                                                          obtain ⟨h9, h⟩ := h
                                                          subst h9
                                                          replace h := Prod.mk.inj h
                                                          obtain ⟨h9, h⟩ := h
                                                          subst h9
                                                          subst h
                                                          refine j_widen (cl' := mc) (sl' := ms) (by omega) (by omega) ?_
                                                          exact j_vret (w := [(h0, .inr (6, [.ref a_tree_h0, .ref a_source_h0, .ref a_form_h0, .int indent_h0, .int fits_h0])), (a_tree_h0, .inr (1, [.ref a_cells_a_tree_h0, .int count_a_tree_h0])), (a_cells_a_tree_h0, .inl (cI, n_a_cells_a_tree_h0, .inl b_a_cells_a_tree_h0)), (a_form_h0, .inr (3, [.ref a_bytes_a_form_h0, .int size_a_form_h0])), (a_source_h0, .inr (3, [.ref a_bytes_a_source_h0, .int size_a_source_h0])), (a_bytes_a_source_h0, .inl (cB, n_a_bytes_a_source_h0, .inl b_a_bytes_a_source_h0)), (a_bytes_a_form_h0, .inl (cB, n_a_bytes_a_form_h0, .inl b_a_bytes_a_form_h0))]) hr d_Wr_lead_269 [4, 5, 6, 0, 2, 3, 1] rfl (by decide) ⟨a_bytes_a_form_h0, rfl, rfl⟩
                                                        · replace h := it_f c107 h
                                                          by_cases c108 : r1 = 30
                                                          · replace h := it_t c108 h
                                                            refine j_tabIn (tgt := 269) (off := 264) d_Wr_lead_5 30 c108 (by decide) (by decide) (by decide) (by decide) ?_
                                                            replace h := lf_s h
                                                            obtain ⟨h, e1, e2⟩ := h
                                                            replace h := Prod.mk.inj h
                                                            obtain ⟨h9, h⟩ := h
                                                            subst h9
                                                            replace h := Prod.mk.inj h
                                                            obtain ⟨h9, h⟩ := h
                                                            subst h9
                                                            replace h := Prod.mk.inj h
                                                            obtain ⟨h9, h⟩ := h
                                                            subst h9
                                                            subst h
                                                            refine j_widen (cl' := mc) (sl' := ms) (by omega) (by omega) ?_
                                                            exact j_vret (w := [(h0, .inr (6, [.ref a_tree_h0, .ref a_source_h0, .ref a_form_h0, .int indent_h0, .int fits_h0])), (a_tree_h0, .inr (1, [.ref a_cells_a_tree_h0, .int count_a_tree_h0])), (a_cells_a_tree_h0, .inl (cI, n_a_cells_a_tree_h0, .inl b_a_cells_a_tree_h0)), (a_form_h0, .inr (3, [.ref a_bytes_a_form_h0, .int size_a_form_h0])), (a_source_h0, .inr (3, [.ref a_bytes_a_source_h0, .int size_a_source_h0])), (a_bytes_a_source_h0, .inl (cB, n_a_bytes_a_source_h0, .inl b_a_bytes_a_source_h0)), (a_bytes_a_form_h0, .inl (cB, n_a_bytes_a_form_h0, .inl b_a_bytes_a_form_h0))]) hr d_Wr_lead_269 [4, 5, 6, 0, 2, 3, 1] rfl (by decide) ⟨a_bytes_a_form_h0, rfl, rfl⟩
                                                          · replace h := it_f c108 h
                                                            by_cases c109 : r1 = 31
                                                            · replace h := it_t c109 h
                                                              refine j_tabIn (tgt := 269) (off := 264) d_Wr_lead_5 31 c109 (by decide) (by decide) (by decide) (by decide) ?_
                                                              replace h := lf_s h
                                                              obtain ⟨h, e1, e2⟩ := h
                                                              replace h := Prod.mk.inj h
                                                              obtain ⟨h9, h⟩ := h
                                                              subst h9
                                                              replace h := Prod.mk.inj h
                                                              obtain ⟨h9, h⟩ := h
                                                              subst h9
                                                              replace h := Prod.mk.inj h
                                                              obtain ⟨h9, h⟩ := h
                                                              subst h9
                                                              subst h
                                                              refine j_widen (cl' := mc) (sl' := ms) (by omega) (by omega) ?_
                                                              exact j_vret (w := [(h0, .inr (6, [.ref a_tree_h0, .ref a_source_h0, .ref a_form_h0, .int indent_h0, .int fits_h0])), (a_tree_h0, .inr (1, [.ref a_cells_a_tree_h0, .int count_a_tree_h0])), (a_cells_a_tree_h0, .inl (cI, n_a_cells_a_tree_h0, .inl b_a_cells_a_tree_h0)), (a_form_h0, .inr (3, [.ref a_bytes_a_form_h0, .int size_a_form_h0])), (a_source_h0, .inr (3, [.ref a_bytes_a_source_h0, .int size_a_source_h0])), (a_bytes_a_source_h0, .inl (cB, n_a_bytes_a_source_h0, .inl b_a_bytes_a_source_h0)), (a_bytes_a_form_h0, .inl (cB, n_a_bytes_a_form_h0, .inl b_a_bytes_a_form_h0))]) hr d_Wr_lead_269 [4, 5, 6, 0, 2, 3, 1] rfl (by decide) ⟨a_bytes_a_form_h0, rfl, rfl⟩
                                                            · replace h := it_f c109 h
                                                              by_cases c110 : r1 = 32
                                                              · replace h := it_t c110 h
                                                                refine j_tabIn (tgt := 269) (off := 264) d_Wr_lead_5 32 c110 (by decide) (by decide) (by decide) (by decide) ?_
                                                                replace h := lf_s h
                                                                obtain ⟨h, e1, e2⟩ := h
                                                                replace h := Prod.mk.inj h
                                                                obtain ⟨h9, h⟩ := h
                                                                subst h9
                                                                replace h := Prod.mk.inj h
                                                                obtain ⟨h9, h⟩ := h
                                                                subst h9
                                                                replace h := Prod.mk.inj h
                                                                obtain ⟨h9, h⟩ := h
                                                                subst h9
                                                                subst h
                                                                refine j_widen (cl' := mc) (sl' := ms) (by omega) (by omega) ?_
                                                                exact j_vret (w := [(h0, .inr (6, [.ref a_tree_h0, .ref a_source_h0, .ref a_form_h0, .int indent_h0, .int fits_h0])), (a_tree_h0, .inr (1, [.ref a_cells_a_tree_h0, .int count_a_tree_h0])), (a_cells_a_tree_h0, .inl (cI, n_a_cells_a_tree_h0, .inl b_a_cells_a_tree_h0)), (a_form_h0, .inr (3, [.ref a_bytes_a_form_h0, .int size_a_form_h0])), (a_source_h0, .inr (3, [.ref a_bytes_a_source_h0, .int size_a_source_h0])), (a_bytes_a_source_h0, .inl (cB, n_a_bytes_a_source_h0, .inl b_a_bytes_a_source_h0)), (a_bytes_a_form_h0, .inl (cB, n_a_bytes_a_form_h0, .inl b_a_bytes_a_form_h0))]) hr d_Wr_lead_269 [4, 5, 6, 0, 2, 3, 1] rfl (by decide) ⟨a_bytes_a_form_h0, rfl, rfl⟩
                                                              · replace h := it_f c110 h
                                                                by_cases c111 : r1 = 33
                                                                · replace h := it_t c111 h
                                                                  refine j_tabIn (tgt := 180) (off := 175) d_Wr_lead_5 33 c111 (by decide) (by decide) (by decide) (by decide) ?_
                                                                  refine j_aload_n d_Wr_lead_180 rfl 0 rfl ?_
                                                                  refine j_ldcS (i := 22) rfl d_Wr_lead_181 ?_
                                                                  replace h := bw_s h
                                                                  obtain ⟨⟨r112, r113, r114, r115⟩, C117, S118, C119, S120, k121, h, e1, e2⟩ := h
                                                                  replace hC : 0 + C117 + C119 ≤ mc := by omega
                                                                  replace hS : 0 + S118 + S120 ≤ ms := by omega
                                                                  clear e1 e2
                                                                  refine j_callV (n := 1) (As := [.ref (sA D 22)]) (rest := []) (wr := [(a_source_h0, .inr (3, [.ref a_bytes_a_source_h0, .int size_a_source_h0])), (a_bytes_a_source_h0, .inl (cB, n_a_bytes_a_source_h0, .inl b_a_bytes_a_source_h0)), (a_tree_h0, .inr (1, [.ref a_cells_a_tree_h0, .int count_a_tree_h0])), (a_cells_a_tree_h0, .inl (cI, n_a_cells_a_tree_h0, .inl b_a_cells_a_tree_h0))]) (c_Wr_put l D cI cB cJ cS h0 a_tree_h0 a_source_h0 a_form_h0 a_bytes_a_form_h0 22 indent_h0 fits_h0 size_a_form_h0 n_a_bytes_a_form_h0 b_a_bytes_a_form_h0  r112 r113 r114 r115 C117 S118 k121) k_Wr_77 (by decide) ⟨Nat.le_of_ble_eq_true rfl, Nat.le_of_ble_eq_true rfl⟩ rfl 0 rfl [4, 0, 1] [2, 3, 5, 6] rfl (by decide) rfl (by decide) (by decide) rfl rfl (Nat.le_of_ble_eq_true rfl) d_Wr_lead_183 ⟨show 0 + C117 ≤ mc by omega, show 0 + S118 ≤ ms by omega⟩ (fun v w hq => ?_)
                                                                  obtain ⟨q116, rfl, rfl⟩ := hq
                                                                  refine j_norm (pc' := 186) (st' := []) (ws' := [(a_source_h0, .inr (3, [.ref a_bytes_a_source_h0, .int size_a_source_h0])), (a_bytes_a_source_h0, .inl (cB, n_a_bytes_a_source_h0, .inl b_a_bytes_a_source_h0)), (a_tree_h0, .inr (1, [.ref a_cells_a_tree_h0, .int count_a_tree_h0])), (a_cells_a_tree_h0, .inl (cI, n_a_cells_a_tree_h0, .inl b_a_cells_a_tree_h0)), (h0, .inr (6, [.ref a_tree_h0, .ref a_source_h0, .ref a_form_h0, .int indent_h0, .int r112])), (a_form_h0, .inr (3, [.ref q116, .int r113])), (q116, .inl (cB, r114, .inl r115))]) (cl' := 0 + C117) (sl' := 0 + S118) rfl rfl rfl rfl rfl rfl ?_
                                                                  refine j_goto (tgt := 269) d_Wr_lead_186 (by decide) ?_
                                                                  replace h := lf_s h
                                                                  obtain ⟨h, e1, e2⟩ := h
                                                                  replace h := Prod.mk.inj h
                                                                  obtain ⟨h9, h⟩ := h
                                                                  subst h9
                                                                  replace h := Prod.mk.inj h
                                                                  obtain ⟨h9, h⟩ := h
                                                                  subst h9
                                                                  replace h := Prod.mk.inj h
                                                                  obtain ⟨h9, h⟩ := h
                                                                  subst h9
                                                                  subst h
                                                                  refine j_widen (cl' := mc) (sl' := ms) (by omega) (by omega) ?_
                                                                  exact j_vret (w := [(h0, .inr (6, [.ref a_tree_h0, .ref a_source_h0, .ref a_form_h0, .int indent_h0, .int r112])), (a_tree_h0, .inr (1, [.ref a_cells_a_tree_h0, .int count_a_tree_h0])), (a_cells_a_tree_h0, .inl (cI, n_a_cells_a_tree_h0, .inl b_a_cells_a_tree_h0)), (a_form_h0, .inr (3, [.ref q116, .int r113])), (a_source_h0, .inr (3, [.ref a_bytes_a_source_h0, .int size_a_source_h0])), (a_bytes_a_source_h0, .inl (cB, n_a_bytes_a_source_h0, .inl b_a_bytes_a_source_h0)), (q116, .inl (cB, r114, .inl r115))]) hr d_Wr_lead_269 [4, 2, 3, 5, 0, 1, 6] rfl (by decide) ⟨q116, rfl, rfl⟩
                                                                · replace h := it_f c111 h
                                                                  by_cases c122 : r1 = 34
                                                                  · replace h := it_t c122 h
                                                                    refine j_tabIn (tgt := 269) (off := 264) d_Wr_lead_5 34 c122 (by decide) (by decide) (by decide) (by decide) ?_
                                                                    replace h := lf_s h
                                                                    obtain ⟨h, e1, e2⟩ := h
                                                                    replace h := Prod.mk.inj h
                                                                    obtain ⟨h9, h⟩ := h
                                                                    subst h9
                                                                    replace h := Prod.mk.inj h
                                                                    obtain ⟨h9, h⟩ := h
                                                                    subst h9
                                                                    replace h := Prod.mk.inj h
                                                                    obtain ⟨h9, h⟩ := h
                                                                    subst h9
                                                                    subst h
                                                                    refine j_widen (cl' := mc) (sl' := ms) (by omega) (by omega) ?_
                                                                    exact j_vret (w := [(h0, .inr (6, [.ref a_tree_h0, .ref a_source_h0, .ref a_form_h0, .int indent_h0, .int fits_h0])), (a_tree_h0, .inr (1, [.ref a_cells_a_tree_h0, .int count_a_tree_h0])), (a_cells_a_tree_h0, .inl (cI, n_a_cells_a_tree_h0, .inl b_a_cells_a_tree_h0)), (a_form_h0, .inr (3, [.ref a_bytes_a_form_h0, .int size_a_form_h0])), (a_source_h0, .inr (3, [.ref a_bytes_a_source_h0, .int size_a_source_h0])), (a_bytes_a_source_h0, .inl (cB, n_a_bytes_a_source_h0, .inl b_a_bytes_a_source_h0)), (a_bytes_a_form_h0, .inl (cB, n_a_bytes_a_form_h0, .inl b_a_bytes_a_form_h0))]) hr d_Wr_lead_269 [4, 5, 6, 0, 2, 3, 1] rfl (by decide) ⟨a_bytes_a_form_h0, rfl, rfl⟩
                                                                  · replace h := it_f c122 h
                                                                    by_cases c123 : r1 = 35
                                                                    · replace h := it_t c123 h
                                                                      refine j_tabIn (tgt := 269) (off := 264) d_Wr_lead_5 35 c123 (by decide) (by decide) (by decide) (by decide) ?_
                                                                      replace h := lf_s h
                                                                      obtain ⟨h, e1, e2⟩ := h
                                                                      replace h := Prod.mk.inj h
                                                                      obtain ⟨h9, h⟩ := h
                                                                      subst h9
                                                                      replace h := Prod.mk.inj h
                                                                      obtain ⟨h9, h⟩ := h
                                                                      subst h9
                                                                      replace h := Prod.mk.inj h
                                                                      obtain ⟨h9, h⟩ := h
                                                                      subst h9
                                                                      subst h
                                                                      refine j_widen (cl' := mc) (sl' := ms) (by omega) (by omega) ?_
                                                                      exact j_vret (w := [(h0, .inr (6, [.ref a_tree_h0, .ref a_source_h0, .ref a_form_h0, .int indent_h0, .int fits_h0])), (a_tree_h0, .inr (1, [.ref a_cells_a_tree_h0, .int count_a_tree_h0])), (a_cells_a_tree_h0, .inl (cI, n_a_cells_a_tree_h0, .inl b_a_cells_a_tree_h0)), (a_form_h0, .inr (3, [.ref a_bytes_a_form_h0, .int size_a_form_h0])), (a_source_h0, .inr (3, [.ref a_bytes_a_source_h0, .int size_a_source_h0])), (a_bytes_a_source_h0, .inl (cB, n_a_bytes_a_source_h0, .inl b_a_bytes_a_source_h0)), (a_bytes_a_form_h0, .inl (cB, n_a_bytes_a_form_h0, .inl b_a_bytes_a_form_h0))]) hr d_Wr_lead_269 [4, 5, 6, 0, 2, 3, 1] rfl (by decide) ⟨a_bytes_a_form_h0, rfl, rfl⟩
                                                                    · replace h := it_f c123 h
                                                                      by_cases c124 : r1 = 36
                                                                      · replace h := it_t c124 h
                                                                        refine j_tabIn (tgt := 189) (off := 184) d_Wr_lead_5 36 c124 (by decide) (by decide) (by decide) (by decide) ?_
                                                                        refine j_aload_n d_Wr_lead_189 rfl 0 rfl ?_
                                                                        refine j_ldcS (i := 23) rfl d_Wr_lead_190 ?_
                                                                        replace h := bw_s h
                                                                        obtain ⟨⟨r125, r126, r127, r128⟩, C130, S131, C132, S133, k134, h, e1, e2⟩ := h
                                                                        replace hC : 0 + C130 + C132 ≤ mc := by omega
                                                                        replace hS : 0 + S131 + S133 ≤ ms := by omega
                                                                        clear e1 e2
                                                                        refine j_callV (n := 1) (As := [.ref (sA D 23)]) (rest := []) (wr := [(a_source_h0, .inr (3, [.ref a_bytes_a_source_h0, .int size_a_source_h0])), (a_bytes_a_source_h0, .inl (cB, n_a_bytes_a_source_h0, .inl b_a_bytes_a_source_h0)), (a_tree_h0, .inr (1, [.ref a_cells_a_tree_h0, .int count_a_tree_h0])), (a_cells_a_tree_h0, .inl (cI, n_a_cells_a_tree_h0, .inl b_a_cells_a_tree_h0))]) (c_Wr_put l D cI cB cJ cS h0 a_tree_h0 a_source_h0 a_form_h0 a_bytes_a_form_h0 23 indent_h0 fits_h0 size_a_form_h0 n_a_bytes_a_form_h0 b_a_bytes_a_form_h0  r125 r126 r127 r128 C130 S131 k134) k_Wr_77 (by decide) ⟨Nat.le_of_ble_eq_true rfl, Nat.le_of_ble_eq_true rfl⟩ rfl 0 rfl [4, 0, 1] [2, 3, 5, 6] rfl (by decide) rfl (by decide) (by decide) rfl rfl (Nat.le_of_ble_eq_true rfl) d_Wr_lead_192 ⟨show 0 + C130 ≤ mc by omega, show 0 + S131 ≤ ms by omega⟩ (fun v w hq => ?_)
                                                                        obtain ⟨q129, rfl, rfl⟩ := hq
                                                                        refine j_norm (pc' := 195) (st' := []) (ws' := [(a_source_h0, .inr (3, [.ref a_bytes_a_source_h0, .int size_a_source_h0])), (a_bytes_a_source_h0, .inl (cB, n_a_bytes_a_source_h0, .inl b_a_bytes_a_source_h0)), (a_tree_h0, .inr (1, [.ref a_cells_a_tree_h0, .int count_a_tree_h0])), (a_cells_a_tree_h0, .inl (cI, n_a_cells_a_tree_h0, .inl b_a_cells_a_tree_h0)), (h0, .inr (6, [.ref a_tree_h0, .ref a_source_h0, .ref a_form_h0, .int indent_h0, .int r125])), (a_form_h0, .inr (3, [.ref q129, .int r126])), (q129, .inl (cB, r127, .inl r128))]) (cl' := 0 + C130) (sl' := 0 + S131) rfl rfl rfl rfl rfl rfl ?_
                                                                        refine j_goto (tgt := 269) d_Wr_lead_195 (by decide) ?_
                                                                        replace h := lf_s h
                                                                        obtain ⟨h, e1, e2⟩ := h
                                                                        replace h := Prod.mk.inj h
                                                                        obtain ⟨h9, h⟩ := h
                                                                        subst h9
                                                                        replace h := Prod.mk.inj h
                                                                        obtain ⟨h9, h⟩ := h
                                                                        subst h9
                                                                        replace h := Prod.mk.inj h
                                                                        obtain ⟨h9, h⟩ := h
                                                                        subst h9
                                                                        subst h
                                                                        refine j_widen (cl' := mc) (sl' := ms) (by omega) (by omega) ?_
                                                                        exact j_vret (w := [(h0, .inr (6, [.ref a_tree_h0, .ref a_source_h0, .ref a_form_h0, .int indent_h0, .int r125])), (a_tree_h0, .inr (1, [.ref a_cells_a_tree_h0, .int count_a_tree_h0])), (a_cells_a_tree_h0, .inl (cI, n_a_cells_a_tree_h0, .inl b_a_cells_a_tree_h0)), (a_form_h0, .inr (3, [.ref q129, .int r126])), (a_source_h0, .inr (3, [.ref a_bytes_a_source_h0, .int size_a_source_h0])), (a_bytes_a_source_h0, .inl (cB, n_a_bytes_a_source_h0, .inl b_a_bytes_a_source_h0)), (q129, .inl (cB, r127, .inl r128))]) hr d_Wr_lead_269 [4, 2, 3, 5, 0, 1, 6] rfl (by decide) ⟨q129, rfl, rfl⟩
                                                                      · replace h := it_f c124 h
                                                                        by_cases c135 : r1 = 37
                                                                        · replace h := it_t c135 h
                                                                          refine j_tabIn (tgt := 180) (off := 175) d_Wr_lead_5 37 c135 (by decide) (by decide) (by decide) (by decide) ?_
                                                                          refine j_aload_n d_Wr_lead_180 rfl 0 rfl ?_
                                                                          refine j_ldcS (i := 22) rfl d_Wr_lead_181 ?_
                                                                          replace h := bw_s h
                                                                          obtain ⟨⟨r136, r137, r138, r139⟩, C141, S142, C143, S144, k145, h, e1, e2⟩ := h
                                                                          replace hC : 0 + C141 + C143 ≤ mc := by omega
                                                                          replace hS : 0 + S142 + S144 ≤ ms := by omega
                                                                          clear e1 e2
                                                                          refine j_callV (n := 1) (As := [.ref (sA D 22)]) (rest := []) (wr := [(a_source_h0, .inr (3, [.ref a_bytes_a_source_h0, .int size_a_source_h0])), (a_bytes_a_source_h0, .inl (cB, n_a_bytes_a_source_h0, .inl b_a_bytes_a_source_h0)), (a_tree_h0, .inr (1, [.ref a_cells_a_tree_h0, .int count_a_tree_h0])), (a_cells_a_tree_h0, .inl (cI, n_a_cells_a_tree_h0, .inl b_a_cells_a_tree_h0))]) (c_Wr_put l D cI cB cJ cS h0 a_tree_h0 a_source_h0 a_form_h0 a_bytes_a_form_h0 22 indent_h0 fits_h0 size_a_form_h0 n_a_bytes_a_form_h0 b_a_bytes_a_form_h0  r136 r137 r138 r139 C141 S142 k145) k_Wr_77 (by decide) ⟨Nat.le_of_ble_eq_true rfl, Nat.le_of_ble_eq_true rfl⟩ rfl 0 rfl [4, 0, 1] [2, 3, 5, 6] rfl (by decide) rfl (by decide) (by decide) rfl rfl (Nat.le_of_ble_eq_true rfl) d_Wr_lead_183 ⟨show 0 + C141 ≤ mc by omega, show 0 + S142 ≤ ms by omega⟩ (fun v w hq => ?_)
                                                                          obtain ⟨q140, rfl, rfl⟩ := hq
                                                                          refine j_norm (pc' := 186) (st' := []) (ws' := [(a_source_h0, .inr (3, [.ref a_bytes_a_source_h0, .int size_a_source_h0])), (a_bytes_a_source_h0, .inl (cB, n_a_bytes_a_source_h0, .inl b_a_bytes_a_source_h0)), (a_tree_h0, .inr (1, [.ref a_cells_a_tree_h0, .int count_a_tree_h0])), (a_cells_a_tree_h0, .inl (cI, n_a_cells_a_tree_h0, .inl b_a_cells_a_tree_h0)), (h0, .inr (6, [.ref a_tree_h0, .ref a_source_h0, .ref a_form_h0, .int indent_h0, .int r136])), (a_form_h0, .inr (3, [.ref q140, .int r137])), (q140, .inl (cB, r138, .inl r139))]) (cl' := 0 + C141) (sl' := 0 + S142) rfl rfl rfl rfl rfl rfl ?_
                                                                          refine j_goto (tgt := 269) d_Wr_lead_186 (by decide) ?_
                                                                          replace h := lf_s h
                                                                          obtain ⟨h, e1, e2⟩ := h
                                                                          replace h := Prod.mk.inj h
                                                                          obtain ⟨h9, h⟩ := h
                                                                          subst h9
                                                                          replace h := Prod.mk.inj h
                                                                          obtain ⟨h9, h⟩ := h
                                                                          subst h9
                                                                          replace h := Prod.mk.inj h
                                                                          obtain ⟨h9, h⟩ := h
                                                                          subst h9
                                                                          subst h
                                                                          refine j_widen (cl' := mc) (sl' := ms) (by omega) (by omega) ?_
                                                                          exact j_vret (w := [(h0, .inr (6, [.ref a_tree_h0, .ref a_source_h0, .ref a_form_h0, .int indent_h0, .int r136])), (a_tree_h0, .inr (1, [.ref a_cells_a_tree_h0, .int count_a_tree_h0])), (a_cells_a_tree_h0, .inl (cI, n_a_cells_a_tree_h0, .inl b_a_cells_a_tree_h0)), (a_form_h0, .inr (3, [.ref q140, .int r137])), (a_source_h0, .inr (3, [.ref a_bytes_a_source_h0, .int size_a_source_h0])), (a_bytes_a_source_h0, .inl (cB, n_a_bytes_a_source_h0, .inl b_a_bytes_a_source_h0)), (q140, .inl (cB, r138, .inl r139))]) hr d_Wr_lead_269 [4, 2, 3, 5, 0, 1, 6] rfl (by decide) ⟨q140, rfl, rfl⟩
                                                                        · replace h := it_f c135 h
                                                                          by_cases c146 : r1 = 38
                                                                          · replace h := it_t c146 h
                                                                            refine j_tabIn (tgt := 269) (off := 264) d_Wr_lead_5 38 c146 (by decide) (by decide) (by decide) (by decide) ?_
                                                                            replace h := lf_s h
                                                                            obtain ⟨h, e1, e2⟩ := h
                                                                            replace h := Prod.mk.inj h
                                                                            obtain ⟨h9, h⟩ := h
                                                                            subst h9
                                                                            replace h := Prod.mk.inj h
                                                                            obtain ⟨h9, h⟩ := h
                                                                            subst h9
                                                                            replace h := Prod.mk.inj h
                                                                            obtain ⟨h9, h⟩ := h
                                                                            subst h9
                                                                            subst h
                                                                            refine j_widen (cl' := mc) (sl' := ms) (by omega) (by omega) ?_
                                                                            exact j_vret (w := [(h0, .inr (6, [.ref a_tree_h0, .ref a_source_h0, .ref a_form_h0, .int indent_h0, .int fits_h0])), (a_tree_h0, .inr (1, [.ref a_cells_a_tree_h0, .int count_a_tree_h0])), (a_cells_a_tree_h0, .inl (cI, n_a_cells_a_tree_h0, .inl b_a_cells_a_tree_h0)), (a_form_h0, .inr (3, [.ref a_bytes_a_form_h0, .int size_a_form_h0])), (a_source_h0, .inr (3, [.ref a_bytes_a_source_h0, .int size_a_source_h0])), (a_bytes_a_source_h0, .inl (cB, n_a_bytes_a_source_h0, .inl b_a_bytes_a_source_h0)), (a_bytes_a_form_h0, .inl (cB, n_a_bytes_a_form_h0, .inl b_a_bytes_a_form_h0))]) hr d_Wr_lead_269 [4, 5, 6, 0, 2, 3, 1] rfl (by decide) ⟨a_bytes_a_form_h0, rfl, rfl⟩
                                                                          · replace h := it_f c146 h
                                                                            by_cases c147 : r1 = 39
                                                                            · replace h := it_t c147 h
                                                                              refine j_tabIn (tgt := 269) (off := 264) d_Wr_lead_5 39 c147 (by decide) (by decide) (by decide) (by decide) ?_
                                                                              replace h := lf_s h
                                                                              obtain ⟨h, e1, e2⟩ := h
                                                                              replace h := Prod.mk.inj h
                                                                              obtain ⟨h9, h⟩ := h
                                                                              subst h9
                                                                              replace h := Prod.mk.inj h
                                                                              obtain ⟨h9, h⟩ := h
                                                                              subst h9
                                                                              replace h := Prod.mk.inj h
                                                                              obtain ⟨h9, h⟩ := h
                                                                              subst h9
                                                                              subst h
                                                                              refine j_widen (cl' := mc) (sl' := ms) (by omega) (by omega) ?_
                                                                              exact j_vret (w := [(h0, .inr (6, [.ref a_tree_h0, .ref a_source_h0, .ref a_form_h0, .int indent_h0, .int fits_h0])), (a_tree_h0, .inr (1, [.ref a_cells_a_tree_h0, .int count_a_tree_h0])), (a_cells_a_tree_h0, .inl (cI, n_a_cells_a_tree_h0, .inl b_a_cells_a_tree_h0)), (a_form_h0, .inr (3, [.ref a_bytes_a_form_h0, .int size_a_form_h0])), (a_source_h0, .inr (3, [.ref a_bytes_a_source_h0, .int size_a_source_h0])), (a_bytes_a_source_h0, .inl (cB, n_a_bytes_a_source_h0, .inl b_a_bytes_a_source_h0)), (a_bytes_a_form_h0, .inl (cB, n_a_bytes_a_form_h0, .inl b_a_bytes_a_form_h0))]) hr d_Wr_lead_269 [4, 5, 6, 0, 2, 3, 1] rfl (by decide) ⟨a_bytes_a_form_h0, rfl, rfl⟩
                                                                            · replace h := it_f c147 h
                                                                              by_cases c148 : r1 = 40
                                                                              · replace h := it_t c148 h
                                                                                refine j_tabIn (tgt := 216) (off := 211) d_Wr_lead_5 40 c148 (by decide) (by decide) (by decide) (by decide) ?_
                                                                                refine j_aload_n d_Wr_lead_216 rfl 0 rfl ?_
                                                                                refine j_iload_n d_Wr_lead_217 rfl 1 rfl ?_
                                                                                replace h := bw_s h
                                                                                obtain ⟨⟨r149, r150, r151, r152⟩, C154, S155, C156, S157, k158, h, e1, e2⟩ := h
                                                                                replace hC : 0 + C154 + C156 ≤ mc := by omega
                                                                                replace hS : 0 + S155 + S157 ≤ ms := by omega
                                                                                clear e1 e2
                                                                                refine j_callV (n := 1) (As := [.int p1]) (rest := []) (wr := []) (c_Wr_putOperation l D cI cB cJ cS h0 a_tree_h0 a_source_h0 a_form_h0 a_cells_a_tree_h0 a_bytes_a_source_h0 a_bytes_a_form_h0 p1 indent_h0 fits_h0 count_a_tree_h0 n_a_cells_a_tree_h0 b_a_cells_a_tree_h0 size_a_source_h0 n_a_bytes_a_source_h0 b_a_bytes_a_source_h0 size_a_form_h0 n_a_bytes_a_form_h0 b_a_bytes_a_form_h0  r149 r150 r151 r152 C154 S155 k158) k_Wr_131 (by decide) ⟨Nat.le_of_ble_eq_true rfl, Nat.le_of_ble_eq_true rfl⟩ rfl 0 rfl [4, 5, 6, 2, 3, 0, 1] [] rfl (by decide) rfl (by decide) (by decide) rfl rfl (Nat.le_of_ble_eq_true rfl) d_Wr_lead_218 ⟨show 0 + C154 ≤ mc by omega, show 0 + S155 ≤ ms by omega⟩ (fun v w hq => ?_)
                                                                                obtain ⟨q153, rfl, rfl⟩ := hq
                                                                                refine j_norm (pc' := 221) (st' := []) (ws' := [(h0, .inr (6, [.ref a_tree_h0, .ref a_source_h0, .ref a_form_h0, .int indent_h0, .int r149])), (a_tree_h0, .inr (1, [.ref a_cells_a_tree_h0, .int count_a_tree_h0])), (a_cells_a_tree_h0, .inl (cI, n_a_cells_a_tree_h0, .inl b_a_cells_a_tree_h0)), (a_source_h0, .inr (3, [.ref a_bytes_a_source_h0, .int size_a_source_h0])), (a_bytes_a_source_h0, .inl (cB, n_a_bytes_a_source_h0, .inl b_a_bytes_a_source_h0)), (a_form_h0, .inr (3, [.ref q153, .int r150])), (q153, .inl (cB, r151, .inl r152))]) (cl' := 0 + C154) (sl' := 0 + S155) rfl rfl rfl rfl rfl rfl ?_
                                                                                refine j_goto (tgt := 269) d_Wr_lead_221 (by decide) ?_
                                                                                replace h := lf_s h
                                                                                obtain ⟨h, e1, e2⟩ := h
                                                                                replace h := Prod.mk.inj h
                                                                                obtain ⟨h9, h⟩ := h
                                                                                subst h9
                                                                                replace h := Prod.mk.inj h
                                                                                obtain ⟨h9, h⟩ := h
                                                                                subst h9
                                                                                replace h := Prod.mk.inj h
                                                                                obtain ⟨h9, h⟩ := h
                                                                                subst h9
                                                                                subst h
                                                                                refine j_widen (cl' := mc) (sl' := ms) (by omega) (by omega) ?_
                                                                                exact j_vret (w := [(h0, .inr (6, [.ref a_tree_h0, .ref a_source_h0, .ref a_form_h0, .int indent_h0, .int r149])), (a_tree_h0, .inr (1, [.ref a_cells_a_tree_h0, .int count_a_tree_h0])), (a_cells_a_tree_h0, .inl (cI, n_a_cells_a_tree_h0, .inl b_a_cells_a_tree_h0)), (a_form_h0, .inr (3, [.ref q153, .int r150])), (a_source_h0, .inr (3, [.ref a_bytes_a_source_h0, .int size_a_source_h0])), (a_bytes_a_source_h0, .inl (cB, n_a_bytes_a_source_h0, .inl b_a_bytes_a_source_h0)), (q153, .inl (cB, r151, .inl r152))]) hr d_Wr_lead_269 [0, 1, 2, 5, 3, 4, 6] rfl (by decide) ⟨q153, rfl, rfl⟩
                                                                              · replace h := it_f c148 h
                                                                                by_cases c159 : r1 = 41
                                                                                · replace h := it_t c159 h
                                                                                  refine j_tabIn (tgt := 207) (off := 202) d_Wr_lead_5 41 c159 (by decide) (by decide) (by decide) (by decide) ?_
                                                                                  refine j_aload_n d_Wr_lead_207 rfl 0 rfl ?_
                                                                                  refine j_ldcS (i := 25) rfl d_Wr_lead_208 ?_
                                                                                  replace h := bw_s h
                                                                                  obtain ⟨⟨r160, r161, r162, r163⟩, C165, S166, C167, S168, k169, h, e1, e2⟩ := h
                                                                                  replace hC : 0 + C165 + C167 ≤ mc := by omega
                                                                                  replace hS : 0 + S166 + S168 ≤ ms := by omega
                                                                                  clear e1 e2
                                                                                  refine j_callV (n := 1) (As := [.ref (sA D 25)]) (rest := []) (wr := [(a_source_h0, .inr (3, [.ref a_bytes_a_source_h0, .int size_a_source_h0])), (a_bytes_a_source_h0, .inl (cB, n_a_bytes_a_source_h0, .inl b_a_bytes_a_source_h0)), (a_tree_h0, .inr (1, [.ref a_cells_a_tree_h0, .int count_a_tree_h0])), (a_cells_a_tree_h0, .inl (cI, n_a_cells_a_tree_h0, .inl b_a_cells_a_tree_h0))]) (c_Wr_put l D cI cB cJ cS h0 a_tree_h0 a_source_h0 a_form_h0 a_bytes_a_form_h0 25 indent_h0 fits_h0 size_a_form_h0 n_a_bytes_a_form_h0 b_a_bytes_a_form_h0  r160 r161 r162 r163 C165 S166 k169) k_Wr_77 (by decide) ⟨Nat.le_of_ble_eq_true rfl, Nat.le_of_ble_eq_true rfl⟩ rfl 0 rfl [4, 0, 1] [2, 3, 5, 6] rfl (by decide) rfl (by decide) (by decide) rfl rfl (Nat.le_of_ble_eq_true rfl) d_Wr_lead_210 ⟨show 0 + C165 ≤ mc by omega, show 0 + S166 ≤ ms by omega⟩ (fun v w hq => ?_)
                                                                                  obtain ⟨q164, rfl, rfl⟩ := hq
                                                                                  refine j_norm (pc' := 213) (st' := []) (ws' := [(a_source_h0, .inr (3, [.ref a_bytes_a_source_h0, .int size_a_source_h0])), (a_bytes_a_source_h0, .inl (cB, n_a_bytes_a_source_h0, .inl b_a_bytes_a_source_h0)), (a_tree_h0, .inr (1, [.ref a_cells_a_tree_h0, .int count_a_tree_h0])), (a_cells_a_tree_h0, .inl (cI, n_a_cells_a_tree_h0, .inl b_a_cells_a_tree_h0)), (h0, .inr (6, [.ref a_tree_h0, .ref a_source_h0, .ref a_form_h0, .int indent_h0, .int r160])), (a_form_h0, .inr (3, [.ref q164, .int r161])), (q164, .inl (cB, r162, .inl r163))]) (cl' := 0 + C165) (sl' := 0 + S166) rfl rfl rfl rfl rfl rfl ?_
                                                                                  refine j_goto (tgt := 269) d_Wr_lead_213 (by decide) ?_
                                                                                  replace h := lf_s h
                                                                                  obtain ⟨h, e1, e2⟩ := h
                                                                                  replace h := Prod.mk.inj h
                                                                                  obtain ⟨h9, h⟩ := h
                                                                                  subst h9
                                                                                  replace h := Prod.mk.inj h
                                                                                  obtain ⟨h9, h⟩ := h
                                                                                  subst h9
                                                                                  replace h := Prod.mk.inj h
                                                                                  obtain ⟨h9, h⟩ := h
                                                                                  subst h9
                                                                                  subst h
                                                                                  refine j_widen (cl' := mc) (sl' := ms) (by omega) (by omega) ?_
                                                                                  exact j_vret (w := [(h0, .inr (6, [.ref a_tree_h0, .ref a_source_h0, .ref a_form_h0, .int indent_h0, .int r160])), (a_tree_h0, .inr (1, [.ref a_cells_a_tree_h0, .int count_a_tree_h0])), (a_cells_a_tree_h0, .inl (cI, n_a_cells_a_tree_h0, .inl b_a_cells_a_tree_h0)), (a_form_h0, .inr (3, [.ref q164, .int r161])), (a_source_h0, .inr (3, [.ref a_bytes_a_source_h0, .int size_a_source_h0])), (a_bytes_a_source_h0, .inl (cB, n_a_bytes_a_source_h0, .inl b_a_bytes_a_source_h0)), (q164, .inl (cB, r162, .inl r163))]) hr d_Wr_lead_269 [4, 2, 3, 5, 0, 1, 6] rfl (by decide) ⟨q164, rfl, rfl⟩
                                                                                · replace h := it_f c159 h
                                                                                  refine j_tabOut (tgt := 269) d_Wr_lead_5 (by have := lv_neT c3 (by decide : (2 : Int32).toInt = 2); have := lv_neT c14 (by decide : (3 : Int32).toInt = 3); have := lv_neT c15 (by decide : (4 : Int32).toInt = 4); have := lv_neT c16 (by decide : (5 : Int32).toInt = 5); have := lv_neT c17 (by decide : (6 : Int32).toInt = 6); have := lv_neT c18 (by decide : (7 : Int32).toInt = 7); have := lv_neT c19 (by decide : (8 : Int32).toInt = 8); have := lv_neT c20 (by decide : (9 : Int32).toInt = 9); have := lv_neT c21 (by decide : (10 : Int32).toInt = 10); have := lv_neT c22 (by decide : (11 : Int32).toInt = 11); have := lv_neT c50 (by decide : (12 : Int32).toInt = 12); have := lv_neT c51 (by decide : (13 : Int32).toInt = 13); have := lv_neT c52 (by decide : (14 : Int32).toInt = 14); have := lv_neT c63 (by decide : (15 : Int32).toInt = 15); have := lv_neT c64 (by decide : (16 : Int32).toInt = 16); have := lv_neT c65 (by decide : (17 : Int32).toInt = 17); have := lv_neT c66 (by decide : (18 : Int32).toInt = 18); have := lv_neT c77 (by decide : (19 : Int32).toInt = 19); have := lv_neT c88 (by decide : (20 : Int32).toInt = 20); have := lv_neT c89 (by decide : (21 : Int32).toInt = 21); have := lv_neT c100 (by decide : (22 : Int32).toInt = 22); have := lv_neT c101 (by decide : (23 : Int32).toInt = 23); have := lv_neT c102 (by decide : (24 : Int32).toInt = 24); have := lv_neT c103 (by decide : (25 : Int32).toInt = 25); have := lv_neT c104 (by decide : (26 : Int32).toInt = 26); have := lv_neT c105 (by decide : (27 : Int32).toInt = 27); have := lv_neT c106 (by decide : (28 : Int32).toInt = 28); have := lv_neT c107 (by decide : (29 : Int32).toInt = 29); have := lv_neT c108 (by decide : (30 : Int32).toInt = 30); have := lv_neT c109 (by decide : (31 : Int32).toInt = 31); have := lv_neT c110 (by decide : (32 : Int32).toInt = 32); have := lv_neT c111 (by decide : (33 : Int32).toInt = 33); have := lv_neT c122 (by decide : (34 : Int32).toInt = 34); have := lv_neT c123 (by decide : (35 : Int32).toInt = 35); have := lv_neT c124 (by decide : (36 : Int32).toInt = 36); have := lv_neT c135 (by decide : (37 : Int32).toInt = 37); have := lv_neT c146 (by decide : (38 : Int32).toInt = 38); have := lv_neT c147 (by decide : (39 : Int32).toInt = 39); have := lv_neT c148 (by decide : (40 : Int32).toInt = 40); have := lv_neT c159 (by decide : (41 : Int32).toInt = 41); omega) (by decide) ?_
                                                                                  replace h := lf_s h
                                                                                  obtain ⟨h, e1, e2⟩ := h
                                                                                  replace h := Prod.mk.inj h
                                                                                  obtain ⟨h9, h⟩ := h
                                                                                  subst h9
                                                                                  replace h := Prod.mk.inj h
                                                                                  obtain ⟨h9, h⟩ := h
                                                                                  subst h9
                                                                                  replace h := Prod.mk.inj h
                                                                                  obtain ⟨h9, h⟩ := h
                                                                                  subst h9
                                                                                  subst h
                                                                                  refine j_widen (cl' := mc) (sl' := ms) (by omega) (by omega) ?_
                                                                                  exact j_vret (w := [(h0, .inr (6, [.ref a_tree_h0, .ref a_source_h0, .ref a_form_h0, .int indent_h0, .int fits_h0])), (a_tree_h0, .inr (1, [.ref a_cells_a_tree_h0, .int count_a_tree_h0])), (a_cells_a_tree_h0, .inl (cI, n_a_cells_a_tree_h0, .inl b_a_cells_a_tree_h0)), (a_form_h0, .inr (3, [.ref a_bytes_a_form_h0, .int size_a_form_h0])), (a_source_h0, .inr (3, [.ref a_bytes_a_source_h0, .int size_a_source_h0])), (a_bytes_a_source_h0, .inl (cB, n_a_bytes_a_source_h0, .inl b_a_bytes_a_source_h0)), (a_bytes_a_form_h0, .inl (cB, n_a_bytes_a_form_h0, .inl b_a_bytes_a_form_h0))]) hr d_Wr_lead_269 [4, 5, 6, 0, 2, 3, 1] rfl (by decide) ⟨a_bytes_a_form_h0, rfl, rfl⟩
