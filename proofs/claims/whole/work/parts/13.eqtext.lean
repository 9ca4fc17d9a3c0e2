noncomputable def F_Wr_beginLine_2 (s1 : Nat) (indent_h0 : Int32) : Nat → Int32 → Int32 → Int32 → Nat → (Nat → Int32) → Option ((Int32 × Int32 × Nat × (Nat → Int32)) × Nat × Nat)
  | 0, _, _, _, _, _ => none
  | k_2 + 1, v2_2, f0_4_2, f1_1_2, n2_2, b2_2 =>
    if indent_h0 ≤ v2_2 then (bw (F_Wr_put s1 indent_h0 f0_4_2 f1_1_2 n2_2 b2_2) fun ⟨r2, r3, r4, r5⟩ =>
      (some ((r2, r3, r4, r5), 0, 0)))
    else (bw (F_Wr_put 18 indent_h0 f0_4_2 f1_1_2 n2_2 b2_2) fun ⟨r12, r13, r14, r15⟩ =>
      F_Wr_beginLine_2 s1 indent_h0  k_2 (v2_2 + 1) r12 r13 r14 r15)
noncomputable def F_Wr_beginLine (s1 : Nat) (indent_h0 : Int32) (fits_h0 : Int32) (size_a_form_h0 : Int32) (n_a_bytes_a_form_h0 : Nat) (b_a_bytes_a_form_h0 : Nat → Int32) : Option ((Int32 × Int32 × Nat × (Nat → Int32)) × Nat × Nat) :=
  F_Wr_beginLine_2 s1 indent_h0  FU 0 fits_h0 size_a_form_h0 n_a_bytes_a_form_h0 b_a_bytes_a_form_h0
theorem d_Wr_beginLine_0 : decode prog_10_method_6_code 0 = .ok (.iconst 0, 1) := by decide +kernel
theorem d_Wr_beginLine_1 : decode prog_10_method_6_code 1 = .ok (.istore_n 2, 1) := by decide +kernel
theorem d_Wr_beginLine_2 : decode prog_10_method_6_code 2 = .ok (.iload_n 2, 1) := by decide +kernel
theorem d_Wr_beginLine_3 : decode prog_10_method_6_code 3 = .ok (.aload_n 0, 1) := by decide +kernel
theorem d_Wr_beginLine_4 : decode prog_10_method_6_code 4 = .ok (.getfield 26, 3) := by decide +kernel
theorem d_Wr_beginLine_7 : decode prog_10_method_6_code 7 = .ok (.if_icmp .ge 15, 3) := by decide +kernel
theorem d_Wr_beginLine_10 : decode prog_10_method_6_code 10 = .ok (.aload_n 0, 1) := by decide +kernel
theorem d_Wr_beginLine_11 : decode prog_10_method_6_code 11 = .ok (.ldc 75, 2) := by decide +kernel
theorem d_Wr_beginLine_13 : decode prog_10_method_6_code 13 = .ok (.invokevirtual 77, 3) := by decide +kernel
theorem d_Wr_beginLine_16 : decode prog_10_method_6_code 16 = .ok (.iinc 2 1, 3) := by decide +kernel
theorem d_Wr_beginLine_19 : decode prog_10_method_6_code 19 = .ok (.goto (-17), 3) := by decide +kernel
theorem d_Wr_beginLine_22 : decode prog_10_method_6_code 22 = .ok (.aload_n 0, 1) := by decide +kernel
theorem d_Wr_beginLine_23 : decode prog_10_method_6_code 23 = .ok (.aload_n 1, 1) := by decide +kernel
theorem d_Wr_beginLine_24 : decode prog_10_method_6_code 24 = .ok (.invokevirtual 77, 3) := by decide +kernel
theorem d_Wr_beginLine_27 : decode prog_10_method_6_code 27 = .ok (.return_, 1) := by decide +kernel
set_option maxHeartbeats 4000000 in
set_option maxRecDepth 100000 in
theorem L_Wr_beginLine_2 (l : Launch) (D : va_G) (cI cB cJ cS : ClassId) (h0 : Nat) (a_tree_h0 : Nat) (a_source_h0 : Nat) (a_form_h0 : Nat) (a_bytes_a_form_h0 : Nat) (s1 : Nat) (indent_h0 : Int32) (fits_h0 : Int32) (size_a_form_h0 : Int32) (n_a_bytes_a_form_h0 : Nat) (b_a_bytes_a_form_h0 : Nat → Int32) (o_0_4 : Int32) (o_1_1 : Int32) (on_nq_1_0 : Nat) (ob_nq_1_0 : Nat → Int32) (mc ms : Nat) (p : Program) (e : Env) (s : State) (m : MethodId) (below : List Frame) (meth : Method) (c : Code) (hr : meth.sig.returnType = (Option.none : Option Jvm.ClassFile.FieldType)) (hnm : meth.name = y_Wr_beginLine.name) : ∀ (k_2 : Nat) (q1_0_2 : Nat) (v2_2 : Int32) (f0_4_2 : Int32) (f1_1_2 : Int32) (n2_2 : Nat) (b2_2 : Nat → Int32) (cl_2 sl_2 C_2 S_2 : Nat), F_Wr_beginLine_2 s1 indent_h0  k_2 v2_2 f0_4_2 f1_1_2 n2_2 b2_2 = some ((o_0_4, o_1_1, on_nq_1_0, ob_nq_1_0), C_2, S_2) → cl_2 + C_2 ≤ mc → sl_2 + S_2 ≤ ms → J (KxOf p l e { frames := 5, cells := mc, slots := ms, locals := 125 } s m [.ref h0, .ref (sA D s1)].toArray below meth c D (gT cI cB cJ cS) [(h0, .inr (6, [.ref a_tree_h0, .ref a_source_h0, .ref a_form_h0, .int indent_h0, .int fits_h0])), (a_form_h0, .inr (3, [.ref a_bytes_a_form_h0, .int size_a_form_h0])), (a_bytes_a_form_h0, .inl (cB, n_a_bytes_a_form_h0, .inl b_a_bytes_a_form_h0))] (fun v w => ∃ nq_1_0 : Nat, v = none ∧ w = [(h0, .inr (6, [.ref a_tree_h0, .ref a_source_h0, .ref a_form_h0, .int indent_h0, .int o_0_4])), (a_form_h0, .inr (3, [.ref nq_1_0, .int o_1_1])), (nq_1_0, .inl (cB, on_nq_1_0, .inl ob_nq_1_0))]) mc ms) prog_10_method_6_code 3 R_Wr 2 [(2, .int v2_2), (0, .ref h0), (1, .ref (sA D s1))] [] [(h0, .inr (6, [.ref a_tree_h0, .ref a_source_h0, .ref a_form_h0, .int indent_h0, .int f0_4_2])), (a_form_h0, .inr (3, [.ref q1_0_2, .int f1_1_2])), (q1_0_2, .inl (cB, n2_2, .inl b2_2))] cl_2 sl_2 := by
  intro k_2
  induction k_2 with
  | zero => intro q1_0_2 v2_2 f0_4_2 f1_1_2 n2_2 b2_2 cl_2 sl_2 C_2 S_2 h; rw [F_Wr_beginLine_2] at h; cases h
  | succ k_2 ih_2 =>
    intro q1_0_2 v2_2 f0_4_2 f1_1_2 n2_2 b2_2 cl_2 sl_2 C_2 S_2 h hC hS
    rw [F_Wr_beginLine_2] at h
    refine j_iload_n d_Wr_beginLine_2 rfl 0 rfl ?_
    refine j_aload_n d_Wr_beginLine_3 rfl 1 rfl ?_
    refine j_get ig_Wr rfl 0 rfl 3 (by decide) rfl m_222 rfl d_Wr_beginLine_4 ?_
    refine j_icmp_ge (tgt := 22) d_Wr_beginLine_7 (by decide) (fun c1 => ?_) (fun c1 => ?_)
    · replace h := it_t c1 h
      refine j_aload_n d_Wr_beginLine_22 rfl 1 rfl ?_
      refine j_aload_n d_Wr_beginLine_23 rfl 2 rfl ?_
      replace h := bw_s h
      obtain ⟨⟨r2, r3, r4, r5⟩, C7, S8, C9, S10, k11, h, e1, e2⟩ := h
      replace hC : cl_2 + C7 + C9 ≤ mc := by omega
      replace hS : sl_2 + S8 + S10 ≤ ms := by omega
      clear e1 e2
      refine j_callV (n := 1) (As := [.ref (sA D s1)]) (rest := []) (wr := []) (c_Wr_put l D cI cB cJ cS h0 a_tree_h0 a_source_h0 a_form_h0 q1_0_2 s1 indent_h0 f0_4_2 f1_1_2 n2_2 b2_2  r2 r3 r4 r5 C7 S8 k11) k_Wr_77 (by decide) ⟨Nat.le_of_ble_eq_true rfl, Nat.le_of_ble_eq_true rfl⟩ rfl 0 rfl [0, 1, 2] [] rfl (by decide) rfl (by decide) (by decide) rfl rfl (Nat.le_of_ble_eq_true rfl) d_Wr_beginLine_24 ⟨show cl_2 + C7 ≤ mc by omega, show sl_2 + S8 ≤ ms by omega⟩ (fun v w hq => ?_)
      obtain ⟨q6, rfl, rfl⟩ := hq
      refine j_norm (pc' := 27) (st' := []) (ws' := [(h0, .inr (6, [.ref a_tree_h0, .ref a_source_h0, .ref a_form_h0, .int indent_h0, .int r2])), (a_form_h0, .inr (3, [.ref q6, .int r3])), (q6, .inl (cB, r4, .inl r5))]) (cl' := cl_2 + C7) (sl' := sl_2 + S8) rfl rfl rfl rfl rfl rfl ?_
      replace h := lf_s h
      obtain ⟨h, e1, e2⟩ := h
      replace h := Prod.mk.inj h
      obtain ⟨h9, h⟩ := h
      subst h9
      replace h := Prod.mk.inj h
      obtain ⟨h9, h⟩ := h
      subst h9
      replace h := Prod.mk.inj h
      obtain ⟨h9, h⟩ := h
      subst h9
      subst h
      refine j_widen (cl' := mc) (sl' := ms) (by omega) (by omega) ?_
      exact j_vret (w := [(h0, .inr (6, [.ref a_tree_h0, .ref a_source_h0, .ref a_form_h0, .int indent_h0, .int r2])), (a_form_h0, .inr (3, [.ref q6, .int r3])), (q6, .inl (cB, r4, .inl r5))]) hr d_Wr_beginLine_27 [0, 1, 2] rfl (by decide) ⟨q6, rfl, rfl⟩
    · replace h := it_f c1 h
      refine j_aload_n d_Wr_beginLine_10 rfl 1 rfl ?_
      refine j_ldcS (i := 18) rfl d_Wr_beginLine_11 ?_
      replace h := bw_s h
      obtain ⟨⟨r12, r13, r14, r15⟩, C17, S18, C19, S20, k21, h, e1, e2⟩ := h
      replace hC : cl_2 + C17 + C19 ≤ mc := by omega
      replace hS : sl_2 + S18 + S20 ≤ ms := by omega
      clear e1 e2
      refine j_callV (n := 1) (As := [.ref (sA D 18)]) (rest := []) (wr := []) (c_Wr_put l D cI cB cJ cS h0 a_tree_h0 a_source_h0 a_form_h0 q1_0_2 18 indent_h0 f0_4_2 f1_1_2 n2_2 b2_2  r12 r13 r14 r15 C17 S18 k21) k_Wr_77 (by decide) ⟨Nat.le_of_ble_eq_true rfl, Nat.le_of_ble_eq_true rfl⟩ rfl 0 rfl [0, 1, 2] [] rfl (by decide) rfl (by decide) (by decide) rfl rfl (Nat.le_of_ble_eq_true rfl) d_Wr_beginLine_13 ⟨show cl_2 + C17 ≤ mc by omega, show sl_2 + S18 ≤ ms by omega⟩ (fun v w hq => ?_)
      obtain ⟨q16, rfl, rfl⟩ := hq
      refine j_norm (pc' := 16) (st' := []) (ws' := [(h0, .inr (6, [.ref a_tree_h0, .ref a_source_h0, .ref a_form_h0, .int indent_h0, .int r12])), (a_form_h0, .inr (3, [.ref q16, .int r13])), (q16, .inl (cB, r14, .inl r15))]) (cl' := cl_2 + C17) (sl' := sl_2 + S18) rfl rfl rfl rfl rfl rfl ?_
      refine j_iinc (v := v2_2 + 1) (lv' := [(2, .int (v2_2 + 1)), (0, .ref h0), (1, .ref (sA D s1))]) d_Wr_beginLine_16 0 rfl rfl (by decide) rfl ?_
      refine j_goto (tgt := 2) d_Wr_beginLine_19 (by decide) ?_
      refine j_sub (w := [(h0, .inr (6, [.ref a_tree_h0, .ref a_source_h0, .ref a_form_h0, .int indent_h0, .int r12])), (a_form_h0, .inr (3, [.ref q16, .int r13])), (q16, .inl (cB, r14, .inl r15))]) (lv' := [(2, .int (v2_2 + 1)), (0, .ref h0), (1, .ref (sA D s1))]) [0, 1, 2] rfl (by decide) [0, 1, 2] rfl ?_
      exact ih_2 q16 (v2_2 + 1) r12 r13 r14 r15 (cl_2 + C17) (sl_2 + S18) C19 S20 h hC hS
set_option maxHeartbeats 4000000 in
set_option maxRecDepth 100000 in
theorem c_Wr_beginLine (l : Launch) (D : va_G) (cI cB cJ cS : ClassId) (h0 : Nat) (a_tree_h0 : Nat) (a_source_h0 : Nat) (a_form_h0 : Nat) (a_bytes_a_form_h0 : Nat) (s1 : Nat) (indent_h0 : Int32) (fits_h0 : Int32) (size_a_form_h0 : Int32) (n_a_bytes_a_form_h0 : Nat) (b_a_bytes_a_form_h0 : Nat → Int32) (o_0_4 : Int32) (o_1_1 : Int32) (on_nq_1_0 : Nat) (ob_nq_1_0 : Nat → Int32) (mc ms : Nat) (h : F_Wr_beginLine s1 indent_h0 fits_h0 size_a_form_h0 n_a_bytes_a_form_h0 b_a_bytes_a_form_h0 = some ((o_0_4, o_1_1, on_nq_1_0, ob_nq_1_0), mc, ms)) : Ct l D (gT cI cB cJ cS) y_Wr_beginLine prog_10_method_6_code 3 (Option.none : Option Jvm.ClassFile.FieldType) 5 125 mc ms [.ref h0, .ref (sA D s1)] [(h0, .inr (6, [.ref a_tree_h0, .ref a_source_h0, .ref a_form_h0, .int indent_h0, .int fits_h0])), (a_form_h0, .inr (3, [.ref a_bytes_a_form_h0, .int size_a_form_h0])), (a_bytes_a_form_h0, .inl (cB, n_a_bytes_a_form_h0, .inl b_a_bytes_a_form_h0))] (fun v w => ∃ nq_1_0 : Nat, v = none ∧ w = [(h0, .inr (6, [.ref a_tree_h0, .ref a_source_h0, .ref a_form_h0, .int indent_h0, .int o_0_4])), (a_form_h0, .inr (3, [.ref nq_1_0, .int o_1_1])), (nq_1_0, .inl (cB, on_nq_1_0, .inl ob_nq_1_0))]) := by
  refine Ct.mk (by decide) (Nat.le_of_ble_eq_true rfl) ?_
  intro p e s m below meth c hr hnm
  refine j_norm (pc' := 0) (lv' := [(0, .ref h0), (1, .ref (sA D s1))]) (st' := []) (ws' := [(h0, .inr (6, [.ref a_tree_h0, .ref a_source_h0, .ref a_form_h0, .int indent_h0, .int fits_h0])), (a_form_h0, .inr (3, [.ref a_bytes_a_form_h0, .int size_a_form_h0])), (a_bytes_a_form_h0, .inl (cB, n_a_bytes_a_form_h0, .inl b_a_bytes_a_form_h0))]) (cl' := 0) (sl' := 0) rfl rfl rfl rfl rfl rfl ?_
  unfold F_Wr_beginLine at h
  have hC : 0 + mc ≤ mc := by omega
  have hS : 0 + ms ≤ ms := by omega
  refine j_iconst (v := 0) d_Wr_beginLine_0 (by decide) ?_
  refine j_istore_n (lv' := [(2, .int 0), (0, .ref h0), (1, .ref (sA D s1))]) d_Wr_beginLine_1 rfl (by decide) rfl ?_
  refine j_sub (w := [(h0, .inr (6, [.ref a_tree_h0, .ref a_source_h0, .ref a_form_h0, .int indent_h0, .int fits_h0])), (a_form_h0, .inr (3, [.ref a_bytes_a_form_h0, .int size_a_form_h0])), (a_bytes_a_form_h0, .inl (cB, n_a_bytes_a_form_h0, .inl b_a_bytes_a_form_h0))]) (lv' := [(2, .int 0), (0, .ref h0), (1, .ref (sA D s1))]) [0, 1, 2] rfl (by decide) [0, 1, 2] rfl ?_
  exact L_Wr_beginLine_2 l D cI cB cJ cS h0 a_tree_h0 a_source_h0 a_form_h0 a_bytes_a_form_h0 s1 indent_h0 fits_h0 size_a_form_h0 n_a_bytes_a_form_h0 b_a_bytes_a_form_h0 o_0_4 o_1_1 on_nq_1_0 ob_nq_1_0 mc ms p e s m below meth c hr hnm FU a_bytes_a_form_h0 0 fits_h0 size_a_form_h0 n_a_bytes_a_form_h0 b_a_bytes_a_form_h0 0 0 mc ms h hC hS
noncomputable def F_Wr_leadFirst (p1 : Int32) (p2 : Int32) (indent_h0 : Int32) (fits_h0 : Int32) (count_a_tree_h0 : Int32) (n_a_cells_a_tree_h0 : Nat) (b_a_cells_a_tree_h0 : Nat → Int32) (size_a_form_h0 : Int32) (n_a_bytes_a_form_h0 : Nat) (b_a_bytes_a_form_h0 : Nat → Int32) : Option ((Int32 × Int32 × Nat × (Nat → Int32)) × Nat × Nat) :=
  Option.bind (F_Wr_kind p1 indent_h0 fits_h0 count_a_tree_h0 n_a_cells_a_tree_h0 b_a_cells_a_tree_h0) fun r1 =>
  if r1 = 1 then (Option.bind (F_Nd_get p2 3 count_a_tree_h0 n_a_cells_a_tree_h0 b_a_cells_a_tree_h0) fun r4 =>
    if r4 ≤ 1 then (bw (F_Wr_put 16 indent_h0 fits_h0 size_a_form_h0 n_a_bytes_a_form_h0 b_a_bytes_a_form_h0) fun ⟨r7, r8, r9, r10⟩ =>
      (some ((r7, r8, r9, r10), 0, 0)))
    else (bw (F_Wr_put 15 indent_h0 fits_h0 size_a_form_h0 n_a_bytes_a_form_h0 b_a_bytes_a_form_h0) fun ⟨r17, r18, r19, r20⟩ =>
      (some ((r17, r18, r19, r20), 0, 0))))
  else if r1 = 2 then (some ((fits_h0, size_a_form_h0, n_a_bytes_a_form_h0, b_a_bytes_a_form_h0), 0, 0))
  else if r1 = 3 then (some ((fits_h0, size_a_form_h0, n_a_bytes_a_form_h0, b_a_bytes_a_form_h0), 0, 0))
  else if r1 = 4 then (some ((fits_h0, size_a_form_h0, n_a_bytes_a_form_h0, b_a_bytes_a_form_h0), 0, 0))
  else if r1 = 5 then (some ((fits_h0, size_a_form_h0, n_a_bytes_a_form_h0, b_a_bytes_a_form_h0), 0, 0))
  else if r1 = 6 then (some ((fits_h0, size_a_form_h0, n_a_bytes_a_form_h0, b_a_bytes_a_form_h0), 0, 0))
  else if r1 = 7 then (some ((fits_h0, size_a_form_h0, n_a_bytes_a_form_h0, b_a_bytes_a_form_h0), 0, 0))
  else if r1 = 8 then (some ((fits_h0, size_a_form_h0, n_a_bytes_a_form_h0, b_a_bytes_a_form_h0), 0, 0))
  else if r1 = 9 then (some ((fits_h0, size_a_form_h0, n_a_bytes_a_form_h0, b_a_bytes_a_form_h0), 0, 0))
  else if r1 = 10 then (bw (F_Wr_put 15 indent_h0 fits_h0 size_a_form_h0 n_a_bytes_a_form_h0 b_a_bytes_a_form_h0) fun ⟨r36, r37, r38, r39⟩ =>
    (some ((r36, r37, r38, r39), 0, 0)))
  else if r1 = 11 then (bw (F_Wr_beginLine 17 indent_h0 fits_h0 size_a_form_h0 n_a_bytes_a_form_h0 b_a_bytes_a_form_h0) fun ⟨r47, r48, r49, r50⟩ =>
    (some ((r47, r48, r49, r50), 0, 0)))
  else if r1 = 12 then (bw (F_Wr_beginLine 19 indent_h0 fits_h0 size_a_form_h0 n_a_bytes_a_form_h0 b_a_bytes_a_form_h0) fun ⟨r58, r59, r60, r61⟩ =>
    (some ((r58, r59, r60, r61), 0, 0)))
  else if r1 = 13 then (bw (F_Wr_beginLine 20 indent_h0 fits_h0 size_a_form_h0 n_a_bytes_a_form_h0 b_a_bytes_a_form_h0) fun ⟨r69, r70, r71, r72⟩ =>
    (some ((r69, r70, r71, r72), 0, 0)))
  else if r1 = 14 then (bw (F_Wr_beginLine 21 indent_h0 fits_h0 size_a_form_h0 n_a_bytes_a_form_h0 b_a_bytes_a_form_h0) fun ⟨r80, r81, r82, r83⟩ =>
    (some ((r80, r81, r82, r83), 0, 0)))
  else (some ((fits_h0, size_a_form_h0, n_a_bytes_a_form_h0, b_a_bytes_a_form_h0), 0, 0))
theorem d_Wr_leadFirst_0 : decode prog_10_method_9_code 0 = .ok (.aload_n 0, 1) := by decide +kernel
theorem d_Wr_leadFirst_1 : decode prog_10_method_9_code 1 = .ok (.iload_n 1, 1) := by decide +kernel
theorem d_Wr_leadFirst_2 : decode prog_10_method_9_code 2 = .ok (.invokevirtual 105, 3) := by decide +kernel
theorem d_Wr_leadFirst_5 : decode prog_10_method_9_code 5 = .ok (.tableswitch 143 1 14 #[71, 143, 143, 143, 143, 143, 143, 143, 143, 98, 107, 116, 125, 134], 71) := by decide +kernel
theorem d_Wr_leadFirst_76 : decode prog_10_method_9_code 76 = .ok (.aload_n 0, 1) := by decide +kernel
theorem d_Wr_leadFirst_77 : decode prog_10_method_9_code 77 = .ok (.aload_n 0, 1) := by decide +kernel
theorem d_Wr_leadFirst_78 : decode prog_10_method_9_code 78 = .ok (.getfield 10, 3) := by decide +kernel
theorem d_Wr_leadFirst_81 : decode prog_10_method_9_code 81 = .ok (.iload_n 2, 1) := by decide +kernel
theorem d_Wr_leadFirst_82 : decode prog_10_method_9_code 82 = .ok (.iconst 3, 1) := by decide +kernel
theorem d_Wr_leadFirst_83 : decode prog_10_method_9_code 83 = .ok (.invokevirtual 52, 3) := by decide +kernel
theorem d_Wr_leadFirst_86 : decode prog_10_method_9_code 86 = .ok (.iconst 1, 1) := by decide +kernel
theorem d_Wr_leadFirst_87 : decode prog_10_method_9_code 87 = .ok (.if_icmp .le 8, 3) := by decide +kernel
theorem d_Wr_leadFirst_90 : decode prog_10_method_9_code 90 = .ok (.ldc 108, 2) := by decide +kernel
theorem d_Wr_leadFirst_92 : decode prog_10_method_9_code 92 = .ok (.goto 5, 3) := by decide +kernel
theorem d_Wr_leadFirst_95 : decode prog_10_method_9_code 95 = .ok (.ldc 110, 2) := by decide +kernel
theorem d_Wr_leadFirst_97 : decode prog_10_method_9_code 97 = .ok (.invokevirtual 77, 3) := by decide +kernel
theorem d_Wr_leadFirst_100 : decode prog_10_method_9_code 100 = .ok (.goto 48, 3) := by decide +kernel
theorem d_Wr_leadFirst_103 : decode prog_10_method_9_code 103 = .ok (.aload_n 0, 1) := by decide +kernel
theorem d_Wr_leadFirst_104 : decode prog_10_method_9_code 104 = .ok (.ldc 108, 2) := by decide +kernel
theorem d_Wr_leadFirst_106 : decode prog_10_method_9_code 106 = .ok (.invokevirtual 77, 3) := by decide +kernel
theorem d_Wr_leadFirst_109 : decode prog_10_method_9_code 109 = .ok (.goto 39, 3) := by decide +kernel
theorem d_Wr_leadFirst_112 : decode prog_10_method_9_code 112 = .ok (.aload_n 0, 1) := by decide +kernel
theorem d_Wr_leadFirst_113 : decode prog_10_method_9_code 113 = .ok (.ldc 112, 2) := by decide +kernel
theorem d_Wr_leadFirst_115 : decode prog_10_method_9_code 115 = .ok (.invokevirtual 114, 3) := by decide +kernel
theorem d_Wr_leadFirst_118 : decode prog_10_method_9_code 118 = .ok (.goto 30, 3) := by decide +kernel
theorem d_Wr_leadFirst_121 : decode prog_10_method_9_code 121 = .ok (.aload_n 0, 1) := by decide +kernel
theorem d_Wr_leadFirst_122 : decode prog_10_method_9_code 122 = .ok (.ldc 117, 2) := by decide +kernel
theorem d_Wr_leadFirst_124 : decode prog_10_method_9_code 124 = .ok (.invokevirtual 114, 3) := by decide +kernel
theorem d_Wr_leadFirst_127 : decode prog_10_method_9_code 127 = .ok (.goto 21, 3) := by decide +kernel
theorem d_Wr_leadFirst_130 : decode prog_10_method_9_code 130 = .ok (.aload_n 0, 1) := by decide +kernel
theorem d_Wr_leadFirst_131 : decode prog_10_method_9_code 131 = .ok (.ldc 119, 2) := by decide +kernel
theorem d_Wr_leadFirst_133 : decode prog_10_method_9_code 133 = .ok (.invokevirtual 114, 3) := by decide +kernel
theorem d_Wr_leadFirst_136 : decode prog_10_method_9_code 136 = .ok (.goto 12, 3) := by decide +kernel
theorem d_Wr_leadFirst_139 : decode prog_10_method_9_code 139 = .ok (.aload_n 0, 1) := by decide +kernel
theorem d_Wr_leadFirst_140 : decode prog_10_method_9_code 140 = .ok (.ldc 121, 2) := by decide +kernel
theorem d_Wr_leadFirst_142 : decode prog_10_method_9_code 142 = .ok (.invokevirtual 114, 3) := by decide +kernel
theorem d_Wr_leadFirst_145 : decode prog_10_method_9_code 145 = .ok (.goto 3, 3) := by decide +kernel
theorem d_Wr_leadFirst_148 : decode prog_10_method_9_code 148 = .ok (.return_, 1) := by decide +kernel
set_option maxHeartbeats 4000000 in
set_option maxRecDepth 100000 in
theorem c_Wr_leadFirst (l : Launch) (D : va_G) (cI cB cJ cS : ClassId) (h0 : Nat) (a_tree_h0 : Nat) (a_source_h0 : Nat) (a_form_h0 : Nat) (a_cells_a_tree_h0 : Nat) (a_bytes_a_form_h0 : Nat) (p1 : Int32) (p2 : Int32) (indent_h0 : Int32) (fits_h0 : Int32) (count_a_tree_h0 : Int32) (n_a_cells_a_tree_h0 : Nat) (b_a_cells_a_tree_h0 : Nat → Int32) (size_a_form_h0 : Int32) (n_a_bytes_a_form_h0 : Nat) (b_a_bytes_a_form_h0 : Nat → Int32) (o_0_4 : Int32) (o_3_1 : Int32) (on_nq_3_0 : Nat) (ob_nq_3_0 : Nat → Int32) (mc ms : Nat) (h : F_Wr_leadFirst p1 p2 indent_h0 fits_h0 count_a_tree_h0 n_a_cells_a_tree_h0 b_a_cells_a_tree_h0 size_a_form_h0 n_a_bytes_a_form_h0 b_a_bytes_a_form_h0 = some ((o_0_4, o_3_1, on_nq_3_0, ob_nq_3_0), mc, ms)) : Ct l D (gT cI cB cJ cS) y_Wr_leadFirst prog_10_method_9_code 3 (Option.none : Option Jvm.ClassFile.FieldType) 6 147 mc ms [.ref h0, .int p1, .int p2] [(h0, .inr (6, [.ref a_tree_h0, .ref a_source_h0, .ref a_form_h0, .int indent_h0, .int fits_h0])), (a_tree_h0, .inr (1, [.ref a_cells_a_tree_h0, .int count_a_tree_h0])), (a_cells_a_tree_h0, .inl (cI, n_a_cells_a_tree_h0, .inl b_a_cells_a_tree_h0)), (a_form_h0, .inr (3, [.ref a_bytes_a_form_h0, .int size_a_form_h0])), (a_bytes_a_form_h0, .inl (cB, n_a_bytes_a_form_h0, .inl b_a_bytes_a_form_h0))] (fun v w => ∃ nq_3_0 : Nat, v = none ∧ w = [(h0, .inr (6, [.ref a_tree_h0, .ref a_source_h0, .ref a_form_h0, .int indent_h0, .int o_0_4])), (a_tree_h0, .inr (1, [.ref a_cells_a_tree_h0, .int count_a_tree_h0])), (a_cells_a_tree_h0, .inl (cI, n_a_cells_a_tree_h0, .inl b_a_cells_a_tree_h0)), (a_form_h0, .inr (3, [.ref nq_3_0, .int o_3_1])), (nq_3_0, .inl (cB, on_nq_3_0, .inl ob_nq_3_0))]) := by
  refine Ct.mk (by decide) (Nat.le_of_ble_eq_true rfl) ?_
  intro p e s m below meth c hr hnm
  refine j_norm (pc' := 0) (lv' := [(0, .ref h0), (1, .int p1), (2, .int p2)]) (st' := []) (ws' := [(h0, .inr (6, [.ref a_tree_h0, .ref a_source_h0, .ref a_form_h0, .int indent_h0, .int fits_h0])), (a_tree_h0, .inr (1, [.ref a_cells_a_tree_h0, .int count_a_tree_h0])), (a_cells_a_tree_h0, .inl (cI, n_a_cells_a_tree_h0, .inl b_a_cells_a_tree_h0)), (a_form_h0, .inr (3, [.ref a_bytes_a_form_h0, .int size_a_form_h0])), (a_bytes_a_form_h0, .inl (cB, n_a_bytes_a_form_h0, .inl b_a_bytes_a_form_h0))]) (cl' := 0) (sl' := 0) rfl rfl rfl rfl rfl rfl ?_
  unfold F_Wr_leadFirst at h
  have hC : 0 + mc ≤ mc := by omega
  have hS : 0 + ms ≤ ms := by omega
  refine j_aload_n d_Wr_leadFirst_0 rfl 0 rfl ?_
  refine j_iload_n d_Wr_leadFirst_1 rfl 1 rfl ?_
  replace h := bd_s h
  obtain ⟨r1, k2, h⟩ := h
  refine j_callV (n := 1) (As := [.int p1]) (rest := []) (wr := [(a_form_h0, .inr (3, [.ref a_bytes_a_form_h0, .int size_a_form_h0])), (a_bytes_a_form_h0, .inl (cB, n_a_bytes_a_form_h0, .inl b_a_bytes_a_form_h0))]) (c_Wr_kind l D cI cB cJ cS h0 a_tree_h0 a_source_h0 a_form_h0 a_cells_a_tree_h0 p1 indent_h0 fits_h0 count_a_tree_h0 n_a_cells_a_tree_h0 b_a_cells_a_tree_h0  r1 k2) k_Wr_105 (by decide) ⟨Nat.le_of_ble_eq_true rfl, Nat.le_of_ble_eq_true rfl⟩ rfl 0 rfl [0, 1, 2] [3, 4] rfl (by decide) rfl (by decide) (by decide) rfl rfl (Nat.le_of_ble_eq_true rfl) d_Wr_leadFirst_2 ⟨show 0 + 0 ≤ mc by omega, show 0 + 0 ≤ ms by omega⟩ (fun v w hq => ?_)
  obtain ⟨rfl, rfl⟩ := hq
  refine j_norm (pc' := 5) (st' := [.int r1]) (ws' := [(a_form_h0, .inr (3, [.ref a_bytes_a_form_h0, .int size_a_form_h0])), (a_bytes_a_form_h0, .inl (cB, n_a_bytes_a_form_h0, .inl b_a_bytes_a_form_h0)), (h0, .inr (6, [.ref a_tree_h0, .ref a_source_h0, .ref a_form_h0, .int indent_h0, .int fits_h0])), (a_tree_h0, .inr (1, [.ref a_cells_a_tree_h0, .int count_a_tree_h0])), (a_cells_a_tree_h0, .inl (cI, n_a_cells_a_tree_h0, .inl b_a_cells_a_tree_h0))]) (cl' := 0) (sl' := 0) rfl rfl rfl rfl rfl rfl ?_
  by_cases c3 : r1 = 1
  · replace h := it_t c3 h
    refine j_tabIn (tgt := 76) (off := 71) d_Wr_leadFirst_5 1 c3 (by decide) (by decide) (by decide) (by decide) ?_
    refine j_aload_n d_Wr_leadFirst_76 rfl 0 rfl ?_
    refine j_aload_n d_Wr_leadFirst_77 rfl 0 rfl ?_
    refine j_get ig_Wr rfl 2 rfl 0 (by decide) rfl m_219 rfl d_Wr_leadFirst_78 ?_
    refine j_iload_n d_Wr_leadFirst_81 rfl 2 rfl ?_
    refine j_iconst (v := 3) d_Wr_leadFirst_82 (by decide) ?_
    replace h := bd_s h
    obtain ⟨r4, k5, h⟩ := h
    refine j_callV (n := 2) (As := [.int p2, .int 3]) (rest := [.ref h0]) (wr := [(a_form_h0, .inr (3, [.ref a_bytes_a_form_h0, .int size_a_form_h0])), (a_bytes_a_form_h0, .inl (cB, n_a_bytes_a_form_h0, .inl b_a_bytes_a_form_h0)), (h0, .inr (6, [.ref a_tree_h0, .ref a_source_h0, .ref a_form_h0, .int indent_h0, .int fits_h0]))]) (c_Nd_get l D cI cB cJ cS a_tree_h0 a_cells_a_tree_h0 p2 3 count_a_tree_h0 n_a_cells_a_tree_h0 b_a_cells_a_tree_h0  r4 k5) k_Wr_52 (by decide) ⟨Nat.le_of_ble_eq_true rfl, Nat.le_of_ble_eq_true rfl⟩ rfl 0 rfl [3, 4] [0, 1, 2] rfl (by decide) rfl (by decide) (by decide) rfl rfl (Nat.le_of_ble_eq_true rfl) d_Wr_leadFirst_83 ⟨show 0 + 0 ≤ mc by omega, show 0 + 0 ≤ ms by omega⟩ (fun v w hq => ?_)
    obtain ⟨rfl, rfl⟩ := hq
    refine j_norm (pc' := 86) (st' := [.int r4, .ref h0]) (ws' := [(a_form_h0, .inr (3, [.ref a_bytes_a_form_h0, .int size_a_form_h0])), (a_bytes_a_form_h0, .inl (cB, n_a_bytes_a_form_h0, .inl b_a_bytes_a_form_h0)), (h0, .inr (6, [.ref a_tree_h0, .ref a_source_h0, .ref a_form_h0, .int indent_h0, .int fits_h0])), (a_tree_h0, .inr (1, [.ref a_cells_a_tree_h0, .int count_a_tree_h0])), (a_cells_a_tree_h0, .inl (cI, n_a_cells_a_tree_h0, .inl b_a_cells_a_tree_h0))]) (cl' := 0) (sl' := 0) rfl rfl rfl rfl rfl rfl ?_
    refine j_iconst (v := 1) d_Wr_leadFirst_86 (by decide) ?_
    refine j_icmp_le (tgt := 95) d_Wr_leadFirst_87 (by decide) (fun c6 => ?_) (fun c6 => ?_)
    · replace h := it_t c6 h
      refine j_ldcS (i := 16) rfl d_Wr_leadFirst_95 ?_
      replace h := bw_s h
      obtain ⟨⟨r7, r8, r9, r10⟩, C12, S13, C14, S15, k16, h, e1, e2⟩ := h
      replace hC : 0 + C12 + C14 ≤ mc := by omega
      replace hS : 0 + S13 + S15 ≤ ms := by omega
      clear e1 e2
      refine j_callV (n := 1) (As := [.ref (sA D 16)]) (rest := []) (wr := [(a_tree_h0, .inr (1, [.ref a_cells_a_tree_h0, .int count_a_tree_h0])), (a_cells_a_tree_h0, .inl (cI, n_a_cells_a_tree_h0, .inl b_a_cells_a_tree_h0))]) (c_Wr_put l D cI cB cJ cS h0 a_tree_h0 a_source_h0 a_form_h0 a_bytes_a_form_h0 16 indent_h0 fits_h0 size_a_form_h0 n_a_bytes_a_form_h0 b_a_bytes_a_form_h0  r7 r8 r9 r10 C12 S13 k16) k_Wr_77 (by decide) ⟨Nat.le_of_ble_eq_true rfl, Nat.le_of_ble_eq_true rfl⟩ rfl 0 rfl [2, 0, 1] [3, 4] rfl (by decide) rfl (by decide) (by decide) rfl rfl (Nat.le_of_ble_eq_true rfl) d_Wr_leadFirst_97 ⟨show 0 + C12 ≤ mc by omega, show 0 + S13 ≤ ms by omega⟩ (fun v w hq => ?_)
      obtain ⟨q11, rfl, rfl⟩ := hq
      refine j_norm (pc' := 100) (st' := []) (ws' := [(a_tree_h0, .inr (1, [.ref a_cells_a_tree_h0, .int count_a_tree_h0])), (a_cells_a_tree_h0, .inl (cI, n_a_cells_a_tree_h0, .inl b_a_cells_a_tree_h0)), (h0, .inr (6, [.ref a_tree_h0, .ref a_source_h0, .ref a_form_h0, .int indent_h0, .int r7])), (a_form_h0, .inr (3, [.ref q11, .int r8])), (q11, .inl (cB, r9, .inl r10))]) (cl' := 0 + C12) (sl' := 0 + S13) rfl rfl rfl rfl rfl rfl ?_
      refine j_goto (tgt := 148) d_Wr_leadFirst_100 (by decide) ?_
      replace h := lf_s h
      obtain ⟨h, e1, e2⟩ := h
      replace h := Prod.mk.inj h
      obtain ⟨h9, h⟩ := h
      subst h9
      replace h := Prod.mk.inj h
      obtain ⟨h9, h⟩ := h
      subst h9
      replace h := Prod.mk.inj h
      obtain ⟨h9, h⟩ := h
      subst h9
      subst h
      refine j_widen (cl' := mc) (sl' := ms) (by omega) (by omega) ?_
      exact j_vret (w := [(h0, .inr (6, [.ref a_tree_h0, .ref a_source_h0, .ref a_form_h0, .int indent_h0, .int r7])), (a_tree_h0, .inr (1, [.ref a_cells_a_tree_h0, .int count_a_tree_h0])), (a_cells_a_tree_h0, .inl (cI, n_a_cells_a_tree_h0, .inl b_a_cells_a_tree_h0)), (a_form_h0, .inr (3, [.ref q11, .int r8])), (q11, .inl (cB, r9, .inl r10))]) hr d_Wr_leadFirst_148 [2, 0, 1, 3, 4] rfl (by decide) ⟨q11, rfl, rfl⟩
    · replace h := it_f c6 h
      refine j_ldcS (i := 15) rfl d_Wr_leadFirst_90 ?_
      refine j_goto (tgt := 97) d_Wr_leadFirst_92 (by decide) ?_
      replace h := bw_s h
      obtain ⟨⟨r17, r18, r19, r20⟩, C22, S23, C24, S25, k26, h, e1, e2⟩ := h
      replace hC : 0 + C22 + C24 ≤ mc := by omega
      replace hS : 0 + S23 + S25 ≤ ms := by omega
      clear e1 e2
      refine j_callV (n := 1) (As := [.ref (sA D 15)]) (rest := []) (wr := [(a_tree_h0, .inr (1, [.ref a_cells_a_tree_h0, .int count_a_tree_h0])), (a_cells_a_tree_h0, .inl (cI, n_a_cells_a_tree_h0, .inl b_a_cells_a_tree_h0))]) (c_Wr_put l D cI cB cJ cS h0 a_tree_h0 a_source_h0 a_form_h0 a_bytes_a_form_h0 15 indent_h0 fits_h0 size_a_form_h0 n_a_bytes_a_form_h0 b_a_bytes_a_form_h0  r17 r18 r19 r20 C22 S23 k26) k_Wr_77 (by decide) ⟨Nat.le_of_ble_eq_true rfl, Nat.le_of_ble_eq_true rfl⟩ rfl 0 rfl [2, 0, 1] [3, 4] rfl (by decide) rfl (by decide) (by decide) rfl rfl (Nat.le_of_ble_eq_true rfl) d_Wr_leadFirst_97 ⟨show 0 + C22 ≤ mc by omega, show 0 + S23 ≤ ms by omega⟩ (fun v w hq => ?_)
      obtain ⟨q21, rfl, rfl⟩ := hq
      refine j_norm (pc' := 100) (st' := []) (ws' := [(a_tree_h0, .inr (1, [.ref a_cells_a_tree_h0, .int count_a_tree_h0])), (a_cells_a_tree_h0, .inl (cI, n_a_cells_a_tree_h0, .inl b_a_cells_a_tree_h0)), (h0, .inr (6, [.ref a_tree_h0, .ref a_source_h0, .ref a_form_h0, .int indent_h0, .int r17])), (a_form_h0, .inr (3, [.ref q21, .int r18])), (q21, .inl (cB, r19, .inl r20))]) (cl' := 0 + C22) (sl' := 0 + S23) rfl rfl rfl rfl rfl rfl ?_
      refine j_goto (tgt := 148) d_Wr_leadFirst_100 (by decide) ?_
      replace h := lf_s h
      obtain ⟨h, e1, e2⟩ := h
      replace h := Prod.mk.inj h
      obtain ⟨h9, h⟩ := h
      subst h9
      replace h := Prod.mk.inj h
      obtain ⟨h9, h⟩ := h
      subst h9
      replace h := Prod.mk.inj h
      obtain ⟨h9, h⟩ := h
      subst h9
      subst h
      refine j_widen (cl' := mc) (sl' := ms) (by omega) (by omega) ?_
      exact j_vret (w := [(h0, .inr (6, [.ref a_tree_h0, .ref a_source_h0, .ref a_form_h0, .int indent_h0, .int r17])), (a_tree_h0, .inr (1, [.ref a_cells_a_tree_h0, .int count_a_tree_h0])), (a_cells_a_tree_h0, .inl (cI, n_a_cells_a_tree_h0, .inl b_a_cells_a_tree_h0)), (a_form_h0, .inr (3, [.ref q21, .int r18])), (q21, .inl (cB, r19, .inl r20))]) hr d_Wr_leadFirst_148 [2, 0, 1, 3, 4] rfl (by decide) ⟨q21, rfl, rfl⟩
  · replace h := it_f c3 h
    by_cases c27 : r1 = 2
    · replace h := it_t c27 h
      refine j_tabIn (tgt := 148) (off := 143) d_Wr_leadFirst_5 2 c27 (by decide) (by decide) (by decide) (by decide) ?_
      replace h := lf_s h
      obtain ⟨h, e1, e2⟩ := h
      replace h := Prod.mk.inj h
      obtain ⟨h9, h⟩ := h
      subst h9
      replace h := Prod.mk.inj h
      obtain ⟨h9, h⟩ := h
      subst h9
      replace h := Prod.mk.inj h
      obtain ⟨h9, h⟩ := h
      subst h9
      subst h
      refine j_widen (cl' := mc) (sl' := ms) (by omega) (by omega) ?_
      exact j_vret (w := [(h0, .inr (6, [.ref a_tree_h0, .ref a_source_h0, .ref a_form_h0, .int indent_h0, .int fits_h0])), (a_tree_h0, .inr (1, [.ref a_cells_a_tree_h0, .int count_a_tree_h0])), (a_cells_a_tree_h0, .inl (cI, n_a_cells_a_tree_h0, .inl b_a_cells_a_tree_h0)), (a_form_h0, .inr (3, [.ref a_bytes_a_form_h0, .int size_a_form_h0])), (a_bytes_a_form_h0, .inl (cB, n_a_bytes_a_form_h0, .inl b_a_bytes_a_form_h0))]) hr d_Wr_leadFirst_148 [2, 3, 4, 0, 1] rfl (by decide) ⟨a_bytes_a_form_h0, rfl, rfl⟩
    · replace h := it_f c27 h
      by_cases c28 : r1 = 3
      · replace h := it_t c28 h
        refine j_tabIn (tgt := 148) (off := 143) d_Wr_leadFirst_5 3 c28 (by decide) (by decide) (by decide) (by decide) ?_
        replace h := lf_s h
        obtain ⟨h, e1, e2⟩ := h
        replace h := Prod.mk.inj h
        obtain ⟨h9, h⟩ := h
        subst h9
        replace h := Prod.mk.inj h
        obtain ⟨h9, h⟩ := h
        subst h9
        replace h := Prod.mk.inj h
        obtain ⟨h9, h⟩ := h
        subst h9
        subst h
        refine j_widen (cl' := mc) (sl' := ms) (by omega) (by omega) ?_
        exact j_vret (w := [(h0, .inr (6, [.ref a_tree_h0, .ref a_source_h0, .ref a_form_h0, .int indent_h0, .int fits_h0])), (a_tree_h0, .inr (1, [.ref a_cells_a_tree_h0, .int count_a_tree_h0])), (a_cells_a_tree_h0, .inl (cI, n_a_cells_a_tree_h0, .inl b_a_cells_a_tree_h0)), (a_form_h0, .inr (3, [.ref a_bytes_a_form_h0, .int size_a_form_h0])), (a_bytes_a_form_h0, .inl (cB, n_a_bytes_a_form_h0, .inl b_a_bytes_a_form_h0))]) hr d_Wr_leadFirst_148 [2, 3, 4, 0, 1] rfl (by decide) ⟨a_bytes_a_form_h0, rfl, rfl⟩
      · replace h := it_f c28 h
        by_cases c29 : r1 = 4
        · replace h := it_t c29 h
          refine j_tabIn (tgt := 148) (off := 143) d_Wr_leadFirst_5 4 c29 (by decide) (by decide) (by decide) (by decide) ?_
          replace h := lf_s h
          obtain ⟨h, e1, e2⟩ := h
          replace h := Prod.mk.inj h
          obtain ⟨h9, h⟩ := h
          subst h9
          replace h := Prod.mk.inj h
          obtain ⟨h9, h⟩ := h
          subst h9
          replace h := Prod.mk.inj h
          obtain ⟨h9, h⟩ := h
          subst h9
          subst h
          refine j_widen (cl' := mc) (sl' := ms) (by omega) (by omega) ?_
          exact j_vret (w := [(h0, .inr (6, [.ref a_tree_h0, .ref a_source_h0, .ref a_form_h0, .int indent_h0, .int fits_h0])), (a_tree_h0, .inr (1, [.ref a_cells_a_tree_h0, .int count_a_tree_h0])), (a_cells_a_tree_h0, .inl (cI, n_a_cells_a_tree_h0, .inl b_a_cells_a_tree_h0)), (a_form_h0, .inr (3, [.ref a_bytes_a_form_h0, .int size_a_form_h0])), (a_bytes_a_form_h0, .inl (cB, n_a_bytes_a_form_h0, .inl b_a_bytes_a_form_h0))]) hr d_Wr_leadFirst_148 [2, 3, 4, 0, 1] rfl (by decide) ⟨a_bytes_a_form_h0, rfl, rfl⟩
        · replace h := it_f c29 h
          by_cases c30 : r1 = 5
          · replace h := it_t c30 h
            refine j_tabIn (tgt := 148) (off := 143) d_Wr_leadFirst_5 5 c30 (by decide) (by decide) (by decide) (by decide) ?_
            replace h := lf_s h
            obtain ⟨h, e1, e2⟩ := h
            replace h := Prod.mk.inj h
            obtain ⟨h9, h⟩ := h
            subst h9
            replace h := Prod.mk.inj h
            obtain ⟨h9, h⟩ := h
            subst h9
            replace h := Prod.mk.inj h
            obtain ⟨h9, h⟩ := h
            subst h9
            subst h
            refine j_widen (cl' := mc) (sl' := ms) (by omega) (by omega) ?_
            exact j_vret (w := [(h0, .inr (6, [.ref a_tree_h0, .ref a_source_h0, .ref a_form_h0, .int indent_h0, .int fits_h0])), (a_tree_h0, .inr (1, [.ref a_cells_a_tree_h0, .int count_a_tree_h0])), (a_cells_a_tree_h0, .inl (cI, n_a_cells_a_tree_h0, .inl b_a_cells_a_tree_h0)), (a_form_h0, .inr (3, [.ref a_bytes_a_form_h0, .int size_a_form_h0])), (a_bytes_a_form_h0, .inl (cB, n_a_bytes_a_form_h0, .inl b_a_bytes_a_form_h0))]) hr d_Wr_leadFirst_148 [2, 3, 4, 0, 1] rfl (by decide) ⟨a_bytes_a_form_h0, rfl, rfl⟩
          · replace h := it_f c30 h
            by_cases c31 : r1 = 6
            · replace h := it_t c31 h
              refine j_tabIn (tgt := 148) (off := 143) d_Wr_leadFirst_5 6 c31 (by decide) (by decide) (by decide) (by decide) ?_
              replace h := lf_s h
              obtain ⟨h, e1, e2⟩ := h
              replace h := Prod.mk.inj h
              obtain ⟨h9, h⟩ := h
              subst h9
              replace h := Prod.mk.inj h
              obtain ⟨h9, h⟩ := h
              subst h9
              replace h := Prod.mk.inj h
              obtain ⟨h9, h⟩ := h
              subst h9
              subst h
              refine j_widen (cl' := mc) (sl' := ms) (by omega) (by omega) ?_
              exact j_vret (w := [(h0, .inr (6, [.ref a_tree_h0, .ref a_source_h0, .ref a_form_h0, .int indent_h0, .int fits_h0])), (a_tree_h0, .inr (1, [.ref a_cells_a_tree_h0, .int count_a_tree_h0])), (a_cells_a_tree_h0, .inl (cI, n_a_cells_a_tree_h0, .inl b_a_cells_a_tree_h0)), (a_form_h0, .inr (3, [.ref a_bytes_a_form_h0, .int size_a_form_h0])), (a_bytes_a_form_h0, .inl (cB, n_a_bytes_a_form_h0, .inl b_a_bytes_a_form_h0))]) hr d_Wr_leadFirst_148 [2, 3, 4, 0, 1] rfl (by decide) ⟨a_bytes_a_form_h0, rfl, rfl⟩
            · replace h := it_f c31 h
              by_cases c32 : r1 = 7
              · replace h := it_t c32 h
                refine j_tabIn (tgt := 148) (off := 143) d_Wr_leadFirst_5 7 c32 (by decide) (by decide) (by decide) (by decide) ?_
                replace h := lf_s h
                obtain ⟨h, e1, e2⟩ := h
                replace h := Prod.mk.inj h
                obtain ⟨h9, h⟩ := h
                subst h9
                replace h := Prod.mk.inj h
                obtain ⟨h9, h⟩ := h
                subst h9
                replace h := Prod.mk.inj h
                obtain ⟨h9, h⟩ := h
                subst h9
                subst h
                refine j_widen (cl' := mc) (sl' := ms) (by omega) (by omega) ?_
                exact j_vret (w := [(h0, .inr (6, [.ref a_tree_h0, .ref a_source_h0, .ref a_form_h0, .int indent_h0, .int fits_h0])), (a_tree_h0, .inr (1, [.ref a_cells_a_tree_h0, .int count_a_tree_h0])), (a_cells_a_tree_h0, .inl (cI, n_a_cells_a_tree_h0, .inl b_a_cells_a_tree_h0)), (a_form_h0, .inr (3, [.ref a_bytes_a_form_h0, .int size_a_form_h0])), (a_bytes_a_form_h0, .inl (cB, n_a_bytes_a_form_h0, .inl b_a_bytes_a_form_h0))]) hr d_Wr_leadFirst_148 [2, 3, 4, 0, 1] rfl (by decide) ⟨a_bytes_a_form_h0, rfl, rfl⟩
              · replace h := it_f c32 h
                by_cases c33 : r1 = 8
                · replace h := it_t c33 h
                  refine j_tabIn (tgt := 148) (off := 143) d_Wr_leadFirst_5 8 c33 (by decide) (by decide) (by decide) (by decide) ?_
                  replace h := lf_s h
                  obtain ⟨h, e1, e2⟩ := h
                  replace h := Prod.mk.inj h
                  obtain ⟨h9, h⟩ := h
                  subst h9
                  replace h := Prod.mk.inj h
                  obtain ⟨h9, h⟩ := h
                  subst h9
                  replace h := Prod.mk.inj h
                  obtain ⟨h9, h⟩ := h
                  subst h9
                  subst h
                  refine j_widen (cl' := mc) (sl' := ms) (by omega) (by omega) ?_
                  exact j_vret (w := [(h0, .inr (6, [.ref a_tree_h0, .ref a_source_h0, .ref a_form_h0, .int indent_h0, .int fits_h0])), (a_tree_h0, .inr (1, [.ref a_cells_a_tree_h0, .int count_a_tree_h0])), (a_cells_a_tree_h0, .inl (cI, n_a_cells_a_tree_h0, .inl b_a_cells_a_tree_h0)), (a_form_h0, .inr (3, [.ref a_bytes_a_form_h0, .int size_a_form_h0])), (a_bytes_a_form_h0, .inl (cB, n_a_bytes_a_form_h0, .inl b_a_bytes_a_form_h0))]) hr d_Wr_leadFirst_148 [2, 3, 4, 0, 1] rfl (by decide) ⟨a_bytes_a_form_h0, rfl, rfl⟩
                · replace h := it_f c33 h
                  by_cases c34 : r1 = 9
                  · replace h := it_t c34 h
                    refine j_tabIn (tgt := 148) (off := 143) d_Wr_leadFirst_5 9 c34 (by decide) (by decide) (by decide) (by decide) ?_
                    replace h := lf_s h
                    obtain ⟨h, e1, e2⟩ := h
                    replace h := Prod.mk.inj h
                    obtain ⟨h9, h⟩ := h
                    subst h9
                    replace h := Prod.mk.inj h
                    obtain ⟨h9, h⟩ := h
                    subst h9
                    replace h := Prod.mk.inj h
                    obtain ⟨h9, h⟩ := h
                    subst h9
                    subst h
                    refine j_widen (cl' := mc) (sl' := ms) (by omega) (by omega) ?_
                    exact j_vret (w := [(h0, .inr (6, [.ref a_tree_h0, .ref a_source_h0, .ref a_form_h0, .int indent_h0, .int fits_h0])), (a_tree_h0, .inr (1, [.ref a_cells_a_tree_h0, .int count_a_tree_h0])), (a_cells_a_tree_h0, .inl (cI, n_a_cells_a_tree_h0, .inl b_a_cells_a_tree_h0)), (a_form_h0, .inr (3, [.ref a_bytes_a_form_h0, .int size_a_form_h0])), (a_bytes_a_form_h0, .inl (cB, n_a_bytes_a_form_h0, .inl b_a_bytes_a_form_h0))]) hr d_Wr_leadFirst_148 [2, 3, 4, 0, 1] rfl (by decide) ⟨a_bytes_a_form_h0, rfl, rfl⟩
                  · replace h := it_f c34 h
                    by_cases c35 : r1 = 10
                    · replace h := it_t c35 h
                      refine j_tabIn (tgt := 103) (off := 98) d_Wr_leadFirst_5 10 c35 (by decide) (by decide) (by decide) (by decide) ?_
                      refine j_aload_n d_Wr_leadFirst_103 rfl 0 rfl ?_
                      refine j_ldcS (i := 15) rfl d_Wr_leadFirst_104 ?_
                      replace h := bw_s h
                      obtain ⟨⟨r36, r37, r38, r39⟩, C41, S42, C43, S44, k45, h, e1, e2⟩ := h
                      replace hC : 0 + C41 + C43 ≤ mc := by omega
                      replace hS : 0 + S42 + S44 ≤ ms := by omega
                      clear e1 e2
                      refine j_callV (n := 1) (As := [.ref (sA D 15)]) (rest := []) (wr := [(a_tree_h0, .inr (1, [.ref a_cells_a_tree_h0, .int count_a_tree_h0])), (a_cells_a_tree_h0, .inl (cI, n_a_cells_a_tree_h0, .inl b_a_cells_a_tree_h0))]) (c_Wr_put l D cI cB cJ cS h0 a_tree_h0 a_source_h0 a_form_h0 a_bytes_a_form_h0 15 indent_h0 fits_h0 size_a_form_h0 n_a_bytes_a_form_h0 b_a_bytes_a_form_h0  r36 r37 r38 r39 C41 S42 k45) k_Wr_77 (by decide) ⟨Nat.le_of_ble_eq_true rfl, Nat.le_of_ble_eq_true rfl⟩ rfl 0 rfl [2, 0, 1] [3, 4] rfl (by decide) rfl (by decide) (by decide) rfl rfl (Nat.le_of_ble_eq_true rfl) d_Wr_leadFirst_106 ⟨show 0 + C41 ≤ mc by omega, show 0 + S42 ≤ ms by omega⟩ (fun v w hq => ?_)
                      obtain ⟨q40, rfl, rfl⟩ := hq
                      refine j_norm (pc' := 109) (st' := []) (ws' := [(a_tree_h0, .inr (1, [.ref a_cells_a_tree_h0, .int count_a_tree_h0])), (a_cells_a_tree_h0, .inl (cI, n_a_cells_a_tree_h0, .inl b_a_cells_a_tree_h0)), (h0, .inr (6, [.ref a_tree_h0, .ref a_source_h0, .ref a_form_h0, .int indent_h0, .int r36])), (a_form_h0, .inr (3, [.ref q40, .int r37])), (q40, .inl (cB, r38, .inl r39))]) (cl' := 0 + C41) (sl' := 0 + S42) rfl rfl rfl rfl rfl rfl ?_
                      refine j_goto (tgt := 148) d_Wr_leadFirst_109 (by decide) ?_
                      replace h := lf_s h
                      obtain ⟨h, e1, e2⟩ := h
                      replace h := Prod.mk.inj h
                      obtain ⟨h9, h⟩ := h
                      subst h9
                      replace h := Prod.mk.inj h
                      obtain ⟨h9, h⟩ := h
                      subst h9
                      replace h := Prod.mk.inj h
                      obtain ⟨h9, h⟩ := h
                      subst h9
                      subst h
                      refine j_widen (cl' := mc) (sl' := ms) (by omega) (by omega) ?_
                      exact j_vret (w := [(h0, .inr (6, [.ref a_tree_h0, .ref a_source_h0, .ref a_form_h0, .int indent_h0, .int r36])), (a_tree_h0, .inr (1, [.ref a_cells_a_tree_h0, .int count_a_tree_h0])), (a_cells_a_tree_h0, .inl (cI, n_a_cells_a_tree_h0, .inl b_a_cells_a_tree_h0)), (a_form_h0, .inr (3, [.ref q40, .int r37])), (q40, .inl (cB, r38, .inl r39))]) hr d_Wr_leadFirst_148 [2, 0, 1, 3, 4] rfl (by decide) ⟨q40, rfl, rfl⟩
                    · replace h := it_f c35 h
                      by_cases c46 : r1 = 11
                      · replace h := it_t c46 h
                        refine j_tabIn (tgt := 112) (off := 107) d_Wr_leadFirst_5 11 c46 (by decide) (by decide) (by decide) (by decide) ?_
                        refine j_aload_n d_Wr_leadFirst_112 rfl 0 rfl ?_
                        refine j_ldcS (i := 17) rfl d_Wr_leadFirst_113 ?_
                        replace h := bw_s h
                        obtain ⟨⟨r47, r48, r49, r50⟩, C52, S53, C54, S55, k56, h, e1, e2⟩ := h
                        replace hC : 0 + C52 + C54 ≤ mc := by omega
                        replace hS : 0 + S53 + S55 ≤ ms := by omega
                        clear e1 e2
                        refine j_callV (n := 1) (As := [.ref (sA D 17)]) (rest := []) (wr := [(a_tree_h0, .inr (1, [.ref a_cells_a_tree_h0, .int count_a_tree_h0])), (a_cells_a_tree_h0, .inl (cI, n_a_cells_a_tree_h0, .inl b_a_cells_a_tree_h0))]) (c_Wr_beginLine l D cI cB cJ cS h0 a_tree_h0 a_source_h0 a_form_h0 a_bytes_a_form_h0 17 indent_h0 fits_h0 size_a_form_h0 n_a_bytes_a_form_h0 b_a_bytes_a_form_h0  r47 r48 r49 r50 C52 S53 k56) k_Wr_114 (by decide) ⟨Nat.le_of_ble_eq_true rfl, Nat.le_of_ble_eq_true rfl⟩ rfl 0 rfl [2, 0, 1] [3, 4] rfl (by decide) rfl (by decide) (by decide) rfl rfl (Nat.le_of_ble_eq_true rfl) d_Wr_leadFirst_115 ⟨show 0 + C52 ≤ mc by omega, show 0 + S53 ≤ ms by omega⟩ (fun v w hq => ?_)
                        obtain ⟨q51, rfl, rfl⟩ := hq
                        refine j_norm (pc' := 118) (st' := []) (ws' := [(a_tree_h0, .inr (1, [.ref a_cells_a_tree_h0, .int count_a_tree_h0])), (a_cells_a_tree_h0, .inl (cI, n_a_cells_a_tree_h0, .inl b_a_cells_a_tree_h0)), (h0, .inr (6, [.ref a_tree_h0, .ref a_source_h0, .ref a_form_h0, .int indent_h0, .int r47])), (a_form_h0, .inr (3, [.ref q51, .int r48])), (q51, .inl (cB, r49, .inl r50))]) (cl' := 0 + C52) (sl' := 0 + S53) rfl rfl rfl rfl rfl rfl ?_
                        refine j_goto (tgt := 148) d_Wr_leadFirst_118 (by decide) ?_
                        replace h := lf_s h
                        obtain ⟨h, e1, e2⟩ := h
                        replace h := Prod.mk.inj h
                        obtain ⟨h9, h⟩ := h
                        subst h9
                        replace h := Prod.mk.inj h
                        obtain ⟨h9, h⟩ := h
                        subst h9
                        replace h := Prod.mk.inj h
                        obtain ⟨h9, h⟩ := h
                        subst h9
                        subst h
                        refine j_widen (cl' := mc) (sl' := ms) (by omega) (by omega) ?_
                        exact j_vret (w := [(h0, .inr (6, [.ref a_tree_h0, .ref a_source_h0, .ref a_form_h0, .int indent_h0, .int r47])), (a_tree_h0, .inr (1, [.ref a_cells_a_tree_h0, .int count_a_tree_h0])), (a_cells_a_tree_h0, .inl (cI, n_a_cells_a_tree_h0, .inl b_a_cells_a_tree_h0)), (a_form_h0, .inr (3, [.ref q51, .int r48])), (q51, .inl (cB, r49, .inl r50))]) hr d_Wr_leadFirst_148 [2, 0, 1, 3, 4] rfl (by decide) ⟨q51, rfl, rfl⟩
                      · replace h := it_f c46 h
                        by_cases c57 : r1 = 12
                        · replace h := it_t c57 h
                          refine j_tabIn (tgt := 121) (off := 116) d_Wr_leadFirst_5 12 c57 (by decide) (by decide) (by decide) (by decide) ?_
                          refine j_aload_n d_Wr_leadFirst_121 rfl 0 rfl ?_
                          refine j_ldcS (i := 19) rfl d_Wr_leadFirst_122 ?_
                          replace h := bw_s h
                          obtain ⟨⟨r58, r59, r60, r61⟩, C63, S64, C65, S66, k67, h, e1, e2⟩ := h
                          replace hC : 0 + C63 + C65 ≤ mc := by omega
                          replace hS : 0 + S64 + S66 ≤ ms := by omega
                          clear e1 e2
                          refine j_callV (n := 1) (As := [.ref (sA D 19)]) (rest := []) (wr := [(a_tree_h0, .inr (1, [.ref a_cells_a_tree_h0, .int count_a_tree_h0])), (a_cells_a_tree_h0, .inl (cI, n_a_cells_a_tree_h0, .inl b_a_cells_a_tree_h0))]) (c_Wr_beginLine l D cI cB cJ cS h0 a_tree_h0 a_source_h0 a_form_h0 a_bytes_a_form_h0 19 indent_h0 fits_h0 size_a_form_h0 n_a_bytes_a_form_h0 b_a_bytes_a_form_h0  r58 r59 r60 r61 C63 S64 k67) k_Wr_114 (by decide) ⟨Nat.le_of_ble_eq_true rfl, Nat.le_of_ble_eq_true rfl⟩ rfl 0 rfl [2, 0, 1] [3, 4] rfl (by decide) rfl (by decide) (by decide) rfl rfl (Nat.le_of_ble_eq_true rfl) d_Wr_leadFirst_124 ⟨show 0 + C63 ≤ mc by omega, show 0 + S64 ≤ ms by omega⟩ (fun v w hq => ?_)
                          obtain ⟨q62, rfl, rfl⟩ := hq
                          refine j_norm (pc' := 127) (st' := []) (ws' := [(a_tree_h0, .inr (1, [.ref a_cells_a_tree_h0, .int count_a_tree_h0])), (a_cells_a_tree_h0, .inl (cI, n_a_cells_a_tree_h0, .inl b_a_cells_a_tree_h0)), (h0, .inr (6, [.ref a_tree_h0, .ref a_source_h0, .ref a_form_h0, .int indent_h0, .int r58])), (a_form_h0, .inr (3, [.ref q62, .int r59])), (q62, .inl (cB, r60, .inl r61))]) (cl' := 0 + C63) (sl' := 0 + S64) rfl rfl rfl rfl rfl rfl ?_
                          refine j_goto (tgt := 148) d_Wr_leadFirst_127 (by decide) ?_
                          replace h := lf_s h
                          obtain ⟨h, e1, e2⟩ := h
                          replace h := Prod.mk.inj h
                          obtain ⟨h9, h⟩ := h
                          subst h9
                          replace h := Prod.mk.inj h
                          obtain ⟨h9, h⟩ := h
                          subst h9
                          replace h := Prod.mk.inj h
                          obtain ⟨h9, h⟩ := h
                          subst h9
                          subst h
                          refine j_widen (cl' := mc) (sl' := ms) (by omega) (by omega) ?_
                          exact j_vret (w := [(h0, .inr (6, [.ref a_tree_h0, .ref a_source_h0, .ref a_form_h0, .int indent_h0, .int r58])), (a_tree_h0, .inr (1, [.ref a_cells_a_tree_h0, .int count_a_tree_h0])), (a_cells_a_tree_h0, .inl (cI, n_a_cells_a_tree_h0, .inl b_a_cells_a_tree_h0)), (a_form_h0, .inr (3, [.ref q62, .int r59])), (q62, .inl (cB, r60, .inl r61))]) hr d_Wr_leadFirst_148 [2, 0, 1, 3, 4] rfl (by decide) ⟨q62, rfl, rfl⟩
                        · replace h := it_f c57 h
                          by_cases c68 : r1 = 13
                          · replace h := it_t c68 h
                            refine j_tabIn (tgt := 130) (off := 125) d_Wr_leadFirst_5 13 c68 (by decide) (by decide) (by decide) (by decide) ?_
                            refine j_aload_n d_Wr_leadFirst_130 rfl 0 rfl ?_
                            refine j_ldcS (i := 20) rfl d_Wr_leadFirst_131 ?_
                            replace h := bw_s h
                            obtain ⟨⟨r69, r70, r71, r72⟩, C74, S75, C76, S77, k78, h, e1, e2⟩ := h
                            replace hC : 0 + C74 + C76 ≤ mc := by omega
                            replace hS : 0 + S75 + S77 ≤ ms := by omega
                            clear e1 e2
                            refine j_callV (n := 1) (As := [.ref (sA D 20)]) (rest := []) (wr := [(a_tree_h0, .inr (1, [.ref a_cells_a_tree_h0, .int count_a_tree_h0])), (a_cells_a_tree_h0, .inl (cI, n_a_cells_a_tree_h0, .inl b_a_cells_a_tree_h0))]) (c_Wr_beginLine l D cI cB cJ cS h0 a_tree_h0 a_source_h0 a_form_h0 a_bytes_a_form_h0 20 indent_h0 fits_h0 size_a_form_h0 n_a_bytes_a_form_h0 b_a_bytes_a_form_h0  r69 r70 r71 r72 C74 S75 k78) k_Wr_114 (by decide) ⟨Nat.le_of_ble_eq_true rfl, Nat.le_of_ble_eq_true rfl⟩ rfl 0 rfl [2, 0, 1] [3, 4] rfl (by decide) rfl (by decide) (by decide) rfl rfl (Nat.le_of_ble_eq_true rfl) d_Wr_leadFirst_133 ⟨show 0 + C74 ≤ mc by omega, show 0 + S75 ≤ ms by omega⟩ (fun v w hq => ?_)
                            obtain ⟨q73, rfl, rfl⟩ := hq
                            refine j_norm (pc' := 136) (st' := []) (ws' := [(a_tree_h0, .inr (1, [.ref a_cells_a_tree_h0, .int count_a_tree_h0])), (a_cells_a_tree_h0, .inl (cI, n_a_cells_a_tree_h0, .inl b_a_cells_a_tree_h0)), (h0, .inr (6, [.ref a_tree_h0, .ref a_source_h0, .ref a_form_h0, .int indent_h0, .int r69])), (a_form_h0, .inr (3, [.ref q73, .int r70])), (q73, .inl (cB, r71, .inl r72))]) (cl' := 0 + C74) (sl' := 0 + S75) rfl rfl rfl rfl rfl rfl ?_
                            refine j_goto (tgt := 148) d_Wr_leadFirst_136 (by decide) ?_
                            replace h := lf_s h
                            obtain ⟨h, e1, e2⟩ := h
                            replace h := Prod.mk.inj h
                            obtain ⟨h9, h⟩ := h
                            subst h9
                            replace h := Prod.mk.inj h
                            obtain ⟨h9, h⟩ := h
                            subst h9
                            replace h := Prod.mk.inj h
                            obtain ⟨h9, h⟩ := h
                            subst h9
                            subst h
                            refine j_widen (cl' := mc) (sl' := ms) (by omega) (by omega) ?_
                            exact j_vret (w := [(h0, .inr (6, [.ref a_tree_h0, .ref a_source_h0, .ref a_form_h0, .int indent_h0, .int r69])), (a_tree_h0, .inr (1, [.ref a_cells_a_tree_h0, .int count_a_tree_h0])), (a_cells_a_tree_h0, .inl (cI, n_a_cells_a_tree_h0, .inl b_a_cells_a_tree_h0)), (a_form_h0, .inr (3, [.ref q73, .int r70])), (q73, .inl (cB, r71, .inl r72))]) hr d_Wr_leadFirst_148 [2, 0, 1, 3, 4] rfl (by decide) ⟨q73, rfl, rfl⟩
                          · replace h := it_f c68 h
                            by_cases c79 : r1 = 14
                            · replace h := it_t c79 h
                              refine j_tabIn (tgt := 139) (off := 134) d_Wr_leadFirst_5 14 c79 (by decide) (by decide) (by decide) (by decide) ?_
                              refine j_aload_n d_Wr_leadFirst_139 rfl 0 rfl ?_
                              refine j_ldcS (i := 21) rfl d_Wr_leadFirst_140 ?_
                              replace h := bw_s h
                              obtain ⟨⟨r80, r81, r82, r83⟩, C85, S86, C87, S88, k89, h, e1, e2⟩ := h
                              replace hC : 0 + C85 + C87 ≤ mc := by omega
                              replace hS : 0 + S86 + S88 ≤ ms := by omega
                              clear e1 e2
                              refine j_callV (n := 1) (As := [.ref (sA D 21)]) (rest := []) (wr := [(a_tree_h0, .inr (1, [.ref a_cells_a_tree_h0, .int count_a_tree_h0])), (a_cells_a_tree_h0, .inl (cI, n_a_cells_a_tree_h0, .inl b_a_cells_a_tree_h0))]) (c_Wr_beginLine l D cI cB cJ cS h0 a_tree_h0 a_source_h0 a_form_h0 a_bytes_a_form_h0 21 indent_h0 fits_h0 size_a_form_h0 n_a_bytes_a_form_h0 b_a_bytes_a_form_h0  r80 r81 r82 r83 C85 S86 k89) k_Wr_114 (by decide) ⟨Nat.le_of_ble_eq_true rfl, Nat.le_of_ble_eq_true rfl⟩ rfl 0 rfl [2, 0, 1] [3, 4] rfl (by decide) rfl (by decide) (by decide) rfl rfl (Nat.le_of_ble_eq_true rfl) d_Wr_leadFirst_142 ⟨show 0 + C85 ≤ mc by omega, show 0 + S86 ≤ ms by omega⟩ (fun v w hq => ?_)
                              obtain ⟨q84, rfl, rfl⟩ := hq
                              refine j_norm (pc' := 145) (st' := []) (ws' := [(a_tree_h0, .inr (1, [.ref a_cells_a_tree_h0, .int count_a_tree_h0])), (a_cells_a_tree_h0, .inl (cI, n_a_cells_a_tree_h0, .inl b_a_cells_a_tree_h0)), (h0, .inr (6, [.ref a_tree_h0, .ref a_source_h0, .ref a_form_h0, .int indent_h0, .int r80])), (a_form_h0, .inr (3, [.ref q84, .int r81])), (q84, .inl (cB, r82, .inl r83))]) (cl' := 0 + C85) (sl' := 0 + S86) rfl rfl rfl rfl rfl rfl ?_
                              refine j_goto (tgt := 148) d_Wr_leadFirst_145 (by decide) ?_
                              replace h := lf_s h
                              obtain ⟨h, e1, e2⟩ := h
                              replace h := Prod.mk.inj h
                              obtain ⟨h9, h⟩ := h
                              subst h9
                              replace h := Prod.mk.inj h
                              obtain ⟨h9, h⟩ := h
                              subst h9
                              replace h := Prod.mk.inj h
                              obtain ⟨h9, h⟩ := h
                              subst h9
                              subst h
                              refine j_widen (cl' := mc) (sl' := ms) (by omega) (by omega) ?_
                              exact j_vret (w := [(h0, .inr (6, [.ref a_tree_h0, .ref a_source_h0, .ref a_form_h0, .int indent_h0, .int r80])), (a_tree_h0, .inr (1, [.ref a_cells_a_tree_h0, .int count_a_tree_h0])), (a_cells_a_tree_h0, .inl (cI, n_a_cells_a_tree_h0, .inl b_a_cells_a_tree_h0)), (a_form_h0, .inr (3, [.ref q84, .int r81])), (q84, .inl (cB, r82, .inl r83))]) hr d_Wr_leadFirst_148 [2, 0, 1, 3, 4] rfl (by decide) ⟨q84, rfl, rfl⟩
                            · replace h := it_f c79 h
                              refine j_tabOut (tgt := 148) d_Wr_leadFirst_5 (by have := lv_neT c3 (by decide : (1 : Int32).toInt = 1); have := lv_neT c27 (by decide : (2 : Int32).toInt = 2); have := lv_neT c28 (by decide : (3 : Int32).toInt = 3); have := lv_neT c29 (by decide : (4 : Int32).toInt = 4); have := lv_neT c30 (by decide : (5 : Int32).toInt = 5); have := lv_neT c31 (by decide : (6 : Int32).toInt = 6); have := lv_neT c32 (by decide : (7 : Int32).toInt = 7); have := lv_neT c33 (by decide : (8 : Int32).toInt = 8); have := lv_neT c34 (by decide : (9 : Int32).toInt = 9); have := lv_neT c35 (by decide : (10 : Int32).toInt = 10); have := lv_neT c46 (by decide : (11 : Int32).toInt = 11); have := lv_neT c57 (by decide : (12 : Int32).toInt = 12); have := lv_neT c68 (by decide : (13 : Int32).toInt = 13); have := lv_neT c79 (by decide : (14 : Int32).toInt = 14); omega) (by decide) ?_
                              replace h := lf_s h
                              obtain ⟨h, e1, e2⟩ := h
                              replace h := Prod.mk.inj h
                              obtain ⟨h9, h⟩ := h
                              subst h9
                              replace h := Prod.mk.inj h
                              obtain ⟨h9, h⟩ := h
                              subst h9
                              replace h := Prod.mk.inj h
                              obtain ⟨h9, h⟩ := h
                              subst h9
                              subst h
                              refine j_widen (cl' := mc) (sl' := ms) (by omega) (by omega) ?_
                              exact j_vret (w := [(h0, .inr (6, [.ref a_tree_h0, .ref a_source_h0, .ref a_form_h0, .int indent_h0, .int fits_h0])), (a_tree_h0, .inr (1, [.ref a_cells_a_tree_h0, .int count_a_tree_h0])), (a_cells_a_tree_h0, .inl (cI, n_a_cells_a_tree_h0, .inl b_a_cells_a_tree_h0)), (a_form_h0, .inr (3, [.ref a_bytes_a_form_h0, .int size_a_form_h0])), (a_bytes_a_form_h0, .inl (cB, n_a_bytes_a_form_h0, .inl b_a_bytes_a_form_h0))]) hr d_Wr_leadFirst_148 [2, 3, 4, 0, 1] rfl (by decide) ⟨a_bytes_a_form_h0, rfl, rfl⟩
def F_Wr_isElse (p1 : Int32) (p2 : Int32) (indent_h0 : Int32) (fits_h0 : Int32) (count_a_tree_h0 : Int32) (n_a_cells_a_tree_h0 : Nat) (b_a_cells_a_tree_h0 : Nat → Int32) : Option (Int32) :=
  Option.bind (F_Nd_after p2 count_a_tree_h0 n_a_cells_a_tree_h0 b_a_cells_a_tree_h0) fun r1 =>
  Option.bind (F_Nd_after p1 count_a_tree_h0 n_a_cells_a_tree_h0 b_a_cells_a_tree_h0) fun r3 =>
  if r1 = r3 then (Option.bind (F_Nd_get p1 3 count_a_tree_h0 n_a_cells_a_tree_h0 b_a_cells_a_tree_h0) fun r6 =>
    if (r6 &&& 1) = 1 then (some 1)
    else (some 0))
  else (some 0)
theorem d_Wr_isElse_0 : decode prog_10_method_11_code 0 = .ok (.aload_n 0, 1) := by decide +kernel
theorem d_Wr_isElse_1 : decode prog_10_method_11_code 1 = .ok (.getfield 10, 3) := by decide +kernel
theorem d_Wr_isElse_4 : decode prog_10_method_11_code 4 = .ok (.iload_n 2, 1) := by decide +kernel
theorem d_Wr_isElse_5 : decode prog_10_method_11_code 5 = .ok (.invokevirtual 45, 3) := by decide +kernel
theorem d_Wr_isElse_8 : decode prog_10_method_11_code 8 = .ok (.aload_n 0, 1) := by decide +kernel
theorem d_Wr_isElse_9 : decode prog_10_method_11_code 9 = .ok (.getfield 10, 3) := by decide +kernel
theorem d_Wr_isElse_12 : decode prog_10_method_11_code 12 = .ok (.iload_n 1, 1) := by decide +kernel
theorem d_Wr_isElse_13 : decode prog_10_method_11_code 13 = .ok (.invokevirtual 45, 3) := by decide +kernel
theorem d_Wr_isElse_16 : decode prog_10_method_11_code 16 = .ok (.if_icmp .ne 22, 3) := by decide +kernel
theorem d_Wr_isElse_19 : decode prog_10_method_11_code 19 = .ok (.aload_n 0, 1) := by decide +kernel
theorem d_Wr_isElse_20 : decode prog_10_method_11_code 20 = .ok (.getfield 10, 3) := by decide +kernel
theorem d_Wr_isElse_23 : decode prog_10_method_11_code 23 = .ok (.iload_n 1, 1) := by decide +kernel
theorem d_Wr_isElse_24 : decode prog_10_method_11_code 24 = .ok (.iconst 3, 1) := by decide +kernel
theorem d_Wr_isElse_25 : decode prog_10_method_11_code 25 = .ok (.invokevirtual 52, 3) := by decide +kernel
theorem d_Wr_isElse_28 : decode prog_10_method_11_code 28 = .ok (.iconst 1, 1) := by decide +kernel
theorem d_Wr_isElse_29 : decode prog_10_method_11_code 29 = .ok (.iand, 1) := by decide +kernel
theorem d_Wr_isElse_30 : decode prog_10_method_11_code 30 = .ok (.iconst 1, 1) := by decide +kernel
theorem d_Wr_isElse_31 : decode prog_10_method_11_code 31 = .ok (.if_icmp .ne 7, 3) := by decide +kernel
theorem d_Wr_isElse_34 : decode prog_10_method_11_code 34 = .ok (.iconst 1, 1) := by decide +kernel
theorem d_Wr_isElse_35 : decode prog_10_method_11_code 35 = .ok (.goto 4, 3) := by decide +kernel
theorem d_Wr_isElse_38 : decode prog_10_method_11_code 38 = .ok (.iconst 0, 1) := by decide +kernel
theorem d_Wr_isElse_39 : decode prog_10_method_11_code 39 = .ok (.ireturn, 1) := by decide +kernel
set_option maxHeartbeats 4000000 in
set_option maxRecDepth 100000 in
theorem c_Wr_isElse (l : Launch) (D : va_G) (cI cB cJ cS : ClassId) (h0 : Nat) (a_tree_h0 : Nat) (a_source_h0 : Nat) (a_form_h0 : Nat) (a_cells_a_tree_h0 : Nat) (p1 : Int32) (p2 : Int32) (indent_h0 : Int32) (fits_h0 : Int32) (count_a_tree_h0 : Int32) (n_a_cells_a_tree_h0 : Nat) (b_a_cells_a_tree_h0 : Nat → Int32) (ret : Int32) (h : F_Wr_isElse p1 p2 indent_h0 fits_h0 count_a_tree_h0 n_a_cells_a_tree_h0 b_a_cells_a_tree_h0 = some ret) : Ct l D (gT cI cB cJ cS) y_Wr_isElse prog_10_method_11_code 3 (Option.some Jvm.ClassFile.FieldType.boolean) 2 43 0 0 [.ref h0, .int p1, .int p2] [(h0, .inr (6, [.ref a_tree_h0, .ref a_source_h0, .ref a_form_h0, .int indent_h0, .int fits_h0])), (a_tree_h0, .inr (1, [.ref a_cells_a_tree_h0, .int count_a_tree_h0])), (a_cells_a_tree_h0, .inl (cI, n_a_cells_a_tree_h0, .inl b_a_cells_a_tree_h0))] (fun v w => v = some (.int ret) ∧ zb ret ∧ w = [(h0, .inr (6, [.ref a_tree_h0, .ref a_source_h0, .ref a_form_h0, .int indent_h0, .int fits_h0])), (a_tree_h0, .inr (1, [.ref a_cells_a_tree_h0, .int count_a_tree_h0])), (a_cells_a_tree_h0, .inl (cI, n_a_cells_a_tree_h0, .inl b_a_cells_a_tree_h0))]) := by
  refine Ct.mk (by decide) (Nat.le_of_ble_eq_true rfl) ?_
  intro p e s m below meth c hr hnm
  refine j_norm (pc' := 0) (lv' := [(0, .ref h0), (1, .int p1), (2, .int p2)]) (st' := []) (ws' := [(h0, .inr (6, [.ref a_tree_h0, .ref a_source_h0, .ref a_form_h0, .int indent_h0, .int fits_h0])), (a_tree_h0, .inr (1, [.ref a_cells_a_tree_h0, .int count_a_tree_h0])), (a_cells_a_tree_h0, .inl (cI, n_a_cells_a_tree_h0, .inl b_a_cells_a_tree_h0))]) (cl' := 0) (sl' := 0) rfl rfl rfl rfl rfl rfl ?_
  unfold F_Wr_isElse at h
  refine j_aload_n d_Wr_isElse_0 rfl 0 rfl ?_
  refine j_get ig_Wr rfl 0 rfl 0 (by decide) rfl m_219 rfl d_Wr_isElse_1 ?_
  refine j_iload_n d_Wr_isElse_4 rfl 2 rfl ?_
  replace h := bd_s h
  obtain ⟨r1, k2, h⟩ := h
  refine j_callV (n := 1) (As := [.int p2]) (rest := []) (wr := [(h0, .inr (6, [.ref a_tree_h0, .ref a_source_h0, .ref a_form_h0, .int indent_h0, .int fits_h0]))]) (c_Nd_after l D cI cB cJ cS a_tree_h0 a_cells_a_tree_h0 p2 count_a_tree_h0 n_a_cells_a_tree_h0 b_a_cells_a_tree_h0  r1 k2) k_Wr_45 (by decide) ⟨Nat.le_of_ble_eq_true rfl, Nat.le_of_ble_eq_true rfl⟩ rfl 0 rfl [1, 2] [0] rfl (by decide) rfl (by decide) (by decide) rfl rfl (Nat.le_of_ble_eq_true rfl) d_Wr_isElse_5 ⟨Nat.le_of_ble_eq_true rfl, Nat.le_of_ble_eq_true rfl⟩ (fun v w hq => ?_)
  obtain ⟨rfl, rfl⟩ := hq
  refine j_norm (pc' := 8) (st' := [.int r1]) (ws' := [(h0, .inr (6, [.ref a_tree_h0, .ref a_source_h0, .ref a_form_h0, .int indent_h0, .int fits_h0])), (a_tree_h0, .inr (1, [.ref a_cells_a_tree_h0, .int count_a_tree_h0])), (a_cells_a_tree_h0, .inl (cI, n_a_cells_a_tree_h0, .inl b_a_cells_a_tree_h0))]) (cl' := 0) (sl' := 0) rfl rfl rfl rfl rfl rfl ?_
  refine j_aload_n d_Wr_isElse_8 rfl 0 rfl ?_
  refine j_get ig_Wr rfl 0 rfl 0 (by decide) rfl m_219 rfl d_Wr_isElse_9 ?_
  refine j_iload_n d_Wr_isElse_12 rfl 1 rfl ?_
  replace h := bd_s h
  obtain ⟨r3, k4, h⟩ := h
  refine j_callV (n := 1) (As := [.int p1]) (rest := [.int r1]) (wr := [(h0, .inr (6, [.ref a_tree_h0, .ref a_source_h0, .ref a_form_h0, .int indent_h0, .int fits_h0]))]) (c_Nd_after l D cI cB cJ cS a_tree_h0 a_cells_a_tree_h0 p1 count_a_tree_h0 n_a_cells_a_tree_h0 b_a_cells_a_tree_h0  r3 k4) k_Wr_45 (by decide) ⟨Nat.le_of_ble_eq_true rfl, Nat.le_of_ble_eq_true rfl⟩ rfl 0 rfl [1, 2] [0] rfl (by decide) rfl (by decide) (by decide) rfl rfl (Nat.le_of_ble_eq_true rfl) d_Wr_isElse_13 ⟨Nat.le_of_ble_eq_true rfl, Nat.le_of_ble_eq_true rfl⟩ (fun v w hq => ?_)
  obtain ⟨rfl, rfl⟩ := hq
  refine j_norm (pc' := 16) (st' := [.int r3, .int r1]) (ws' := [(h0, .inr (6, [.ref a_tree_h0, .ref a_source_h0, .ref a_form_h0, .int indent_h0, .int fits_h0])), (a_tree_h0, .inr (1, [.ref a_cells_a_tree_h0, .int count_a_tree_h0])), (a_cells_a_tree_h0, .inl (cI, n_a_cells_a_tree_h0, .inl b_a_cells_a_tree_h0))]) (cl' := 0) (sl' := 0) rfl rfl rfl rfl rfl rfl ?_
  refine j_icmp_ne (tgt := 38) d_Wr_isElse_16 (by decide) (fun c5 => ?_) (fun c5 => ?_)
  · replace h := it_f c5 h
    refine j_iconst (v := 0) d_Wr_isElse_38 (by decide) ?_
    replace h := Option.some.inj h
    subst h
    exact j_zret (w := [(h0, .inr (6, [.ref a_tree_h0, .ref a_source_h0, .ref a_form_h0, .int indent_h0, .int fits_h0])), (a_tree_h0, .inr (1, [.ref a_cells_a_tree_h0, .int count_a_tree_h0])), (a_cells_a_tree_h0, .inl (cI, n_a_cells_a_tree_h0, .inl b_a_cells_a_tree_h0))]) hr (zb_n zb0) d_Wr_isElse_39 [0, 1, 2] rfl (by decide) ⟨rfl, zb0, rfl⟩
  · replace h := it_t c5 h
    refine j_aload_n d_Wr_isElse_19 rfl 0 rfl ?_
    refine j_get ig_Wr rfl 0 rfl 0 (by decide) rfl m_219 rfl d_Wr_isElse_20 ?_
    refine j_iload_n d_Wr_isElse_23 rfl 1 rfl ?_
    refine j_iconst (v := 3) d_Wr_isElse_24 (by decide) ?_
    replace h := bd_s h
    obtain ⟨r6, k7, h⟩ := h
    refine j_callV (n := 2) (As := [.int p1, .int 3]) (rest := []) (wr := [(h0, .inr (6, [.ref a_tree_h0, .ref a_source_h0, .ref a_form_h0, .int indent_h0, .int fits_h0]))]) (c_Nd_get l D cI cB cJ cS a_tree_h0 a_cells_a_tree_h0 p1 3 count_a_tree_h0 n_a_cells_a_tree_h0 b_a_cells_a_tree_h0  r6 k7) k_Wr_52 (by decide) ⟨Nat.le_of_ble_eq_true rfl, Nat.le_of_ble_eq_true rfl⟩ rfl 0 rfl [1, 2] [0] rfl (by decide) rfl (by decide) (by decide) rfl rfl (Nat.le_of_ble_eq_true rfl) d_Wr_isElse_25 ⟨Nat.le_of_ble_eq_true rfl, Nat.le_of_ble_eq_true rfl⟩ (fun v w hq => ?_)
    obtain ⟨rfl, rfl⟩ := hq
    refine j_norm (pc' := 28) (st' := [.int r6]) (ws' := [(h0, .inr (6, [.ref a_tree_h0, .ref a_source_h0, .ref a_form_h0, .int indent_h0, .int fits_h0])), (a_tree_h0, .inr (1, [.ref a_cells_a_tree_h0, .int count_a_tree_h0])), (a_cells_a_tree_h0, .inl (cI, n_a_cells_a_tree_h0, .inl b_a_cells_a_tree_h0))]) (cl' := 0) (sl' := 0) rfl rfl rfl rfl rfl rfl ?_
    refine j_iconst (v := 1) d_Wr_isElse_28 (by decide) ?_
    refine j_iand d_Wr_isElse_29 ?_
    refine j_iconst (v := 1) d_Wr_isElse_30 (by decide) ?_
    refine j_icmp_ne (tgt := 38) d_Wr_isElse_31 (by decide) (fun c8 => ?_) (fun c8 => ?_)
    · replace h := it_f c8 h
      refine j_iconst (v := 0) d_Wr_isElse_38 (by decide) ?_
      replace h := Option.some.inj h
      subst h
      exact j_zret (w := [(h0, .inr (6, [.ref a_tree_h0, .ref a_source_h0, .ref a_form_h0, .int indent_h0, .int fits_h0])), (a_tree_h0, .inr (1, [.ref a_cells_a_tree_h0, .int count_a_tree_h0])), (a_cells_a_tree_h0, .inl (cI, n_a_cells_a_tree_h0, .inl b_a_cells_a_tree_h0))]) hr (zb_n zb0) d_Wr_isElse_39 [0, 1, 2] rfl (by decide) ⟨rfl, zb0, rfl⟩
    · replace h := it_t c8 h
      refine j_iconst (v := 1) d_Wr_isElse_34 (by decide) ?_
      refine j_goto (tgt := 39) d_Wr_isElse_35 (by decide) ?_
      replace h := Option.some.inj h
      subst h
      exact j_zret (w := [(h0, .inr (6, [.ref a_tree_h0, .ref a_source_h0, .ref a_form_h0, .int indent_h0, .int fits_h0])), (a_tree_h0, .inr (1, [.ref a_cells_a_tree_h0, .int count_a_tree_h0])), (a_cells_a_tree_h0, .inl (cI, n_a_cells_a_tree_h0, .inl b_a_cells_a_tree_h0))]) hr (zb_n zb1) d_Wr_isElse_39 [0, 1, 2] rfl (by decide) ⟨rfl, zb1, rfl⟩
noncomputable def F_Wr_begin (p1 : Int32) (indent_h0 : Int32) (fits_h0 : Int32) (count_a_tree_h0 : Int32) (n_a_cells_a_tree_h0 : Nat) (b_a_cells_a_tree_h0 : Nat → Int32) (size_a_form_h0 : Int32) (n_a_bytes_a_form_h0 : Nat) (b_a_bytes_a_form_h0 : Nat → Int32) (size_a_source_h0 : Int32) (n_a_bytes_a_source_h0 : Nat) (b_a_bytes_a_source_h0 : Nat → Int32) : Option ((Int32 × Int32 × Int32 × Nat × (Nat → Int32)) × Nat × Nat) :=
  Option.bind (F_Wr_kind p1 indent_h0 fits_h0 count_a_tree_h0 n_a_cells_a_tree_h0 b_a_cells_a_tree_h0) fun r1 =>
  if r1 = 1 then (bw (F_Wr_beginLine 31 indent_h0 fits_h0 size_a_form_h0 n_a_bytes_a_form_h0 b_a_bytes_a_form_h0) fun ⟨r4, r5, r6, r7⟩ =>
    (some ((indent_h0, r4, r5, r6, r7), 0, 0)))
  else if r1 = 2 then (some ((indent_h0, fits_h0, size_a_form_h0, n_a_bytes_a_form_h0, b_a_bytes_a_form_h0), 0, 0))
  else if r1 = 3 then (some ((indent_h0 + 1, fits_h0, size_a_form_h0, n_a_bytes_a_form_h0, b_a_bytes_a_form_h0), 0, 0))
  else if r1 = 4 then (some ((indent_h0, fits_h0, size_a_form_h0, n_a_bytes_a_form_h0, b_a_bytes_a_form_h0), 0, 0))
  else if r1 = 5 then (bw (F_Wr_putToken p1 indent_h0 fits_h0 count_a_tree_h0 n_a_cells_a_tree_h0 b_a_cells_a_tree_h0 size_a_source_h0 n_a_bytes_a_source_h0 b_a_bytes_a_source_h0 size_a_form_h0 n_a_bytes_a_form_h0 b_a_bytes_a_form_h0) fun ⟨r18, r19, r20, r21⟩ =>
    (some ((indent_h0, r18, r19, r20, r21), 0, 0)))
  else if r1 = 6 then (some ((indent_h0, fits_h0, size_a_form_h0, n_a_bytes_a_form_h0, b_a_bytes_a_form_h0), 0, 0))
  else if r1 = 7 then (some ((indent_h0, fits_h0, size_a_form_h0, n_a_bytes_a_form_h0, b_a_bytes_a_form_h0), 0, 0))
  else if r1 = 8 then (some ((indent_h0, fits_h0, size_a_form_h0, n_a_bytes_a_form_h0, b_a_bytes_a_form_h0), 0, 0))
  else if r1 = 9 then (some ((indent_h0, fits_h0, size_a_form_h0, n_a_bytes_a_form_h0, b_a_bytes_a_form_h0), 0, 0))
  else if r1 = 10 then (bw (F_Wr_beginLine 16 indent_h0 fits_h0 size_a_form_h0 n_a_bytes_a_form_h0 b_a_bytes_a_form_h0) fun ⟨r33, r34, r35, r36⟩ =>
    (some ((indent_h0, r33, r34, r35, r36), 0, 0)))
  else if r1 = 11 then (some ((indent_h0, fits_h0, size_a_form_h0, n_a_bytes_a_form_h0, b_a_bytes_a_form_h0), 0, 0))
  else if r1 = 12 then (some ((indent_h0, fits_h0, size_a_form_h0, n_a_bytes_a_form_h0, b_a_bytes_a_form_h0), 0, 0))
  else if r1 = 13 then (some ((indent_h0, fits_h0, size_a_form_h0, n_a_bytes_a_form_h0, b_a_bytes_a_form_h0), 0, 0))
  else if r1 = 14 then (some ((indent_h0, fits_h0, size_a_form_h0, n_a_bytes_a_form_h0, b_a_bytes_a_form_h0), 0, 0))
  else if r1 = 15 then (bw (F_Wr_beginLine 16 indent_h0 fits_h0 size_a_form_h0 n_a_bytes_a_form_h0 b_a_bytes_a_form_h0) fun ⟨r48, r49, r50, r51⟩ =>
    bw (F_Wr_putToken p1 indent_h0 r48 count_a_tree_h0 n_a_cells_a_tree_h0 b_a_cells_a_tree_h0 size_a_source_h0 n_a_bytes_a_source_h0 b_a_bytes_a_source_h0 r49 r50 r51) fun ⟨r58, r59, r60, r61⟩ =>
    (some ((indent_h0, r58, r59, r60, r61), 0, 0)))
  else if r1 = 16 then (bw (F_Wr_beginLine 16 indent_h0 fits_h0 size_a_form_h0 n_a_bytes_a_form_h0 b_a_bytes_a_form_h0) fun ⟨r69, r70, r71, r72⟩ =>
    bw (F_Wr_putToken p1 indent_h0 r69 count_a_tree_h0 n_a_cells_a_tree_h0 b_a_cells_a_tree_h0 size_a_source_h0 n_a_bytes_a_source_h0 b_a_bytes_a_source_h0 r70 r71 r72) fun ⟨r79, r80, r81, r82⟩ =>
    (some ((indent_h0, r79, r80, r81, r82), 0, 0)))
  else if r1 = 17 then (bw (F_Wr_beginLine 16 indent_h0 fits_h0 size_a_form_h0 n_a_bytes_a_form_h0 b_a_bytes_a_form_h0) fun ⟨r90, r91, r92, r93⟩ =>
    bw (F_Wr_putToken p1 indent_h0 r90 count_a_tree_h0 n_a_cells_a_tree_h0 b_a_cells_a_tree_h0 size_a_source_h0 n_a_bytes_a_source_h0 b_a_bytes_a_source_h0 r91 r92 r93) fun ⟨r100, r101, r102, r103⟩ =>
    (some ((indent_h0, r100, r101, r102, r103), 0, 0)))
  else if r1 = 18 then (bw (F_Wr_beginLine 16 indent_h0 fits_h0 size_a_form_h0 n_a_bytes_a_form_h0 b_a_bytes_a_form_h0) fun ⟨r111, r112, r113, r114⟩ =>
    bw (F_Wr_putToken p1 indent_h0 r111 count_a_tree_h0 n_a_cells_a_tree_h0 b_a_cells_a_tree_h0 size_a_source_h0 n_a_bytes_a_source_h0 b_a_bytes_a_source_h0 r112 r113 r114) fun ⟨r121, r122, r123, r124⟩ =>
    bw (F_Wr_put 26 indent_h0 r121 r122 r123 r124) fun ⟨r131, r132, r133, r134⟩ =>
    (some ((indent_h0, r131, r132, r133, r134), 0, 0)))
  else if r1 = 19 then (bw (F_Wr_beginLine 16 indent_h0 fits_h0 size_a_form_h0 n_a_bytes_a_form_h0 b_a_bytes_a_form_h0) fun ⟨r142, r143, r144, r145⟩ =>
    bw (F_Wr_putToken p1 indent_h0 r142 count_a_tree_h0 n_a_cells_a_tree_h0 b_a_cells_a_tree_h0 size_a_source_h0 n_a_bytes_a_source_h0 b_a_bytes_a_source_h0 r143 r144 r145) fun ⟨r152, r153, r154, r155⟩ =>
    bw (F_Wr_put 26 indent_h0 r152 r153 r154 r155) fun ⟨r162, r163, r164, r165⟩ =>
    (some ((indent_h0, r162, r163, r164, r165), 0, 0)))
  else if r1 = 20 then (bw (F_Wr_beginLine 16 indent_h0 fits_h0 size_a_form_h0 n_a_bytes_a_form_h0 b_a_bytes_a_form_h0) fun ⟨r173, r174, r175, r176⟩ =>
    (some ((indent_h0, r173, r174, r175, r176), 0, 0)))
  else if r1 = 21 then (bw (F_Wr_beginLine 16 indent_h0 fits_h0 size_a_form_h0 n_a_bytes_a_form_h0 b_a_bytes_a_form_h0) fun ⟨r184, r185, r186, r187⟩ =>
    (some ((indent_h0, r184, r185, r186, r187), 0, 0)))
  else if r1 = 22 then (some ((indent_h0, fits_h0, size_a_form_h0, n_a_bytes_a_form_h0, b_a_bytes_a_form_h0), 0, 0))
  else if r1 = 23 then (some ((indent_h0, fits_h0, size_a_form_h0, n_a_bytes_a_form_h0, b_a_bytes_a_form_h0), 0, 0))
  else if r1 = 24 then (some ((indent_h0, fits_h0, size_a_form_h0, n_a_bytes_a_form_h0, b_a_bytes_a_form_h0), 0, 0))
  else if r1 = 25 then (some ((indent_h0, fits_h0, size_a_form_h0, n_a_bytes_a_form_h0, b_a_bytes_a_form_h0), 0, 0))
  else if r1 = 26 then (some ((indent_h0, fits_h0, size_a_form_h0, n_a_bytes_a_form_h0, b_a_bytes_a_form_h0), 0, 0))
  else if r1 = 27 then (some ((indent_h0, fits_h0, size_a_form_h0, n_a_bytes_a_form_h0, b_a_bytes_a_form_h0), 0, 0))
  else if r1 = 28 then (some ((indent_h0, fits_h0, size_a_form_h0, n_a_bytes_a_form_h0, b_a_bytes_a_form_h0), 0, 0))
  else if r1 = 29 then (some ((indent_h0, fits_h0, size_a_form_h0, n_a_bytes_a_form_h0, b_a_bytes_a_form_h0), 0, 0))
  else if r1 = 30 then (bw (F_Wr_putToken p1 indent_h0 fits_h0 count_a_tree_h0 n_a_cells_a_tree_h0 b_a_cells_a_tree_h0 size_a_source_h0 n_a_bytes_a_source_h0 b_a_bytes_a_source_h0 size_a_form_h0 n_a_bytes_a_form_h0 b_a_bytes_a_form_h0) fun ⟨r203, r204, r205, r206⟩ =>
    (some ((indent_h0, r203, r204, r205, r206), 0, 0)))
  else if r1 = 31 then (bw (F_Wr_putToken p1 indent_h0 fits_h0 count_a_tree_h0 n_a_cells_a_tree_h0 b_a_cells_a_tree_h0 size_a_source_h0 n_a_bytes_a_source_h0 b_a_bytes_a_source_h0 size_a_form_h0 n_a_bytes_a_form_h0 b_a_bytes_a_form_h0) fun ⟨r214, r215, r216, r217⟩ =>
    (some ((indent_h0, r214, r215, r216, r217), 0, 0)))
  else if r1 = 32 then (bw (F_Wr_putToken p1 indent_h0 fits_h0 count_a_tree_h0 n_a_cells_a_tree_h0 b_a_cells_a_tree_h0 size_a_source_h0 n_a_bytes_a_source_h0 b_a_bytes_a_source_h0 size_a_form_h0 n_a_bytes_a_form_h0 b_a_bytes_a_form_h0) fun ⟨r225, r226, r227, r228⟩ =>
    (some ((indent_h0, r225, r226, r227, r228), 0, 0)))
  else if r1 = 33 then (bw (F_Wr_putToken p1 indent_h0 fits_h0 count_a_tree_h0 n_a_cells_a_tree_h0 b_a_cells_a_tree_h0 size_a_source_h0 n_a_bytes_a_source_h0 b_a_bytes_a_source_h0 size_a_form_h0 n_a_bytes_a_form_h0 b_a_bytes_a_form_h0) fun ⟨r236, r237, r238, r239⟩ =>
    bw (F_Wr_put 30 indent_h0 r236 r237 r238 r239) fun ⟨r246, r247, r248, r249⟩ =>
    (some ((indent_h0, r246, r247, r248, r249), 0, 0)))
  else if r1 = 34 then (bw (F_Wr_putToken p1 indent_h0 fits_h0 count_a_tree_h0 n_a_cells_a_tree_h0 b_a_cells_a_tree_h0 size_a_source_h0 n_a_bytes_a_source_h0 b_a_bytes_a_source_h0 size_a_form_h0 n_a_bytes_a_form_h0 b_a_bytes_a_form_h0) fun ⟨r257, r258, r259, r260⟩ =>
    (some ((indent_h0, r257, r258, r259, r260), 0, 0)))
  else if r1 = 35 then (bw (F_Wr_putToken p1 indent_h0 fits_h0 count_a_tree_h0 n_a_cells_a_tree_h0 b_a_cells_a_tree_h0 size_a_source_h0 n_a_bytes_a_source_h0 b_a_bytes_a_source_h0 size_a_form_h0 n_a_bytes_a_form_h0 b_a_bytes_a_form_h0) fun ⟨r268, r269, r270, r271⟩ =>
    (some ((indent_h0, r268, r269, r270, r271), 0, 0)))
  else if r1 = 36 then (bw (F_Wr_put 15 indent_h0 fits_h0 size_a_form_h0 n_a_bytes_a_form_h0 b_a_bytes_a_form_h0) fun ⟨r279, r280, r281, r282⟩ =>
    (some ((indent_h0, r279, r280, r281, r282), 0, 0)))
  else if r1 = 37 then (some ((indent_h0, fits_h0, size_a_form_h0, n_a_bytes_a_form_h0, b_a_bytes_a_form_h0), 0, 0))
  else if r1 = 38 then (some ((indent_h0, fits_h0, size_a_form_h0, n_a_bytes_a_form_h0, b_a_bytes_a_form_h0), 0, 0))
  else if r1 = 39 then (bw (F_Wr_putToken p1 indent_h0 fits_h0 count_a_tree_h0 n_a_cells_a_tree_h0 b_a_cells_a_tree_h0 size_a_source_h0 n_a_bytes_a_source_h0 b_a_bytes_a_source_h0 size_a_form_h0 n_a_bytes_a_form_h0 b_a_bytes_a_form_h0) fun ⟨r292, r293, r294, r295⟩ =>
    (some ((indent_h0, r292, r293, r294, r295), 0, 0)))
  else (some ((indent_h0, fits_h0, size_a_form_h0, n_a_bytes_a_form_h0, b_a_bytes_a_form_h0), 0, 0))
theorem d_Wr_begin_0 : decode prog_10_method_13_code 0 = .ok (.aload_n 0, 1) := by decide +kernel
theorem d_Wr_begin_1 : decode prog_10_method_13_code 1 = .ok (.iload_n 1, 1) := by decide +kernel
theorem d_Wr_begin_2 : decode prog_10_method_13_code 2 = .ok (.invokevirtual 105, 3) := by decide +kernel
theorem d_Wr_begin_5 : decode prog_10_method_13_code 5 = .ok (.tableswitch 267 1 39 #[184, 267, 171, 267, 236, 267, 267, 267, 267, 193, 267, 267, 267, 267, 202, 202, 202, 216, 216, 193, 193, 267, 267, 267, 267, 267, 267, 267, 267, 236, 236, 236, 244, 236, 236, 258, 267, 267, 236], 171) := by decide +kernel
theorem d_Wr_begin_176 : decode prog_10_method_13_code 176 = .ok (.aload_n 0, 1) := by decide +kernel
theorem d_Wr_begin_177 : decode prog_10_method_13_code 177 = .ok (.dup, 1) := by decide +kernel
theorem d_Wr_begin_178 : decode prog_10_method_13_code 178 = .ok (.getfield 26, 3) := by decide +kernel
theorem d_Wr_begin_181 : decode prog_10_method_13_code 181 = .ok (.iconst 1, 1) := by decide +kernel
theorem d_Wr_begin_182 : decode prog_10_method_13_code 182 = .ok (.iadd, 1) := by decide +kernel
theorem d_Wr_begin_183 : decode prog_10_method_13_code 183 = .ok (.putfield 26, 3) := by decide +kernel
theorem d_Wr_begin_186 : decode prog_10_method_13_code 186 = .ok (.goto 86, 3) := by decide +kernel
theorem d_Wr_begin_189 : decode prog_10_method_13_code 189 = .ok (.aload_n 0, 1) := by decide +kernel
theorem d_Wr_begin_190 : decode prog_10_method_13_code 190 = .ok (.ldc 155, 2) := by decide +kernel
theorem d_Wr_begin_192 : decode prog_10_method_13_code 192 = .ok (.invokevirtual 114, 3) := by decide +kernel
theorem d_Wr_begin_195 : decode prog_10_method_13_code 195 = .ok (.goto 77, 3) := by decide +kernel
theorem d_Wr_begin_198 : decode prog_10_method_13_code 198 = .ok (.aload_n 0, 1) := by decide +kernel
theorem d_Wr_begin_199 : decode prog_10_method_13_code 199 = .ok (.ldc 110, 2) := by decide +kernel
theorem d_Wr_begin_201 : decode prog_10_method_13_code 201 = .ok (.invokevirtual 114, 3) := by decide +kernel
theorem d_Wr_begin_204 : decode prog_10_method_13_code 204 = .ok (.goto 68, 3) := by decide +kernel
theorem d_Wr_begin_207 : decode prog_10_method_13_code 207 = .ok (.aload_n 0, 1) := by decide +kernel
theorem d_Wr_begin_208 : decode prog_10_method_13_code 208 = .ok (.ldc 110, 2) := by decide +kernel
theorem d_Wr_begin_210 : decode prog_10_method_13_code 210 = .ok (.invokevirtual 114, 3) := by decide +kernel
theorem d_Wr_begin_213 : decode prog_10_method_13_code 213 = .ok (.aload_n 0, 1) := by decide +kernel
theorem d_Wr_begin_214 : decode prog_10_method_13_code 214 = .ok (.iload_n 1, 1) := by decide +kernel
theorem d_Wr_begin_215 : decode prog_10_method_13_code 215 = .ok (.invokevirtual 152, 3) := by decide +kernel
theorem d_Wr_begin_218 : decode prog_10_method_13_code 218 = .ok (.goto 54, 3) := by decide +kernel
theorem d_Wr_begin_221 : decode prog_10_method_13_code 221 = .ok (.aload_n 0, 1) := by decide +kernel
theorem d_Wr_begin_222 : decode prog_10_method_13_code 222 = .ok (.ldc 110, 2) := by decide +kernel
theorem d_Wr_begin_224 : decode prog_10_method_13_code 224 = .ok (.invokevirtual 114, 3) := by decide +kernel
theorem d_Wr_begin_227 : decode prog_10_method_13_code 227 = .ok (.aload_n 0, 1) := by decide +kernel
theorem d_Wr_begin_228 : decode prog_10_method_13_code 228 = .ok (.iload_n 1, 1) := by decide +kernel
theorem d_Wr_begin_229 : decode prog_10_method_13_code 229 = .ok (.invokevirtual 152, 3) := by decide +kernel
theorem d_Wr_begin_232 : decode prog_10_method_13_code 232 = .ok (.aload_n 0, 1) := by decide +kernel
theorem d_Wr_begin_233 : decode prog_10_method_13_code 233 = .ok (.ldc 150, 2) := by decide +kernel
theorem d_Wr_begin_235 : decode prog_10_method_13_code 235 = .ok (.invokevirtual 77, 3) := by decide +kernel
theorem d_Wr_begin_238 : decode prog_10_method_13_code 238 = .ok (.goto 34, 3) := by decide +kernel
theorem d_Wr_begin_241 : decode prog_10_method_13_code 241 = .ok (.aload_n 0, 1) := by decide +kernel
theorem d_Wr_begin_242 : decode prog_10_method_13_code 242 = .ok (.iload_n 1, 1) := by decide +kernel
theorem d_Wr_begin_243 : decode prog_10_method_13_code 243 = .ok (.invokevirtual 152, 3) := by decide +kernel
theorem d_Wr_begin_246 : decode prog_10_method_13_code 246 = .ok (.goto 26, 3) := by decide +kernel
theorem d_Wr_begin_249 : decode prog_10_method_13_code 249 = .ok (.aload_n 0, 1) := by decide +kernel
theorem d_Wr_begin_250 : decode prog_10_method_13_code 250 = .ok (.iload_n 1, 1) := by decide +kernel
theorem d_Wr_begin_251 : decode prog_10_method_13_code 251 = .ok (.invokevirtual 152, 3) := by decide +kernel
theorem d_Wr_begin_254 : decode prog_10_method_13_code 254 = .ok (.aload_n 0, 1) := by decide +kernel
theorem d_Wr_begin_255 : decode prog_10_method_13_code 255 = .ok (.ldc 92, 2) := by decide +kernel
theorem d_Wr_begin_257 : decode prog_10_method_13_code 257 = .ok (.invokevirtual 77, 3) := by decide +kernel
theorem d_Wr_begin_260 : decode prog_10_method_13_code 260 = .ok (.goto 12, 3) := by decide +kernel
theorem d_Wr_begin_263 : decode prog_10_method_13_code 263 = .ok (.aload_n 0, 1) := by decide +kernel
theorem d_Wr_begin_264 : decode prog_10_method_13_code 264 = .ok (.ldc 108, 2) := by decide +kernel
theorem d_Wr_begin_266 : decode prog_10_method_13_code 266 = .ok (.invokevirtual 77, 3) := by decide +kernel
theorem d_Wr_begin_269 : decode prog_10_method_13_code 269 = .ok (.goto 3, 3) := by decide +kernel
theorem d_Wr_begin_272 : decode prog_10_method_13_code 272 = .ok (.return_, 1) := by decide +kernel
set_option maxHeartbeats 4000000 in
set_option maxRecDepth 100000 in
theorem c_Wr_begin (l : Launch) (D : va_G) (cI cB cJ cS : ClassId) (h0 : Nat) (a_tree_h0 : Nat) (a_source_h0 : Nat) (a_form_h0 : Nat) (a_cells_a_tree_h0 : Nat) (a_bytes_a_form_h0 : Nat) (a_bytes_a_source_h0 : Nat) (p1 : Int32) (indent_h0 : Int32) (fits_h0 : Int32) (count_a_tree_h0 : Int32) (n_a_cells_a_tree_h0 : Nat) (b_a_cells_a_tree_h0 : Nat → Int32) (size_a_form_h0 : Int32) (n_a_bytes_a_form_h0 : Nat) (b_a_bytes_a_form_h0 : Nat → Int32) (size_a_source_h0 : Int32) (n_a_bytes_a_source_h0 : Nat) (b_a_bytes_a_source_h0 : Nat → Int32) (o_0_3 : Int32) (o_0_4 : Int32) (o_3_1 : Int32) (on_nq_3_0 : Nat) (ob_nq_3_0 : Nat → Int32) (mc ms : Nat) (h : F_Wr_begin p1 indent_h0 fits_h0 count_a_tree_h0 n_a_cells_a_tree_h0 b_a_cells_a_tree_h0 size_a_form_h0 n_a_bytes_a_form_h0 b_a_bytes_a_form_h0 size_a_source_h0 n_a_bytes_a_source_h0 b_a_bytes_a_source_h0 = some ((o_0_3, o_0_4, o_3_1, on_nq_3_0, ob_nq_3_0), mc, ms)) : Ct l D (gT cI cB cJ cS) y_Wr_begin prog_10_method_13_code 2 (Option.none : Option Jvm.ClassFile.FieldType) 6 147 mc ms [.ref h0, .int p1] [(h0, .inr (6, [.ref a_tree_h0, .ref a_source_h0, .ref a_form_h0, .int indent_h0, .int fits_h0])), (a_tree_h0, .inr (1, [.ref a_cells_a_tree_h0, .int count_a_tree_h0])), (a_cells_a_tree_h0, .inl (cI, n_a_cells_a_tree_h0, .inl b_a_cells_a_tree_h0)), (a_form_h0, .inr (3, [.ref a_bytes_a_form_h0, .int size_a_form_h0])), (a_bytes_a_form_h0, .inl (cB, n_a_bytes_a_form_h0, .inl b_a_bytes_a_form_h0)), (a_source_h0, .inr (3, [.ref a_bytes_a_source_h0, .int size_a_source_h0])), (a_bytes_a_source_h0, .inl (cB, n_a_bytes_a_source_h0, .inl b_a_bytes_a_source_h0))] (fun v w => ∃ nq_3_0 : Nat, v = none ∧ w = [(h0, .inr (6, [.ref a_tree_h0, .ref a_source_h0, .ref a_form_h0, .int o_0_3, .int o_0_4])), (a_tree_h0, .inr (1, [.ref a_cells_a_tree_h0, .int count_a_tree_h0])), (a_cells_a_tree_h0, .inl (cI, n_a_cells_a_tree_h0, .inl b_a_cells_a_tree_h0)), (a_form_h0, .inr (3, [.ref nq_3_0, .int o_3_1])), (a_source_h0, .inr (3, [.ref a_bytes_a_source_h0, .int size_a_source_h0])), (a_bytes_a_source_h0, .inl (cB, n_a_bytes_a_source_h0, .inl b_a_bytes_a_source_h0)), (nq_3_0, .inl (cB, on_nq_3_0, .inl ob_nq_3_0))]) := by
  refine Ct.mk (by decide) (Nat.le_of_ble_eq_true rfl) ?_
  intro p e s m below meth c hr hnm
  refine j_norm (pc' := 0) (lv' := [(0, .ref h0), (1, .int p1)]) (st' := []) (ws' := [(h0, .inr (6, [.ref a_tree_h0, .ref a_source_h0, .ref a_form_h0, .int indent_h0, .int fits_h0])), (a_tree_h0, .inr (1, [.ref a_cells_a_tree_h0, .int count_a_tree_h0])), (a_cells_a_tree_h0, .inl (cI, n_a_cells_a_tree_h0, .inl b_a_cells_a_tree_h0)), (a_form_h0, .inr (3, [.ref a_bytes_a_form_h0, .int size_a_form_h0])), (a_bytes_a_form_h0, .inl (cB, n_a_bytes_a_form_h0, .inl b_a_bytes_a_form_h0)), (a_source_h0, .inr (3, [.ref a_bytes_a_source_h0, .int size_a_source_h0])), (a_bytes_a_source_h0, .inl (cB, n_a_bytes_a_source_h0, .inl b_a_bytes_a_source_h0))]) (cl' := 0) (sl' := 0) rfl rfl rfl rfl rfl rfl ?_
  unfold F_Wr_begin at h
  have hC : 0 + mc ≤ mc := by omega
  have hS : 0 + ms ≤ ms := by omega
  refine j_aload_n d_Wr_begin_0 rfl 0 rfl ?_
  refine j_iload_n d_Wr_begin_1 rfl 1 rfl ?_
  replace h := bd_s h
  obtain ⟨r1, k2, h⟩ := h
  refine j_callV (n := 1) (As := [.int p1]) (rest := []) (wr := [(a_form_h0, .inr (3, [.ref a_bytes_a_form_h0, .int size_a_form_h0])), (a_bytes_a_form_h0, .inl (cB, n_a_bytes_a_form_h0, .inl b_a_bytes_a_form_h0)), (a_source_h0, .inr (3, [.ref a_bytes_a_source_h0, .int size_a_source_h0])), (a_bytes_a_source_h0, .inl (cB, n_a_bytes_a_source_h0, .inl b_a_bytes_a_source_h0))]) (c_Wr_kind l D cI cB cJ cS h0 a_tree_h0 a_source_h0 a_form_h0 a_cells_a_tree_h0 p1 indent_h0 fits_h0 count_a_tree_h0 n_a_cells_a_tree_h0 b_a_cells_a_tree_h0  r1 k2) k_Wr_105 (by decide) ⟨Nat.le_of_ble_eq_true rfl, Nat.le_of_ble_eq_true rfl⟩ rfl 0 rfl [0, 1, 2] [3, 4, 5, 6] rfl (by decide) rfl (by decide) (by decide) rfl rfl (Nat.le_of_ble_eq_true rfl) d_Wr_begin_2 ⟨show 0 + 0 ≤ mc by omega, show 0 + 0 ≤ ms by omega⟩ (fun v w hq => ?_)
  obtain ⟨rfl, rfl⟩ := hq
  refine j_norm (pc' := 5) (st' := [.int r1]) (ws' := [(a_form_h0, .inr (3, [.ref a_bytes_a_form_h0, .int size_a_form_h0])), (a_bytes_a_form_h0, .inl (cB, n_a_bytes_a_form_h0, .inl b_a_bytes_a_form_h0)), (a_source_h0, .inr (3, [.ref a_bytes_a_source_h0, .int size_a_source_h0])), (a_bytes_a_source_h0, .inl (cB, n_a_bytes_a_source_h0, .inl b_a_bytes_a_source_h0)), (h0, .inr (6, [.ref a_tree_h0, .ref a_source_h0, .ref a_form_h0, .int indent_h0, .int fits_h0])), (a_tree_h0, .inr (1, [.ref a_cells_a_tree_h0, .int count_a_tree_h0])), (a_cells_a_tree_h0, .inl (cI, n_a_cells_a_tree_h0, .inl b_a_cells_a_tree_h0))]) (cl' := 0) (sl' := 0) rfl rfl rfl rfl rfl rfl ?_
  by_cases c3 : r1 = 1
  · replace h := it_t c3 h
    refine j_tabIn (tgt := 189) (off := 184) d_Wr_begin_5 1 c3 (by decide) (by decide) (by decide) (by decide) ?_
    refine j_aload_n d_Wr_begin_189 rfl 0 rfl ?_
    refine j_ldcS (i := 31) rfl d_Wr_begin_190 ?_
    replace h := bw_s h
    obtain ⟨⟨r4, r5, r6, r7⟩, C9, S10, C11, S12, k13, h, e1, e2⟩ := h
    replace hC : 0 + C9 + C11 ≤ mc := by omega
    replace hS : 0 + S10 + S12 ≤ ms := by omega
    clear e1 e2
    refine j_callV (n := 1) (As := [.ref (sA D 31)]) (rest := []) (wr := [(a_source_h0, .inr (3, [.ref a_bytes_a_source_h0, .int size_a_source_h0])), (a_bytes_a_source_h0, .inl (cB, n_a_bytes_a_source_h0, .inl b_a_bytes_a_source_h0)), (a_tree_h0, .inr (1, [.ref a_cells_a_tree_h0, .int count_a_tree_h0])), (a_cells_a_tree_h0, .inl (cI, n_a_cells_a_tree_h0, .inl b_a_cells_a_tree_h0))]) (c_Wr_beginLine l D cI cB cJ cS h0 a_tree_h0 a_source_h0 a_form_h0 a_bytes_a_form_h0 31 indent_h0 fits_h0 size_a_form_h0 n_a_bytes_a_form_h0 b_a_bytes_a_form_h0  r4 r5 r6 r7 C9 S10 k13) k_Wr_114 (by decide) ⟨Nat.le_of_ble_eq_true rfl, Nat.le_of_ble_eq_true rfl⟩ rfl 0 rfl [4, 0, 1] [2, 3, 5, 6] rfl (by decide) rfl (by decide) (by decide) rfl rfl (Nat.le_of_ble_eq_true rfl) d_Wr_begin_192 ⟨show 0 + C9 ≤ mc by omega, show 0 + S10 ≤ ms by omega⟩ (fun v w hq => ?_)
    obtain ⟨q8, rfl, rfl⟩ := hq
    refine j_norm (pc' := 195) (st' := []) (ws' := [(a_source_h0, .inr (3, [.ref a_bytes_a_source_h0, .int size_a_source_h0])), (a_bytes_a_source_h0, .inl (cB, n_a_bytes_a_source_h0, .inl b_a_bytes_a_source_h0)), (a_tree_h0, .inr (1, [.ref a_cells_a_tree_h0, .int count_a_tree_h0])), (a_cells_a_tree_h0, .inl (cI, n_a_cells_a_tree_h0, .inl b_a_cells_a_tree_h0)), (h0, .inr (6, [.ref a_tree_h0, .ref a_source_h0, .ref a_form_h0, .int indent_h0, .int r4])), (a_form_h0, .inr (3, [.ref q8, .int r5])), (q8, .inl (cB, r6, .inl r7))]) (cl' := 0 + C9) (sl' := 0 + S10) rfl rfl rfl rfl rfl rfl ?_
    refine j_goto (tgt := 272) d_Wr_begin_195 (by decide) ?_
    replace h := lf_s h
    obtain ⟨h, e1, e2⟩ := h
    replace h := Prod.mk.inj h
    obtain ⟨h9, h⟩ := h
    subst h9
    replace h := Prod.mk.inj h
    obtain ⟨h9, h⟩ := h
    subst h9
    replace h := Prod.mk.inj h
    obtain ⟨h9, h⟩ := h
    subst h9
    replace h := Prod.mk.inj h
    obtain ⟨h9, h⟩ := h
    subst h9
    subst h
    refine j_widen (cl' := mc) (sl' := ms) (by omega) (by omega) ?_
    exact j_vret (w := [(h0, .inr (6, [.ref a_tree_h0, .ref a_source_h0, .ref a_form_h0, .int indent_h0, .int r4])), (a_tree_h0, .inr (1, [.ref a_cells_a_tree_h0, .int count_a_tree_h0])), (a_cells_a_tree_h0, .inl (cI, n_a_cells_a_tree_h0, .inl b_a_cells_a_tree_h0)), (a_form_h0, .inr (3, [.ref q8, .int r5])), (a_source_h0, .inr (3, [.ref a_bytes_a_source_h0, .int size_a_source_h0])), (a_bytes_a_source_h0, .inl (cB, n_a_bytes_a_source_h0, .inl b_a_bytes_a_source_h0)), (q8, .inl (cB, r6, .inl r7))]) hr d_Wr_begin_272 [4, 2, 3, 5, 0, 1, 6] rfl (by decide) ⟨q8, rfl, rfl⟩
  · replace h := it_f c3 h
    by_cases c14 : r1 = 2
    · replace h := it_t c14 h
      refine j_tabIn (tgt := 272) (off := 267) d_Wr_begin_5 2 c14 (by decide) (by decide) (by decide) (by decide) ?_
      replace h := lf_s h
      obtain ⟨h, e1, e2⟩ := h
      replace h := Prod.mk.inj h
      obtain ⟨h9, h⟩ := h
      subst h9
      replace h := Prod.mk.inj h
      obtain ⟨h9, h⟩ := h
      subst h9
      replace h := Prod.mk.inj h
      obtain ⟨h9, h⟩ := h
      subst h9
      replace h := Prod.mk.inj h
      obtain ⟨h9, h⟩ := h
      subst h9
      subst h
      refine j_widen (cl' := mc) (sl' := ms) (by omega) (by omega) ?_
      exact j_vret (w := [(h0, .inr (6, [.ref a_tree_h0, .ref a_source_h0, .ref a_form_h0, .int indent_h0, .int fits_h0])), (a_tree_h0, .inr (1, [.ref a_cells_a_tree_h0, .int count_a_tree_h0])), (a_cells_a_tree_h0, .inl (cI, n_a_cells_a_tree_h0, .inl b_a_cells_a_tree_h0)), (a_form_h0, .inr (3, [.ref a_bytes_a_form_h0, .int size_a_form_h0])), (a_source_h0, .inr (3, [.ref a_bytes_a_source_h0, .int size_a_source_h0])), (a_bytes_a_source_h0, .inl (cB, n_a_bytes_a_source_h0, .inl b_a_bytes_a_source_h0)), (a_bytes_a_form_h0, .inl (cB, n_a_bytes_a_form_h0, .inl b_a_bytes_a_form_h0))]) hr d_Wr_begin_272 [4, 5, 6, 0, 2, 3, 1] rfl (by decide) ⟨a_bytes_a_form_h0, rfl, rfl⟩
    · replace h := it_f c14 h
      by_cases c15 : r1 = 3
      · replace h := it_t c15 h
        refine j_tabIn (tgt := 176) (off := 171) d_Wr_begin_5 3 c15 (by decide) (by decide) (by decide) (by decide) ?_
        refine j_aload_n d_Wr_begin_176 rfl 0 rfl ?_
        refine j_dup rfl d_Wr_begin_177 ?_
        refine j_get ig_Wr rfl 4 rfl 3 (by decide) rfl m_222 rfl d_Wr_begin_178 ?_
        refine j_iconst (v := 1) d_Wr_begin_181 (by decide) ?_
        refine j_iadd d_Wr_begin_182 ?_
        refine j_put (ws' := [(a_form_h0, .inr (3, [.ref a_bytes_a_form_h0, .int size_a_form_h0])), (a_bytes_a_form_h0, .inl (cB, n_a_bytes_a_form_h0, .inl b_a_bytes_a_form_h0)), (a_source_h0, .inr (3, [.ref a_bytes_a_source_h0, .int size_a_source_h0])), (a_bytes_a_source_h0, .inl (cB, n_a_bytes_a_source_h0, .inl b_a_bytes_a_source_h0)), (h0, .inr (6, [.ref a_tree_h0, .ref a_source_h0, .ref a_form_h0, .int (indent_h0 + 1), .int fits_h0])), (a_tree_h0, .inr (1, [.ref a_cells_a_tree_h0, .int count_a_tree_h0])), (a_cells_a_tree_h0, .inl (cI, n_a_cells_a_tree_h0, .inl b_a_cells_a_tree_h0))]) ig_Wr tk_Wr nm_Wr rfl 4 rfl 3 (by decide) rfl m_222 rfl (tk_Wr 3 (by decide)) rfl rfl (Nat.le_of_ble_eq_true rfl) d_Wr_begin_183 rfl ?_
        refine j_goto (tgt := 272) d_Wr_begin_186 (by decide) ?_
        replace h := lf_s h
        obtain ⟨h, e1, e2⟩ := h
        replace h := Prod.mk.inj h
        obtain ⟨h9, h⟩ := h
        subst h9
        replace h := Prod.mk.inj h
        obtain ⟨h9, h⟩ := h
        subst h9
        replace h := Prod.mk.inj h
        obtain ⟨h9, h⟩ := h
        subst h9
        replace h := Prod.mk.inj h
        obtain ⟨h9, h⟩ := h
        subst h9
        subst h
        refine j_widen (cl' := mc) (sl' := ms) (by omega) (by omega) ?_
        exact j_vret (w := [(h0, .inr (6, [.ref a_tree_h0, .ref a_source_h0, .ref a_form_h0, .int (indent_h0 + 1), .int fits_h0])), (a_tree_h0, .inr (1, [.ref a_cells_a_tree_h0, .int count_a_tree_h0])), (a_cells_a_tree_h0, .inl (cI, n_a_cells_a_tree_h0, .inl b_a_cells_a_tree_h0)), (a_form_h0, .inr (3, [.ref a_bytes_a_form_h0, .int size_a_form_h0])), (a_source_h0, .inr (3, [.ref a_bytes_a_source_h0, .int size_a_source_h0])), (a_bytes_a_source_h0, .inl (cB, n_a_bytes_a_source_h0, .inl b_a_bytes_a_source_h0)), (a_bytes_a_form_h0, .inl (cB, n_a_bytes_a_form_h0, .inl b_a_bytes_a_form_h0))]) hr d_Wr_begin_272 [4, 5, 6, 0, 2, 3, 1] rfl (by decide) ⟨a_bytes_a_form_h0, rfl, rfl⟩
      · replace h := it_f c15 h
        by_cases c16 : r1 = 4
        · replace h := it_t c16 h
          refine j_tabIn (tgt := 272) (off := 267) d_Wr_begin_5 4 c16 (by decide) (by decide) (by decide) (by decide) ?_
          replace h := lf_s h
          obtain ⟨h, e1, e2⟩ := h
          replace h := Prod.mk.inj h
          obtain ⟨h9, h⟩ := h
          subst h9
          replace h := Prod.mk.inj h
          obtain ⟨h9, h⟩ := h
          subst h9
          replace h := Prod.mk.inj h
          obtain ⟨h9, h⟩ := h
          subst h9
          replace h := Prod.mk.inj h
          obtain ⟨h9, h⟩ := h
          subst h9
          subst h
          refine j_widen (cl' := mc) (sl' := ms) (by omega) (by omega) ?_
          exact j_vret (w := [(h0, .inr (6, [.ref a_tree_h0, .ref a_source_h0, .ref a_form_h0, .int indent_h0, .int fits_h0])), (a_tree_h0, .inr (1, [.ref a_cells_a_tree_h0, .int count_a_tree_h0])), (a_cells_a_tree_h0, .inl (cI, n_a_cells_a_tree_h0, .inl b_a_cells_a_tree_h0)), (a_form_h0, .inr (3, [.ref a_bytes_a_form_h0, .int size_a_form_h0])), (a_source_h0, .inr (3, [.ref a_bytes_a_source_h0, .int size_a_source_h0])), (a_bytes_a_source_h0, .inl (cB, n_a_bytes_a_source_h0, .inl b_a_bytes_a_source_h0)), (a_bytes_a_form_h0, .inl (cB, n_a_bytes_a_form_h0, .inl b_a_bytes_a_form_h0))]) hr d_Wr_begin_272 [4, 5, 6, 0, 2, 3, 1] rfl (by decide) ⟨a_bytes_a_form_h0, rfl, rfl⟩
        · replace h := it_f c16 h
          by_cases c17 : r1 = 5
          · replace h := it_t c17 h
            refine j_tabIn (tgt := 241) (off := 236) d_Wr_begin_5 5 c17 (by decide) (by decide) (by decide) (by decide) ?_
            refine j_aload_n d_Wr_begin_241 rfl 0 rfl ?_
            refine j_iload_n d_Wr_begin_242 rfl 1 rfl ?_
            replace h := bw_s h
            obtain ⟨⟨r18, r19, r20, r21⟩, C23, S24, C25, S26, k27, h, e1, e2⟩ := h
            replace hC : 0 + C23 + C25 ≤ mc := by omega
            replace hS : 0 + S24 + S26 ≤ ms := by omega
            clear e1 e2
            refine j_callV (n := 1) (As := [.int p1]) (rest := []) (wr := []) (c_Wr_putToken l D cI cB cJ cS h0 a_tree_h0 a_source_h0 a_form_h0 a_cells_a_tree_h0 a_bytes_a_source_h0 a_bytes_a_form_h0 p1 indent_h0 fits_h0 count_a_tree_h0 n_a_cells_a_tree_h0 b_a_cells_a_tree_h0 size_a_source_h0 n_a_bytes_a_source_h0 b_a_bytes_a_source_h0 size_a_form_h0 n_a_bytes_a_form_h0 b_a_bytes_a_form_h0  r18 r19 r20 r21 C23 S24 k27) k_Wr_152 (by decide) ⟨Nat.le_of_ble_eq_true rfl, Nat.le_of_ble_eq_true rfl⟩ rfl 0 rfl [4, 5, 6, 2, 3, 0, 1] [] rfl (by decide) rfl (by decide) (by decide) rfl rfl (Nat.le_of_ble_eq_true rfl) d_Wr_begin_243 ⟨show 0 + C23 ≤ mc by omega, show 0 + S24 ≤ ms by omega⟩ (fun v w hq => ?_)
            obtain ⟨q22, rfl, rfl⟩ := hq
            refine j_norm (pc' := 246) (st' := []) (ws' := [(h0, .inr (6, [.ref a_tree_h0, .ref a_source_h0, .ref a_form_h0, .int indent_h0, .int r18])), (a_tree_h0, .inr (1, [.ref a_cells_a_tree_h0, .int count_a_tree_h0])), (a_cells_a_tree_h0, .inl (cI, n_a_cells_a_tree_h0, .inl b_a_cells_a_tree_h0)), (a_source_h0, .inr (3, [.ref a_bytes_a_source_h0, .int size_a_source_h0])), (a_bytes_a_source_h0, .inl (cB, n_a_bytes_a_source_h0, .inl b_a_bytes_a_source_h0)), (a_form_h0, .inr (3, [.ref q22, .int r19])), (q22, .inl (cB, r20, .inl r21))]) (cl' := 0 + C23) (sl' := 0 + S24) rfl rfl rfl rfl rfl rfl ?_
            refine j_goto (tgt := 272) d_Wr_begin_246 (by decide) ?_
            replace h := lf_s h
            obtain ⟨h, e1, e2⟩ := h
            replace h := Prod.mk.inj h
            obtain ⟨h9, h⟩ := h
            subst h9
            replace h := Prod.mk.inj h
            obtain ⟨h9, h⟩ := h
            subst h9
            replace h := Prod.mk.inj h
            obtain ⟨h9, h⟩ := h
            subst h9
            replace h := Prod.mk.inj h
            obtain ⟨h9, h⟩ := h
            subst h9
            subst h
            refine j_widen (cl' := mc) (sl' := ms) (by omega) (by omega) ?_
            exact j_vret (w := [(h0, .inr (6, [.ref a_tree_h0, .ref a_source_h0, .ref a_form_h0, .int indent_h0, .int r18])), (a_tree_h0, .inr (1, [.ref a_cells_a_tree_h0, .int count_a_tree_h0])), (a_cells_a_tree_h0, .inl (cI, n_a_cells_a_tree_h0, .inl b_a_cells_a_tree_h0)), (a_form_h0, .inr (3, [.ref q22, .int r19])), (a_source_h0, .inr (3, [.ref a_bytes_a_source_h0, .int size_a_source_h0])), (a_bytes_a_source_h0, .inl (cB, n_a_bytes_a_source_h0, .inl b_a_bytes_a_source_h0)), (q22, .inl (cB, r20, .inl r21))]) hr d_Wr_begin_272 [0, 1, 2, 5, 3, 4, 6] rfl (by decide) ⟨q22, rfl, rfl⟩
          · replace h := it_f c17 h
            by_cases c28 : r1 = 6
            · replace h := it_t c28 h
              refine j_tabIn (tgt := 272) (off := 267) d_Wr_begin_5 6 c28 (by decide) (by decide) (by decide) (by decide) ?_
              replace h := lf_s h
              obtain ⟨h, e1, e2⟩ := h
              replace h := Prod.mk.inj h
              obtain ⟨h9, h⟩ := h
              subst h9
              replace h := Prod.mk.inj h
              obtain ⟨h9, h⟩ := h
              subst h9
              replace h := Prod.mk.inj h
              obtain ⟨h9, h⟩ := h
              subst h9
              replace h := Prod.mk.inj h
              obtain ⟨h9, h⟩ := h
              subst h9
              subst h
              refine j_widen (cl' := mc) (sl' := ms) (by omega) (by omega) ?_
              exact j_vret (w := [(h0, .inr (6, [.ref a_tree_h0, .ref a_source_h0, .ref a_form_h0, .int indent_h0, .int fits_h0])), (a_tree_h0, .inr (1, [.ref a_cells_a_tree_h0, .int count_a_tree_h0])), (a_cells_a_tree_h0, .inl (cI, n_a_cells_a_tree_h0, .inl b_a_cells_a_tree_h0)), (a_form_h0, .inr (3, [.ref a_bytes_a_form_h0, .int size_a_form_h0])), (a_source_h0, .inr (3, [.ref a_bytes_a_source_h0, .int size_a_source_h0])), (a_bytes_a_source_h0, .inl (cB, n_a_bytes_a_source_h0, .inl b_a_bytes_a_source_h0)), (a_bytes_a_form_h0, .inl (cB, n_a_bytes_a_form_h0, .inl b_a_bytes_a_form_h0))]) hr d_Wr_begin_272 [4, 5, 6, 0, 2, 3, 1] rfl (by decide) ⟨a_bytes_a_form_h0, rfl, rfl⟩
            · replace h := it_f c28 h
              by_cases c29 : r1 = 7
              · replace h := it_t c29 h
                refine j_tabIn (tgt := 272) (off := 267) d_Wr_begin_5 7 c29 (by decide) (by decide) (by decide) (by decide) ?_
                replace h := lf_s h
                obtain ⟨h, e1, e2⟩ := h
                replace h := Prod.mk.inj h
                obtain ⟨h9, h⟩ := h
                subst h9
                replace h := Prod.mk.inj h
                obtain ⟨h9, h⟩ := h
                subst h9
                replace h := Prod.mk.inj h
                obtain ⟨h9, h⟩ := h
                subst h9
                replace h := Prod.mk.inj h
                obtain ⟨h9, h⟩ := h
                subst h9
                subst h
                refine j_widen (cl' := mc) (sl' := ms) (by omega) (by omega) ?_
                exact j_vret (w := [(h0, .inr (6, [.ref a_tree_h0, .ref a_source_h0, .ref a_form_h0, .int indent_h0, .int fits_h0])), (a_tree_h0, .inr (1, [.ref a_cells_a_tree_h0, .int count_a_tree_h0])), (a_cells_a_tree_h0, .inl (cI, n_a_cells_a_tree_h0, .inl b_a_cells_a_tree_h0)), (a_form_h0, .inr (3, [.ref a_bytes_a_form_h0, .int size_a_form_h0])), (a_source_h0, .inr (3, [.ref a_bytes_a_source_h0, .int size_a_source_h0])), (a_bytes_a_source_h0, .inl (cB, n_a_bytes_a_source_h0, .inl b_a_bytes_a_source_h0)), (a_bytes_a_form_h0, .inl (cB, n_a_bytes_a_form_h0, .inl b_a_bytes_a_form_h0))]) hr d_Wr_begin_272 [4, 5, 6, 0, 2, 3, 1] rfl (by decide) ⟨a_bytes_a_form_h0, rfl, rfl⟩
              · replace h := it_f c29 h
                by_cases c30 : r1 = 8
                · replace h := it_t c30 h
                  refine j_tabIn (tgt := 272) (off := 267) d_Wr_begin_5 8 c30 (by decide) (by decide) (by decide) (by decide) ?_
                  replace h := lf_s h
                  obtain ⟨h, e1, e2⟩ := h
                  replace h := Prod.mk.inj h
                  obtain ⟨h9, h⟩ := h
                  subst h9
                  replace h := Prod.mk.inj h
                  obtain ⟨h9, h⟩ := h
                  subst h9
                  replace h := Prod.mk.inj h
                  obtain ⟨h9, h⟩ := h
                  subst h9
                  replace h := Prod.mk.inj h
                  obtain ⟨h9, h⟩ := h
                  subst h9
                  subst h
                  refine j_widen (cl' := mc) (sl' := ms) (by omega) (by omega) ?_
                  exact j_vret (w := [(h0, .inr (6, [.ref a_tree_h0, .ref a_source_h0, .ref a_form_h0, .int indent_h0, .int fits_h0])), (a_tree_h0, .inr (1, [.ref a_cells_a_tree_h0, .int count_a_tree_h0])), (a_cells_a_tree_h0, .inl (cI, n_a_cells_a_tree_h0, .inl b_a_cells_a_tree_h0)), (a_form_h0, .inr (3, [.ref a_bytes_a_form_h0, .int size_a_form_h0])), (a_source_h0, .inr (3, [.ref a_bytes_a_source_h0, .int size_a_source_h0])), (a_bytes_a_source_h0, .inl (cB, n_a_bytes_a_source_h0, .inl b_a_bytes_a_source_h0)), (a_bytes_a_form_h0, .inl (cB, n_a_bytes_a_form_h0, .inl b_a_bytes_a_form_h0))]) hr d_Wr_begin_272 [4, 5, 6, 0, 2, 3, 1] rfl (by decide) ⟨a_bytes_a_form_h0, rfl, rfl⟩
                · replace h := it_f c30 h
                  by_cases c31 : r1 = 9
                  · replace h := it_t c31 h
                    refine j_tabIn (tgt := 272) (off := 267) d_Wr_begin_5 9 c31 (by decide) (by decide) (by decide) (by decide) ?_
                    replace h := lf_s h
                    obtain ⟨h, e1, e2⟩ := h
                    replace h := Prod.mk.inj h
                    obtain ⟨h9, h⟩ := h
                    subst h9
                    replace h := Prod.mk.inj h
                    obtain ⟨h9, h⟩ := h
                    subst h9
                    replace h := Prod.mk.inj h
                    obtain ⟨h9, h⟩ := h
                    subst h9
                    replace h := Prod.mk.inj h
                    obtain ⟨h9, h⟩ := h
                    subst h9
                    subst h
                    refine j_widen (cl' := mc) (sl' := ms) (by omega) (by omega) ?_
                    exact j_vret (w := [(h0, .inr (6, [.ref a_tree_h0, .ref a_source_h0, .ref a_form_h0, .int indent_h0, .int fits_h0])), (a_tree_h0, .inr (1, [.ref a_cells_a_tree_h0, .int count_a_tree_h0])), (a_cells_a_tree_h0, .inl (cI, n_a_cells_a_tree_h0, .inl b_a_cells_a_tree_h0)), (a_form_h0, .inr (3, [.ref a_bytes_a_form_h0, .int size_a_form_h0])), (a_source_h0, .inr (3, [.ref a_bytes_a_source_h0, .int size_a_source_h0])), (a_bytes_a_source_h0, .inl (cB, n_a_bytes_a_source_h0, .inl b_a_bytes_a_source_h0)), (a_bytes_a_form_h0, .inl (cB, n_a_bytes_a_form_h0, .inl b_a_bytes_a_form_h0))]) hr d_Wr_begin_272 [4, 5, 6, 0, 2, 3, 1] rfl (by decide) ⟨a_bytes_a_form_h0, rfl, rfl⟩
                  · replace h := it_f c31 h
                    by_cases c32 : r1 = 10
                    · replace h := it_t c32 h
                      refine j_tabIn (tgt := 198) (off := 193) d_Wr_begin_5 10 c32 (by decide) (by decide) (by decide) (by decide) ?_
                      refine j_aload_n d_Wr_begin_198 rfl 0 rfl ?_
                      refine j_ldcS (i := 16) rfl d_Wr_begin_199 ?_
                      replace h := bw_s h
                      obtain ⟨⟨r33, r34, r35, r36⟩, C38, S39, C40, S41, k42, h, e1, e2⟩ := h
                      replace hC : 0 + C38 + C40 ≤ mc := by omega
                      replace hS : 0 + S39 + S41 ≤ ms := by omega
                      clear e1 e2
                      refine j_callV (n := 1) (As := [.ref (sA D 16)]) (rest := []) (wr := [(a_source_h0, .inr (3, [.ref a_bytes_a_source_h0, .int size_a_source_h0])), (a_bytes_a_source_h0, .inl (cB, n_a_bytes_a_source_h0, .inl b_a_bytes_a_source_h0)), (a_tree_h0, .inr (1, [.ref a_cells_a_tree_h0, .int count_a_tree_h0])), (a_cells_a_tree_h0, .inl (cI, n_a_cells_a_tree_h0, .inl b_a_cells_a_tree_h0))]) (c_Wr_beginLine l D cI cB cJ cS h0 a_tree_h0 a_source_h0 a_form_h0 a_bytes_a_form_h0 16 indent_h0 fits_h0 size_a_form_h0 n_a_bytes_a_form_h0 b_a_bytes_a_form_h0  r33 r34 r35 r36 C38 S39 k42) k_Wr_114 (by decide) ⟨Nat.le_of_ble_eq_true rfl, Nat.le_of_ble_eq_true rfl⟩ rfl 0 rfl [4, 0, 1] [2, 3, 5, 6] rfl (by decide) rfl (by decide) (by decide) rfl rfl (Nat.le_of_ble_eq_true rfl) d_Wr_begin_201 ⟨show 0 + C38 ≤ mc by omega, show 0 + S39 ≤ ms by omega⟩ (fun v w hq => ?_)
                      obtain ⟨q37, rfl, rfl⟩ := hq
                      refine j_norm (pc' := 204) (st' := []) (ws' := [(a_source_h0, .inr (3, [.ref a_bytes_a_source_h0, .int size_a_source_h0])), (a_bytes_a_source_h0, .inl (cB, n_a_bytes_a_source_h0, .inl b_a_bytes_a_source_h0)), (a_tree_h0, .inr (1, [.ref a_cells_a_tree_h0, .int count_a_tree_h0])), (a_cells_a_tree_h0, .inl (cI, n_a_cells_a_tree_h0, .inl b_a_cells_a_tree_h0)), (h0, .inr (6, [.ref a_tree_h0, .ref a_source_h0, .ref a_form_h0, .int indent_h0, .int r33])), (a_form_h0, .inr (3, [.ref q37, .int r34])), (q37, .inl (cB, r35, .inl r36))]) (cl' := 0 + C38) (sl' := 0 + S39) rfl rfl rfl rfl rfl rfl ?_
                      refine j_goto (tgt := 272) d_Wr_begin_204 (by decide) ?_
                      replace h := lf_s h
                      obtain ⟨h, e1, e2⟩ := h
                      replace h := Prod.mk.inj h
                      obtain ⟨h9, h⟩ := h
                      subst h9
                      replace h := Prod.mk.inj h
                      obtain ⟨h9, h⟩ := h
                      subst h9
                      replace h := Prod.mk.inj h
                      obtain ⟨h9, h⟩ := h
                      subst h9
                      replace h := Prod.mk.inj h
                      obtain ⟨h9, h⟩ := h
                      subst h9
                      subst h
                      refine j_widen (cl' := mc) (sl' := ms) (by omega) (by omega) ?_
                      exact j_vret (w := [(h0, .inr (6, [.ref a_tree_h0, .ref a_source_h0, .ref a_form_h0, .int indent_h0, .int r33])), (a_tree_h0, .inr (1, [.ref a_cells_a_tree_h0, .int count_a_tree_h0])), (a_cells_a_tree_h0, .inl (cI, n_a_cells_a_tree_h0, .inl b_a_cells_a_tree_h0)), (a_form_h0, .inr (3, [.ref q37, .int r34])), (a_source_h0, .inr (3, [.ref a_bytes_a_source_h0, .int size_a_source_h0])), (a_bytes_a_source_h0, .inl (cB, n_a_bytes_a_source_h0, .inl b_a_bytes_a_source_h0)), (q37, .inl (cB, r35, .inl r36))]) hr d_Wr_begin_272 [4, 2, 3, 5, 0, 1, 6] rfl (by decide) ⟨q37, rfl, rfl⟩
                    · replace h := it_f c32 h
                      by_cases c43 : r1 = 11
                      · replace h := it_t c43 h
                        refine j_tabIn (tgt := 272) (off := 267) d_Wr_begin_5 11 c43 (by decide) (by decide) (by decide) (by decide) ?_
                        replace h := lf_s h
                        obtain ⟨h, e1, e2⟩ := h
                        replace h := Prod.mk.inj h
                        obtain ⟨h9, h⟩ := h
                        subst h9
                        replace h := Prod.mk.inj h
                        obtain ⟨h9, h⟩ := h
                        subst h9
                        replace h := Prod.mk.inj h
                        obtain ⟨h9, h⟩ := h
                        subst h9
                        replace h := Prod.mk.inj h
                        obtain ⟨h9, h⟩ := h
                        subst h9
                        subst h
                        refine j_widen (cl' := mc) (sl' := ms) (by omega) (by omega) ?_
                        exact j_vret (w := [(h0, .inr (6, [.ref a_tree_h0, .ref a_source_h0, .ref a_form_h0, .int indent_h0, .int fits_h0])), (a_tree_h0, .inr (1, [.ref a_cells_a_tree_h0, .int count_a_tree_h0])), (a_cells_a_tree_h0, .inl (cI, n_a_cells_a_tree_h0, .inl b_a_cells_a_tree_h0)), (a_form_h0, .inr (3, [.ref a_bytes_a_form_h0, .int size_a_form_h0])), (a_source_h0, .inr (3, [.ref a_bytes_a_source_h0, .int size_a_source_h0])), (a_bytes_a_source_h0, .inl (cB, n_a_bytes_a_source_h0, .inl b_a_bytes_a_source_h0)), (a_bytes_a_form_h0, .inl (cB, n_a_bytes_a_form_h0, .inl b_a_bytes_a_form_h0))]) hr d_Wr_begin_272 [4, 5, 6, 0, 2, 3, 1] rfl (by decide) ⟨a_bytes_a_form_h0, rfl, rfl⟩
                      · replace h := it_f c43 h
                        by_cases c44 : r1 = 12
                        · replace h := it_t c44 h
                          refine j_tabIn (tgt := 272) (off := 267) d_Wr_begin_5 12 c44 (by decide) (by decide) (by decide) (by decide) ?_
                          replace h := lf_s h
                          obtain ⟨h, e1, e2⟩ := h
                          replace h := Prod.mk.inj h
                          obtain ⟨h9, h⟩ := h
                          subst h9
                          replace h := Prod.mk.inj h
                          obtain ⟨h9, h⟩ := h
                          subst h9
                          replace h := Prod.mk.inj h
                          obtain ⟨h9, h⟩ := h
                          subst h9
                          replace h := Prod.mk.inj h
                          obtain ⟨h9, h⟩ := h
                          subst h9
                          subst h
                          refine j_widen (cl' := mc) (sl' := ms) (by omega) (by omega) ?_
                          exact j_vret (w := [(h0, .inr (6, [.ref a_tree_h0, .ref a_source_h0, .ref a_form_h0, .int indent_h0, .int fits_h0])), (a_tree_h0, .inr (1, [.ref a_cells_a_tree_h0, .int count_a_tree_h0])), (a_cells_a_tree_h0, .inl (cI, n_a_cells_a_tree_h0, .inl b_a_cells_a_tree_h0)), (a_form_h0, .inr (3, [.ref a_bytes_a_form_h0, .int size_a_form_h0])), (a_source_h0, .inr (3, [.ref a_bytes_a_source_h0, .int size_a_source_h0])), (a_bytes_a_source_h0, .inl (cB, n_a_bytes_a_source_h0, .inl b_a_bytes_a_source_h0)), (a_bytes_a_form_h0, .inl (cB, n_a_bytes_a_form_h0, .inl b_a_bytes_a_form_h0))]) hr d_Wr_begin_272 [4, 5, 6, 0, 2, 3, 1] rfl (by decide) ⟨a_bytes_a_form_h0, rfl, rfl⟩
                        · replace h := it_f c44 h
                          by_cases c45 : r1 = 13
                          · replace h := it_t c45 h
                            refine j_tabIn (tgt := 272) (off := 267) d_Wr_begin_5 13 c45 (by decide) (by decide) (by decide) (by decide) ?_
                            replace h := lf_s h
                            obtain ⟨h, e1, e2⟩ := h
                            replace h := Prod.mk.inj h
                            obtain ⟨h9, h⟩ := h
                            subst h9
                            replace h := Prod.mk.inj h
                            obtain ⟨h9, h⟩ := h
                            subst h9
                            replace h := Prod.mk.inj h
                            obtain ⟨h9, h⟩ := h
                            subst h9
                            replace h := Prod.mk.inj h
                            obtain ⟨h9, h⟩ := h
                            subst h9
                            subst h
                            refine j_widen (cl' := mc) (sl' := ms) (by omega) (by omega) ?_
                            exact j_vret (w := [(h0, .inr (6, [.ref a_tree_h0, .ref a_source_h0, .ref a_form_h0, .int indent_h0, .int fits_h0])), (a_tree_h0, .inr (1, [.ref a_cells_a_tree_h0, .int count_a_tree_h0])), (a_cells_a_tree_h0, .inl (cI, n_a_cells_a_tree_h0, .inl b_a_cells_a_tree_h0)), (a_form_h0, .inr (3, [.ref a_bytes_a_form_h0, .int size_a_form_h0])), (a_source_h0, .inr (3, [.ref a_bytes_a_source_h0, .int size_a_source_h0])), (a_bytes_a_source_h0, .inl (cB, n_a_bytes_a_source_h0, .inl b_a_bytes_a_source_h0)), (a_bytes_a_form_h0, .inl (cB, n_a_bytes_a_form_h0, .inl b_a_bytes_a_form_h0))]) hr d_Wr_begin_272 [4, 5, 6, 0, 2, 3, 1] rfl (by decide) ⟨a_bytes_a_form_h0, rfl, rfl⟩
                          · replace h := it_f c45 h
                            by_cases c46 : r1 = 14
                            · replace h := it_t c46 h
                              refine j_tabIn (tgt := 272) (off := 267) d_Wr_begin_5 14 c46 (by decide) (by decide) (by decide) (by decide) ?_
                              replace h := lf_s h
                              obtain ⟨h, e1, e2⟩ := h
                              replace h := Prod.mk.inj h
                              obtain ⟨h9, h⟩ := h
                              subst h9
                              replace h := Prod.mk.inj h
                              obtain ⟨h9, h⟩ := h
                              subst h9
                              replace h := Prod.mk.inj h
                              obtain ⟨h9, h⟩ := h
                              subst h9
                              replace h := Prod.mk.inj h
                              obtain ⟨h9, h⟩ := h
                              subst h9
                              subst h
                              refine j_widen (cl' := mc) (sl' := ms) (by omega) (by omega) ?_
                              exact j_vret (w := [(h0, .inr (6, [.ref a_tree_h0, .ref a_source_h0, .ref a_form_h0, .int indent_h0, .int fits_h0])), (a_tree_h0, .inr (1, [.ref a_cells_a_tree_h0, .int count_a_tree_h0])), (a_cells_a_tree_h0, .inl (cI, n_a_cells_a_tree_h0, .inl b_a_cells_a_tree_h0)), (a_form_h0, .inr (3, [.ref a_bytes_a_form_h0, .int size_a_form_h0])), (a_source_h0, .inr (3, [.ref a_bytes_a_source_h0, .int size_a_source_h0])), (a_bytes_a_source_h0, .inl (cB, n_a_bytes_a_source_h0, .inl b_a_bytes_a_source_h0)), (a_bytes_a_form_h0, .inl (cB, n_a_bytes_a_form_h0, .inl b_a_bytes_a_form_h0))]) hr d_Wr_begin_272 [4, 5, 6, 0, 2, 3, 1] rfl (by decide) ⟨a_bytes_a_form_h0, rfl, rfl⟩
                            · replace h := it_f c46 h
                              by_cases c47 : r1 = 15
                              · replace h := it_t c47 h
                                refine j_tabIn (tgt := 207) (off := 202) d_Wr_begin_5 15 c47 (by decide) (by decide) (by decide) (by decide) ?_
                                refine j_aload_n d_Wr_begin_207 rfl 0 rfl ?_
                                refine j_ldcS (i := 16) rfl d_Wr_begin_208 ?_
                                replace h := bw_s h
                                obtain ⟨⟨r48, r49, r50, r51⟩, C53, S54, C55, S56, k57, h, e1, e2⟩ := h
                                replace hC : 0 + C53 + C55 ≤ mc := by omega
                                replace hS : 0 + S54 + S56 ≤ ms := by omega
                                clear e1 e2
                                refine j_callV (n := 1) (As := [.ref (sA D 16)]) (rest := []) (wr := [(a_source_h0, .inr (3, [.ref a_bytes_a_source_h0, .int size_a_source_h0])), (a_bytes_a_source_h0, .inl (cB, n_a_bytes_a_source_h0, .inl b_a_bytes_a_source_h0)), (a_tree_h0, .inr (1, [.ref a_cells_a_tree_h0, .int count_a_tree_h0])), (a_cells_a_tree_h0, .inl (cI, n_a_cells_a_tree_h0, .inl b_a_cells_a_tree_h0))]) (c_Wr_beginLine l D cI cB cJ cS h0 a_tree_h0 a_source_h0 a_form_h0 a_bytes_a_form_h0 16 indent_h0 fits_h0 size_a_form_h0 n_a_bytes_a_form_h0 b_a_bytes_a_form_h0  r48 r49 r50 r51 C53 S54 k57) k_Wr_114 (by decide) ⟨Nat.le_of_ble_eq_true rfl, Nat.le_of_ble_eq_true rfl⟩ rfl 0 rfl [4, 0, 1] [2, 3, 5, 6] rfl (by decide) rfl (by decide) (by decide) rfl rfl (Nat.le_of_ble_eq_true rfl) d_Wr_begin_210 ⟨show 0 + C53 ≤ mc by omega, show 0 + S54 ≤ ms by omega⟩ (fun v w hq => ?_)
                                obtain ⟨q52, rfl, rfl⟩ := hq
                                refine j_norm (pc' := 213) (st' := []) (ws' := [(a_source_h0, .inr (3, [.ref a_bytes_a_source_h0, .int size_a_source_h0])), (a_bytes_a_source_h0, .inl (cB, n_a_bytes_a_source_h0, .inl b_a_bytes_a_source_h0)), (a_tree_h0, .inr (1, [.ref a_cells_a_tree_h0, .int count_a_tree_h0])), (a_cells_a_tree_h0, .inl (cI, n_a_cells_a_tree_h0, .inl b_a_cells_a_tree_h0)), (h0, .inr (6, [.ref a_tree_h0, .ref a_source_h0, .ref a_form_h0, .int indent_h0, .int r48])), (a_form_h0, .inr (3, [.ref q52, .int r49])), (q52, .inl (cB, r50, .inl r51))]) (cl' := 0 + C53) (sl' := 0 + S54) rfl rfl rfl rfl rfl rfl ?_
                                refine j_aload_n d_Wr_begin_213 rfl 0 rfl ?_
                                refine j_iload_n d_Wr_begin_214 rfl 1 rfl ?_
                                replace h := bw_s h
                                obtain ⟨⟨r58, r59, r60, r61⟩, C63, S64, C65, S66, k67, h, e1, e2⟩ := h
                                replace hC : 0 + C53 + C63 + C65 ≤ mc := by omega
                                replace hS : 0 + S54 + S64 + S66 ≤ ms := by omega
                                clear e1 e2
                                refine j_callV (n := 1) (As := [.int p1]) (rest := []) (wr := []) (c_Wr_putToken l D cI cB cJ cS h0 a_tree_h0 a_source_h0 a_form_h0 a_cells_a_tree_h0 a_bytes_a_source_h0 q52 p1 indent_h0 r48 count_a_tree_h0 n_a_cells_a_tree_h0 b_a_cells_a_tree_h0 size_a_source_h0 n_a_bytes_a_source_h0 b_a_bytes_a_source_h0 r49 r50 r51  r58 r59 r60 r61 C63 S64 k67) k_Wr_152 (by decide) ⟨Nat.le_of_ble_eq_true rfl, Nat.le_of_ble_eq_true rfl⟩ rfl 0 rfl [4, 2, 3, 0, 1, 5, 6] [] rfl (by decide) rfl (by decide) (by decide) rfl rfl (Nat.le_of_ble_eq_true rfl) d_Wr_begin_215 ⟨show 0 + C53 + C63 ≤ mc by omega, show 0 + S54 + S64 ≤ ms by omega⟩ (fun v w hq => ?_)
                                obtain ⟨q62, rfl, rfl⟩ := hq
                                refine j_norm (pc' := 218) (st' := []) (ws' := [(h0, .inr (6, [.ref a_tree_h0, .ref a_source_h0, .ref a_form_h0, .int indent_h0, .int r58])), (a_tree_h0, .inr (1, [.ref a_cells_a_tree_h0, .int count_a_tree_h0])), (a_cells_a_tree_h0, .inl (cI, n_a_cells_a_tree_h0, .inl b_a_cells_a_tree_h0)), (a_source_h0, .inr (3, [.ref a_bytes_a_source_h0, .int size_a_source_h0])), (a_bytes_a_source_h0, .inl (cB, n_a_bytes_a_source_h0, .inl b_a_bytes_a_source_h0)), (a_form_h0, .inr (3, [.ref q62, .int r59])), (q62, .inl (cB, r60, .inl r61))]) (cl' := 0 + C53 + C63) (sl' := 0 + S54 + S64) rfl rfl rfl rfl rfl rfl ?_
                                refine j_goto (tgt := 272) d_Wr_begin_218 (by decide) ?_
                                replace h := lf_s h
                                obtain ⟨h, e1, e2⟩ := h
                                replace h := Prod.mk.inj h
                                obtain ⟨h9, h⟩ := h
                                subst h9
                                replace h := Prod.mk.inj h
                                obtain ⟨h9, h⟩ := h
                                subst h9
                                replace h := Prod.mk.inj h
                                obtain ⟨h9, h⟩ := h
                                subst h9
                                replace h := Prod.mk.inj h
                                obtain ⟨h9, h⟩ := h
                                subst h9
                                subst h
                                refine j_widen (cl' := mc) (sl' := ms) (by omega) (by omega) ?_
                                exact j_vret (w := [(h0, .inr (6, [.ref a_tree_h0, .ref a_source_h0, .ref a_form_h0, .int indent_h0, .int r58])), (a_tree_h0, .inr (1, [.ref a_cells_a_tree_h0, .int count_a_tree_h0])), (a_cells_a_tree_h0, .inl (cI, n_a_cells_a_tree_h0, .inl b_a_cells_a_tree_h0)), (a_form_h0, .inr (3, [.ref q62, .int r59])), (a_source_h0, .inr (3, [.ref a_bytes_a_source_h0, .int size_a_source_h0])), (a_bytes_a_source_h0, .inl (cB, n_a_bytes_a_source_h0, .inl b_a_bytes_a_source_h0)), (q62, .inl (cB, r60, .inl r61))]) hr d_Wr_begin_272 [0, 1, 2, 5, 3, 4, 6] rfl (by decide) ⟨q62, rfl, rfl⟩
                              · replace h := it_f c47 h
                                by_cases c68 : r1 = 16
                                · replace h := it_t c68 h
                                  refine j_tabIn (tgt := 207) (off := 202) d_Wr_begin_5 16 c68 (by decide) (by decide) (by decide) (by decide) ?_
                                  refine j_aload_n d_Wr_begin_207 rfl 0 rfl ?_
                                  refine j_ldcS (i := 16) rfl d_Wr_begin_208 ?_
                                  replace h := bw_s h
                                  obtain ⟨⟨r69, r70, r71, r72⟩, C74, S75, C76, S77, k78, h, e1, e2⟩ := h
                                  replace hC : 0 + C74 + C76 ≤ mc := by omega
                                  replace hS : 0 + S75 + S77 ≤ ms := by omega
                                  clear e1 e2
                                  refine j_callV (n := 1) (As := [.ref (sA D 16)]) (rest := []) (wr := [(a_source_h0, .inr (3, [.ref a_bytes_a_source_h0, .int size_a_source_h0])), (a_bytes_a_source_h0, .inl (cB, n_a_bytes_a_source_h0, .inl b_a_bytes_a_source_h0)), (a_tree_h0, .inr (1, [.ref a_cells_a_tree_h0, .int count_a_tree_h0])), (a_cells_a_tree_h0, .inl (cI, n_a_cells_a_tree_h0, .inl b_a_cells_a_tree_h0))]) (c_Wr_beginLine l D cI cB cJ cS h0 a_tree_h0 a_source_h0 a_form_h0 a_bytes_a_form_h0 16 indent_h0 fits_h0 size_a_form_h0 n_a_bytes_a_form_h0 b_a_bytes_a_form_h0  r69 r70 r71 r72 C74 S75 k78) k_Wr_114 (by decide) ⟨Nat.le_of_ble_eq_true rfl, Nat.le_of_ble_eq_true rfl⟩ rfl 0 rfl [4, 0, 1] [2, 3, 5, 6] rfl (by decide) rfl (by decide) (by decide) rfl rfl (Nat.le_of_ble_eq_true rfl) d_Wr_begin_210 ⟨show 0 + C74 ≤ mc by omega, show 0 + S75 ≤ ms by omega⟩ (fun v w hq => ?_)
                                  obtain ⟨q73, rfl, rfl⟩ := hq
                                  refine j_norm (pc' := 213) (st' := []) (ws' := [(a_source_h0, .inr (3, [.ref a_bytes_a_source_h0, .int size_a_source_h0])), (a_bytes_a_source_h0, .inl (cB, n_a_bytes_a_source_h0, .inl b_a_bytes_a_source_h0)), (a_tree_h0, .inr (1, [.ref a_cells_a_tree_h0, .int count_a_tree_h0])), (a_cells_a_tree_h0, .inl (cI, n_a_cells_a_tree_h0, .inl b_a_cells_a_tree_h0)), (h0, .inr (6, [.ref a_tree_h0, .ref a_source_h0, .ref a_form_h0, .int indent_h0, .int r69])), (a_form_h0, .inr (3, [.ref q73, .int r70])), (q73, .inl (cB, r71, .inl r72))]) (cl' := 0 + C74) (sl' := 0 + S75) rfl rfl rfl rfl rfl rfl ?_
                                  refine j_aload_n d_Wr_begin_213 rfl 0 rfl ?_
                                  refine j_iload_n d_Wr_begin_214 rfl 1 rfl ?_
                                  replace h := bw_s h
                                  obtain ⟨⟨r79, r80, r81, r82⟩, C84, S85, C86, S87, k88, h, e1, e2⟩ := h
                                  replace hC : 0 + C74 + C84 + C86 ≤ mc := by omega
                                  replace hS : 0 + S75 + S85 + S87 ≤ ms := by omega
                                  clear e1 e2
                                  refine j_callV (n := 1) (As := [.int p1]) (rest := []) (wr := []) (c_Wr_putToken l D cI cB cJ cS h0 a_tree_h0 a_source_h0 a_form_h0 a_cells_a_tree_h0 a_bytes_a_source_h0 q73 p1 indent_h0 r69 count_a_tree_h0 n_a_cells_a_tree_h0 b_a_cells_a_tree_h0 size_a_source_h0 n_a_bytes_a_source_h0 b_a_bytes_a_source_h0 r70 r71 r72  r79 r80 r81 r82 C84 S85 k88) k_Wr_152 (by decide) ⟨Nat.le_of_ble_eq_true rfl, Nat.le_of_ble_eq_true rfl⟩ rfl 0 rfl [4, 2, 3, 0, 1, 5, 6] [] rfl (by decide) rfl (by decide) (by decide) rfl rfl (Nat.le_of_ble_eq_true rfl) d_Wr_begin_215 ⟨show 0 + C74 + C84 ≤ mc by omega, show 0 + S75 + S85 ≤ ms by omega⟩ (fun v w hq => ?_)
                                  obtain ⟨q83, rfl, rfl⟩ := hq
                                  refine j_norm (pc' := 218) (st' := []) (ws' := [(h0, .inr (6, [.ref a_tree_h0, .ref a_source_h0, .ref a_form_h0, .int indent_h0, .int r79])), (a_tree_h0, .inr (1, [.ref a_cells_a_tree_h0, .int count_a_tree_h0])), (a_cells_a_tree_h0, .inl (cI, n_a_cells_a_tree_h0, .inl b_a_cells_a_tree_h0)), (a_source_h0, .inr (3, [.ref a_bytes_a_source_h0, .int size_a_source_h0])), (a_bytes_a_source_h0, .inl (cB, n_a_bytes_a_source_h0, .inl b_a_bytes_a_source_h0)), (a_form_h0, .inr (3, [.ref q83, .int r80])), (q83, .inl (cB, r81, .inl r82))]) (cl' := 0 + C74 + C84) (sl' := 0 + S75 + S85) rfl rfl rfl rfl rfl rfl ?_
                                  refine j_goto (tgt := 272) d_Wr_begin_218 (by decide) ?_
                                  replace h := lf_s h
                                  obtain ⟨h, e1, e2⟩ := h
                                  replace h := Prod.mk.inj h
                                  obtain ⟨h9, h⟩ := h
                                  subst h9
                                  replace h := Prod.mk.inj h
                                  obtain ⟨h9, h⟩ := h
                                  subst h9
                                  replace h := Prod.mk.inj h
                                  obtain ⟨h9, h⟩ := h
                                  subst h9
                                  replace h := Prod.mk.inj h
                                  obtain ⟨h9, h⟩ := h
                                  subst h9
                                  subst h
                                  refine j_widen (cl' := mc) (sl' := ms) (by omega) (by omega) ?_
                                  exact j_vret (w := [(h0, .inr (6, [.ref a_tree_h0, .ref a_source_h0, .ref a_form_h0, .int indent_h0, .int r79])), (a_tree_h0, .inr (1, [.ref a_cells_a_tree_h0, .int count_a_tree_h0])), (a_cells_a_tree_h0, .inl (cI, n_a_cells_a_tree_h0, .inl b_a_cells_a_tree_h0)), (a_form_h0, .inr (3, [.ref q83, .int r80])), (a_source_h0, .inr (3, [.ref a_bytes_a_source_h0, .int size_a_source_h0])), (a_bytes_a_source_h0, .inl (cB, n_a_bytes_a_source_h0, .inl b_a_bytes_a_source_h0)), (q83, .inl (cB, r81, .inl r82))]) hr d_Wr_begin_272 [0, 1, 2, 5, 3, 4, 6] rfl (by decide) ⟨q83, rfl, rfl⟩
                                · replace h := it_f c68 h
                                  by_cases c89 : r1 = 17
                                  · replace h := it_t c89 h
                                    refine j_tabIn (tgt := 207) (off := 202) d_Wr_begin_5 17 c89 (by decide) (by decide) (by decide) (by decide) ?_
                                    refine j_aload_n d_Wr_begin_207 rfl 0 rfl ?_
                                    refine j_ldcS (i := 16) rfl d_Wr_begin_208 ?_
                                    replace h := bw_s h
                                    obtain ⟨⟨r90, r91, r92, r93⟩, C95, S96, C97, S98, k99, h, e1, e2⟩ := h
                                    replace hC : 0 + C95 + C97 ≤ mc := by omega
                                    replace hS : 0 + S96 + S98 ≤ ms := by omega
                                    clear e1 e2
                                    refine j_callV (n := 1) (As := [.ref (sA D 16)]) (rest := []) (wr := [(a_source_h0, .inr (3, [.ref a_bytes_a_source_h0, .int size_a_source_h0])), (a_bytes_a_source_h0, .inl (cB, n_a_bytes_a_source_h0, .inl b_a_bytes_a_source_h0)), (a_tree_h0, .inr (1, [.ref a_cells_a_tree_h0, .int count_a_tree_h0])), (a_cells_a_tree_h0, .inl (cI, n_a_cells_a_tree_h0, .inl b_a_cells_a_tree_h0))]) (c_Wr_beginLine l D cI cB cJ cS h0 a_tree_h0 a_source_h0 a_form_h0 a_bytes_a_form_h0 16 indent_h0 fits_h0 size_a_form_h0 n_a_bytes_a_form_h0 b_a_bytes_a_form_h0  r90 r91 r92 r93 C95 S96 k99) k_Wr_114 (by decide) ⟨Nat.le_of_ble_eq_true rfl, Nat.le_of_ble_eq_true rfl⟩ rfl 0 rfl [4, 0, 1] [2, 3, 5, 6] rfl (by decide) rfl (by decide) (by decide) rfl rfl (Nat.le_of_ble_eq_true rfl) d_Wr_begin_210 ⟨show 0 + C95 ≤ mc by omega, show 0 + S96 ≤ ms by omega⟩ (fun v w hq => ?_)
                                    obtain ⟨q94, rfl, rfl⟩ := hq
                                    refine j_norm (pc' := 213) (st' := []) (ws' := [(a_source_h0, .inr (3, [.ref a_bytes_a_source_h0, .int size_a_source_h0])), (a_bytes_a_source_h0, .inl (cB, n_a_bytes_a_source_h0, .inl b_a_bytes_a_source_h0)), (a_tree_h0, .inr (1, [.ref a_cells_a_tree_h0, .int count_a_tree_h0])), (a_cells_a_tree_h0, .inl (cI, n_a_cells_a_tree_h0, .inl b_a_cells_a_tree_h0)), (h0, .inr (6, [.ref a_tree_h0, .ref a_source_h0, .ref a_form_h0, .int indent_h0, .int r90])), (a_form_h0, .inr (3, [.ref q94, .int r91])), (q94, .inl (cB, r92, .inl r93))]) (cl' := 0 + C95) (sl' := 0 + S96) rfl rfl rfl rfl rfl rfl ?_
                                    refine j_aload_n d_Wr_begin_213 rfl 0 rfl ?_
                                    refine j_iload_n d_Wr_begin_214 rfl 1 rfl ?_
                                    replace h := bw_s h
                                    obtain ⟨⟨r100, r101, r102, r103⟩, C105, S106, C107, S108, k109, h, e1, e2⟩ := h
                                    replace hC : 0 + C95 + C105 + C107 ≤ mc := by omega
                                    replace hS : 0 + S96 + S106 + S108 ≤ ms := by omega
                                    clear e1 e2
                                    refine j_callV (n := 1) (As := [.int p1]) (rest := []) (wr := []) (c_Wr_putToken l D cI cB cJ cS h0 a_tree_h0 a_source_h0 a_form_h0 a_cells_a_tree_h0 a_bytes_a_source_h0 q94 p1 indent_h0 r90 count_a_tree_h0 n_a_cells_a_tree_h0 b_a_cells_a_tree_h0 size_a_source_h0 n_a_bytes_a_source_h0 b_a_bytes_a_source_h0 r91 r92 r93  r100 r101 r102 r103 C105 S106 k109) k_Wr_152 (by decide) ⟨Nat.le_of_ble_eq_true rfl, Nat.le_of_ble_eq_true rfl⟩ rfl 0 rfl [4, 2, 3, 0, 1, 5, 6] [] rfl (by decide) rfl (by decide) (by decide) rfl rfl (Nat.le_of_ble_eq_true rfl) d_Wr_begin_215 ⟨show 0 + C95 + C105 ≤ mc by omega, show 0 + S96 + S106 ≤ ms by omega⟩ (fun v w hq => ?_)
                                    obtain ⟨q104, rfl, rfl⟩ := hq
                                    refine j_norm (pc' := 218) (st' := []) (ws' := [(h0, .inr (6, [.ref a_tree_h0, .ref a_source_h0, .ref a_form_h0, .int indent_h0, .int r100])), (a_tree_h0, .inr (1, [.ref a_cells_a_tree_h0, .int count_a_tree_h0])), (a_cells_a_tree_h0, .inl (cI, n_a_cells_a_tree_h0, .inl b_a_cells_a_tree_h0)), (a_source_h0, .inr (3, [.ref a_bytes_a_source_h0, .int size_a_source_h0])), (a_bytes_a_source_h0, .inl (cB, n_a_bytes_a_source_h0, .inl b_a_bytes_a_source_h0)), (a_form_h0, .inr (3, [.ref q104, .int r101])), (q104, .inl (cB, r102, .inl r103))]) (cl' := 0 + C95 + C105) (sl' := 0 + S96 + S106) rfl rfl rfl rfl rfl rfl ?_
                                    refine j_goto (tgt := 272) d_Wr_begin_218 (by decide) ?_
                                    replace h := lf_s h
                                    obtain ⟨h, e1, e2⟩ := h
                                    replace h := Prod.mk.inj h
                                    obtain ⟨h9, h⟩ := h
                                    subst h9
                                    replace h := Prod.mk.inj h
                                    obtain ⟨h9, h⟩ := h
                                    subst h9
                                    replace h := Prod.mk.inj h
                                    obtain ⟨h9, h⟩ := h
                                    subst h9
                                    replace h := Prod.mk.inj h
                                    obtain ⟨h9, h⟩ := h
                                    subst h9
                                    subst h
                                    refine j_widen (cl' := mc) (sl' := ms) (by omega) (by omega) ?_
                                    exact j_vret (w := [(h0, .inr (6, [.ref a_tree_h0, .ref a_source_h0, .ref a_form_h0, .int indent_h0, .int r100])), (a_tree_h0, .inr (1, [.ref a_cells_a_tree_h0, .int count_a_tree_h0])), (a_cells_a_tree_h0, .inl (cI, n_a_cells_a_tree_h0, .inl b_a_cells_a_tree_h0)), (a_form_h0, .inr (3, [.ref q104, .int r101])), (a_source_h0, .inr (3, [.ref a_bytes_a_source_h0, .int size_a_source_h0])), (a_bytes_a_source_h0, .inl (cB, n_a_bytes_a_source_h0, .inl b_a_bytes_a_source_h0)), (q104, .inl (cB, r102, .inl r103))]) hr d_Wr_begin_272 [0, 1, 2, 5, 3, 4, 6] rfl (by decide) ⟨q104, rfl, rfl⟩
                                  · replace h := it_f c89 h
                                    by_cases c110 : r1 = 18
                                    · replace h := it_t c110 h
                                      refine j_tabIn (tgt := 221) (off := 216) d_Wr_begin_5 18 c110 (by decide) (by decide) (by decide) (by decide) ?_
                                      refine j_aload_n d_Wr_begin_221 rfl 0 rfl ?_
                                      refine j_ldcS (i := 16) rfl d_Wr_begin_222 ?_
                                      replace h := bw_s h
                                      obtain ⟨⟨r111, r112, r113, r114⟩, C116, S117, C118, S119, k120, h, e1, e2⟩ := h
                                      replace hC : 0 + C116 + C118 ≤ mc := by omega
                                      replace hS : 0 + S117 + S119 ≤ ms := by omega
                                      clear e1 e2
                                      refine j_callV (n := 1) (As := [.ref (sA D 16)]) (rest := []) (wr := [(a_source_h0, .inr (3, [.ref a_bytes_a_source_h0, .int size_a_source_h0])), (a_bytes_a_source_h0, .inl (cB, n_a_bytes_a_source_h0, .inl b_a_bytes_a_source_h0)), (a_tree_h0, .inr (1, [.ref a_cells_a_tree_h0, .int count_a_tree_h0])), (a_cells_a_tree_h0, .inl (cI, n_a_cells_a_tree_h0, .inl b_a_cells_a_tree_h0))]) (c_Wr_beginLine l D cI cB cJ cS h0 a_tree_h0 a_source_h0 a_form_h0 a_bytes_a_form_h0 16 indent_h0 fits_h0 size_a_form_h0 n_a_bytes_a_form_h0 b_a_bytes_a_form_h0  r111 r112 r113 r114 C116 S117 k120) k_Wr_114 (by decide) ⟨Nat.le_of_ble_eq_true rfl, Nat.le_of_ble_eq_true rfl⟩ rfl 0 rfl [4, 0, 1] [2, 3, 5, 6] rfl (by decide) rfl (by decide) (by decide) rfl rfl (Nat.le_of_ble_eq_true rfl) d_Wr_begin_224 ⟨show 0 + C116 ≤ mc by omega, show 0 + S117 ≤ ms by omega⟩ (fun v w hq => ?_)
                                      obtain ⟨q115, rfl, rfl⟩ := hq
                                      refine j_norm (pc' := 227) (st' := []) (ws' := [(a_source_h0, .inr (3, [.ref a_bytes_a_source_h0, .int size_a_source_h0])), (a_bytes_a_source_h0, .inl (cB, n_a_bytes_a_source_h0, .inl b_a_bytes_a_source_h0)), (a_tree_h0, .inr (1, [.ref a_cells_a_tree_h0, .int count_a_tree_h0])), (a_cells_a_tree_h0, .inl (cI, n_a_cells_a_tree_h0, .inl b_a_cells_a_tree_h0)), (h0, .inr (6, [.ref a_tree_h0, .ref a_source_h0, .ref a_form_h0, .int indent_h0, .int r111])), (a_form_h0, .inr (3, [.ref q115, .int r112])), (q115, .inl (cB, r113, .inl r114))]) (cl' := 0 + C116) (sl' := 0 + S117) rfl rfl rfl rfl rfl rfl ?_
                                      refine j_aload_n d_Wr_begin_227 rfl 0 rfl ?_
                                      refine j_iload_n d_Wr_begin_228 rfl 1 rfl ?_
                                      replace h := bw_s h
                                      obtain ⟨⟨r121, r122, r123, r124⟩, C126, S127, C128, S129, k130, h, e1, e2⟩ := h
                                      replace hC : 0 + C116 + C126 + C128 ≤ mc := by omega
                                      replace hS : 0 + S117 + S127 + S129 ≤ ms := by omega
                                      clear e1 e2
                                      refine j_callV (n := 1) (As := [.int p1]) (rest := []) (wr := []) (c_Wr_putToken l D cI cB cJ cS h0 a_tree_h0 a_source_h0 a_form_h0 a_cells_a_tree_h0 a_bytes_a_source_h0 q115 p1 indent_h0 r111 count_a_tree_h0 n_a_cells_a_tree_h0 b_a_cells_a_tree_h0 size_a_source_h0 n_a_bytes_a_source_h0 b_a_bytes_a_source_h0 r112 r113 r114  r121 r122 r123 r124 C126 S127 k130) k_Wr_152 (by decide) ⟨Nat.le_of_ble_eq_true rfl, Nat.le_of_ble_eq_true rfl⟩ rfl 0 rfl [4, 2, 3, 0, 1, 5, 6] [] rfl (by decide) rfl (by decide) (by decide) rfl rfl (Nat.le_of_ble_eq_true rfl) d_Wr_begin_229 ⟨show 0 + C116 + C126 ≤ mc by omega, show 0 + S117 + S127 ≤ ms by omega⟩ (fun v w hq => ?_)
                                      obtain ⟨q125, rfl, rfl⟩ := hq
                                      refine j_norm (pc' := 232) (st' := []) (ws' := [(h0, .inr (6, [.ref a_tree_h0, .ref a_source_h0, .ref a_form_h0, .int indent_h0, .int r121])), (a_tree_h0, .inr (1, [.ref a_cells_a_tree_h0, .int count_a_tree_h0])), (a_cells_a_tree_h0, .inl (cI, n_a_cells_a_tree_h0, .inl b_a_cells_a_tree_h0)), (a_source_h0, .inr (3, [.ref a_bytes_a_source_h0, .int size_a_source_h0])), (a_bytes_a_source_h0, .inl (cB, n_a_bytes_a_source_h0, .inl b_a_bytes_a_source_h0)), (a_form_h0, .inr (3, [.ref q125, .int r122])), (q125, .inl (cB, r123, .inl r124))]) (cl' := 0 + C116 + C126) (sl' := 0 + S117 + S127) rfl rfl rfl rfl rfl rfl ?_
                                      refine j_aload_n d_Wr_begin_232 rfl 0 rfl ?_
                                      refine j_ldcS (i := 26) rfl d_Wr_begin_233 ?_
                                      replace h := bw_s h
                                      obtain ⟨⟨r131, r132, r133, r134⟩, C136, S137, C138, S139, k140, h, e1, e2⟩ := h
                                      replace hC : 0 + C116 + C126 + C136 + C138 ≤ mc := by omega
                                      replace hS : 0 + S117 + S127 + S137 + S139 ≤ ms := by omega
                                      clear e1 e2
                                      refine j_callV (n := 1) (As := [.ref (sA D 26)]) (rest := []) (wr := [(a_tree_h0, .inr (1, [.ref a_cells_a_tree_h0, .int count_a_tree_h0])), (a_cells_a_tree_h0, .inl (cI, n_a_cells_a_tree_h0, .inl b_a_cells_a_tree_h0)), (a_source_h0, .inr (3, [.ref a_bytes_a_source_h0, .int size_a_source_h0])), (a_bytes_a_source_h0, .inl (cB, n_a_bytes_a_source_h0, .inl b_a_bytes_a_source_h0))]) (c_Wr_put l D cI cB cJ cS h0 a_tree_h0 a_source_h0 a_form_h0 q125 26 indent_h0 r121 r122 r123 r124  r131 r132 r133 r134 C136 S137 k140) k_Wr_77 (by decide) ⟨Nat.le_of_ble_eq_true rfl, Nat.le_of_ble_eq_true rfl⟩ rfl 0 rfl [0, 5, 6] [1, 2, 3, 4] rfl (by decide) rfl (by decide) (by decide) rfl rfl (Nat.le_of_ble_eq_true rfl) d_Wr_begin_235 ⟨show 0 + C116 + C126 + C136 ≤ mc by omega, show 0 + S117 + S127 + S137 ≤ ms by omega⟩ (fun v w hq => ?_)
                                      obtain ⟨q135, rfl, rfl⟩ := hq
                                      refine j_norm (pc' := 238) (st' := []) (ws' := [(a_tree_h0, .inr (1, [.ref a_cells_a_tree_h0, .int count_a_tree_h0])), (a_cells_a_tree_h0, .inl (cI, n_a_cells_a_tree_h0, .inl b_a_cells_a_tree_h0)), (a_source_h0, .inr (3, [.ref a_bytes_a_source_h0, .int size_a_source_h0])), (a_bytes_a_source_h0, .inl (cB, n_a_bytes_a_source_h0, .inl b_a_bytes_a_source_h0)), (h0, .inr (6, [.ref a_tree_h0, .ref a_source_h0, .ref a_form_h0, .int indent_h0, .int r131])), (a_form_h0, .inr (3, [.ref q135, .int r132])), (q135, .inl (cB, r133, .inl r134))]) (cl' := 0 + C116 + C126 + C136) (sl' := 0 + S117 + S127 + S137) rfl rfl rfl rfl rfl rfl ?_
                                      refine j_goto (tgt := 272) d_Wr_begin_238 (by decide) ?_
                                      replace h := lf_s h
                                      obtain ⟨h, e1, e2⟩ := h
                                      replace h := Prod.mk.inj h
                                      obtain ⟨h9, h⟩ := h
                                      subst h9
                                      replace h := Prod.mk.inj h
                                      obtain ⟨h9, h⟩ := h
                                      subst h9
                                      replace h := Prod.mk.inj h
                                      obtain ⟨h9, h⟩ := h
                                      subst h9
                                      replace h := Prod.mk.inj h
                                      obtain ⟨h9, h⟩ := h
                                      subst h9
                                      subst h
                                      refine j_widen (cl' := mc) (sl' := ms) (by omega) (by omega) ?_
                                      exact j_vret (w := [(h0, .inr (6, [.ref a_tree_h0, .ref a_source_h0, .ref a_form_h0, .int indent_h0, .int r131])), (a_tree_h0, .inr (1, [.ref a_cells_a_tree_h0, .int count_a_tree_h0])), (a_cells_a_tree_h0, .inl (cI, n_a_cells_a_tree_h0, .inl b_a_cells_a_tree_h0)), (a_form_h0, .inr (3, [.ref q135, .int r132])), (a_source_h0, .inr (3, [.ref a_bytes_a_source_h0, .int size_a_source_h0])), (a_bytes_a_source_h0, .inl (cB, n_a_bytes_a_source_h0, .inl b_a_bytes_a_source_h0)), (q135, .inl (cB, r133, .inl r134))]) hr d_Wr_begin_272 [4, 0, 1, 5, 2, 3, 6] rfl (by decide) ⟨q135, rfl, rfl⟩
                                    · replace h := it_f c110 h
                                      by_cases c141 : r1 = 19
                                      · replace h := it_t c141 h
                                        refine j_tabIn (tgt := 221) (off := 216) d_Wr_begin_5 19 c141 (by decide) (by decide) (by decide) (by decide) ?_
                                        refine j_aload_n d_Wr_begin_221 rfl 0 rfl ?_
                                        refine j_ldcS (i := 16) rfl d_Wr_begin_222 ?_
                                        replace h := bw_s h
                                        obtain ⟨⟨r142, r143, r144, r145⟩, C147, S148, C149, S150, k151, h, e1, e2⟩ := h
                                        replace hC : 0 + C147 + C149 ≤ mc := by omega
                                        replace hS : 0 + S148 + S150 ≤ ms := by omega
                                        clear e1 e2
                                        refine j_callV (n := 1) (As := [.ref (sA D 16)]) (rest := []) (wr := [(a_source_h0, .inr (3, [.ref a_bytes_a_source_h0, .int size_a_source_h0])), (a_bytes_a_source_h0, .inl (cB, n_a_bytes_a_source_h0, .inl b_a_bytes_a_source_h0)), (a_tree_h0, .inr (1, [.ref a_cells_a_tree_h0, .int count_a_tree_h0])), (a_cells_a_tree_h0, .inl (cI, n_a_cells_a_tree_h0, .inl b_a_cells_a_tree_h0))]) (c_Wr_beginLine l D cI cB cJ cS h0 a_tree_h0 a_source_h0 a_form_h0 a_bytes_a_form_h0 16 indent_h0 fits_h0 size_a_form_h0 n_a_bytes_a_form_h0 b_a_bytes_a_form_h0  r142 r143 r144 r145 C147 S148 k151) k_Wr_114 (by decide) ⟨Nat.le_of_ble_eq_true rfl, Nat.le_of_ble_eq_true rfl⟩ rfl 0 rfl [4, 0, 1] [2, 3, 5, 6] rfl (by decide) rfl (by decide) (by decide) rfl rfl (Nat.le_of_ble_eq_true rfl) d_Wr_begin_224 ⟨show 0 + C147 ≤ mc by omega, show 0 + S148 ≤ ms by omega⟩ (fun v w hq => ?_)
                                        obtain ⟨q146, rfl, rfl⟩ := hq
                                        refine j_norm (pc' := 227) (st' := []) (ws' := [(a_source_h0, .inr (3, [.ref a_bytes_a_source_h0, .int size_a_source_h0])), (a_bytes_a_source_h0, .inl (cB, n_a_bytes_a_source_h0, .inl b_a_bytes_a_source_h0)), (a_tree_h0, .inr (1, [.ref a_cells_a_tree_h0, .int count_a_tree_h0])), (a_cells_a_tree_h0, .inl (cI, n_a_cells_a_tree_h0, .inl b_a_cells_a_tree_h0)), (h0, .inr (6, [.ref a_tree_h0, .ref a_source_h0, .ref a_form_h0, .int indent_h0, .int r142])), (a_form_h0, .inr (3, [.ref q146, .int r143])), (q146, .inl (cB, r144, .inl r145))]) (cl' := 0 + C147) (sl' := 0 + S148) rfl rfl rfl rfl rfl rfl ?_
                                        refine j_aload_n d_Wr_begin_227 rfl 0 rfl ?_
                                        refine j_iload_n d_Wr_begin_228 rfl 1 rfl ?_
                                        replace h := bw_s h
                                        obtain ⟨⟨r152, r153, r154, r155⟩, C157, S158, C159, S160, k161, h, e1, e2⟩ := h
                                        replace hC : 0 + C147 + C157 + C159 ≤ mc := by omega
                                        replace hS : 0 + S148 + S158 + S160 ≤ ms := by omega
                                        clear e1 e2
                                        refine j_callV (n := 1) (As := [.int p1]) (rest := []) (wr := []) (c_Wr_putToken l D cI cB cJ cS h0 a_tree_h0 a_source_h0 a_form_h0 a_cells_a_tree_h0 a_bytes_a_source_h0 q146 p1 indent_h0 r142 count_a_tree_h0 n_a_cells_a_tree_h0 b_a_cells_a_tree_h0 size_a_source_h0 n_a_bytes_a_source_h0 b_a_bytes_a_source_h0 r143 r144 r145  r152 r153 r154 r155 C157 S158 k161) k_Wr_152 (by decide) ⟨Nat.le_of_ble_eq_true rfl, Nat.le_of_ble_eq_true rfl⟩ rfl 0 rfl [4, 2, 3, 0, 1, 5, 6] [] rfl (by decide) rfl (by decide) (by decide) rfl rfl (Nat.le_of_ble_eq_true rfl) d_Wr_begin_229 ⟨show 0 + C147 + C157 ≤ mc by omega, show 0 + S148 + S158 ≤ ms by omega⟩ (fun v w hq => ?_)
                                        obtain ⟨q156, rfl, rfl⟩ := hq
                                        refine j_norm (pc' := 232) (st' := []) (ws' := [(h0, .inr (6, [.ref a_tree_h0, .ref a_source_h0, .ref a_form_h0, .int indent_h0, .int r152])), (a_tree_h0, .inr (1, [.ref a_cells_a_tree_h0, .int count_a_tree_h0])), (a_cells_a_tree_h0, .inl (cI, n_a_cells_a_tree_h0, .inl b_a_cells_a_tree_h0)), (a_source_h0, .inr (3, [.ref a_bytes_a_source_h0, .int size_a_source_h0])), (a_bytes_a_source_h0, .inl (cB, n_a_bytes_a_source_h0, .inl b_a_bytes_a_source_h0)), (a_form_h0, .inr (3, [.ref q156, .int r153])), (q156, .inl (cB, r154, .inl r155))]) (cl' := 0 + C147 + C157) (sl' := 0 + S148 + S158) rfl rfl rfl rfl rfl rfl ?_
                                        refine j_aload_n d_Wr_begin_232 rfl 0 rfl ?_
                                        refine j_ldcS (i := 26) rfl d_Wr_begin_233 ?_
                                        replace h := bw_s h
                                        obtain ⟨⟨r162, r163, r164, r165⟩, C167, S168, C169, S170, k171, h, e1, e2⟩ := h
                                        replace hC : 0 + C147 + C157 + C167 + C169 ≤ mc := by omega
                                        replace hS : 0 + S148 + S158 + S168 + S170 ≤ ms := by omega
                                        clear e1 e2
                                        refine j_callV (n := 1) (As := [.ref (sA D 26)]) (rest := []) (wr := [(a_tree_h0, .inr (1, [.ref a_cells_a_tree_h0, .int count_a_tree_h0])), (a_cells_a_tree_h0, .inl (cI, n_a_cells_a_tree_h0, .inl b_a_cells_a_tree_h0)), (a_source_h0, .inr (3, [.ref a_bytes_a_source_h0, .int size_a_source_h0])), (a_bytes_a_source_h0, .inl (cB, n_a_bytes_a_source_h0, .inl b_a_bytes_a_source_h0))]) (c_Wr_put l D cI cB cJ cS h0 a_tree_h0 a_source_h0 a_form_h0 q156 26 indent_h0 r152 r153 r154 r155  r162 r163 r164 r165 C167 S168 k171) k_Wr_77 (by decide) ⟨Nat.le_of_ble_eq_true rfl, Nat.le_of_ble_eq_true rfl⟩ rfl 0 rfl [0, 5, 6] [1, 2, 3, 4] rfl (by decide) rfl (by decide) (by decide) rfl rfl (Nat.le_of_ble_eq_true rfl) d_Wr_begin_235 ⟨show 0 + C147 + C157 + C167 ≤ mc by omega, show 0 + S148 + S158 + S168 ≤ ms by omega⟩ (fun v w hq => ?_)
                                        obtain ⟨q166, rfl, rfl⟩ := hq
                                        refine j_norm (pc' := 238) (st' := []) (ws' := [(a_tree_h0, .inr (1, [.ref a_cells_a_tree_h0, .int count_a_tree_h0])), (a_cells_a_tree_h0, .inl (cI, n_a_cells_a_tree_h0, .inl b_a_cells_a_tree_h0)), (a_source_h0, .inr (3, [.ref a_bytes_a_source_h0, .int size_a_source_h0])), (a_bytes_a_source_h0, .inl (cB, n_a_bytes_a_source_h0, .inl b_a_bytes_a_source_h0)), (h0, .inr (6, [.ref a_tree_h0, .ref a_source_h0, .ref a_form_h0, .int indent_h0, .int r162])), (a_form_h0, .inr (3, [.ref q166, .int r163])), (q166, .inl (cB, r164, .inl r165))]) (cl' := 0 + C147 + C157 + C167) (sl' := 0 + S148 + S158 + S168) rfl rfl rfl rfl rfl rfl ?_
                                        refine j_goto (tgt := 272) d_Wr_begin_238 (by decide) ?_
                                        replace h := lf_s h
                                        obtain ⟨h, e1, e2⟩ := h
                                        replace h := Prod.mk.inj h
                                        obtain ⟨h9, h⟩ := h
                                        subst h9
                                        replace h := Prod.mk.inj h
                                        obtain ⟨h9, h⟩ := h
                                        subst h9
                                        replace h := Prod.mk.inj h
                                        obtain ⟨h9, h⟩ := h
                                        subst h9
                                        replace h := Prod.mk.inj h
                                        obtain ⟨h9, h⟩ := h
                                        subst h9
                                        subst h
                                        refine j_widen (cl' := mc) (sl' := ms) (by omega) (by omega) ?_
                                        exact j_vret (w := [(h0, .inr (6, [.ref a_tree_h0, .ref a_source_h0, .ref a_form_h0, .int indent_h0, .int r162])), (a_tree_h0, .inr (1, [.ref a_cells_a_tree_h0, .int count_a_tree_h0])), (a_cells_a_tree_h0, .inl (cI, n_a_cells_a_tree_h0, .inl b_a_cells_a_tree_h0)), (a_form_h0, .inr (3, [.ref q166, .int r163])), (a_source_h0, .inr (3, [.ref a_bytes_a_source_h0, .int size_a_source_h0])), (a_bytes_a_source_h0, .inl (cB, n_a_bytes_a_source_h0, .inl b_a_bytes_a_source_h0)), (q166, .inl (cB, r164, .inl r165))]) hr d_Wr_begin_272 [4, 0, 1, 5, 2, 3, 6] rfl (by decide) ⟨q166, rfl, rfl⟩
                                      · replace h := it_f c141 h
                                        by_cases c172 : r1 = 20
                                        · replace h := it_t c172 h
                                          refine j_tabIn (tgt := 198) (off := 193) d_Wr_begin_5 20 c172 (by decide) (by decide) (by decide) (by decide) ?_
                                          refine j_aload_n d_Wr_begin_198 rfl 0 rfl ?_
                                          refine j_ldcS (i := 16) rfl d_Wr_begin_199 ?_
                                          replace h := bw_s h
                                          obtain ⟨⟨r173, r174, r175, r176⟩, C178, S179, C180, S181, k182, h, e1, e2⟩ := h
                                          replace hC : 0 + C178 + C180 ≤ mc := by omega
                                          replace hS : 0 + S179 + S181 ≤ ms := by omega
                                          clear e1 e2
                                          refine j_callV (n := 1) (As := [.ref (sA D 16)]) (rest := []) (wr := [(a_source_h0, .inr (3, [.ref a_bytes_a_source_h0, .int size_a_source_h0])), (a_bytes_a_source_h0, .inl (cB, n_a_bytes_a_source_h0, .inl b_a_bytes_a_source_h0)), (a_tree_h0, .inr (1, [.ref a_cells_a_tree_h0, .int count_a_tree_h0])), (a_cells_a_tree_h0, .inl (cI, n_a_cells_a_tree_h0, .inl b_a_cells_a_tree_h0))]) (c_Wr_beginLine l D cI cB cJ cS h0 a_tree_h0 a_source_h0 a_form_h0 a_bytes_a_form_h0 16 indent_h0 fits_h0 size_a_form_h0 n_a_bytes_a_form_h0 b_a_bytes_a_form_h0  r173 r174 r175 r176 C178 S179 k182) k_Wr_114 (by decide) ⟨Nat.le_of_ble_eq_true rfl, Nat.le_of_ble_eq_true rfl⟩ rfl 0 rfl [4, 0, 1] [2, 3, 5, 6] rfl (by decide) rfl (by decide) (by decide) rfl rfl (Nat.le_of_ble_eq_true rfl) d_Wr_begin_201 ⟨show 0 + C178 ≤ mc by omega, show 0 + S179 ≤ ms by omega⟩ (fun v w hq => ?_)
                                          obtain ⟨q177, rfl, rfl⟩ := hq
                                          refine j_norm (pc' := 204) (st' := []) (ws' := [(a_source_h0, .inr (3, [.ref a_bytes_a_source_h0, .int size_a_source_h0])), (a_bytes_a_source_h0, .inl (cB, n_a_bytes_a_source_h0, .inl b_a_bytes_a_source_h0)), (a_tree_h0, .inr (1, [.ref a_cells_a_tree_h0, .int count_a_tree_h0])), (a_cells_a_tree_h0, .inl (cI, n_a_cells_a_tree_h0, .inl b_a_cells_a_tree_h0)), (h0, .inr (6, [.ref a_tree_h0, .ref a_source_h0, .ref a_form_h0, .int indent_h0, .int r173])), (a_form_h0, .inr (3, [.ref q177, .int r174])), (q177, .inl (cB, r175, .inl r176))]) (cl' := 0 + C178) (sl' := 0 + S179) rfl rfl rfl rfl rfl rfl ?_
                                          refine j_goto (tgt := 272) d_Wr_begin_204 (by decide) ?_
                                          replace h := lf_s h
                                          obtain ⟨h, e1, e2⟩ := h
                                          replace h := Prod.mk.inj h
                                          obtain ⟨h9, h⟩ := h
                                          subst h9
                                          replace h := Prod.mk.inj h
                                          obtain ⟨h9, h⟩ := h
                                          subst h9
                                          replace h := Prod.mk.inj h
                                          obtain ⟨h9, h⟩ := h
                                          subst h9
                                          replace h := Prod.mk.inj h
                                          obtain ⟨h9, h⟩ := h
                                          subst h9
                                          subst h
                                          refine j_widen (cl' := mc) (sl' := ms) (by omega) (by omega) ?_
                                          exact j_vret (w := [(h0, .inr (6, [.ref a_tree_h0, .ref a_source_h0, .ref a_form_h0, .int indent_h0, .int r173])), (a_tree_h0, .inr (1, [.ref a_cells_a_tree_h0, .int count_a_tree_h0])), (a_cells_a_tree_h0, .inl (cI, n_a_cells_a_tree_h0, .inl b_a_cells_a_tree_h0)), (a_form_h0, .inr (3, [.ref q177, .int r174])), (a_source_h0, .inr (3, [.ref a_bytes_a_source_h0, .int size_a_source_h0])), (a_bytes_a_source_h0, .inl (cB, n_a_bytes_a_source_h0, .inl b_a_bytes_a_source_h0)), (q177, .inl (cB, r175, .inl r176))]) hr d_Wr_begin_272 [4, 2, 3, 5, 0, 1, 6] rfl (by decide) ⟨q177, rfl, rfl⟩
                                        · replace h := it_f c172 h
                                          by_cases c183 : r1 = 21
                                          · replace h := it_t c183 h
                                            refine j_tabIn (tgt := 198) (off := 193) d_Wr_begin_5 21 c183 (by decide) (by decide) (by decide) (by decide) ?_
                                            refine j_aload_n d_Wr_begin_198 rfl 0 rfl ?_
                                            refine j_ldcS (i := 16) rfl d_Wr_begin_199 ?_
                                            replace h := bw_s h
                                            obtain ⟨⟨r184, r185, r186, r187⟩, C189, S190, C191, S192, k193, h, e1, e2⟩ := h
                                            replace hC : 0 + C189 + C191 ≤ mc := by omega
                                            replace hS : 0 + S190 + S192 ≤ ms := by omega
                                            clear e1 e2
                                            refine j_callV (n := 1) (As := [.ref (sA D 16)]) (rest := []) (wr := [(a_source_h0, .inr (3, [.ref a_bytes_a_source_h0, .int size_a_source_h0])), (a_bytes_a_source_h0, .inl (cB, n_a_bytes_a_source_h0, .inl b_a_bytes_a_source_h0)), (a_tree_h0, .inr (1, [.ref a_cells_a_tree_h0, .int count_a_tree_h0])), (a_cells_a_tree_h0, .inl (cI, n_a_cells_a_tree_h0, .inl b_a_cells_a_tree_h0))]) (c_Wr_beginLine l D cI cB cJ cS h0 a_tree_h0 a_source_h0 a_form_h0 a_bytes_a_form_h0 16 indent_h0 fits_h0 size_a_form_h0 n_a_bytes_a_form_h0 b_a_bytes_a_form_h0  r184 r185 r186 r187 C189 S190 k193) k_Wr_114 (by decide) ⟨Nat.le_of_ble_eq_true rfl, Nat.le_of_ble_eq_true rfl⟩ rfl 0 rfl [4, 0, 1] [2, 3, 5, 6] rfl (by decide) rfl (by decide) (by decide) rfl rfl (Nat.le_of_ble_eq_true rfl) d_Wr_begin_201 ⟨show 0 + C189 ≤ mc by omega, show 0 + S190 ≤ ms by omega⟩ (fun v w hq => ?_)
                                            obtain ⟨q188, rfl, rfl⟩ := hq
                                            refine j_norm (pc' := 204) (st' := []) (ws' := [(a_source_h0, .inr (3, [.ref a_bytes_a_source_h0, .int size_a_source_h0])), (a_bytes_a_source_h0, .inl (cB, n_a_bytes_a_source_h0, .inl b_a_bytes_a_source_h0)), (a_tree_h0, .inr (1, [.ref a_cells_a_tree_h0, .int count_a_tree_h0])), (a_cells_a_tree_h0, .inl (cI, n_a_cells_a_tree_h0, .inl b_a_cells_a_tree_h0)), (h0, .inr (6, [.ref a_tree_h0, .ref a_source_h0, .ref a_form_h0, .int indent_h0, .int r184])), (a_form_h0, .inr (3, [.ref q188, .int r185])), (q188, .inl (cB, r186, .inl r187))]) (cl' := 0 + C189) (sl' := 0 + S190) rfl rfl rfl rfl rfl rfl ?_
                                            refine j_goto (tgt := 272) d_Wr_begin_204 (by decide) ?_
                                            replace h := lf_s h
                                            obtain ⟨h, e1, e2⟩ := h
                                            replace h := Prod.mk.inj h
                                            obtain ⟨h9, h⟩ := h
                                            subst h9
                                            replace h := Prod.mk.inj h
                                            obtain ⟨h9, h⟩ := h
                                            subst h9
                                            replace h := Prod.mk.inj h
                                            obtain ⟨h9, h⟩ := h
                                            subst h9
                                            replace h := Prod.mk.inj h
                                            obtain ⟨h9, h⟩ := h
                                            subst h9
                                            subst h
                                            refine j_widen (cl' := mc) (sl' := ms) (by omega) (by omega) ?_
                                            exact j_vret (w := [(h0, .inr (6, [.ref a_tree_h0, .ref a_source_h0, .ref a_form_h0, .int indent_h0, .int r184])), (a_tree_h0, .inr (1, [.ref a_cells_a_tree_h0, .int count_a_tree_h0])), (a_cells_a_tree_h0, .inl (cI, n_a_cells_a_tree_h0, .inl b_a_cells_a_tree_h0)), (a_form_h0, .inr (3, [.ref q188, .int r185])), (a_source_h0, .inr (3, [.ref a_bytes_a_source_h0, .int size_a_source_h0])), (a_bytes_a_source_h0, .inl (cB, n_a_bytes_a_source_h0, .inl b_a_bytes_a_source_h0)), (q188, .inl (cB, r186, .inl r187))]) hr d_Wr_begin_272 [4, 2, 3, 5, 0, 1, 6] rfl (by decide) ⟨q188, rfl, rfl⟩
                                          · replace h := it_f c183 h
                                            by_cases c194 : r1 = 22
                                            · replace h := it_t c194 h
                                              refine j_tabIn (tgt := 272) (off := 267) d_Wr_begin_5 22 c194 (by decide) (by decide) (by decide) (by decide) ?_
                                              replace h := lf_s h
                                              obtain ⟨h, e1, e2⟩ := h
                                              replace h := Prod.mk.inj h
                                              obtain ⟨h9, h⟩ := h
                                              subst h9
                                              replace h := Prod.mk.inj h
                                              obtain ⟨h9, h⟩ := h
                                              subst h9
                                              replace h := Prod.mk.inj h
                                              obtain ⟨h9, h⟩ := h
                                              subst h9
                                              replace h := Prod.mk.inj h
                                              obtain ⟨h9, h⟩ := h
                                              subst h9
                                              subst h
                                              refine j_widen (cl' := mc) (sl' := ms) (by omega) (by omega) ?_
                                              exact j_vret (w := [(h0, .inr (6, [.ref a_tree_h0, .ref a_source_h0, .ref a_form_h0, .int indent_h0, .int fits_h0])), (a_tree_h0, .inr (1, [.ref a_cells_a_tree_h0, .int count_a_tree_h0])), (a_cells_a_tree_h0, .inl (cI, n_a_cells_a_tree_h0, .inl b_a_cells_a_tree_h0)), (a_form_h0, .inr (3, [.ref a_bytes_a_form_h0, .int size_a_form_h0])), (a_source_h0, .inr (3, [.ref a_bytes_a_source_h0, .int size_a_source_h0])), (a_bytes_a_source_h0, .inl (cB, n_a_bytes_a_source_h0, .inl b_a_bytes_a_source_h0)), (a_bytes_a_form_h0, .inl (cB, n_a_bytes_a_form_h0, .inl b_a_bytes_a_form_h0))]) hr d_Wr_begin_272 [4, 5, 6, 0, 2, 3, 1] rfl (by decide) ⟨a_bytes_a_form_h0, rfl, rfl⟩
                                            · replace h := it_f c194 h
                                              by_cases c195 : r1 = 23
                                              · replace h := it_t c195 h
                                                refine j_tabIn (tgt := 272) (off := 267) d_Wr_begin_5 23 c195 (by decide) (by decide) (by decide) (by decide) ?_
                                                replace h := lf_s h
                                                obtain ⟨h, e1, e2⟩ := h
                                                replace h := Prod.mk.inj h
                                                obtain ⟨h9, h⟩ := h
                                                subst h9
                                                replace h := Prod.mk.inj h
                                                obtain ⟨h9, h⟩ := h
                                                subst h9
                                                replace h := Prod.mk.inj h
                                                obtain ⟨h9, h⟩ := h
                                                subst h9
                                                replace h := Prod.mk.inj h
                                                obtain ⟨h9, h⟩ := h
                                                subst h9
                                                subst h
                                                refine j_widen (cl' := mc) (sl' := ms) (by omega) (by omega) ?_
                                                exact j_vret (w := [(h0, .inr (6, [.ref a_tree_h0, .ref a_source_h0, .ref a_form_h0, .int indent_h0, .int fits_h0])), (a_tree_h0, .inr (1, [.ref a_cells_a_tree_h0, .int count_a_tree_h0])), (a_cells_a_tree_h0, .inl (cI, n_a_cells_a_tree_h0, .inl b_a_cells_a_tree_h0)), (a_form_h0, .inr (3, [.ref a_bytes_a_form_h0, .int size_a_form_h0])), (a_source_h0, .inr (3, [.ref a_bytes_a_source_h0, .int size_a_source_h0])), (a_bytes_a_source_h0, .inl (cB, n_a_bytes_a_source_h0, .inl b_a_bytes_a_source_h0)), (a_bytes_a_form_h0, .inl (cB, n_a_bytes_a_form_h0, .inl b_a_bytes_a_form_h0))]) hr d_Wr_begin_272 [4, 5, 6, 0, 2, 3, 1] rfl (by decide) ⟨a_bytes_a_form_h0, rfl, rfl⟩
                                              · replace h := it_f c195 h
                                                by_cases c196 : r1 = 24
                                                · replace h := it_t c196 h
                                                  refine j_tabIn (tgt := 272) (off := 267) d_Wr_begin_5 24 c196 (by decide) (by decide) (by decide) (by decide) ?_
                                                  replace h := lf_s h
                                                  obtain ⟨h, e1, e2⟩ := h
                                                  replace h := Prod.mk.inj h
                                                  obtain ⟨h9, h⟩ := h
                                                  subst h9
                                                  replace h := Prod.mk.inj h
                                                  obtain ⟨h9, h⟩ := h
                                                  subst h9
                                                  replace h := Prod.mk.inj h
                                                  obtain ⟨h9, h⟩ := h
                                                  subst h9
                                                  replace h := Prod.mk.inj h
                                                  obtain ⟨h9, h⟩ := h
                                                  subst h9
                                                  subst h
                                                  refine j_widen (cl' := mc) (sl' := ms) (by omega) (by omega) ?_
                                                  exact j_vret (w := [(h0, .inr (6, [.ref a_tree_h0, .ref a_source_h0, .ref a_form_h0, .int indent_h0, .int fits_h0])), (a_tree_h0, .inr (1, [.ref a_cells_a_tree_h0, .int count_a_tree_h0])), (a_cells_a_tree_h0, .inl (cI, n_a_cells_a_tree_h0, .inl b_a_cells_a_tree_h0)), (a_form_h0, .inr (3, [.ref a_bytes_a_form_h0, .int size_a_form_h0])), (a_source_h0, .inr (3, [.ref a_bytes_a_source_h0, .int size_a_source_h0])), (a_bytes_a_source_h0, .inl (cB, n_a_bytes_a_source_h0, .inl b_a_bytes_a_source_h0)), (a_bytes_a_form_h0, .inl (cB, n_a_bytes_a_form_h0, .inl b_a_bytes_a_form_h0))]) hr d_Wr_begin_272 [4, 5, 6, 0, 2, 3, 1] rfl (by decide) ⟨a_bytes_a_form_h0, rfl, rfl⟩
                                                · replace h := it_f c196 h
                                                  by_cases c197 : r1 = 25
                                                  · replace h := it_t c197 h
                                                    refine j_tabIn (tgt := 272) (off := 267) d_Wr_begin_5 25 c197 (by decide) (by decide) (by decide) (by decide) ?_
                                                    replace h := lf_s h
                                                    obtain ⟨h, e1, e2⟩ := h
                                                    replace h := Prod.mk.inj h
                                                    obtain ⟨h9, h⟩ := h
                                                    subst h9
                                                    replace h := Prod.mk.inj h
                                                    obtain ⟨h9, h⟩ := h
                                                    subst h9
                                                    replace h := Prod.mk.inj h
                                                    obtain ⟨h9, h⟩ := h
                                                    subst h9
                                                    replace h := Prod.mk.inj h
                                                    obtain ⟨h9, h⟩ := h
                                                    subst h9
                                                    subst h
                                                    refine j_widen (cl' := mc) (sl' := ms) (by omega) (by omega) ?_
                                                    exact j_vret (w := [(h0, .inr (6, [.ref a_tree_h0, .ref a_source_h0, .ref a_form_h0, .int indent_h0, .int fits_h0])), (a_tree_h0, .inr (1, [.ref a_cells_a_tree_h0, .int count_a_tree_h0])), (a_cells_a_tree_h0, .inl (cI, n_a_cells_a_tree_h0, .inl b_a_cells_a_tree_h0)), (a_form_h0, .inr (3, [.ref a_bytes_a_form_h0, .int size_a_form_h0])), (a_source_h0, .inr (3, [.ref a_bytes_a_source_h0, .int size_a_source_h0])), (a_bytes_a_source_h0, .inl (cB, n_a_bytes_a_source_h0, .inl b_a_bytes_a_source_h0)), (a_bytes_a_form_h0, .inl (cB, n_a_bytes_a_form_h0, .inl b_a_bytes_a_form_h0))]) hr d_Wr_begin_272 [4, 5, 6, 0, 2, 3, 1] rfl (by decide) ⟨a_bytes_a_form_h0, rfl, rfl⟩
                                                  · replace h := it_f c197 h
                                                    by_cases c198 : r1 = 26
                                                    · replace h := it_t c198 h
                                                      refine j_tabIn (tgt := 272) (off := 267) d_Wr_begin_5 26 c198 (by decide) (by decide) (by decide) (by decide) ?_
                                                      replace h := lf_s h
                                                      obtain ⟨h, e1, e2⟩ := h
                                                      replace h := Prod.mk.inj h
                                                      obtain ⟨h9, h⟩ := h
                                                      subst h9
                                                      replace h := Prod.mk.inj h
                                                      obtain ⟨h9, h⟩ := h
                                                      subst h9
                                                      replace h := Prod.mk.inj h
                                                      obtain ⟨h9, h⟩ := h
                                                      subst h9
                                                      replace h := Prod.mk.inj h
                                                      obtain ⟨h9, h⟩ := h
                                                      subst h9
                                                      subst h
                                                      refine j_widen (cl' := mc) (sl' := ms) (by omega) (by omega) ?_
                                                      exact j_vret (w := [(h0, .inr (6, [.ref a_tree_h0, .ref a_source_h0, .ref a_form_h0, .int indent_h0, .int fits_h0])), (a_tree_h0, .inr (1, [.ref a_cells_a_tree_h0, .int count_a_tree_h0])), (a_cells_a_tree_h0, .inl (cI, n_a_cells_a_tree_h0, .inl b_a_cells_a_tree_h0)), (a_form_h0, .inr (3, [.ref a_bytes_a_form_h0, .int size_a_form_h0])), (a_source_h0, .inr (3, [.ref a_bytes_a_source_h0, .int size_a_source_h0])), (a_bytes_a_source_h0, .inl (cB, n_a_bytes_a_source_h0, .inl b_a_bytes_a_source_h0)), (a_bytes_a_form_h0, .inl (cB, n_a_bytes_a_form_h0, .inl b_a_bytes_a_form_h0))]) hr d_Wr_begin_272 [4, 5, 6, 0, 2, 3, 1] rfl (by decide) ⟨a_bytes_a_form_h0, rfl, rfl⟩
                                                    · replace h := it_f c198 h
                                                      by_cases c199 : r1 = 27
                                                      · replace h := it_t c199 h
                                                        refine j_tabIn (tgt := 272) (off := 267) d_Wr_begin_5 27 c199 (by decide) (by decide) (by decide) (by decide) ?_
                                                        replace h := lf_s h
                                                        obtain ⟨h, e1, e2⟩ := h
                                                        replace h := Prod.mk.inj h
                                                        obtain ⟨h9, h⟩ := h
                                                        subst h9
                                                        replace h := Prod.mk.inj h
                                                        obtain ⟨h9, h⟩ := h
                                                        subst h9
                                                        replace h := Prod.mk.inj h
                                                        obtain ⟨h9, h⟩ := h
                                                        subst h9
                                                        replace h := Prod.mk.inj h
                                                        obtain ⟨h9, h⟩ := h
                                                        subst h9
                                                        subst h
                                                        refine j_widen (cl' := mc) (sl' := ms) (by omega) (by omega) ?_
                                                        exact j_vret (w := [(h0, .inr (6, [.ref a_tree_h0, .ref a_source_h0, .ref a_form_h0, .int indent_h0, .int fits_h0])), (a_tree_h0, .inr (1, [.ref a_cells_a_tree_h0, .int count_a_tree_h0])), (a_cells_a_tree_h0, .inl (cI, n_a_cells_a_tree_h0, .inl b_a_cells_a_tree_h0)), (a_form_h0, .inr (3, [.ref a_bytes_a_form_h0, .int size_a_form_h0])), (a_source_h0, .inr (3, [.ref a_bytes_a_source_h0, .int size_a_source_h0])), (a_bytes_a_source_h0, .inl (cB, n_a_bytes_a_source_h0, .inl b_a_bytes_a_source_h0)), (a_bytes_a_form_h0, .inl (cB, n_a_bytes_a_form_h0, .inl b_a_bytes_a_form_h0))]) hr d_Wr_begin_272 [4, 5, 6, 0, 2, 3, 1] rfl (by decide) ⟨a_bytes_a_form_h0, rfl, rfl⟩
                                                      · replace h := it_f c199 h
                                                        by_cases c200 : r1 = 28
                                                        · replace h := it_t c200 h
                                                          refine j_tabIn (tgt := 272) (off := 267) d_Wr_begin_5 28 c200 (by decide) (by decide) (by decide) (by decide) ?_
                                                          replace h := lf_s h
                                                          obtain ⟨h, e1, e2⟩ := h
                                                          replace h := Prod.mk.inj h
                                                          obtain ⟨h9, h⟩ := h
                                                          subst h9
                                                          replace h := Prod.mk.inj h
                                                          obtain ⟨h9, h⟩ := h
                                                          subst h9
                                                          replace h := Prod.mk.inj h
                                                          obtain ⟨h9, h⟩ := h
                                                          subst h9
                                                          replace h := Prod.mk.inj h
                                                          obtain ⟨h9, h⟩ := h
                                                          subst h9
                                                          subst h
                                                          refine j_widen (cl' := mc) (sl' := ms) (by omega) (by omega) ?_
                                                          exact j_vret (w := [(h0, .inr (6, [.ref a_tree_h0, .ref a_source_h0, .ref a_form_h0, .int indent_h0, .int fits_h0])), (a_tree_h0, .inr (1, [.ref a_cells_a_tree_h0, .int count_a_tree_h0])), (a_cells_a_tree_h0, .inl (cI, n_a_cells_a_tree_h0, .inl b_a_cells_a_tree_h0)), (a_form_h0, .inr (3, [.ref a_bytes_a_form_h0, .int size_a_form_h0])), (a_source_h0, .inr (3, [.ref a_bytes_a_source_h0, .int size_a_source_h0])), (a_bytes_a_source_h0, .inl (cB, n_a_bytes_a_source_h0, .inl b_a_bytes_a_source_h0)), (a_bytes_a_form_h0, .inl (cB, n_a_bytes_a_form_h0, .inl b_a_bytes_a_form_h0))]) hr d_Wr_begin_272 [4, 5, 6, 0, 2, 3, 1] rfl (by decide) ⟨a_bytes_a_form_h0, rfl, rfl⟩
                                                        · replace h := it_f c200 h
                                                          by_cases c201 : r1 = 29
                                                          · replace h := it_t c201 h
                                                            refine j_tabIn (tgt := 272) (off := 267) d_Wr_begin_5 29 c201 (by decide) (by decide) (by decide) (by decide) ?_
                                                            replace h := lf_s h
                                                            obtain ⟨h, e1, e2⟩ := h
                                                            replace h := Prod.mk.inj h
                                                            obtain ⟨h9, h⟩ := h
                                                            subst h9
                                                            replace h := Prod.mk.inj h
                                                            obtain ⟨h9, h⟩ := h
                                                            subst h9
                                                            replace h := Prod.mk.inj h
                                                            obtain ⟨h9, h⟩ := h
                                                            subst h9
                                                            replace h := Prod.mk.inj h
                                                            obtain ⟨h9, h⟩ := h
                                                            subst h9
                                                            subst h
                                                            refine j_widen (cl' := mc) (sl' := ms) (by omega) (by omega) ?_
                                                            exact j_vret (w := [(h0, .inr (6, [.ref a_tree_h0, .ref a_source_h0, .ref a_form_h0, .int indent_h0, .int fits_h0])), (a_tree_h0, .inr (1, [.ref a_cells_a_tree_h0, .int count_a_tree_h0])), (a_cells_a_tree_h0, .inl (cI, n_a_cells_a_tree_h0, .inl b_a_cells_a_tree_h0)), (a_form_h0, .inr (3, [.ref a_bytes_a_form_h0, .int size_a_form_h0])), (a_source_h0, .inr (3, [.ref a_bytes_a_source_h0, .int size_a_source_h0])), (a_bytes_a_source_h0, .inl (cB, n_a_bytes_a_source_h0, .inl b_a_bytes_a_source_h0)), (a_bytes_a_form_h0, .inl (cB, n_a_bytes_a_form_h0, .inl b_a_bytes_a_form_h0))]) hr d_Wr_begin_272 [4, 5, 6, 0, 2, 3, 1] rfl (by decide) ⟨a_bytes_a_form_h0, rfl, rfl⟩
                                                          · replace h := it_f c201 h
                                                            by_cases c202 : r1 = 30
                                                            · replace h := it_t c202 h
                                                              refine j_tabIn (tgt := 241) (off := 236) d_Wr_begin_5 30 c202 (by decide) (by decide) (by decide) (by decide) ?_
                                                              refine j_aload_n d_Wr_begin_241 rfl 0 rfl ?_
                                                              refine j_iload_n d_Wr_begin_242 rfl 1 rfl ?_
                                                              replace h := bw_s h
                                                              obtain ⟨⟨r203, r204, r205, r206⟩, C208, S209, C210, S211, k212, h, e1, e2⟩ := h
                                                              replace hC : 0 + C208 + C210 ≤ mc := by omega
                                                              replace hS : 0 + S209 + S211 ≤ ms := by omega
                                                              clear e1 e2
                                                              refine j_callV (n := 1) (As := [.int p1]) (rest := []) (wr := []) (c_Wr_putToken l D cI cB cJ cS h0 a_tree_h0 a_source_h0 a_form_h0 a_cells_a_tree_h0 a_bytes_a_source_h0 a_bytes_a_form_h0 p1 indent_h0 fits_h0 count_a_tree_h0 n_a_cells_a_tree_h0 b_a_cells_a_tree_h0 size_a_source_h0 n_a_bytes_a_source_h0 b_a_bytes_a_source_h0 size_a_form_h0 n_a_bytes_a_form_h0 b_a_bytes_a_form_h0  r203 r204 r205 r206 C208 S209 k212) k_Wr_152 (by decide) ⟨Nat.le_of_ble_eq_true rfl, Nat.le_of_ble_eq_true rfl⟩ rfl 0 rfl [4, 5, 6, 2, 3, 0, 1] [] rfl (by decide) rfl (by decide) (by decide) rfl rfl (Nat.le_of_ble_eq_true rfl) d_Wr_begin_243 ⟨show 0 + C208 ≤ mc by omega, show 0 + S209 ≤ ms by omega⟩ (fun v w hq => ?_)
                                                              obtain ⟨q207, rfl, rfl⟩ := hq
                                                              refine j_norm (pc' := 246) (st' := []) (ws' := [(h0, .inr (6, [.ref a_tree_h0, .ref a_source_h0, .ref a_form_h0, .int indent_h0, .int r203])), (a_tree_h0, .inr (1, [.ref a_cells_a_tree_h0, .int count_a_tree_h0])), (a_cells_a_tree_h0, .inl (cI, n_a_cells_a_tree_h0, .inl b_a_cells_a_tree_h0)), (a_source_h0, .inr (3, [.ref a_bytes_a_source_h0, .int size_a_source_h0])), (a_bytes_a_source_h0, .inl (cB, n_a_bytes_a_source_h0, .inl b_a_bytes_a_source_h0)), (a_form_h0, .inr (3, [.ref q207, .int r204])), (q207, .inl (cB, r205, .inl r206))]) (cl' := 0 + C208) (sl' := 0 + S209) rfl rfl rfl rfl rfl rfl ?_
                                                              refine j_goto (tgt := 272) d_Wr_begin_246 (by decide) ?_
                                                              replace h := lf_s h
                                                              obtain ⟨h, e1, e2⟩ := h
                                                              replace h := Prod.mk.inj h
                                                              obtain ⟨h9, h⟩ := h
                                                              subst h9
                                                              replace h := Prod.mk.inj h
                                                              obtain ⟨h9, h⟩ := h
                                                              subst h9
                                                              replace h := Prod.mk.inj h
                                                              obtain ⟨h9, h⟩ := h
                                                              subst h9
                                                              replace h := Prod.mk.inj h
                                                              obtain ⟨h9, h⟩ := h
                                                              subst h9
                                                              subst h
                                                              refine j_widen (cl' := mc) (sl' := ms) (by omega) (by omega) ?_
                                                              exact j_vret (w := [(h0, .inr (6, [.ref a_tree_h0, .ref a_source_h0, .ref a_form_h0, .int indent_h0, .int r203])), (a_tree_h0, .inr (1, [.ref a_cells_a_tree_h0, .int count_a_tree_h0])), (a_cells_a_tree_h0, .inl (cI, n_a_cells_a_tree_h0, .inl b_a_cells_a_tree_h0)), (a_form_h0, .inr (3, [.ref q207, .int r204])), (a_source_h0, .inr (3, [.ref a_bytes_a_source_h0, .int size_a_source_h0])), (a_bytes_a_source_h0, .inl (cB, n_a_bytes_a_source_h0, .inl b_a_bytes_a_source_h0)), (q207, .inl (cB, r205, .inl r206))]) hr d_Wr_begin_272 [0, 1, 2, 5, 3, 4, 6] rfl (by decide) ⟨q207, rfl, rfl⟩
                                                            · replace h := it_f c202 h
                                                              by_cases c213 : r1 = 31
                                                              · replace h := it_t c213 h
                                                                refine j_tabIn (tgt := 241) (off := 236) d_Wr_begin_5 31 c213 (by decide) (by decide) (by decide) (by decide) ?_
                                                                refine j_aload_n d_Wr_begin_241 rfl 0 rfl ?_
                                                                refine j_iload_n d_Wr_begin_242 rfl 1 rfl ?_
                                                                replace h := bw_s h
                                                                obtain ⟨⟨r214, r215, r216, r217⟩, C219, S220, C221, S222, k223, h, e1, e2⟩ := h
                                                                replace hC : 0 + C219 + C221 ≤ mc := by omega
                                                                replace hS : 0 + S220 + S222 ≤ ms := by omega
                                                                clear e1 e2
                                                                refine j_callV (n := 1) (As := [.int p1]) (rest := []) (wr := []) (c_Wr_putToken l D cI cB cJ cS h0 a_tree_h0 a_source_h0 a_form_h0 a_cells_a_tree_h0 a_bytes_a_source_h0 a_bytes_a_form_h0 p1 indent_h0 fits_h0 count_a_tree_h0 n_a_cells_a_tree_h0 b_a_cells_a_tree_h0 size_a_source_h0 n_a_bytes_a_source_h0 b_a_bytes_a_source_h0 size_a_form_h0 n_a_bytes_a_form_h0 b_a_bytes_a_form_h0  r214 r215 r216 r217 C219 S220 k223) k_Wr_152 (by decide) ⟨Nat.le_of_ble_eq_true rfl, Nat.le_of_ble_eq_true rfl⟩ rfl 0 rfl [4, 5, 6, 2, 3, 0, 1] [] rfl (by decide) rfl (by decide) (by decide) rfl rfl (Nat.le_of_ble_eq_true rfl) d_Wr_begin_243 ⟨show 0 + C219 ≤ mc by omega, show 0 + S220 ≤ ms by omega⟩ (fun v w hq => ?_)
                                                                obtain ⟨q218, rfl, rfl⟩ := hq
                                                                refine j_norm (pc' := 246) (st' := []) (ws' := [(h0, .inr (6, [.ref a_tree_h0, .ref a_source_h0, .ref a_form_h0, .int indent_h0, .int r214])), (a_tree_h0, .inr (1, [.ref a_cells_a_tree_h0, .int count_a_tree_h0])), (a_cells_a_tree_h0, .inl (cI, n_a_cells_a_tree_h0, .inl b_a_cells_a_tree_h0)), (a_source_h0, .inr (3, [.ref a_bytes_a_source_h0, .int size_a_source_h0])), (a_bytes_a_source_h0, .inl (cB, n_a_bytes_a_source_h0, .inl b_a_bytes_a_source_h0)), (a_form_h0, .inr (3, [.ref q218, .int r215])), (q218, .inl (cB, r216, .inl r217))]) (cl' := 0 + C219) (sl' := 0 + S220) rfl rfl rfl rfl rfl rfl ?_
                                                                refine j_goto (tgt := 272) d_Wr_begin_246 (by decide) ?_
                                                                replace h := lf_s h
                                                                obtain ⟨h, e1, e2⟩ := h
                                                                replace h := Prod.mk.inj h
                                                                obtain ⟨h9, h⟩ := h
                                                                subst h9
                                                                replace h := Prod.mk.inj h
                                                                obtain ⟨h9, h⟩ := h
                                                                subst h9
                                                                replace h := Prod.mk.inj h
                                                                obtain ⟨h9, h⟩ := h
                                                                subst h9
                                                                replace h := Prod.mk.inj h
                                                                obtain ⟨h9, h⟩ := h
                                                                subst h9
                                                                subst h
                                                                refine j_widen (cl' := mc) (sl' := ms) (by omega) (by omega) ?_
                                                                exact j_vret (w := [(h0, .inr (6, [.ref a_tree_h0, .ref a_source_h0, .ref a_form_h0, .int indent_h0, .int r214])), (a_tree_h0, .inr (1, [.ref a_cells_a_tree_h0, .int count_a_tree_h0])), (a_cells_a_tree_h0, .inl (cI, n_a_cells_a_tree_h0, .inl b_a_cells_a_tree_h0)), (a_form_h0, .inr (3, [.ref q218, .int r215])), (a_source_h0, .inr (3, [.ref a_bytes_a_source_h0, .int size_a_source_h0])), (a_bytes_a_source_h0, .inl (cB, n_a_bytes_a_source_h0, .inl b_a_bytes_a_source_h0)), (q218, .inl (cB, r216, .inl r217))]) hr d_Wr_begin_272 [0, 1, 2, 5, 3, 4, 6] rfl (by decide) ⟨q218, rfl, rfl⟩
                                                              · replace h := it_f c213 h
                                                                by_cases c224 : r1 = 32
                                                                · replace h := it_t c224 h
                                                                  refine j_tabIn (tgt := 241) (off := 236) d_Wr_begin_5 32 c224 (by decide) (by decide) (by decide) (by decide) ?_
                                                                  refine j_aload_n d_Wr_begin_241 rfl 0 rfl ?_
                                                                  refine j_iload_n d_Wr_begin_242 rfl 1 rfl ?_
                                                                  replace h := bw_s h
                                                                  obtain ⟨⟨r225, r226, r227, r228⟩, C230, S231, C232, S233, k234, h, e1, e2⟩ := h
                                                                  replace hC : 0 + C230 + C232 ≤ mc := by omega
                                                                  replace hS : 0 + S231 + S233 ≤ ms := by omega
                                                                  clear e1 e2
                                                                  refine j_callV (n := 1) (As := [.int p1]) (rest := []) (wr := []) (c_Wr_putToken l D cI cB cJ cS h0 a_tree_h0 a_source_h0 a_form_h0 a_cells_a_tree_h0 a_bytes_a_source_h0 a_bytes_a_form_h0 p1 indent_h0 fits_h0 count_a_tree_h0 n_a_cells_a_tree_h0 b_a_cells_a_tree_h0 size_a_source_h0 n_a_bytes_a_source_h0 b_a_bytes_a_source_h0 size_a_form_h0 n_a_bytes_a_form_h0 b_a_bytes_a_form_h0  r225 r226 r227 r228 C230 S231 k234) k_Wr_152 (by decide) ⟨Nat.le_of_ble_eq_true rfl, Nat.le_of_ble_eq_true rfl⟩ rfl 0 rfl [4, 5, 6, 2, 3, 0, 1] [] rfl (by decide) rfl (by decide) (by decide) rfl rfl (Nat.le_of_ble_eq_true rfl) d_Wr_begin_243 ⟨show 0 + C230 ≤ mc by omega, show 0 + S231 ≤ ms by omega⟩ (fun v w hq => ?_)
                                                                  obtain ⟨q229, rfl, rfl⟩ := hq
                                                                  refine j_norm (pc' := 246) (st' := []) (ws' := [(h0, .inr (6, [.ref a_tree_h0, .ref a_source_h0, .ref a_form_h0, .int indent_h0, .int r225])), (a_tree_h0, .inr (1, [.ref a_cells_a_tree_h0, .int count_a_tree_h0])), (a_cells_a_tree_h0, .inl (cI, n_a_cells_a_tree_h0, .inl b_a_cells_a_tree_h0)), (a_source_h0, .inr (3, [.ref a_bytes_a_source_h0, .int size_a_source_h0])), (a_bytes_a_source_h0, .inl (cB, n_a_bytes_a_source_h0, .inl b_a_bytes_a_source_h0)), (a_form_h0, .inr (3, [.ref q229, .int r226])), (q229, .inl (cB, r227, .inl r228))]) (cl' := 0 + C230) (sl' := 0 + S231) rfl rfl rfl rfl rfl rfl ?_
                                                                  refine j_goto (tgt := 272) d_Wr_begin_246 (by decide) ?_
                                                                  replace h := lf_s h
                                                                  obtain ⟨h, e1, e2⟩ := h
                                                                  replace h := Prod.mk.inj h
                                                                  obtain ⟨h9, h⟩ := h
                                                                  subst h9
                                                                  replace h := Prod.mk.inj h
                                                                  obtain ⟨h9, h⟩ := h
                                                                  subst h9
                                                                  replace h := Prod.mk.inj h
                                                                  obtain ⟨h9, h⟩ := h
                                                                  subst h9
                                                                  replace h := Prod.mk.inj h
                                                                  obtain ⟨h9, h⟩ := h
                                                                  subst h9
                                                                  subst h
                                                                  refine j_widen (cl' := mc) (sl' := ms) (by omega) (by omega) ?_
                                                                  exact j_vret (w := [(h0, .inr (6, [.ref a_tree_h0, .ref a_source_h0, .ref a_form_h0, .int indent_h0, .int r225])), (a_tree_h0, .inr (1, [.ref a_cells_a_tree_h0, .int count_a_tree_h0])), (a_cells_a_tree_h0, .inl (cI, n_a_cells_a_tree_h0, .inl b_a_cells_a_tree_h0)), (a_form_h0, .inr (3, [.ref q229, .int r226])), (a_source_h0, .inr (3, [.ref a_bytes_a_source_h0, .int size_a_source_h0])), (a_bytes_a_source_h0, .inl (cB, n_a_bytes_a_source_h0, .inl b_a_bytes_a_source_h0)), (q229, .inl (cB, r227, .inl r228))]) hr d_Wr_begin_272 [0, 1, 2, 5, 3, 4, 6] rfl (by decide) ⟨q229, rfl, rfl⟩
                                                                · replace h := it_f c224 h
                                                                  by_cases c235 : r1 = 33
                                                                  · replace h := it_t c235 h
                                                                    refine j_tabIn (tgt := 249) (off := 244) d_Wr_begin_5 33 c235 (by decide) (by decide) (by decide) (by decide) ?_
                                                                    refine j_aload_n d_Wr_begin_249 rfl 0 rfl ?_
                                                                    refine j_iload_n d_Wr_begin_250 rfl 1 rfl ?_
                                                                    replace h := bw_s h
                                                                    obtain ⟨⟨r236, r237, r238, r239⟩, C241, S242, C243, S244, k245, h, e1, e2⟩ := h
                                                                    replace hC : 0 + C241 + C243 ≤ mc := by omega
                                                                    replace hS : 0 + S242 + S244 ≤ ms := by omega
                                                                    clear e1 e2
                                                                    refine j_callV (n := 1) (As := [.int p1]) (rest := []) (wr := []) (c_Wr_putToken l D cI cB cJ cS h0 a_tree_h0 a_source_h0 a_form_h0 a_cells_a_tree_h0 a_bytes_a_source_h0 a_bytes_a_form_h0 p1 indent_h0 fits_h0 count_a_tree_h0 n_a_cells_a_tree_h0 b_a_cells_a_tree_h0 size_a_source_h0 n_a_bytes_a_source_h0 b_a_bytes_a_source_h0 size_a_form_h0 n_a_bytes_a_form_h0 b_a_bytes_a_form_h0  r236 r237 r238 r239 C241 S242 k245) k_Wr_152 (by decide) ⟨Nat.le_of_ble_eq_true rfl, Nat.le_of_ble_eq_true rfl⟩ rfl 0 rfl [4, 5, 6, 2, 3, 0, 1] [] rfl (by decide) rfl (by decide) (by decide) rfl rfl (Nat.le_of_ble_eq_true rfl) d_Wr_begin_251 ⟨show 0 + C241 ≤ mc by omega, show 0 + S242 ≤ ms by omega⟩ (fun v w hq => ?_)
                                                                    obtain ⟨q240, rfl, rfl⟩ := hq
                                                                    refine j_norm (pc' := 254) (st' := []) (ws' := [(h0, .inr (6, [.ref a_tree_h0, .ref a_source_h0, .ref a_form_h0, .int indent_h0, .int r236])), (a_tree_h0, .inr (1, [.ref a_cells_a_tree_h0, .int count_a_tree_h0])), (a_cells_a_tree_h0, .inl (cI, n_a_cells_a_tree_h0, .inl b_a_cells_a_tree_h0)), (a_source_h0, .inr (3, [.ref a_bytes_a_source_h0, .int size_a_source_h0])), (a_bytes_a_source_h0, .inl (cB, n_a_bytes_a_source_h0, .inl b_a_bytes_a_source_h0)), (a_form_h0, .inr (3, [.ref q240, .int r237])), (q240, .inl (cB, r238, .inl r239))]) (cl' := 0 + C241) (sl' := 0 + S242) rfl rfl rfl rfl rfl rfl ?_
                                                                    refine j_aload_n d_Wr_begin_254 rfl 0 rfl ?_
                                                                    refine j_ldcS (i := 30) rfl d_Wr_begin_255 ?_
                                                                    replace h := bw_s h
                                                                    obtain ⟨⟨r246, r247, r248, r249⟩, C251, S252, C253, S254, k255, h, e1, e2⟩ := h
                                                                    replace hC : 0 + C241 + C251 + C253 ≤ mc := by omega
                                                                    replace hS : 0 + S242 + S252 + S254 ≤ ms := by omega
                                                                    clear e1 e2
                                                                    refine j_callV (n := 1) (As := [.ref (sA D 30)]) (rest := []) (wr := [(a_tree_h0, .inr (1, [.ref a_cells_a_tree_h0, .int count_a_tree_h0])), (a_cells_a_tree_h0, .inl (cI, n_a_cells_a_tree_h0, .inl b_a_cells_a_tree_h0)), (a_source_h0, .inr (3, [.ref a_bytes_a_source_h0, .int size_a_source_h0])), (a_bytes_a_source_h0, .inl (cB, n_a_bytes_a_source_h0, .inl b_a_bytes_a_source_h0))]) (c_Wr_put l D cI cB cJ cS h0 a_tree_h0 a_source_h0 a_form_h0 q240 30 indent_h0 r236 r237 r238 r239  r246 r247 r248 r249 C251 S252 k255) k_Wr_77 (by decide) ⟨Nat.le_of_ble_eq_true rfl, Nat.le_of_ble_eq_true rfl⟩ rfl 0 rfl [0, 5, 6] [1, 2, 3, 4] rfl (by decide) rfl (by decide) (by decide) rfl rfl (Nat.le_of_ble_eq_true rfl) d_Wr_begin_257 ⟨show 0 + C241 + C251 ≤ mc by omega, show 0 + S242 + S252 ≤ ms by omega⟩ (fun v w hq => ?_)
                                                                    obtain ⟨q250, rfl, rfl⟩ := hq
                                                                    refine j_norm (pc' := 260) (st' := []) (ws' := [(a_tree_h0, .inr (1, [.ref a_cells_a_tree_h0, .int count_a_tree_h0])), (a_cells_a_tree_h0, .inl (cI, n_a_cells_a_tree_h0, .inl b_a_cells_a_tree_h0)), (a_source_h0, .inr (3, [.ref a_bytes_a_source_h0, .int size_a_source_h0])), (a_bytes_a_source_h0, .inl (cB, n_a_bytes_a_source_h0, .inl b_a_bytes_a_source_h0)), (h0, .inr (6, [.ref a_tree_h0, .ref a_source_h0, .ref a_form_h0, .int indent_h0, .int r246])), (a_form_h0, .inr (3, [.ref q250, .int r247])), (q250, .inl (cB, r248, .inl r249))]) (cl' := 0 + C241 + C251) (sl' := 0 + S242 + S252) rfl rfl rfl rfl rfl rfl ?_
                                                                    refine j_goto (tgt := 272) d_Wr_begin_260 (by decide) ?_
                                                                    replace h := lf_s h
                                                                    obtain ⟨h, e1, e2⟩ := h
                                                                    replace h := Prod.mk.inj h
                                                                    obtain ⟨h9, h⟩ := h
                                                                    subst h9
                                                                    replace h := Prod.mk.inj h
                                                                    obtain ⟨h9, h⟩ := h
                                                                    subst h9
                                                                    replace h := Prod.mk.inj h
                                                                    obtain ⟨h9, h⟩ := h
                                                                    subst h9
                                                                    replace h := Prod.mk.inj h
                                                                    obtain ⟨h9, h⟩ := h
                                                                    subst h9
                                                                    subst h
                                                                    refine j_widen (cl' := mc) (sl' := ms) (by omega) (by omega) ?_
                                                                    exact j_vret (w := [(h0, .inr (6, [.ref a_tree_h0, .ref a_source_h0, .ref a_form_h0, .int indent_h0, .int r246])), (a_tree_h0, .inr (1, [.ref a_cells_a_tree_h0, .int count_a_tree_h0])), (a_cells_a_tree_h0, .inl (cI, n_a_cells_a_tree_h0, .inl b_a_cells_a_tree_h0)), (a_form_h0, .inr (3, [.ref q250, .int r247])), (a_source_h0, .inr (3, [.ref a_bytes_a_source_h0, .int size_a_source_h0])), (a_bytes_a_source_h0, .inl (cB, n_a_bytes_a_source_h0, .inl b_a_bytes_a_source_h0)), (q250, .inl (cB, r248, .inl r249))]) hr d_Wr_begin_272 [4, 0, 1, 5, 2, 3, 6] rfl (by decide) ⟨q250, rfl, rfl⟩
                                                                  · replace h := it_f c235 h
                                                                    by_cases c256 : r1 = 34
                                                                    · replace h := it_t c256 h
                                                                      refine j_tabIn (tgt := 241) (off := 236) d_Wr_begin_5 34 c256 (by decide) (by decide) (by decide) (by decide) ?_
                                                                      refine j_aload_n d_Wr_begin_241 rfl 0 rfl ?_
                                                                      refine j_iload_n d_Wr_begin_242 rfl 1 rfl ?_
                                                                      replace h := bw_s h
                                                                      obtain ⟨⟨r257, r258, r259, r260⟩, C262, S263, C264, S265, k266, h, e1, e2⟩ := h
                                                                      replace hC : 0 + C262 + C264 ≤ mc := by omega
                                                                      replace hS : 0 + S263 + S265 ≤ ms := by omega
                                                                      clear e1 e2
                                                                      refine j_callV (n := 1) (As := [.int p1]) (rest := []) (wr := []) (c_Wr_putToken l D cI cB cJ cS h0 a_tree_h0 a_source_h0 a_form_h0 a_cells_a_tree_h0 a_bytes_a_source_h0 a_bytes_a_form_h0 p1 indent_h0 fits_h0 count_a_tree_h0 n_a_cells_a_tree_h0 b_a_cells_a_tree_h0 size_a_source_h0 n_a_bytes_a_source_h0 b_a_bytes_a_source_h0 size_a_form_h0 n_a_bytes_a_form_h0 b_a_bytes_a_form_h0  r257 r258 r259 r260 C262 S263 k266) k_Wr_152 (by decide) ⟨Nat.le_of_ble_eq_true rfl, Nat.le_of_ble_eq_true rfl⟩ rfl 0 rfl [4, 5, 6, 2, 3, 0, 1] [] rfl (by decide) rfl (by decide) (by decide) rfl rfl (Nat.le_of_ble_eq_true rfl) d_Wr_begin_243 ⟨show 0 + C262 ≤ mc by omega, show 0 + S263 ≤ ms by omega⟩ (fun v w hq => ?_)
                                                                      obtain ⟨q261, rfl, rfl⟩ := hq
                                                                      refine j_norm (pc' := 246) (st' := []) (ws' := [(h0, .inr (6, [.ref a_tree_h0, .ref a_source_h0, .ref a_form_h0, .int indent_h0, .int r257])), (a_tree_h0, .inr (1, [.ref a_cells_a_tree_h0, .int count_a_tree_h0])), (a_cells_a_tree_h0, .inl (cI, n_a_cells_a_tree_h0, .inl b_a_cells_a_tree_h0)), (a_source_h0, .inr (3, [.ref a_bytes_a_source_h0, .int size_a_source_h0])), (a_bytes_a_source_h0, .inl (cB, n_a_bytes_a_source_h0, .inl b_a_bytes_a_source_h0)), (a_form_h0, .inr (3, [.ref q261, .int r258])), (q261, .inl (cB, r259, .inl r260))]) (cl' := 0 + C262) (sl' := 0 + S263) rfl rfl rfl rfl rfl rfl ?_
                                                                      refine j_goto (tgt := 272) d_Wr_begin_246 (by decide) ?_
                                                                      replace h := lf_s h
                                                                      obtain ⟨h, e1, e2⟩ := h
                                                                      replace h := Prod.mk.inj h
                                                                      obtain ⟨h9, h⟩ := h
                                                                      subst h9
                                                                      replace h := Prod.mk.inj h
                                                                      obtain ⟨h9, h⟩ := h
                                                                      subst h9
                                                                      replace h := Prod.mk.inj h
                                                                      obtain ⟨h9, h⟩ := h
                                                                      subst h9
                                                                      replace h := Prod.mk.inj h
                                                                      obtain ⟨h9, h⟩ := h
                                                                      subst h9
                                                                      subst h
                                                                      refine j_widen (cl' := mc) (sl' := ms) (by omega) (by omega) ?_
                                                                      exact j_vret (w := [(h0, .inr (6, [.ref a_tree_h0, .ref a_source_h0, .ref a_form_h0, .int indent_h0, .int r257])), (a_tree_h0, .inr (1, [.ref a_cells_a_tree_h0, .int count_a_tree_h0])), (a_cells_a_tree_h0, .inl (cI, n_a_cells_a_tree_h0, .inl b_a_cells_a_tree_h0)), (a_form_h0, .inr (3, [.ref q261, .int r258])), (a_source_h0, .inr (3, [.ref a_bytes_a_source_h0, .int size_a_source_h0])), (a_bytes_a_source_h0, .inl (cB, n_a_bytes_a_source_h0, .inl b_a_bytes_a_source_h0)), (q261, .inl (cB, r259, .inl r260))]) hr d_Wr_begin_272 [0, 1, 2, 5, 3, 4, 6] rfl (by decide) ⟨q261, rfl, rfl⟩
                                                                    · replace h := it_f c256 h
                                                                      by_cases c267 : r1 = 35
                                                                      · replace h := it_t c267 h
                                                                        refine j_tabIn (tgt := 241) (off := 236) d_Wr_begin_5 35 c267 (by decide) (by decide) (by decide) (by decide) ?_
                                                                        refine j_aload_n d_Wr_begin_241 rfl 0 rfl ?_
                                                                        refine j_iload_n d_Wr_begin_242 rfl 1 rfl ?_
                                                                        replace h := bw_s h
                                                                        obtain ⟨⟨r268, r269, r270, r271⟩, C273, S274, C275, S276, k277, h, e1, e2⟩ := h
                                                                        replace hC : 0 + C273 + C275 ≤ mc := by omega
                                                                        replace hS : 0 + S274 + S276 ≤ ms := by omega
                                                                        clear e1 e2
                                                                        refine j_callV (n := 1) (As := [.int p1]) (rest := []) (wr := []) (c_Wr_putToken l D cI cB cJ cS h0 a_tree_h0 a_source_h0 a_form_h0 a_cells_a_tree_h0 a_bytes_a_source_h0 a_bytes_a_form_h0 p1 indent_h0 fits_h0 count_a_tree_h0 n_a_cells_a_tree_h0 b_a_cells_a_tree_h0 size_a_source_h0 n_a_bytes_a_source_h0 b_a_bytes_a_source_h0 size_a_form_h0 n_a_bytes_a_form_h0 b_a_bytes_a_form_h0  r268 r269 r270 r271 C273 S274 k277) k_Wr_152 (by decide) ⟨Nat.le_of_ble_eq_true rfl, Nat.le_of_ble_eq_true rfl⟩ rfl 0 rfl [4, 5, 6, 2, 3, 0, 1] [] rfl (by decide) rfl (by decide) (by decide) rfl rfl (Nat.le_of_ble_eq_true rfl) d_Wr_begin_243 ⟨show 0 + C273 ≤ mc by omega, show 0 + S274 ≤ ms by omega⟩ (fun v w hq => ?_)
                                                                        obtain ⟨q272, rfl, rfl⟩ := hq
                                                                        refine j_norm (pc' := 246) (st' := []) (ws' := [(h0, .inr (6, [.ref a_tree_h0, .ref a_source_h0, .ref a_form_h0, .int indent_h0, .int r268])), (a_tree_h0, .inr (1, [.ref a_cells_a_tree_h0, .int count_a_tree_h0])), (a_cells_a_tree_h0, .inl (cI, n_a_cells_a_tree_h0, .inl b_a_cells_a_tree_h0)), (a_source_h0, .inr (3, [.ref a_bytes_a_source_h0, .int size_a_source_h0])), (a_bytes_a_source_h0, .inl (cB, n_a_bytes_a_source_h0, .inl b_a_bytes_a_source_h0)), (a_form_h0, .inr (3, [.ref q272, .int r269])), (q272, .inl (cB, r270, .inl r271))]) (cl' := 0 + C273) (sl' := 0 + S274) rfl rfl rfl rfl rfl rfl ?_
                                                                        refine j_goto (tgt := 272) d_Wr_begin_246 (by decide) ?_
                                                                        replace h := lf_s h
                                                                        obtain ⟨h, e1, e2⟩ := h
                                                                        replace h := Prod.mk.inj h
                                                                        obtain ⟨h9, h⟩ := h
                                                                        subst h9
                                                                        replace h := Prod.mk.inj h
                                                                        obtain ⟨h9, h⟩ := h
                                                                        subst h9
                                                                        replace h := Prod.mk.inj h
                                                                        obtain ⟨h9, h⟩ := h
                                                                        subst h9
                                                                        replace h := Prod.mk.inj h
                                                                        obtain ⟨h9, h⟩ := h
                                                                        subst h9
                                                                        subst h
                                                                        refine j_widen (cl' := mc) (sl' := ms) (by omega) (by omega) ?_
                                                                        exact j_vret (w := [(h0, .inr (6, [.ref a_tree_h0, .ref a_source_h0, .ref a_form_h0, .int indent_h0, .int r268])), (a_tree_h0, .inr (1, [.ref a_cells_a_tree_h0, .int count_a_tree_h0])), (a_cells_a_tree_h0, .inl (cI, n_a_cells_a_tree_h0, .inl b_a_cells_a_tree_h0)), (a_form_h0, .inr (3, [.ref q272, .int r269])), (a_source_h0, .inr (3, [.ref a_bytes_a_source_h0, .int size_a_source_h0])), (a_bytes_a_source_h0, .inl (cB, n_a_bytes_a_source_h0, .inl b_a_bytes_a_source_h0)), (q272, .inl (cB, r270, .inl r271))]) hr d_Wr_begin_272 [0, 1, 2, 5, 3, 4, 6] rfl (by decide) ⟨q272, rfl, rfl⟩
                                                                      · replace h := it_f c267 h
                                                                        by_cases c278 : r1 = 36
                                                                        · replace h := it_t c278 h
                                                                          refine j_tabIn (tgt := 263) (off := 258) d_Wr_begin_5 36 c278 (by decide) (by decide) (by decide) (by decide) ?_
                                                                          refine j_aload_n d_Wr_begin_263 rfl 0 rfl ?_
                                                                          refine j_ldcS (i := 15) rfl d_Wr_begin_264 ?_
                                                                          replace h := bw_s h
                                                                          obtain ⟨⟨r279, r280, r281, r282⟩, C284, S285, C286, S287, k288, h, e1, e2⟩ := h
                                                                          replace hC : 0 + C284 + C286 ≤ mc := by omega
                                                                          replace hS : 0 + S285 + S287 ≤ ms := by omega
                                                                          clear e1 e2
                                                                          refine j_callV (n := 1) (As := [.ref (sA D 15)]) (rest := []) (wr := [(a_source_h0, .inr (3, [.ref a_bytes_a_source_h0, .int size_a_source_h0])), (a_bytes_a_source_h0, .inl (cB, n_a_bytes_a_source_h0, .inl b_a_bytes_a_source_h0)), (a_tree_h0, .inr (1, [.ref a_cells_a_tree_h0, .int count_a_tree_h0])), (a_cells_a_tree_h0, .inl (cI, n_a_cells_a_tree_h0, .inl b_a_cells_a_tree_h0))]) (c_Wr_put l D cI cB cJ cS h0 a_tree_h0 a_source_h0 a_form_h0 a_bytes_a_form_h0 15 indent_h0 fits_h0 size_a_form_h0 n_a_bytes_a_form_h0 b_a_bytes_a_form_h0  r279 r280 r281 r282 C284 S285 k288) k_Wr_77 (by decide) ⟨Nat.le_of_ble_eq_true rfl, Nat.le_of_ble_eq_true rfl⟩ rfl 0 rfl [4, 0, 1] [2, 3, 5, 6] rfl (by decide) rfl (by decide) (by decide) rfl rfl (Nat.le_of_ble_eq_true rfl) d_Wr_begin_266 ⟨show 0 + C284 ≤ mc by omega, show 0 + S285 ≤ ms by omega⟩ (fun v w hq => ?_)
                                                                          obtain ⟨q283, rfl, rfl⟩ := hq
                                                                          refine j_norm (pc' := 269) (st' := []) (ws' := [(a_source_h0, .inr (3, [.ref a_bytes_a_source_h0, .int size_a_source_h0])), (a_bytes_a_source_h0, .inl (cB, n_a_bytes_a_source_h0, .inl b_a_bytes_a_source_h0)), (a_tree_h0, .inr (1, [.ref a_cells_a_tree_h0, .int count_a_tree_h0])), (a_cells_a_tree_h0, .inl (cI, n_a_cells_a_tree_h0, .inl b_a_cells_a_tree_h0)), (h0, .inr (6, [.ref a_tree_h0, .ref a_source_h0, .ref a_form_h0, .int indent_h0, .int r279])), (a_form_h0, .inr (3, [.ref q283, .int r280])), (q283, .inl (cB, r281, .inl r282))]) (cl' := 0 + C284) (sl' := 0 + S285) rfl rfl rfl rfl rfl rfl ?_
                                                                          refine j_goto (tgt := 272) d_Wr_begin_269 (by decide) ?_
                                                                          replace h := lf_s h
                                                                          obtain ⟨h, e1, e2⟩ := h
                                                                          replace h := Prod.mk.inj h
                                                                          obtain ⟨h9, h⟩ := h
                                                                          subst h9
                                                                          replace h := Prod.mk.inj h
                                                                          obtain ⟨h9, h⟩ := h
                                                                          subst h9
                                                                          replace h := Prod.mk.inj h
                                                                          obtain ⟨h9, h⟩ := h
                                                                          subst h9
                                                                          replace h := Prod.mk.inj h
                                                                          obtain ⟨h9, h⟩ := h
                                                                          subst h9
                                                                          subst h
                                                                          refine j_widen (cl' := mc) (sl' := ms) (by omega) (by omega) ?_
                                                                          exact j_vret (w := [(h0, .inr (6, [.ref a_tree_h0, .ref a_source_h0, .ref a_form_h0, .int indent_h0, .int r279])), (a_tree_h0, .inr (1, [.ref a_cells_a_tree_h0, .int count_a_tree_h0])), (a_cells_a_tree_h0, .inl (cI, n_a_cells_a_tree_h0, .inl b_a_cells_a_tree_h0)), (a_form_h0, .inr (3, [.ref q283, .int r280])), (a_source_h0, .inr (3, [.ref a_bytes_a_source_h0, .int size_a_source_h0])), (a_bytes_a_source_h0, .inl (cB, n_a_bytes_a_source_h0, .inl b_a_bytes_a_source_h0)), (q283, .inl (cB, r281, .inl r282))]) hr d_Wr_begin_272 [4, 2, 3, 5, 0, 1, 6] rfl (by decide) ⟨q283, rfl, rfl⟩
                                                                        · replace h := it_f c278 h
                                                                          by_cases c289 : r1 = 37
                                                                          · replace h := it_t c289 h
                                                                            refine j_tabIn (tgt := 272) (off := 267) d_Wr_begin_5 37 c289 (by decide) (by decide) (by decide) (by decide) ?_
                                                                            replace h := lf_s h
                                                                            obtain ⟨h, e1, e2⟩ := h
                                                                            replace h := Prod.mk.inj h
                                                                            obtain ⟨h9, h⟩ := h
                                                                            subst h9
                                                                            replace h := Prod.mk.inj h
                                                                            obtain ⟨h9, h⟩ := h
                                                                            subst h9
                                                                            replace h := Prod.mk.inj h
                                                                            obtain ⟨h9, h⟩ := h
                                                                            subst h9
                                                                            replace h := Prod.mk.inj h
                                                                            obtain ⟨h9, h⟩ := h
                                                                            subst h9
                                                                            subst h
                                                                            refine j_widen (cl' := mc) (sl' := ms) (by omega) (by omega) ?_
                                                                            exact j_vret (w := [(h0, .inr (6, [.ref a_tree_h0, .ref a_source_h0, .ref a_form_h0, .int indent_h0, .int fits_h0])), (a_tree_h0, .inr (1, [.ref a_cells_a_tree_h0, .int count_a_tree_h0])), (a_cells_a_tree_h0, .inl (cI, n_a_cells_a_tree_h0, .inl b_a_cells_a_tree_h0)), (a_form_h0, .inr (3, [.ref a_bytes_a_form_h0, .int size_a_form_h0])), (a_source_h0, .inr (3, [.ref a_bytes_a_source_h0, .int size_a_source_h0])), (a_bytes_a_source_h0, .inl (cB, n_a_bytes_a_source_h0, .inl b_a_bytes_a_source_h0)), (a_bytes_a_form_h0, .inl (cB, n_a_bytes_a_form_h0, .inl b_a_bytes_a_form_h0))]) hr d_Wr_begin_272 [4, 5, 6, 0, 2, 3, 1] rfl (by decide) ⟨a_bytes_a_form_h0, rfl, rfl⟩
                                                                          · replace h := it_f c289 h
                                                                            by_cases c290 : r1 = 38
                                                                            · replace h := it_t c290 h
                                                                              refine j_tabIn (tgt := 272) (off := 267) d_Wr_begin_5 38 c290 (by decide) (by decide) (by decide) (by decide) ?_
                                                                              replace h := lf_s h
                                                                              obtain ⟨h, e1, e2⟩ := h
                                                                              replace h := Prod.mk.inj h
                                                                              obtain ⟨h9, h⟩ := h
                                                                              subst h9
                                                                              replace h := Prod.mk.inj h
                                                                              obtain ⟨h9, h⟩ := h
                                                                              subst h9
                                                                              replace h := Prod.mk.inj h
                                                                              obtain ⟨h9, h⟩ := h
                                                                              subst h9
                                                                              replace h := Prod.mk.inj h
                                                                              obtain ⟨h9, h⟩ := h
                                                                              subst h9
                                                                              subst h
                                                                              refine j_widen (cl' := mc) (sl' := ms) (by omega) (by omega) ?_
                                                                              exact j_vret (w := [(h0, .inr (6, [.ref a_tree_h0, .ref a_source_h0, .ref a_form_h0, .int indent_h0, .int fits_h0])), (a_tree_h0, .inr (1, [.ref a_cells_a_tree_h0, .int count_a_tree_h0])), (a_cells_a_tree_h0, .inl (cI, n_a_cells_a_tree_h0, .inl b_a_cells_a_tree_h0)), (a_form_h0, .inr (3, [.ref a_bytes_a_form_h0, .int size_a_form_h0])), (a_source_h0, .inr (3, [.ref a_bytes_a_source_h0, .int size_a_source_h0])), (a_bytes_a_source_h0, .inl (cB, n_a_bytes_a_source_h0, .inl b_a_bytes_a_source_h0)), (a_bytes_a_form_h0, .inl (cB, n_a_bytes_a_form_h0, .inl b_a_bytes_a_form_h0))]) hr d_Wr_begin_272 [4, 5, 6, 0, 2, 3, 1] rfl (by decide) ⟨a_bytes_a_form_h0, rfl, rfl⟩
                                                                            · replace h := it_f c290 h
                                                                              by_cases c291 : r1 = 39
                                                                              · replace h := it_t c291 h
                                                                                refine j_tabIn (tgt := 241) (off := 236) d_Wr_begin_5 39 c291 (by decide) (by decide) (by decide) (by decide) ?_
                                                                                refine j_aload_n d_Wr_begin_241 rfl 0 rfl ?_
                                                                                refine j_iload_n d_Wr_begin_242 rfl 1 rfl ?_
                                                                                replace h := bw_s h
                                                                                obtain ⟨⟨r292, r293, r294, r295⟩, C297, S298, C299, S300, k301, h, e1, e2⟩ := h
                                                                                replace hC : 0 + C297 + C299 ≤ mc := by omega
                                                                                replace hS : 0 + S298 + S300 ≤ ms := by omega
                                                                                clear e1 e2
                                                                                refine j_callV (n := 1) (As := [.int p1]) (rest := []) (wr := []) (c_Wr_putToken l D cI cB cJ cS h0 a_tree_h0 a_source_h0 a_form_h0 a_cells_a_tree_h0 a_bytes_a_source_h0 a_bytes_a_form_h0 p1 indent_h0 fits_h0 count_a_tree_h0 n_a_cells_a_tree_h0 b_a_cells_a_tree_h0 size_a_source_h0 n_a_bytes_a_source_h0 b_a_bytes_a_source_h0 size_a_form_h0 n_a_bytes_a_form_h0 b_a_bytes_a_form_h0  r292 r293 r294 r295 C297 S298 k301) k_Wr_152 (by decide) ⟨Nat.le_of_ble_eq_true rfl, Nat.le_of_ble_eq_true rfl⟩ rfl 0 rfl [4, 5, 6, 2, 3, 0, 1] [] rfl (by decide) rfl (by decide) (by decide) rfl rfl (Nat.le_of_ble_eq_true rfl) d_Wr_begin_243 ⟨show 0 + C297 ≤ mc by omega, show 0 + S298 ≤ ms by omega⟩ (fun v w hq => ?_)
                                                                                obtain ⟨q296, rfl, rfl⟩ := hq
                                                                                refine j_norm (pc' := 246) (st' := []) (ws' := [(h0, .inr (6, [.ref a_tree_h0, .ref a_source_h0, .ref a_form_h0, .int indent_h0, .int r292])), (a_tree_h0, .inr (1, [.ref a_cells_a_tree_h0, .int count_a_tree_h0])), (a_cells_a_tree_h0, .inl (cI, n_a_cells_a_tree_h0, .inl b_a_cells_a_tree_h0)), (a_source_h0, .inr (3, [.ref a_bytes_a_source_h0, .int size_a_source_h0])), (a_bytes_a_source_h0, .inl (cB, n_a_bytes_a_source_h0, .inl b_a_bytes_a_source_h0)), (a_form_h0, .inr (3, [.ref q296, .int r293])), (q296, .inl (cB, r294, .inl r295))]) (cl' := 0 + C297) (sl' := 0 + S298) rfl rfl rfl rfl rfl rfl ?_
                                                                                refine j_goto (tgt := 272) d_Wr_begin_246 (by decide) ?_
                                                                                replace h := lf_s h
                                                                                obtain ⟨h, e1, e2⟩ := h
                                                                                replace h := Prod.mk.inj h
                                                                                obtain ⟨h9, h⟩ := h
                                                                                subst h9
                                                                                replace h := Prod.mk.inj h
                                                                                obtain ⟨h9, h⟩ := h
                                                                                subst h9
                                                                                replace h := Prod.mk.inj h
                                                                                obtain ⟨h9, h⟩ := h
                                                                                subst h9
                                                                                replace h := Prod.mk.inj h
                                                                                obtain ⟨h9, h⟩ := h
                                                                                subst h9
                                                                                subst h
                                                                                refine j_widen (cl' := mc) (sl' := ms) (by omega) (by omega) ?_
                                                                                exact j_vret (w := [(h0, .inr (6, [.ref a_tree_h0, .ref a_source_h0, .ref a_form_h0, .int indent_h0, .int r292])), (a_tree_h0, .inr (1, [.ref a_cells_a_tree_h0, .int count_a_tree_h0])), (a_cells_a_tree_h0, .inl (cI, n_a_cells_a_tree_h0, .inl b_a_cells_a_tree_h0)), (a_form_h0, .inr (3, [.ref q296, .int r293])), (a_source_h0, .inr (3, [.ref a_bytes_a_source_h0, .int size_a_source_h0])), (a_bytes_a_source_h0, .inl (cB, n_a_bytes_a_source_h0, .inl b_a_bytes_a_source_h0)), (q296, .inl (cB, r294, .inl r295))]) hr d_Wr_begin_272 [0, 1, 2, 5, 3, 4, 6] rfl (by decide) ⟨q296, rfl, rfl⟩
                                                                              · replace h := it_f c291 h
                                                                                refine j_tabOut (tgt := 272) d_Wr_begin_5 (by have := lv_neT c3 (by decide : (1 : Int32).toInt = 1); have := lv_neT c14 (by decide : (2 : Int32).toInt = 2); have := lv_neT c15 (by decide : (3 : Int32).toInt = 3); have := lv_neT c16 (by decide : (4 : Int32).toInt = 4); have := lv_neT c17 (by decide : (5 : Int32).toInt = 5); have := lv_neT c28 (by decide : (6 : Int32).toInt = 6); have := lv_neT c29 (by decide : (7 : Int32).toInt = 7); have := lv_neT c30 (by decide : (8 : Int32).toInt = 8); have := lv_neT c31 (by decide : (9 : Int32).toInt = 9); have := lv_neT c32 (by decide : (10 : Int32).toInt = 10); have := lv_neT c43 (by decide : (11 : Int32).toInt = 11); have := lv_neT c44 (by decide : (12 : Int32).toInt = 12); have := lv_neT c45 (by decide : (13 : Int32).toInt = 13); have := lv_neT c46 (by decide : (14 : Int32).toInt = 14); have := lv_neT c47 (by decide : (15 : Int32).toInt = 15); have := lv_neT c68 (by decide : (16 : Int32).toInt = 16); have := lv_neT c89 (by decide : (17 : Int32).toInt = 17); have := lv_neT c110 (by decide : (18 : Int32).toInt = 18); have := lv_neT c141 (by decide : (19 : Int32).toInt = 19); have := lv_neT c172 (by decide : (20 : Int32).toInt = 20); have := lv_neT c183 (by decide : (21 : Int32).toInt = 21); have := lv_neT c194 (by decide : (22 : Int32).toInt = 22); have := lv_neT c195 (by decide : (23 : Int32).toInt = 23); have := lv_neT c196 (by decide : (24 : Int32).toInt = 24); have := lv_neT c197 (by decide : (25 : Int32).toInt = 25); have := lv_neT c198 (by decide : (26 : Int32).toInt = 26); have := lv_neT c199 (by decide : (27 : Int32).toInt = 27); have := lv_neT c200 (by decide : (28 : Int32).toInt = 28); have := lv_neT c201 (by decide : (29 : Int32).toInt = 29); have := lv_neT c202 (by decide : (30 : Int32).toInt = 30); have := lv_neT c213 (by decide : (31 : Int32).toInt = 31); have := lv_neT c224 (by decide : (32 : Int32).toInt = 32); have := lv_neT c235 (by decide : (33 : Int32).toInt = 33); have := lv_neT c256 (by decide : (34 : Int32).toInt = 34); have := lv_neT c267 (by decide : (35 : Int32).toInt = 35); have := lv_neT c278 (by decide : (36 : Int32).toInt = 36); have := lv_neT c289 (by decide : (37 : Int32).toInt = 37); have := lv_neT c290 (by decide : (38 : Int32).toInt = 38); have := lv_neT c291 (by decide : (39 : Int32).toInt = 39); omega) (by decide) ?_
                                                                                replace h := lf_s h
                                                                                obtain ⟨h, e1, e2⟩ := h
                                                                                replace h := Prod.mk.inj h
                                                                                obtain ⟨h9, h⟩ := h
                                                                                subst h9
                                                                                replace h := Prod.mk.inj h
                                                                                obtain ⟨h9, h⟩ := h
                                                                                subst h9
                                                                                replace h := Prod.mk.inj h
                                                                                obtain ⟨h9, h⟩ := h
                                                                                subst h9
                                                                                replace h := Prod.mk.inj h
                                                                                obtain ⟨h9, h⟩ := h
                                                                                subst h9
                                                                                subst h
                                                                                refine j_widen (cl' := mc) (sl' := ms) (by omega) (by omega) ?_
                                                                                exact j_vret (w := [(h0, .inr (6, [.ref a_tree_h0, .ref a_source_h0, .ref a_form_h0, .int indent_h0, .int fits_h0])), (a_tree_h0, .inr (1, [.ref a_cells_a_tree_h0, .int count_a_tree_h0])), (a_cells_a_tree_h0, .inl (cI, n_a_cells_a_tree_h0, .inl b_a_cells_a_tree_h0)), (a_form_h0, .inr (3, [.ref a_bytes_a_form_h0, .int size_a_form_h0])), (a_source_h0, .inr (3, [.ref a_bytes_a_source_h0, .int size_a_source_h0])), (a_bytes_a_source_h0, .inl (cB, n_a_bytes_a_source_h0, .inl b_a_bytes_a_source_h0)), (a_bytes_a_form_h0, .inl (cB, n_a_bytes_a_form_h0, .inl b_a_bytes_a_form_h0))]) hr d_Wr_begin_272 [4, 5, 6, 0, 2, 3, 1] rfl (by decide) ⟨a_bytes_a_form_h0, rfl, rfl⟩
